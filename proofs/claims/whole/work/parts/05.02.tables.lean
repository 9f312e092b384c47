theorem dd_40_0 : decode prog_13_method_69_code 0 = .ok (.iload_n 0, 1) := by decide +kernel
theorem dd_40_1 : decode prog_13_method_69_code 1 = .ok (.iload_n 1, 1) := by decide +kernel
theorem dd_40_2 : decode prog_13_method_69_code 2 = .ok (.if_icmp .gt 7, 3) := by decide +kernel
theorem dd_40_5 : decode prog_13_method_69_code 5 = .ok (.iload_n 0, 1) := by decide +kernel
theorem dd_40_6 : decode prog_13_method_69_code 6 = .ok (.goto 4, 3) := by decide +kernel
theorem dd_40_9 : decode prog_13_method_69_code 9 = .ok (.iload_n 1, 1) := by decide +kernel
theorem dd_40_10 : decode prog_13_method_69_code 10 = .ok (.ireturn, 1) := by decide +kernel
theorem ks_40_0 : mi_snd cs_G cs_cl cs_inf 40 0 (mj_iload 0 1) := ms_iload_n (mi_dec ib_40 dd_40_0) rfl
theorem ks_40_1 : mi_snd cs_G cs_cl cs_inf 40 1 (mj_iload 1 2) := ms_iload_n (mi_dec ib_40 dd_40_1) rfl
theorem ks_40_2 : mi_snd cs_G cs_cl cs_inf 40 2 (mj_cmp (fun x y => decide (y < x)) 9 5) := ms_icmp_gt (mi_dec ib_40 dd_40_2) (by decide)
theorem ks_40_5 : mi_snd cs_G cs_cl cs_inf 40 5 (mj_iload 0 6) := ms_iload_n (mi_dec ib_40 dd_40_5) rfl
theorem ks_40_6 : mi_snd cs_G cs_cl cs_inf 40 6 (mj_goto 10) := ms_goto (mi_dec ib_40 dd_40_6) (by decide)
theorem ks_40_9 : mi_snd cs_G cs_cl cs_inf 40 9 (mj_iload 1 10) := ms_iload_n (mi_dec ib_40 dd_40_9) rfl
theorem ks_40_10 : mi_snd cs_G cs_cl cs_inf 40 10 (mj_iret) := ms_iret (mi_dec ib_40 dd_40_10) rfl
def ct_40 : List (Nat × mi_I) := [
  (0, mj_iload 0 1),
  (1, mj_iload 1 2),
  (2, mj_cmp (fun x y => decide (y < x)) 9 5),
  (5, mj_iload 0 6),
  (6, mj_goto 10),
  (9, mj_iload 1 10),
  (10, mj_iret)]
theorem sd_40 : ∀ q ∈ ct_40, mi_snd cs_G cs_cl cs_inf 40 q.1 q.2 := mi_fc ks_40_0 (mi_fc ks_40_1 (mi_fc ks_40_2 (mi_fc ks_40_5 (mi_fc ks_40_6 (mi_fc ks_40_9 (mi_fc ks_40_10 mi_fn))))))
theorem dd_41_0 : decode prog_13_method_65_code 0 = .ok (.iload_n 0, 1) := by decide +kernel
theorem dd_41_1 : decode prog_13_method_65_code 1 = .ok (.iload_n 1, 1) := by decide +kernel
theorem dd_41_2 : decode prog_13_method_65_code 2 = .ok (.if_icmp .lt 7, 3) := by decide +kernel
theorem dd_41_5 : decode prog_13_method_65_code 5 = .ok (.iload_n 0, 1) := by decide +kernel
theorem dd_41_6 : decode prog_13_method_65_code 6 = .ok (.goto 4, 3) := by decide +kernel
theorem dd_41_9 : decode prog_13_method_65_code 9 = .ok (.iload_n 1, 1) := by decide +kernel
theorem dd_41_10 : decode prog_13_method_65_code 10 = .ok (.ireturn, 1) := by decide +kernel
theorem ks_41_0 : mi_snd cs_G cs_cl cs_inf 41 0 (mj_iload 0 1) := ms_iload_n (mi_dec ib_41 dd_41_0) rfl
theorem ks_41_1 : mi_snd cs_G cs_cl cs_inf 41 1 (mj_iload 1 2) := ms_iload_n (mi_dec ib_41 dd_41_1) rfl
theorem ks_41_2 : mi_snd cs_G cs_cl cs_inf 41 2 (mj_cmp (fun x y => decide (x < y)) 9 5) := ms_icmp_lt (mi_dec ib_41 dd_41_2) (by decide)
theorem ks_41_5 : mi_snd cs_G cs_cl cs_inf 41 5 (mj_iload 0 6) := ms_iload_n (mi_dec ib_41 dd_41_5) rfl
theorem ks_41_6 : mi_snd cs_G cs_cl cs_inf 41 6 (mj_goto 10) := ms_goto (mi_dec ib_41 dd_41_6) (by decide)
theorem ks_41_9 : mi_snd cs_G cs_cl cs_inf 41 9 (mj_iload 1 10) := ms_iload_n (mi_dec ib_41 dd_41_9) rfl
theorem ks_41_10 : mi_snd cs_G cs_cl cs_inf 41 10 (mj_iret) := ms_iret (mi_dec ib_41 dd_41_10) rfl
def ct_41 : List (Nat × mi_I) := [
  (0, mj_iload 0 1),
  (1, mj_iload 1 2),
  (2, mj_cmp (fun x y => decide (x < y)) 9 5),
  (5, mj_iload 0 6),
  (6, mj_goto 10),
  (9, mj_iload 1 10),
  (10, mj_iret)]
theorem sd_41 : ∀ q ∈ ct_41, mi_snd cs_G cs_cl cs_inf 41 q.1 q.2 := mi_fc ks_41_0 (mi_fc ks_41_1 (mi_fc ks_41_2 (mi_fc ks_41_5 (mi_fc ks_41_6 (mi_fc ks_41_9 (mi_fc ks_41_10 mi_fn))))))
theorem dd_42_0 : decode prog_4_method_3_code 0 = .ok (.iconst 0, 1) := by decide +kernel
theorem dd_42_1 : decode prog_4_method_3_code 1 = .ok (.istore_n 1, 1) := by decide +kernel
theorem dd_42_2 : decode prog_4_method_3_code 2 = .ok (.aload_n 0, 1) := by decide +kernel
theorem dd_42_3 : decode prog_4_method_3_code 3 = .ok (.getfield 20, 3) := by decide +kernel
theorem dd_42_6 : decode prog_4_method_3_code 6 = .ok (.aload_n 0, 1) := by decide +kernel
theorem dd_42_7 : decode prog_4_method_3_code 7 = .ok (.getfield 20, 3) := by decide +kernel
theorem dd_42_10 : decode prog_4_method_3_code 10 = .ok (.invokevirtual 53, 3) := by decide +kernel
theorem dd_42_13 : decode prog_4_method_3_code 13 = .ok (.aload_n 0, 1) := by decide +kernel
theorem dd_42_14 : decode prog_4_method_3_code 14 = .ok (.getfield 16, 3) := by decide +kernel
theorem dd_42_17 : decode prog_4_method_3_code 17 = .ok (.invokevirtual 62, 3) := by decide +kernel
theorem dd_42_20 : decode prog_4_method_3_code 20 = .ok (.istore_n 2, 1) := by decide +kernel
theorem dd_42_21 : decode prog_4_method_3_code 21 = .ok (.iconst 1, 1) := by decide +kernel
theorem dd_42_22 : decode prog_4_method_3_code 22 = .ok (.istore_n 3, 1) := by decide +kernel
theorem dd_42_23 : decode prog_4_method_3_code 23 = .ok (.iload_n 3, 1) := by decide +kernel
theorem dd_42_24 : decode prog_4_method_3_code 24 = .ok (.iload_n 2, 1) := by decide +kernel
theorem dd_42_25 : decode prog_4_method_3_code 25 = .ok (.if_icmp .gt 39, 3) := by decide +kernel
theorem dd_42_28 : decode prog_4_method_3_code 28 = .ok (.iload_n 3, 1) := by decide +kernel
theorem dd_42_29 : decode prog_4_method_3_code 29 = .ok (.aload_n 0, 1) := by decide +kernel
theorem dd_42_30 : decode prog_4_method_3_code 30 = .ok (.getfield 16, 3) := by decide +kernel
theorem dd_42_33 : decode prog_4_method_3_code 33 = .ok (.arraylength, 1) := by decide +kernel
theorem dd_42_34 : decode prog_4_method_3_code 34 = .ok (.if_icmp .ge 30, 3) := by decide +kernel
theorem dd_42_37 : decode prog_4_method_3_code 37 = .ok (.iload_n 1, 1) := by decide +kernel
theorem dd_42_38 : decode prog_4_method_3_code 38 = .ok (.aload_n 0, 1) := by decide +kernel
theorem dd_42_39 : decode prog_4_method_3_code 39 = .ok (.getfield 33, 3) := by decide +kernel
theorem dd_42_42 : decode prog_4_method_3_code 42 = .ok (.iconst 1, 1) := by decide +kernel
theorem dd_42_43 : decode prog_4_method_3_code 43 = .ok (.iadd, 1) := by decide +kernel
theorem dd_42_44 : decode prog_4_method_3_code 44 = .ok (.aload_n 0, 1) := by decide +kernel
theorem dd_42_45 : decode prog_4_method_3_code 45 = .ok (.getfield 16, 3) := by decide +kernel
theorem dd_42_48 : decode prog_4_method_3_code 48 = .ok (.iload_n 3, 1) := by decide +kernel
theorem dd_42_49 : decode prog_4_method_3_code 49 = .ok (.iaload, 1) := by decide +kernel
theorem dd_42_50 : decode prog_4_method_3_code 50 = .ok (.invokestatic 66, 3) := by decide +kernel
theorem dd_42_53 : decode prog_4_method_3_code 53 = .ok (.invokestatic 24, 3) := by decide +kernel
theorem dd_42_56 : decode prog_4_method_3_code 56 = .ok (.iadd, 1) := by decide +kernel
theorem dd_42_57 : decode prog_4_method_3_code 57 = .ok (.istore_n 1, 1) := by decide +kernel
theorem dd_42_58 : decode prog_4_method_3_code 58 = .ok (.iinc 3 1, 3) := by decide +kernel
theorem dd_42_61 : decode prog_4_method_3_code 61 = .ok (.goto (-38), 3) := by decide +kernel
theorem dd_42_64 : decode prog_4_method_3_code 64 = .ok (.iload_n 1, 1) := by decide +kernel
theorem dd_42_65 : decode prog_4_method_3_code 65 = .ok (.ireturn, 1) := by decide +kernel
theorem ks_42_0 : mi_snd cs_G cs_cl cs_inf 42 0 (mj_push (.inl 0) 1) := ms_iconst (mi_dec ib_42 dd_42_0) (by decide)
theorem ks_42_1 : mi_snd cs_G cs_cl cs_inf 42 1 (mj_istore 1 2) := ms_istore_n (mi_dec ib_42 dd_42_1) rfl
theorem ks_42_2 : mi_snd cs_G cs_cl cs_inf 42 2 (mj_aload 0 3) := ms_aload_n (mi_dec ib_42 dd_42_2) rfl
theorem ks_42_3 : mi_snd cs_G cs_cl cs_inf 42 3 (mj_get 4 0 6) := ms_get (T := cs_T4) (k := 0) (mi_dec ib_42 dd_42_3) rfl cs_in4 (by decide) gw_98
theorem ks_42_6 : mi_snd cs_G cs_cl cs_inf 42 6 (mj_aload 0 7) := ms_aload_n (mi_dec ib_42 dd_42_6) rfl
theorem ks_42_7 : mi_snd cs_G cs_cl cs_inf 42 7 (mj_get 4 0 10) := ms_get (T := cs_T4) (k := 0) (mi_dec ib_42 dd_42_7) rfl cs_in4 (by decide) gw_98
theorem ks_42_10 : mi_snd cs_G cs_cl cs_inf 42 10 (mj_callV 1 15 0 1 13) := ms_callVN iw_c15 (mi_dec ib_42 dd_42_10) gw_443 iw_i15 rfl iw_v15 iw_n15 (by decide +kernel) rfl (by decide)
theorem ks_42_13 : mi_snd cs_G cs_cl cs_inf 42 13 (mj_aload 0 14) := ms_aload_n (mi_dec ib_42 dd_42_13) rfl
theorem ks_42_14 : mi_snd cs_G cs_cl cs_inf 42 14 (mj_get 4 2 17) := ms_get (T := cs_T4) (k := 2) (mi_dec ib_42 dd_42_14) rfl cs_in4 (by decide) gw_100
theorem ks_42_17 : mi_snd cs_G cs_cl cs_inf 42 17 (mj_callV 1 43 2 6 20) := ms_callVN iw_c43 (mi_dec ib_42 dd_42_17) gw_444 iw_i43 rfl iw_v43 iw_n43 (by decide +kernel) rfl (by decide)
theorem ks_42_20 : mi_snd cs_G cs_cl cs_inf 42 20 (mj_istore 2 21) := ms_istore_n (mi_dec ib_42 dd_42_20) rfl
theorem ks_42_21 : mi_snd cs_G cs_cl cs_inf 42 21 (mj_push (.inl 1) 22) := ms_iconst (mi_dec ib_42 dd_42_21) (by decide)
theorem ks_42_22 : mi_snd cs_G cs_cl cs_inf 42 22 (mj_istore 3 23) := ms_istore_n (mi_dec ib_42 dd_42_22) rfl
theorem ks_42_23 : mi_snd cs_G cs_cl cs_inf 42 23 (mj_iload 3 24) := ms_iload_n (mi_dec ib_42 dd_42_23) rfl
theorem ks_42_24 : mi_snd cs_G cs_cl cs_inf 42 24 (mj_iload 2 25) := ms_iload_n (mi_dec ib_42 dd_42_24) rfl
theorem ks_42_25 : mi_snd cs_G cs_cl cs_inf 42 25 (mj_cmp (fun x y => decide (y < x)) 64 28) := ms_icmp_gt (mi_dec ib_42 dd_42_25) (by decide)
theorem ks_42_28 : mi_snd cs_G cs_cl cs_inf 42 28 (mj_iload 3 29) := ms_iload_n (mi_dec ib_42 dd_42_28) rfl
theorem ks_42_29 : mi_snd cs_G cs_cl cs_inf 42 29 (mj_aload 0 30) := ms_aload_n (mi_dec ib_42 dd_42_29) rfl
theorem ks_42_30 : mi_snd cs_G cs_cl cs_inf 42 30 (mj_get 4 2 33) := ms_get (T := cs_T4) (k := 2) (mi_dec ib_42 dd_42_30) rfl cs_in4 (by decide) gw_100
theorem ks_42_33 : mi_snd cs_G cs_cl cs_inf 42 33 (mj_alen 34) := ms_alen (mi_dec ib_42 dd_42_33)
theorem ks_42_34 : mi_snd cs_G cs_cl cs_inf 42 34 (mj_cmp (fun x y => decide (y ≤ x)) 64 37) := ms_icmp_ge (mi_dec ib_42 dd_42_34) (by decide)
theorem ks_42_37 : mi_snd cs_G cs_cl cs_inf 42 37 (mj_iload 1 38) := ms_iload_n (mi_dec ib_42 dd_42_37) rfl
theorem ks_42_38 : mi_snd cs_G cs_cl cs_inf 42 38 (mj_aload 0 39) := ms_aload_n (mi_dec ib_42 dd_42_38) rfl
theorem ks_42_39 : mi_snd cs_G cs_cl cs_inf 42 39 (mj_get 4 3 42) := ms_get (T := cs_T4) (k := 3) (mi_dec ib_42 dd_42_39) rfl cs_in4 (by decide) gw_101
theorem ks_42_42 : mi_snd cs_G cs_cl cs_inf 42 42 (mj_push (.inl 1) 43) := ms_iconst (mi_dec ib_42 dd_42_42) (by decide)
theorem ks_42_43 : mi_snd cs_G cs_cl cs_inf 42 43 (mj_bin (fun x y => x + y) 44) := ms_iadd (mi_dec ib_42 dd_42_43)
theorem ks_42_44 : mi_snd cs_G cs_cl cs_inf 42 44 (mj_aload 0 45) := ms_aload_n (mi_dec ib_42 dd_42_44) rfl
theorem ks_42_45 : mi_snd cs_G cs_cl cs_inf 42 45 (mj_get 4 2 48) := ms_get (T := cs_T4) (k := 2) (mi_dec ib_42 dd_42_45) rfl cs_in4 (by decide) gw_100
theorem ks_42_48 : mi_snd cs_G cs_cl cs_inf 42 48 (mj_iload 3 49) := ms_iload_n (mi_dec ib_42 dd_42_48) rfl
theorem ks_42_49 : mi_snd cs_G cs_cl cs_inf 42 49 (mj_ald 0 50) := ms_ald0 (mi_dec ib_42 dd_42_49)
theorem ks_42_50 : mi_snd cs_G cs_cl cs_inf 42 50 (mj_callS 20 1 1 53) := ms_callS iw_c20 (mi_dec ib_42 dd_42_50) gw_453 iw_s20 iw_n20 (by decide +kernel) rfl (by decide)
theorem ks_42_53 : mi_snd cs_G cs_cl cs_inf 42 53 (mj_callS 40 2 2 56) := ms_callS iw_c40 (mi_dec ib_42 dd_42_53) gw_433 iw_s40 iw_n40 (by decide +kernel) rfl (by decide)
theorem ks_42_56 : mi_snd cs_G cs_cl cs_inf 42 56 (mj_bin (fun x y => x + y) 57) := ms_iadd (mi_dec ib_42 dd_42_56)
theorem ks_42_57 : mi_snd cs_G cs_cl cs_inf 42 57 (mj_istore 1 58) := ms_istore_n (mi_dec ib_42 dd_42_57) rfl
theorem ks_42_58 : mi_snd cs_G cs_cl cs_inf 42 58 (mj_iinc 3 1 61) := ms_iinc (mi_dec ib_42 dd_42_58) (by decide)
theorem ks_42_61 : mi_snd cs_G cs_cl cs_inf 42 61 (mj_goto 23) := ms_goto (mi_dec ib_42 dd_42_61) (by decide)
theorem ks_42_64 : mi_snd cs_G cs_cl cs_inf 42 64 (mj_iload 1 65) := ms_iload_n (mi_dec ib_42 dd_42_64) rfl
theorem ks_42_65 : mi_snd cs_G cs_cl cs_inf 42 65 (mj_iret) := ms_iret (mi_dec ib_42 dd_42_65) rfl
def ct_42 : List (Nat × mi_I) := [
  (0, mj_push (.inl 0) 1),
  (1, mj_istore 1 2),
  (2, mj_aload 0 3),
  (3, mj_get 4 0 6),
  (6, mj_aload 0 7),
  (7, mj_get 4 0 10),
  (10, mj_callV 1 15 0 1 13),
  (13, mj_aload 0 14),
  (14, mj_get 4 2 17),
  (17, mj_callV 1 43 2 6 20),
  (20, mj_istore 2 21),
  (21, mj_push (.inl 1) 22),
  (22, mj_istore 3 23),
  (23, mj_iload 3 24),
  (24, mj_iload 2 25),
  (25, mj_cmp (fun x y => decide (y < x)) 64 28),
  (28, mj_iload 3 29),
  (29, mj_aload 0 30),
  (30, mj_get 4 2 33),
  (33, mj_alen 34),
  (34, mj_cmp (fun x y => decide (y ≤ x)) 64 37),
  (37, mj_iload 1 38),
  (38, mj_aload 0 39),
  (39, mj_get 4 3 42),
  (42, mj_push (.inl 1) 43),
  (43, mj_bin (fun x y => x + y) 44),
  (44, mj_aload 0 45),
  (45, mj_get 4 2 48),
  (48, mj_iload 3 49),
  (49, mj_ald 0 50),
  (50, mj_callS 20 1 1 53),
  (53, mj_callS 40 2 2 56),
  (56, mj_bin (fun x y => x + y) 57),
  (57, mj_istore 1 58),
  (58, mj_iinc 3 1 61),
  (61, mj_goto 23),
  (64, mj_iload 1 65),
  (65, mj_iret)]
theorem sd_42 : ∀ q ∈ ct_42, mi_snd cs_G cs_cl cs_inf 42 q.1 q.2 := mi_fc ks_42_0 (mi_fc ks_42_1 (mi_fc ks_42_2 (mi_fc ks_42_3 (mi_fc ks_42_6 (mi_fc ks_42_7 (mi_fc ks_42_10 (mi_fc ks_42_13 (mi_fc ks_42_14 (mi_fc ks_42_17 (mi_fc ks_42_20 (mi_fc ks_42_21 (mi_fc ks_42_22 (mi_fc ks_42_23 (mi_fc ks_42_24 (mi_fc ks_42_25 (mi_fc ks_42_28 (mi_fc ks_42_29 (mi_fc ks_42_30 (mi_fc ks_42_33 (mi_fc ks_42_34 (mi_fc ks_42_37 (mi_fc ks_42_38 (mi_fc ks_42_39 (mi_fc ks_42_42 (mi_fc ks_42_43 (mi_fc ks_42_44 (mi_fc ks_42_45 (mi_fc ks_42_48 (mi_fc ks_42_49 (mi_fc ks_42_50 (mi_fc ks_42_53 (mi_fc ks_42_56 (mi_fc ks_42_57 (mi_fc ks_42_58 (mi_fc ks_42_61 (mi_fc ks_42_64 (mi_fc ks_42_65 mi_fn)))))))))))))))))))))))))))))))))))))
theorem dd_43_0 : decode prog_5_method_17_code 0 = .ok (.aload_n 2, 1) := by decide +kernel
theorem dd_43_1 : decode prog_5_method_17_code 1 = .ok (.iconst 0, 1) := by decide +kernel
theorem dd_43_2 : decode prog_5_method_17_code 2 = .ok (.invokestatic 61, 3) := by decide +kernel
theorem dd_43_5 : decode prog_5_method_17_code 5 = .ok (.iconst 0, 1) := by decide +kernel
theorem dd_43_6 : decode prog_5_method_17_code 6 = .ok (.istore_n 3, 1) := by decide +kernel
theorem dd_43_7 : decode prog_5_method_17_code 7 = .ok (.iconst 0, 1) := by decide +kernel
theorem dd_43_8 : decode prog_5_method_17_code 8 = .ok (.istore 4, 2) := by decide +kernel
theorem dd_43_10 : decode prog_5_method_17_code 10 = .ok (.iload 4, 2) := by decide +kernel
theorem dd_43_12 : decode prog_5_method_17_code 12 = .ok (.aload_n 0, 1) := by decide +kernel
theorem dd_43_13 : decode prog_5_method_17_code 13 = .ok (.getfield 18, 3) := by decide +kernel
theorem dd_43_16 : decode prog_5_method_17_code 16 = .ok (.if_icmp .ge 49, 3) := by decide +kernel
theorem dd_43_19 : decode prog_5_method_17_code 19 = .ok (.iload_n 1, 1) := by decide +kernel
theorem dd_43_20 : decode prog_5_method_17_code 20 = .ok (.iload 4, 2) := by decide +kernel
theorem dd_43_22 : decode prog_5_method_17_code 22 = .ok (.invokestatic 46, 3) := by decide +kernel
theorem dd_43_25 : decode prog_5_method_17_code 25 = .ok (.ifCond .eq 34, 3) := by decide +kernel
theorem dd_43_28 : decode prog_5_method_17_code 28 = .ok (.aload_n 2, 1) := by decide +kernel
theorem dd_43_29 : decode prog_5_method_17_code 29 = .ok (.aload_n 0, 1) := by decide +kernel
theorem dd_43_30 : decode prog_5_method_17_code 30 = .ok (.getfield 15, 3) := by decide +kernel
theorem dd_43_33 : decode prog_5_method_17_code 33 = .ok (.iload 4, 2) := by decide +kernel
theorem dd_43_35 : decode prog_5_method_17_code 35 = .ok (.iaload, 1) := by decide +kernel
theorem dd_43_36 : decode prog_5_method_17_code 36 = .ok (.invokestatic 67, 3) := by decide +kernel
theorem dd_43_39 : decode prog_5_method_17_code 39 = .ok (.istore 5, 2) := by decide +kernel
theorem dd_43_41 : decode prog_5_method_17_code 41 = .ok (.aload_n 2, 1) := by decide +kernel
theorem dd_43_42 : decode prog_5_method_17_code 42 = .ok (.iload 5, 2) := by decide +kernel
theorem dd_43_44 : decode prog_5_method_17_code 44 = .ok (.dup2, 1) := by decide +kernel
theorem dd_43_45 : decode prog_5_method_17_code 45 = .ok (.iaload, 1) := by decide +kernel
theorem dd_43_46 : decode prog_5_method_17_code 46 = .ok (.iconst 1, 1) := by decide +kernel
theorem dd_43_47 : decode prog_5_method_17_code 47 = .ok (.iload 4, 2) := by decide +kernel
theorem dd_43_49 : decode prog_5_method_17_code 49 = .ok (.ishl, 1) := by decide +kernel
theorem dd_43_50 : decode prog_5_method_17_code 50 = .ok (.ior, 1) := by decide +kernel
theorem dd_43_51 : decode prog_5_method_17_code 51 = .ok (.iastore, 1) := by decide +kernel
theorem dd_43_52 : decode prog_5_method_17_code 52 = .ok (.iload_n 3, 1) := by decide +kernel
theorem dd_43_53 : decode prog_5_method_17_code 53 = .ok (.iload 5, 2) := by decide +kernel
theorem dd_43_55 : decode prog_5_method_17_code 55 = .ok (.invokestatic 71, 3) := by decide +kernel
theorem dd_43_58 : decode prog_5_method_17_code 58 = .ok (.istore_n 3, 1) := by decide +kernel
theorem dd_43_59 : decode prog_5_method_17_code 59 = .ok (.iinc 4 1, 3) := by decide +kernel
theorem dd_43_62 : decode prog_5_method_17_code 62 = .ok (.goto (-52), 3) := by decide +kernel
theorem dd_43_65 : decode prog_5_method_17_code 65 = .ok (.iload_n 3, 1) := by decide +kernel
theorem dd_43_66 : decode prog_5_method_17_code 66 = .ok (.ireturn, 1) := by decide +kernel
theorem ks_43_0 : mi_snd cs_G cs_cl cs_inf 43 0 (mj_aload 2 1) := ms_aload_n (mi_dec ib_43 dd_43_0) rfl
theorem ks_43_1 : mi_snd cs_G cs_cl cs_inf 43 1 (mj_push (.inl 0) 2) := ms_iconst (mi_dec ib_43 dd_43_1) (by decide)
theorem ks_43_2 : mi_snd cs_G cs_cl cs_inf 43 2 (mj_callS 30 2 4 5) := ms_callS iw_c30 (mi_dec ib_43 dd_43_2) gw_448 iw_s30 iw_n30 (by decide +kernel) rfl (by decide)
theorem ks_43_5 : mi_snd cs_G cs_cl cs_inf 43 5 (mj_push (.inl 0) 6) := ms_iconst (mi_dec ib_43 dd_43_5) (by decide)
theorem ks_43_6 : mi_snd cs_G cs_cl cs_inf 43 6 (mj_istore 3 7) := ms_istore_n (mi_dec ib_43 dd_43_6) rfl
theorem ks_43_7 : mi_snd cs_G cs_cl cs_inf 43 7 (mj_push (.inl 0) 8) := ms_iconst (mi_dec ib_43 dd_43_7) (by decide)
theorem ks_43_8 : mi_snd cs_G cs_cl cs_inf 43 8 (mj_istore 4 10) := ms_istore (mi_dec ib_43 dd_43_8)
theorem ks_43_10 : mi_snd cs_G cs_cl cs_inf 43 10 (mj_iload 4 12) := ms_iload (mi_dec ib_43 dd_43_10)
theorem ks_43_12 : mi_snd cs_G cs_cl cs_inf 43 12 (mj_aload 0 13) := ms_aload_n (mi_dec ib_43 dd_43_12) rfl
theorem ks_43_13 : mi_snd cs_G cs_cl cs_inf 43 13 (mj_get 1 0 16) := ms_get (T := cs_T1) (k := 0) (mi_dec ib_43 dd_43_13) rfl cs_in1 (by decide) gw_29
theorem ks_43_16 : mi_snd cs_G cs_cl cs_inf 43 16 (mj_cmp (fun x y => decide (y ≤ x)) 65 19) := ms_icmp_ge (mi_dec ib_43 dd_43_16) (by decide)
theorem ks_43_19 : mi_snd cs_G cs_cl cs_inf 43 19 (mj_iload 1 20) := ms_iload_n (mi_dec ib_43 dd_43_19) rfl
theorem ks_43_20 : mi_snd cs_G cs_cl cs_inf 43 20 (mj_iload 4 22) := ms_iload (mi_dec ib_43 dd_43_20)
theorem ks_43_22 : mi_snd cs_G cs_cl cs_inf 43 22 (mj_callS 7 2 2 25) := ms_callSN iw_c7 (mi_dec ib_43 dd_43_22) gw_363 iw_s7 iw_n7 (by decide +kernel) rfl (by decide)
theorem ks_43_25 : mi_snd cs_G cs_cl cs_inf 43 25 (mj_if (fun x => decide (x = 0)) 59 28) := ms_if_eq (mi_dec ib_43 dd_43_25) (by decide)
theorem ks_43_28 : mi_snd cs_G cs_cl cs_inf 43 28 (mj_aload 2 29) := ms_aload_n (mi_dec ib_43 dd_43_28) rfl
theorem ks_43_29 : mi_snd cs_G cs_cl cs_inf 43 29 (mj_aload 0 30) := ms_aload_n (mi_dec ib_43 dd_43_29) rfl
theorem ks_43_30 : mi_snd cs_G cs_cl cs_inf 43 30 (mj_get 1 3 33) := ms_get (T := cs_T1) (k := 3) (mi_dec ib_43 dd_43_30) rfl cs_in1 (by decide) gw_38
theorem ks_43_33 : mi_snd cs_G cs_cl cs_inf 43 33 (mj_iload 4 35) := ms_iload (mi_dec ib_43 dd_43_33)
theorem ks_43_35 : mi_snd cs_G cs_cl cs_inf 43 35 (mj_ald 0 36) := ms_ald0 (mi_dec ib_43 dd_43_35)
theorem ks_43_36 : mi_snd cs_G cs_cl cs_inf 43 36 (mj_callS 44 2 3 39) := ms_callS iw_c44 (mi_dec ib_43 dd_43_36) gw_449 iw_s44 iw_n44 (by decide +kernel) rfl (by decide)
theorem ks_43_39 : mi_snd cs_G cs_cl cs_inf 43 39 (mj_istore 5 41) := ms_istore (mi_dec ib_43 dd_43_39)
theorem ks_43_41 : mi_snd cs_G cs_cl cs_inf 43 41 (mj_aload 2 42) := ms_aload_n (mi_dec ib_43 dd_43_41) rfl
theorem ks_43_42 : mi_snd cs_G cs_cl cs_inf 43 42 (mj_iload 5 44) := ms_iload (mi_dec ib_43 dd_43_42)
theorem ks_43_44 : mi_snd cs_G cs_cl cs_inf 43 44 (mj_dup2 45) := ms_dup2 (mi_dec ib_43 dd_43_44)
theorem ks_43_45 : mi_snd cs_G cs_cl cs_inf 43 45 (mj_ald 0 46) := ms_ald0 (mi_dec ib_43 dd_43_45)
theorem ks_43_46 : mi_snd cs_G cs_cl cs_inf 43 46 (mj_push (.inl 1) 47) := ms_iconst (mi_dec ib_43 dd_43_46) (by decide)
theorem ks_43_47 : mi_snd cs_G cs_cl cs_inf 43 47 (mj_iload 4 49) := ms_iload (mi_dec ib_43 dd_43_47)
theorem ks_43_49 : mi_snd cs_G cs_cl cs_inf 43 49 (mj_bin (fun x y => x <<< (y &&& 31)) 50) := ms_ishl (mi_dec ib_43 dd_43_49)
theorem ks_43_50 : mi_snd cs_G cs_cl cs_inf 43 50 (mj_bin (fun x y => x ||| y) 51) := ms_ior (mi_dec ib_43 dd_43_50)
theorem ks_43_51 : mi_snd cs_G cs_cl cs_inf 43 51 (mj_iast 52) := ms_iast (mi_dec ib_43 dd_43_51)
theorem ks_43_52 : mi_snd cs_G cs_cl cs_inf 43 52 (mj_iload 3 53) := ms_iload_n (mi_dec ib_43 dd_43_52) rfl
theorem ks_43_53 : mi_snd cs_G cs_cl cs_inf 43 53 (mj_iload 5 55) := ms_iload (mi_dec ib_43 dd_43_53)
theorem ks_43_55 : mi_snd cs_G cs_cl cs_inf 43 55 (mj_callS 41 2 2 58) := ms_callS iw_c41 (mi_dec ib_43 dd_43_55) gw_452 iw_s41 iw_n41 (by decide +kernel) rfl (by decide)
theorem ks_43_58 : mi_snd cs_G cs_cl cs_inf 43 58 (mj_istore 3 59) := ms_istore_n (mi_dec ib_43 dd_43_58) rfl
theorem ks_43_59 : mi_snd cs_G cs_cl cs_inf 43 59 (mj_iinc 4 1 62) := ms_iinc (mi_dec ib_43 dd_43_59) (by decide)
theorem ks_43_62 : mi_snd cs_G cs_cl cs_inf 43 62 (mj_goto 10) := ms_goto (mi_dec ib_43 dd_43_62) (by decide)
theorem ks_43_65 : mi_snd cs_G cs_cl cs_inf 43 65 (mj_iload 3 66) := ms_iload_n (mi_dec ib_43 dd_43_65) rfl
theorem ks_43_66 : mi_snd cs_G cs_cl cs_inf 43 66 (mj_iret) := ms_iret (mi_dec ib_43 dd_43_66) rfl
def ct_43 : List (Nat × mi_I) := [
  (0, mj_aload 2 1),
  (1, mj_push (.inl 0) 2),
  (2, mj_callS 30 2 4 5),
  (5, mj_push (.inl 0) 6),
  (6, mj_istore 3 7),
  (7, mj_push (.inl 0) 8),
  (8, mj_istore 4 10),
  (10, mj_iload 4 12),
  (12, mj_aload 0 13),
  (13, mj_get 1 0 16),
  (16, mj_cmp (fun x y => decide (y ≤ x)) 65 19),
  (19, mj_iload 1 20),
  (20, mj_iload 4 22),
  (22, mj_callS 7 2 2 25),
  (25, mj_if (fun x => decide (x = 0)) 59 28),
  (28, mj_aload 2 29),
  (29, mj_aload 0 30),
  (30, mj_get 1 3 33),
  (33, mj_iload 4 35),
  (35, mj_ald 0 36),
  (36, mj_callS 44 2 3 39),
  (39, mj_istore 5 41),
  (41, mj_aload 2 42),
  (42, mj_iload 5 44),
  (44, mj_dup2 45),
  (45, mj_ald 0 46),
  (46, mj_push (.inl 1) 47),
  (47, mj_iload 4 49),
  (49, mj_bin (fun x y => x <<< (y &&& 31)) 50),
  (50, mj_bin (fun x y => x ||| y) 51),
  (51, mj_iast 52),
  (52, mj_iload 3 53),
  (53, mj_iload 5 55),
  (55, mj_callS 41 2 2 58),
  (58, mj_istore 3 59),
  (59, mj_iinc 4 1 62),
  (62, mj_goto 10),
  (65, mj_iload 3 66),
  (66, mj_iret)]
theorem sd_43 : ∀ q ∈ ct_43, mi_snd cs_G cs_cl cs_inf 43 q.1 q.2 := mi_fc ks_43_0 (mi_fc ks_43_1 (mi_fc ks_43_2 (mi_fc ks_43_5 (mi_fc ks_43_6 (mi_fc ks_43_7 (mi_fc ks_43_8 (mi_fc ks_43_10 (mi_fc ks_43_12 (mi_fc ks_43_13 (mi_fc ks_43_16 (mi_fc ks_43_19 (mi_fc ks_43_20 (mi_fc ks_43_22 (mi_fc ks_43_25 (mi_fc ks_43_28 (mi_fc ks_43_29 (mi_fc ks_43_30 (mi_fc ks_43_33 (mi_fc ks_43_35 (mi_fc ks_43_36 (mi_fc ks_43_39 (mi_fc ks_43_41 (mi_fc ks_43_42 (mi_fc ks_43_44 (mi_fc ks_43_45 (mi_fc ks_43_46 (mi_fc ks_43_47 (mi_fc ks_43_49 (mi_fc ks_43_50 (mi_fc ks_43_51 (mi_fc ks_43_52 (mi_fc ks_43_53 (mi_fc ks_43_55 (mi_fc ks_43_58 (mi_fc ks_43_59 (mi_fc ks_43_62 (mi_fc ks_43_65 (mi_fc ks_43_66 mi_fn))))))))))))))))))))))))))))))))))))))
theorem dd_44_0 : decode prog_5_method_18_code 0 = .ok (.iconst 1, 1) := by decide +kernel
theorem dd_44_1 : decode prog_5_method_18_code 1 = .ok (.istore_n 2, 1) := by decide +kernel
theorem dd_44_2 : decode prog_5_method_18_code 2 = .ok (.iload_n 2, 1) := by decide +kernel
theorem dd_44_3 : decode prog_5_method_18_code 3 = .ok (.aload_n 0, 1) := by decide +kernel
theorem dd_44_4 : decode prog_5_method_18_code 4 = .ok (.arraylength, 1) := by decide +kernel
theorem dd_44_5 : decode prog_5_method_18_code 5 = .ok (.if_icmp .ge 19, 3) := by decide +kernel
theorem dd_44_8 : decode prog_5_method_18_code 8 = .ok (.aload_n 0, 1) := by decide +kernel
theorem dd_44_9 : decode prog_5_method_18_code 9 = .ok (.iload_n 2, 1) := by decide +kernel
theorem dd_44_10 : decode prog_5_method_18_code 10 = .ok (.iaload, 1) := by decide +kernel
theorem dd_44_11 : decode prog_5_method_18_code 11 = .ok (.iload_n 1, 1) := by decide +kernel
theorem dd_44_12 : decode prog_5_method_18_code 12 = .ok (.iand, 1) := by decide +kernel
theorem dd_44_13 : decode prog_5_method_18_code 13 = .ok (.ifCond .ne 5, 3) := by decide +kernel
theorem dd_44_16 : decode prog_5_method_18_code 16 = .ok (.iload_n 2, 1) := by decide +kernel
theorem dd_44_17 : decode prog_5_method_18_code 17 = .ok (.ireturn, 1) := by decide +kernel
theorem dd_44_18 : decode prog_5_method_18_code 18 = .ok (.iinc 2 1, 3) := by decide +kernel
theorem dd_44_21 : decode prog_5_method_18_code 21 = .ok (.goto (-19), 3) := by decide +kernel
theorem dd_44_24 : decode prog_5_method_18_code 24 = .ok (.iconst 0, 1) := by decide +kernel
theorem dd_44_25 : decode prog_5_method_18_code 25 = .ok (.ireturn, 1) := by decide +kernel
theorem ks_44_0 : mi_snd cs_G cs_cl cs_inf 44 0 (mj_push (.inl 1) 1) := ms_iconst (mi_dec ib_44 dd_44_0) (by decide)
theorem ks_44_1 : mi_snd cs_G cs_cl cs_inf 44 1 (mj_istore 2 2) := ms_istore_n (mi_dec ib_44 dd_44_1) rfl
theorem ks_44_2 : mi_snd cs_G cs_cl cs_inf 44 2 (mj_iload 2 3) := ms_iload_n (mi_dec ib_44 dd_44_2) rfl
theorem ks_44_3 : mi_snd cs_G cs_cl cs_inf 44 3 (mj_aload 0 4) := ms_aload_n (mi_dec ib_44 dd_44_3) rfl
theorem ks_44_4 : mi_snd cs_G cs_cl cs_inf 44 4 (mj_alen 5) := ms_alen (mi_dec ib_44 dd_44_4)
theorem ks_44_5 : mi_snd cs_G cs_cl cs_inf 44 5 (mj_cmp (fun x y => decide (y ≤ x)) 24 8) := ms_icmp_ge (mi_dec ib_44 dd_44_5) (by decide)
theorem ks_44_8 : mi_snd cs_G cs_cl cs_inf 44 8 (mj_aload 0 9) := ms_aload_n (mi_dec ib_44 dd_44_8) rfl
theorem ks_44_9 : mi_snd cs_G cs_cl cs_inf 44 9 (mj_iload 2 10) := ms_iload_n (mi_dec ib_44 dd_44_9) rfl
theorem ks_44_10 : mi_snd cs_G cs_cl cs_inf 44 10 (mj_ald 0 11) := ms_ald0 (mi_dec ib_44 dd_44_10)
theorem ks_44_11 : mi_snd cs_G cs_cl cs_inf 44 11 (mj_iload 1 12) := ms_iload_n (mi_dec ib_44 dd_44_11) rfl
theorem ks_44_12 : mi_snd cs_G cs_cl cs_inf 44 12 (mj_bin (fun x y => x &&& y) 13) := ms_iand (mi_dec ib_44 dd_44_12)
theorem ks_44_13 : mi_snd cs_G cs_cl cs_inf 44 13 (mj_if (fun x => decide (¬ x = 0)) 18 16) := ms_if_ne (mi_dec ib_44 dd_44_13) (by decide)
theorem ks_44_16 : mi_snd cs_G cs_cl cs_inf 44 16 (mj_iload 2 17) := ms_iload_n (mi_dec ib_44 dd_44_16) rfl
theorem ks_44_17 : mi_snd cs_G cs_cl cs_inf 44 17 (mj_iret) := ms_iret (mi_dec ib_44 dd_44_17) rfl
theorem ks_44_18 : mi_snd cs_G cs_cl cs_inf 44 18 (mj_iinc 2 1 21) := ms_iinc (mi_dec ib_44 dd_44_18) (by decide)
theorem ks_44_21 : mi_snd cs_G cs_cl cs_inf 44 21 (mj_goto 2) := ms_goto (mi_dec ib_44 dd_44_21) (by decide)
theorem ks_44_24 : mi_snd cs_G cs_cl cs_inf 44 24 (mj_push (.inl 0) 25) := ms_iconst (mi_dec ib_44 dd_44_24) (by decide)
theorem ks_44_25 : mi_snd cs_G cs_cl cs_inf 44 25 (mj_iret) := ms_iret (mi_dec ib_44 dd_44_25) rfl
def ct_44 : List (Nat × mi_I) := [
  (0, mj_push (.inl 1) 1),
  (1, mj_istore 2 2),
  (2, mj_iload 2 3),
  (3, mj_aload 0 4),
  (4, mj_alen 5),
  (5, mj_cmp (fun x y => decide (y ≤ x)) 24 8),
  (8, mj_aload 0 9),
  (9, mj_iload 2 10),
  (10, mj_ald 0 11),
  (11, mj_iload 1 12),
  (12, mj_bin (fun x y => x &&& y) 13),
  (13, mj_if (fun x => decide (¬ x = 0)) 18 16),
  (16, mj_iload 2 17),
  (17, mj_iret),
  (18, mj_iinc 2 1 21),
  (21, mj_goto 2),
  (24, mj_push (.inl 0) 25),
  (25, mj_iret)]
theorem sd_44 : ∀ q ∈ ct_44, mi_snd cs_G cs_cl cs_inf 44 q.1 q.2 := mi_fc ks_44_0 (mi_fc ks_44_1 (mi_fc ks_44_2 (mi_fc ks_44_3 (mi_fc ks_44_4 (mi_fc ks_44_5 (mi_fc ks_44_8 (mi_fc ks_44_9 (mi_fc ks_44_10 (mi_fc ks_44_11 (mi_fc ks_44_12 (mi_fc ks_44_13 (mi_fc ks_44_16 (mi_fc ks_44_17 (mi_fc ks_44_18 (mi_fc ks_44_21 (mi_fc ks_44_24 (mi_fc ks_44_25 mi_fn)))))))))))))))))
theorem dd_45_0 : decode prog_4_method_4_code 0 = .ok (.iload_n 1, 1) := by decide +kernel
theorem dd_45_1 : decode prog_4_method_4_code 1 = .ok (.invokestatic 66, 3) := by decide +kernel
theorem dd_45_4 : decode prog_4_method_4_code 4 = .ok (.aload_n 0, 1) := by decide +kernel
theorem dd_45_5 : decode prog_4_method_4_code 5 = .ok (.getfield 44, 3) := by decide +kernel
theorem dd_45_8 : decode prog_4_method_4_code 8 = .ok (.invokestatic 66, 3) := by decide +kernel
theorem dd_45_11 : decode prog_4_method_4_code 11 = .ok (.if_icmp .le 8, 3) := by decide +kernel
theorem dd_45_14 : decode prog_4_method_4_code 14 = .ok (.aload_n 0, 1) := by decide +kernel
theorem dd_45_15 : decode prog_4_method_4_code 15 = .ok (.iload_n 1, 1) := by decide +kernel
theorem dd_45_16 : decode prog_4_method_4_code 16 = .ok (.putfield 44, 3) := by decide +kernel
theorem dd_45_19 : decode prog_4_method_4_code 19 = .ok (.iload_n 2, 1) := by decide +kernel
theorem dd_45_20 : decode prog_4_method_4_code 20 = .ok (.istore 4, 2) := by decide +kernel
theorem dd_45_22 : decode prog_4_method_4_code 22 = .ok (.iconst 0, 1) := by decide +kernel
theorem dd_45_23 : decode prog_4_method_4_code 23 = .ok (.istore 5, 2) := by decide +kernel
theorem dd_45_25 : decode prog_4_method_4_code 25 = .ok (.iload 5, 2) := by decide +kernel
theorem dd_45_27 : decode prog_4_method_4_code 27 = .ok (.bipush 16, 2) := by decide +kernel
theorem dd_45_29 : decode prog_4_method_4_code 29 = .ok (.if_icmp .ge 117, 3) := by decide +kernel
theorem dd_45_32 : decode prog_4_method_4_code 32 = .ok (.iload_n 3, 1) := by decide +kernel
theorem dd_45_33 : decode prog_4_method_4_code 33 = .ok (.bipush 16, 2) := by decide +kernel
theorem dd_45_35 : decode prog_4_method_4_code 35 = .ok (.if_icmp .ge 111, 3) := by decide +kernel
theorem dd_45_38 : decode prog_4_method_4_code 38 = .ok (.iload 4, 2) := by decide +kernel
theorem dd_45_40 : decode prog_4_method_4_code 40 = .ok (.iload 5, 2) := by decide +kernel
theorem dd_45_42 : decode prog_4_method_4_code 42 = .ok (.invokestatic 72, 3) := by decide +kernel
theorem dd_45_45 : decode prog_4_method_4_code 45 = .ok (.ifCond .eq 95, 3) := by decide +kernel
theorem dd_45_48 : decode prog_4_method_4_code 48 = .ok (.aload_n 0, 1) := by decide +kernel
theorem dd_45_49 : decode prog_4_method_4_code 49 = .ok (.iload_n 1, 1) := by decide +kernel
theorem dd_45_50 : decode prog_4_method_4_code 50 = .ok (.iload 4, 2) := by decide +kernel
theorem dd_45_52 : decode prog_4_method_4_code 52 = .ok (.ior, 1) := by decide +kernel
theorem dd_45_53 : decode prog_4_method_4_code 53 = .ok (.invokestatic 66, 3) := by decide +kernel
theorem dd_45_56 : decode prog_4_method_4_code 56 = .ok (.invokevirtual 76, 3) := by decide +kernel
theorem dd_45_59 : decode prog_4_method_4_code 59 = .ok (.ifCond .eq 81, 3) := by decide +kernel
theorem dd_45_62 : decode prog_4_method_4_code 62 = .ok (.iload_n 1, 1) := by decide +kernel
theorem dd_45_63 : decode prog_4_method_4_code 63 = .ok (.iconst 1, 1) := by decide +kernel
theorem dd_45_64 : decode prog_4_method_4_code 64 = .ok (.iload 5, 2) := by decide +kernel
theorem dd_45_66 : decode prog_4_method_4_code 66 = .ok (.ishl, 1) := by decide +kernel
theorem dd_45_67 : decode prog_4_method_4_code 67 = .ok (.ior, 1) := by decide +kernel
theorem dd_45_68 : decode prog_4_method_4_code 68 = .ok (.istore 6, 2) := by decide +kernel
theorem dd_45_70 : decode prog_4_method_4_code 70 = .ok (.iload 4, 2) := by decide +kernel
theorem dd_45_72 : decode prog_4_method_4_code 72 = .ok (.iconst 1, 1) := by decide +kernel
theorem dd_45_73 : decode prog_4_method_4_code 73 = .ok (.iload 5, 2) := by decide +kernel
theorem dd_45_75 : decode prog_4_method_4_code 75 = .ok (.ishl, 1) := by decide +kernel
theorem dd_45_76 : decode prog_4_method_4_code 76 = .ok (.iconst (-1), 1) := by decide +kernel
theorem dd_45_77 : decode prog_4_method_4_code 77 = .ok (.ixor, 1) := by decide +kernel
theorem dd_45_78 : decode prog_4_method_4_code 78 = .ok (.iand, 1) := by decide +kernel
theorem dd_45_79 : decode prog_4_method_4_code 79 = .ok (.istore 4, 2) := by decide +kernel
theorem dd_45_81 : decode prog_4_method_4_code 81 = .ok (.aload_n 0, 1) := by decide +kernel
theorem dd_45_82 : decode prog_4_method_4_code 82 = .ok (.iload 5, 2) := by decide +kernel
theorem dd_45_84 : decode prog_4_method_4_code 84 = .ok (.iload_n 3, 1) := by decide +kernel
theorem dd_45_85 : decode prog_4_method_4_code 85 = .ok (.invokevirtual 80, 3) := by decide +kernel
theorem dd_45_88 : decode prog_4_method_4_code 88 = .ok (.aload_n 0, 1) := by decide +kernel
theorem dd_45_89 : decode prog_4_method_4_code 89 = .ok (.iload 6, 2) := by decide +kernel
theorem dd_45_91 : decode prog_4_method_4_code 91 = .ok (.iload 4, 2) := by decide +kernel
theorem dd_45_93 : decode prog_4_method_4_code 93 = .ok (.iload_n 3, 1) := by decide +kernel
theorem dd_45_94 : decode prog_4_method_4_code 94 = .ok (.iconst 1, 1) := by decide +kernel
theorem dd_45_95 : decode prog_4_method_4_code 95 = .ok (.iadd, 1) := by decide +kernel
theorem dd_45_96 : decode prog_4_method_4_code 96 = .ok (.invokevirtual 84, 3) := by decide +kernel
theorem dd_45_99 : decode prog_4_method_4_code 99 = .ok (.istore 7, 2) := by decide +kernel
theorem dd_45_101 : decode prog_4_method_4_code 101 = .ok (.aload_n 0, 1) := by decide +kernel
theorem dd_45_102 : decode prog_4_method_4_code 102 = .ok (.aload_n 0, 1) := by decide +kernel
theorem dd_45_103 : decode prog_4_method_4_code 103 = .ok (.getfield 20, 3) := by decide +kernel
theorem dd_45_106 : decode prog_4_method_4_code 106 = .ok (.iload 5, 2) := by decide +kernel
theorem dd_45_108 : decode prog_4_method_4_code 108 = .ok (.iload 6, 2) := by decide +kernel
theorem dd_45_110 : decode prog_4_method_4_code 110 = .ok (.iload 7, 2) := by decide +kernel
theorem dd_45_112 : decode prog_4_method_4_code 112 = .ok (.ior, 1) := by decide +kernel
theorem dd_45_113 : decode prog_4_method_4_code 113 = .ok (.invokevirtual 88, 3) := by decide +kernel
theorem dd_45_116 : decode prog_4_method_4_code 116 = .ok (.iconst 1, 1) := by decide +kernel
theorem dd_45_117 : decode prog_4_method_4_code 117 = .ok (.iadd, 1) := by decide +kernel
theorem dd_45_118 : decode prog_4_method_4_code 118 = .ok (.aload_n 0, 1) := by decide +kernel
theorem dd_45_119 : decode prog_4_method_4_code 119 = .ok (.getfield 33, 3) := by decide +kernel
theorem dd_45_122 : decode prog_4_method_4_code 122 = .ok (.iadd, 1) := by decide +kernel
theorem dd_45_123 : decode prog_4_method_4_code 123 = .ok (.invokevirtual 76, 3) := by decide +kernel
theorem dd_45_126 : decode prog_4_method_4_code 126 = .ok (.ifCond .eq 14, 3) := by decide +kernel
theorem dd_45_129 : decode prog_4_method_4_code 129 = .ok (.aload_n 0, 1) := by decide +kernel
theorem dd_45_130 : decode prog_4_method_4_code 130 = .ok (.iload 6, 2) := by decide +kernel
theorem dd_45_132 : decode prog_4_method_4_code 132 = .ok (.iload 7, 2) := by decide +kernel
theorem dd_45_134 : decode prog_4_method_4_code 134 = .ok (.iload_n 3, 1) := by decide +kernel
theorem dd_45_135 : decode prog_4_method_4_code 135 = .ok (.iconst 1, 1) := by decide +kernel
theorem dd_45_136 : decode prog_4_method_4_code 136 = .ok (.iadd, 1) := by decide +kernel
theorem dd_45_137 : decode prog_4_method_4_code 137 = .ok (.invokestatic 58, 3) := by decide +kernel
theorem dd_45_140 : decode prog_4_method_4_code 140 = .ok (.iinc 5 1, 3) := by decide +kernel
theorem dd_45_143 : decode prog_4_method_4_code 143 = .ok (.goto (-118), 3) := by decide +kernel
theorem dd_45_146 : decode prog_4_method_4_code 146 = .ok (.return_, 1) := by decide +kernel
theorem ks_45_0 : mi_snd cs_G cs_cl cs_inf 45 0 (mj_iload 1 1) := ms_iload_n (mi_dec ib_45 dd_45_0) rfl
theorem ks_45_1 : mi_snd cs_G cs_cl cs_inf 45 1 (mj_callS 20 1 1 4) := ms_callS iw_c20 (mi_dec ib_45 dd_45_1) gw_453 iw_s20 iw_n20 (by decide +kernel) rfl (by decide)
theorem ks_45_4 : mi_snd cs_G cs_cl cs_inf 45 4 (mj_aload 0 5) := ms_aload_n (mi_dec ib_45 dd_45_4) rfl
theorem ks_45_5 : mi_snd cs_G cs_cl cs_inf 45 5 (mj_get 4 5 8) := ms_get (T := cs_T4) (k := 5) (mi_dec ib_45 dd_45_5) rfl cs_in4 (by decide) gw_103
theorem ks_45_8 : mi_snd cs_G cs_cl cs_inf 45 8 (mj_callS 20 1 1 11) := ms_callS iw_c20 (mi_dec ib_45 dd_45_8) gw_453 iw_s20 iw_n20 (by decide +kernel) rfl (by decide)
theorem ks_45_11 : mi_snd cs_G cs_cl cs_inf 45 11 (mj_cmp (fun x y => decide (x ≤ y)) 19 14) := ms_icmp_le (mi_dec ib_45 dd_45_11) (by decide)
theorem ks_45_14 : mi_snd cs_G cs_cl cs_inf 45 14 (mj_aload 0 15) := ms_aload_n (mi_dec ib_45 dd_45_14) rfl
theorem ks_45_15 : mi_snd cs_G cs_cl cs_inf 45 15 (mj_iload 1 16) := ms_iload_n (mi_dec ib_45 dd_45_15) rfl
theorem ks_45_16 : mi_snd cs_G cs_cl cs_inf 45 16 (mj_putI 4 5 19) := ms_putI (T := cs_T4) (k := 5) (mi_dec ib_45 dd_45_16) rfl cs_in4 cs_ty4_ok cs_nm4 (by decide) gw_103 (by decide) (by decide +kernel)
theorem ks_45_19 : mi_snd cs_G cs_cl cs_inf 45 19 (mj_iload 2 20) := ms_iload_n (mi_dec ib_45 dd_45_19) rfl
theorem ks_45_20 : mi_snd cs_G cs_cl cs_inf 45 20 (mj_istore 4 22) := ms_istore (mi_dec ib_45 dd_45_20)
theorem ks_45_22 : mi_snd cs_G cs_cl cs_inf 45 22 (mj_push (.inl 0) 23) := ms_iconst (mi_dec ib_45 dd_45_22) (by decide)
theorem ks_45_23 : mi_snd cs_G cs_cl cs_inf 45 23 (mj_istore 5 25) := ms_istore (mi_dec ib_45 dd_45_23)
theorem ks_45_25 : mi_snd cs_G cs_cl cs_inf 45 25 (mj_iload 5 27) := ms_iload (mi_dec ib_45 dd_45_25)
theorem ks_45_27 : mi_snd cs_G cs_cl cs_inf 45 27 (mj_push (.inl 16) 29) := ms_bipush (mi_dec ib_45 dd_45_27) (by decide)
theorem ks_45_29 : mi_snd cs_G cs_cl cs_inf 45 29 (mj_cmp (fun x y => decide (y ≤ x)) 146 32) := ms_icmp_ge (mi_dec ib_45 dd_45_29) (by decide)
theorem ks_45_32 : mi_snd cs_G cs_cl cs_inf 45 32 (mj_iload 3 33) := ms_iload_n (mi_dec ib_45 dd_45_32) rfl
theorem ks_45_33 : mi_snd cs_G cs_cl cs_inf 45 33 (mj_push (.inl 16) 35) := ms_bipush (mi_dec ib_45 dd_45_33) (by decide)
theorem ks_45_35 : mi_snd cs_G cs_cl cs_inf 45 35 (mj_cmp (fun x y => decide (y ≤ x)) 146 38) := ms_icmp_ge (mi_dec ib_45 dd_45_35) (by decide)
theorem ks_45_38 : mi_snd cs_G cs_cl cs_inf 45 38 (mj_iload 4 40) := ms_iload (mi_dec ib_45 dd_45_38)
theorem ks_45_40 : mi_snd cs_G cs_cl cs_inf 45 40 (mj_iload 5 42) := ms_iload (mi_dec ib_45 dd_45_40)
theorem ks_45_42 : mi_snd cs_G cs_cl cs_inf 45 42 (mj_callS 7 2 2 45) := ms_callSN iw_c7 (mi_dec ib_45 dd_45_42) gw_458 iw_s7 iw_n7 (by decide +kernel) rfl (by decide)
theorem ks_45_45 : mi_snd cs_G cs_cl cs_inf 45 45 (mj_if (fun x => decide (x = 0)) 140 48) := ms_if_eq (mi_dec ib_45 dd_45_45) (by decide)
theorem ks_45_48 : mi_snd cs_G cs_cl cs_inf 45 48 (mj_aload 0 49) := ms_aload_n (mi_dec ib_45 dd_45_48) rfl
theorem ks_45_49 : mi_snd cs_G cs_cl cs_inf 45 49 (mj_iload 1 50) := ms_iload_n (mi_dec ib_45 dd_45_49) rfl
theorem ks_45_50 : mi_snd cs_G cs_cl cs_inf 45 50 (mj_iload 4 52) := ms_iload (mi_dec ib_45 dd_45_50)
theorem ks_45_52 : mi_snd cs_G cs_cl cs_inf 45 52 (mj_bin (fun x y => x ||| y) 53) := ms_ior (mi_dec ib_45 dd_45_52)
theorem ks_45_53 : mi_snd cs_G cs_cl cs_inf 45 53 (mj_callS 20 1 1 56) := ms_callS iw_c20 (mi_dec ib_45 dd_45_53) gw_453 iw_s20 iw_n20 (by decide +kernel) rfl (by decide)
theorem ks_45_56 : mi_snd cs_G cs_cl cs_inf 45 56 (mj_callV 4 46 1 3 59) := ms_callV iw_c46 (mi_dec ib_45 dd_45_56) gw_459 iw_i46 rfl iw_v46 iw_n46 (by decide +kernel) rfl (by decide)
theorem ks_45_59 : mi_snd cs_G cs_cl cs_inf 45 59 (mj_if (fun x => decide (x = 0)) 140 62) := ms_if_eq (mi_dec ib_45 dd_45_59) (by decide)
theorem ks_45_62 : mi_snd cs_G cs_cl cs_inf 45 62 (mj_iload 1 63) := ms_iload_n (mi_dec ib_45 dd_45_62) rfl
theorem ks_45_63 : mi_snd cs_G cs_cl cs_inf 45 63 (mj_push (.inl 1) 64) := ms_iconst (mi_dec ib_45 dd_45_63) (by decide)
theorem ks_45_64 : mi_snd cs_G cs_cl cs_inf 45 64 (mj_iload 5 66) := ms_iload (mi_dec ib_45 dd_45_64)
theorem ks_45_66 : mi_snd cs_G cs_cl cs_inf 45 66 (mj_bin (fun x y => x <<< (y &&& 31)) 67) := ms_ishl (mi_dec ib_45 dd_45_66)
theorem ks_45_67 : mi_snd cs_G cs_cl cs_inf 45 67 (mj_bin (fun x y => x ||| y) 68) := ms_ior (mi_dec ib_45 dd_45_67)
theorem ks_45_68 : mi_snd cs_G cs_cl cs_inf 45 68 (mj_istore 6 70) := ms_istore (mi_dec ib_45 dd_45_68)
theorem ks_45_70 : mi_snd cs_G cs_cl cs_inf 45 70 (mj_iload 4 72) := ms_iload (mi_dec ib_45 dd_45_70)
theorem ks_45_72 : mi_snd cs_G cs_cl cs_inf 45 72 (mj_push (.inl 1) 73) := ms_iconst (mi_dec ib_45 dd_45_72) (by decide)
theorem ks_45_73 : mi_snd cs_G cs_cl cs_inf 45 73 (mj_iload 5 75) := ms_iload (mi_dec ib_45 dd_45_73)
theorem ks_45_75 : mi_snd cs_G cs_cl cs_inf 45 75 (mj_bin (fun x y => x <<< (y &&& 31)) 76) := ms_ishl (mi_dec ib_45 dd_45_75)
theorem ks_45_76 : mi_snd cs_G cs_cl cs_inf 45 76 (mj_push (.inl (-1)) 77) := ms_iconst (mi_dec ib_45 dd_45_76) (by decide)
theorem ks_45_77 : mi_snd cs_G cs_cl cs_inf 45 77 (mj_bin (fun x y => x ^^^ y) 78) := ms_ixor (mi_dec ib_45 dd_45_77)
theorem ks_45_78 : mi_snd cs_G cs_cl cs_inf 45 78 (mj_bin (fun x y => x &&& y) 79) := ms_iand (mi_dec ib_45 dd_45_78)
theorem ks_45_79 : mi_snd cs_G cs_cl cs_inf 45 79 (mj_istore 4 81) := ms_istore (mi_dec ib_45 dd_45_79)
theorem ks_45_81 : mi_snd cs_G cs_cl cs_inf 45 81 (mj_aload 0 82) := ms_aload_n (mi_dec ib_45 dd_45_81) rfl
theorem ks_45_82 : mi_snd cs_G cs_cl cs_inf 45 82 (mj_iload 5 84) := ms_iload (mi_dec ib_45 dd_45_82)
theorem ks_45_84 : mi_snd cs_G cs_cl cs_inf 45 84 (mj_iload 3 85) := ms_iload_n (mi_dec ib_45 dd_45_84) rfl
theorem ks_45_85 : mi_snd cs_G cs_cl cs_inf 45 85 (mj_callV 4 47 2 7 88) := ms_callV iw_c47 (mi_dec ib_45 dd_45_85) gw_463 iw_i47 rfl iw_v47 iw_n47 (by decide +kernel) rfl (by decide)
theorem ks_45_88 : mi_snd cs_G cs_cl cs_inf 45 88 (mj_aload 0 89) := ms_aload_n (mi_dec ib_45 dd_45_88) rfl
theorem ks_45_89 : mi_snd cs_G cs_cl cs_inf 45 89 (mj_iload 6 91) := ms_iload (mi_dec ib_45 dd_45_89)
theorem ks_45_91 : mi_snd cs_G cs_cl cs_inf 45 91 (mj_iload 4 93) := ms_iload (mi_dec ib_45 dd_45_91)
theorem ks_45_93 : mi_snd cs_G cs_cl cs_inf 45 93 (mj_iload 3 94) := ms_iload_n (mi_dec ib_45 dd_45_93) rfl
theorem ks_45_94 : mi_snd cs_G cs_cl cs_inf 45 94 (mj_push (.inl 1) 95) := ms_iconst (mi_dec ib_45 dd_45_94) (by decide)
theorem ks_45_95 : mi_snd cs_G cs_cl cs_inf 45 95 (mj_bin (fun x y => x + y) 96) := ms_iadd (mi_dec ib_45 dd_45_95)
theorem ks_45_96 : mi_snd cs_G cs_cl cs_inf 45 96 (mj_callV 4 48 3 7 99) := ms_callV iw_c48 (mi_dec ib_45 dd_45_96) gw_468 iw_i48 rfl iw_v48 iw_n48 (by decide +kernel) rfl (by decide)
theorem ks_45_99 : mi_snd cs_G cs_cl cs_inf 45 99 (mj_istore 7 101) := ms_istore (mi_dec ib_45 dd_45_99)
theorem ks_45_101 : mi_snd cs_G cs_cl cs_inf 45 101 (mj_aload 0 102) := ms_aload_n (mi_dec ib_45 dd_45_101) rfl
theorem ks_45_102 : mi_snd cs_G cs_cl cs_inf 45 102 (mj_aload 0 103) := ms_aload_n (mi_dec ib_45 dd_45_102) rfl
theorem ks_45_103 : mi_snd cs_G cs_cl cs_inf 45 103 (mj_get 4 0 106) := ms_get (T := cs_T4) (k := 0) (mi_dec ib_45 dd_45_103) rfl cs_in4 (by decide) gw_98
theorem ks_45_106 : mi_snd cs_G cs_cl cs_inf 45 106 (mj_iload 5 108) := ms_iload (mi_dec ib_45 dd_45_106)
theorem ks_45_108 : mi_snd cs_G cs_cl cs_inf 45 108 (mj_iload 6 110) := ms_iload (mi_dec ib_45 dd_45_108)
theorem ks_45_110 : mi_snd cs_G cs_cl cs_inf 45 110 (mj_iload 7 112) := ms_iload (mi_dec ib_45 dd_45_110)
theorem ks_45_112 : mi_snd cs_G cs_cl cs_inf 45 112 (mj_bin (fun x y => x ||| y) 113) := ms_ior (mi_dec ib_45 dd_45_112)
theorem ks_45_113 : mi_snd cs_G cs_cl cs_inf 45 113 (mj_callV 1 33 2 3 116) := ms_callVN iw_c33 (mi_dec ib_45 dd_45_113) gw_472 iw_i33 rfl iw_v33 iw_n33 (by decide +kernel) rfl (by decide)
theorem ks_45_116 : mi_snd cs_G cs_cl cs_inf 45 116 (mj_push (.inl 1) 117) := ms_iconst (mi_dec ib_45 dd_45_116) (by decide)
theorem ks_45_117 : mi_snd cs_G cs_cl cs_inf 45 117 (mj_bin (fun x y => x + y) 118) := ms_iadd (mi_dec ib_45 dd_45_117)
theorem ks_45_118 : mi_snd cs_G cs_cl cs_inf 45 118 (mj_aload 0 119) := ms_aload_n (mi_dec ib_45 dd_45_118) rfl
theorem ks_45_119 : mi_snd cs_G cs_cl cs_inf 45 119 (mj_get 4 3 122) := ms_get (T := cs_T4) (k := 3) (mi_dec ib_45 dd_45_119) rfl cs_in4 (by decide) gw_101
theorem ks_45_122 : mi_snd cs_G cs_cl cs_inf 45 122 (mj_bin (fun x y => x + y) 123) := ms_iadd (mi_dec ib_45 dd_45_122)
theorem ks_45_123 : mi_snd cs_G cs_cl cs_inf 45 123 (mj_callV 4 46 1 3 126) := ms_callV iw_c46 (mi_dec ib_45 dd_45_123) gw_459 iw_i46 rfl iw_v46 iw_n46 (by decide +kernel) rfl (by decide)
theorem ks_45_126 : mi_snd cs_G cs_cl cs_inf 45 126 (mj_if (fun x => decide (x = 0)) 140 129) := ms_if_eq (mi_dec ib_45 dd_45_126) (by decide)
theorem ks_45_129 : mi_snd cs_G cs_cl cs_inf 45 129 (mj_aload 0 130) := ms_aload_n (mi_dec ib_45 dd_45_129) rfl
theorem ks_45_130 : mi_snd cs_G cs_cl cs_inf 45 130 (mj_iload 6 132) := ms_iload (mi_dec ib_45 dd_45_130)
theorem ks_45_132 : mi_snd cs_G cs_cl cs_inf 45 132 (mj_iload 7 134) := ms_iload (mi_dec ib_45 dd_45_132)
theorem ks_45_134 : mi_snd cs_G cs_cl cs_inf 45 134 (mj_iload 3 135) := ms_iload_n (mi_dec ib_45 dd_45_134) rfl
theorem ks_45_135 : mi_snd cs_G cs_cl cs_inf 45 135 (mj_push (.inl 1) 136) := ms_iconst (mi_dec ib_45 dd_45_135) (by decide)
theorem ks_45_136 : mi_snd cs_G cs_cl cs_inf 45 136 (mj_bin (fun x y => x + y) 137) := ms_iadd (mi_dec ib_45 dd_45_136)
theorem ks_45_137 : mi_snd cs_G cs_cl cs_inf 45 137 (mj_callS 45 4 8 140) := ms_callS iw_c45 (mi_dec ib_45 dd_45_137) gw_455 iw_s45 iw_n45 (by decide +kernel) rfl (by decide)
theorem ks_45_140 : mi_snd cs_G cs_cl cs_inf 45 140 (mj_iinc 5 1 143) := ms_iinc (mi_dec ib_45 dd_45_140) (by decide)
theorem ks_45_143 : mi_snd cs_G cs_cl cs_inf 45 143 (mj_goto 25) := ms_goto (mi_dec ib_45 dd_45_143) (by decide)
theorem ks_45_146 : mi_snd cs_G cs_cl cs_inf 45 146 (mj_ret) := ms_ret (mi_dec ib_45 dd_45_146) rfl
def ct_45 : List (Nat × mi_I) := [
  (0, mj_iload 1 1),
  (1, mj_callS 20 1 1 4),
  (4, mj_aload 0 5),
  (5, mj_get 4 5 8),
  (8, mj_callS 20 1 1 11),
  (11, mj_cmp (fun x y => decide (x ≤ y)) 19 14),
  (14, mj_aload 0 15),
  (15, mj_iload 1 16),
  (16, mj_putI 4 5 19),
  (19, mj_iload 2 20),
  (20, mj_istore 4 22),
  (22, mj_push (.inl 0) 23),
  (23, mj_istore 5 25),
  (25, mj_iload 5 27),
  (27, mj_push (.inl 16) 29),
  (29, mj_cmp (fun x y => decide (y ≤ x)) 146 32),
  (32, mj_iload 3 33),
  (33, mj_push (.inl 16) 35),
  (35, mj_cmp (fun x y => decide (y ≤ x)) 146 38),
  (38, mj_iload 4 40),
  (40, mj_iload 5 42),
  (42, mj_callS 7 2 2 45),
  (45, mj_if (fun x => decide (x = 0)) 140 48),
  (48, mj_aload 0 49),
  (49, mj_iload 1 50),
  (50, mj_iload 4 52),
  (52, mj_bin (fun x y => x ||| y) 53),
  (53, mj_callS 20 1 1 56),
  (56, mj_callV 4 46 1 3 59),
  (59, mj_if (fun x => decide (x = 0)) 140 62),
  (62, mj_iload 1 63),
  (63, mj_push (.inl 1) 64),
  (64, mj_iload 5 66),
  (66, mj_bin (fun x y => x <<< (y &&& 31)) 67),
  (67, mj_bin (fun x y => x ||| y) 68),
  (68, mj_istore 6 70),
  (70, mj_iload 4 72),
  (72, mj_push (.inl 1) 73),
  (73, mj_iload 5 75),
  (75, mj_bin (fun x y => x <<< (y &&& 31)) 76),
  (76, mj_push (.inl (-1)) 77),
  (77, mj_bin (fun x y => x ^^^ y) 78),
  (78, mj_bin (fun x y => x &&& y) 79),
  (79, mj_istore 4 81),
  (81, mj_aload 0 82),
  (82, mj_iload 5 84),
  (84, mj_iload 3 85),
  (85, mj_callV 4 47 2 7 88),
  (88, mj_aload 0 89),
  (89, mj_iload 6 91),
  (91, mj_iload 4 93),
  (93, mj_iload 3 94),
  (94, mj_push (.inl 1) 95),
  (95, mj_bin (fun x y => x + y) 96),
  (96, mj_callV 4 48 3 7 99),
  (99, mj_istore 7 101),
  (101, mj_aload 0 102),
  (102, mj_aload 0 103),
  (103, mj_get 4 0 106),
  (106, mj_iload 5 108),
  (108, mj_iload 6 110),
  (110, mj_iload 7 112),
  (112, mj_bin (fun x y => x ||| y) 113),
  (113, mj_callV 1 33 2 3 116),
  (116, mj_push (.inl 1) 117),
  (117, mj_bin (fun x y => x + y) 118),
  (118, mj_aload 0 119),
  (119, mj_get 4 3 122),
  (122, mj_bin (fun x y => x + y) 123),
  (123, mj_callV 4 46 1 3 126),
  (126, mj_if (fun x => decide (x = 0)) 140 129),
  (129, mj_aload 0 130),
  (130, mj_iload 6 132),
  (132, mj_iload 7 134),
  (134, mj_iload 3 135),
  (135, mj_push (.inl 1) 136),
  (136, mj_bin (fun x y => x + y) 137),
  (137, mj_callS 45 4 8 140),
  (140, mj_iinc 5 1 143),
  (143, mj_goto 25),
  (146, mj_ret)]
theorem sd_45 : ∀ q ∈ ct_45, mi_snd cs_G cs_cl cs_inf 45 q.1 q.2 := mi_fc ks_45_0 (mi_fc ks_45_1 (mi_fc ks_45_4 (mi_fc ks_45_5 (mi_fc ks_45_8 (mi_fc ks_45_11 (mi_fc ks_45_14 (mi_fc ks_45_15 (mi_fc ks_45_16 (mi_fc ks_45_19 (mi_fc ks_45_20 (mi_fc ks_45_22 (mi_fc ks_45_23 (mi_fc ks_45_25 (mi_fc ks_45_27 (mi_fc ks_45_29 (mi_fc ks_45_32 (mi_fc ks_45_33 (mi_fc ks_45_35 (mi_fc ks_45_38 (mi_fc ks_45_40 (mi_fc ks_45_42 (mi_fc ks_45_45 (mi_fc ks_45_48 (mi_fc ks_45_49 (mi_fc ks_45_50 (mi_fc ks_45_52 (mi_fc ks_45_53 (mi_fc ks_45_56 (mi_fc ks_45_59 (mi_fc ks_45_62 (mi_fc ks_45_63 (mi_fc ks_45_64 (mi_fc ks_45_66 (mi_fc ks_45_67 (mi_fc ks_45_68 (mi_fc ks_45_70 (mi_fc ks_45_72 (mi_fc ks_45_73 (mi_fc ks_45_75 (mi_fc ks_45_76 (mi_fc ks_45_77 (mi_fc ks_45_78 (mi_fc ks_45_79 (mi_fc ks_45_81 (mi_fc ks_45_82 (mi_fc ks_45_84 (mi_fc ks_45_85 (mi_fc ks_45_88 (mi_fc ks_45_89 (mi_fc ks_45_91 (mi_fc ks_45_93 (mi_fc ks_45_94 (mi_fc ks_45_95 (mi_fc ks_45_96 (mi_fc ks_45_99 (mi_fc ks_45_101 (mi_fc ks_45_102 (mi_fc ks_45_103 (mi_fc ks_45_106 (mi_fc ks_45_108 (mi_fc ks_45_110 (mi_fc ks_45_112 (mi_fc ks_45_113 (mi_fc ks_45_116 (mi_fc ks_45_117 (mi_fc ks_45_118 (mi_fc ks_45_119 (mi_fc ks_45_122 (mi_fc ks_45_123 (mi_fc ks_45_126 (mi_fc ks_45_129 (mi_fc ks_45_130 (mi_fc ks_45_132 (mi_fc ks_45_134 (mi_fc ks_45_135 (mi_fc ks_45_136 (mi_fc ks_45_137 (mi_fc ks_45_140 (mi_fc ks_45_143 (mi_fc ks_45_146 mi_fn))))))))))))))))))))))))))))))))))))))))))))))))))))))))))))))))))))))))))))))))
theorem dd_46_0 : decode prog_4_method_5_code 0 = .ok (.aload_n 0, 1) := by decide +kernel
theorem dd_46_1 : decode prog_4_method_5_code 1 = .ok (.getfield 44, 3) := by decide +kernel
theorem dd_46_4 : decode prog_4_method_5_code 4 = .ok (.invokestatic 66, 3) := by decide +kernel
theorem dd_46_7 : decode prog_4_method_5_code 7 = .ok (.istore_n 2, 1) := by decide +kernel
theorem dd_46_8 : decode prog_4_method_5_code 8 = .ok (.iload_n 2, 1) := by decide +kernel
theorem dd_46_9 : decode prog_4_method_5_code 9 = .ok (.aload_n 0, 1) := by decide +kernel
theorem dd_46_10 : decode prog_4_method_5_code 10 = .ok (.getfield 41, 3) := by decide +kernel
theorem dd_46_13 : decode prog_4_method_5_code 13 = .ok (.if_icmp .ge 12, 3) := by decide +kernel
theorem dd_46_16 : decode prog_4_method_5_code 16 = .ok (.iload_n 2, 1) := by decide +kernel
theorem dd_46_17 : decode prog_4_method_5_code 17 = .ok (.iload_n 1, 1) := by decide +kernel
theorem dd_46_18 : decode prog_4_method_5_code 18 = .ok (.if_icmp .ge 7, 3) := by decide +kernel
theorem dd_46_21 : decode prog_4_method_5_code 21 = .ok (.iconst 1, 1) := by decide +kernel
theorem dd_46_22 : decode prog_4_method_5_code 22 = .ok (.goto 4, 3) := by decide +kernel
theorem dd_46_25 : decode prog_4_method_5_code 25 = .ok (.iconst 0, 1) := by decide +kernel
theorem dd_46_26 : decode prog_4_method_5_code 26 = .ok (.ireturn, 1) := by decide +kernel
theorem ks_46_0 : mi_snd cs_G cs_cl cs_inf 46 0 (mj_aload 0 1) := ms_aload_n (mi_dec ib_46 dd_46_0) rfl
theorem ks_46_1 : mi_snd cs_G cs_cl cs_inf 46 1 (mj_get 4 5 4) := ms_get (T := cs_T4) (k := 5) (mi_dec ib_46 dd_46_1) rfl cs_in4 (by decide) gw_103
theorem ks_46_4 : mi_snd cs_G cs_cl cs_inf 46 4 (mj_callS 20 1 1 7) := ms_callS iw_c20 (mi_dec ib_46 dd_46_4) gw_453 iw_s20 iw_n20 (by decide +kernel) rfl (by decide)
theorem ks_46_7 : mi_snd cs_G cs_cl cs_inf 46 7 (mj_istore 2 8) := ms_istore_n (mi_dec ib_46 dd_46_7) rfl
theorem ks_46_8 : mi_snd cs_G cs_cl cs_inf 46 8 (mj_iload 2 9) := ms_iload_n (mi_dec ib_46 dd_46_8) rfl
theorem ks_46_9 : mi_snd cs_G cs_cl cs_inf 46 9 (mj_aload 0 10) := ms_aload_n (mi_dec ib_46 dd_46_9) rfl
theorem ks_46_10 : mi_snd cs_G cs_cl cs_inf 46 10 (mj_get 4 4 13) := ms_get (T := cs_T4) (k := 4) (mi_dec ib_46 dd_46_10) rfl cs_in4 (by decide) gw_102
theorem ks_46_13 : mi_snd cs_G cs_cl cs_inf 46 13 (mj_cmp (fun x y => decide (y ≤ x)) 25 16) := ms_icmp_ge (mi_dec ib_46 dd_46_13) (by decide)
theorem ks_46_16 : mi_snd cs_G cs_cl cs_inf 46 16 (mj_iload 2 17) := ms_iload_n (mi_dec ib_46 dd_46_16) rfl
theorem ks_46_17 : mi_snd cs_G cs_cl cs_inf 46 17 (mj_iload 1 18) := ms_iload_n (mi_dec ib_46 dd_46_17) rfl
theorem ks_46_18 : mi_snd cs_G cs_cl cs_inf 46 18 (mj_cmp (fun x y => decide (y ≤ x)) 25 21) := ms_icmp_ge (mi_dec ib_46 dd_46_18) (by decide)
theorem ks_46_21 : mi_snd cs_G cs_cl cs_inf 46 21 (mj_push (.inl 1) 22) := ms_iconst (mi_dec ib_46 dd_46_21) (by decide)
theorem ks_46_22 : mi_snd cs_G cs_cl cs_inf 46 22 (mj_goto 26) := ms_goto (mi_dec ib_46 dd_46_22) (by decide)
theorem ks_46_25 : mi_snd cs_G cs_cl cs_inf 46 25 (mj_push (.inl 0) 26) := ms_iconst (mi_dec ib_46 dd_46_25) (by decide)
theorem ks_46_26 : mi_snd cs_G cs_cl cs_inf 46 26 (mj_zret) := ms_zret (mi_dec ib_46 dd_46_26) rfl
def ct_46 : List (Nat × mi_I) := [
  (0, mj_aload 0 1),
  (1, mj_get 4 5 4),
  (4, mj_callS 20 1 1 7),
  (7, mj_istore 2 8),
  (8, mj_iload 2 9),
  (9, mj_aload 0 10),
  (10, mj_get 4 4 13),
  (13, mj_cmp (fun x y => decide (y ≤ x)) 25 16),
  (16, mj_iload 2 17),
  (17, mj_iload 1 18),
  (18, mj_cmp (fun x y => decide (y ≤ x)) 25 21),
  (21, mj_push (.inl 1) 22),
  (22, mj_goto 26),
  (25, mj_push (.inl 0) 26),
  (26, mj_zret)]
theorem sd_46 : ∀ q ∈ ct_46, mi_snd cs_G cs_cl cs_inf 46 q.1 q.2 := mi_fc ks_46_0 (mi_fc ks_46_1 (mi_fc ks_46_4 (mi_fc ks_46_7 (mi_fc ks_46_8 (mi_fc ks_46_9 (mi_fc ks_46_10 (mi_fc ks_46_13 (mi_fc ks_46_16 (mi_fc ks_46_17 (mi_fc ks_46_18 (mi_fc ks_46_21 (mi_fc ks_46_22 (mi_fc ks_46_25 (mi_fc ks_46_26 mi_fn))))))))))))))
theorem dd_47_0 : decode prog_4_method_6_code 0 = .ok (.iload_n 2, 1) := by decide +kernel
theorem dd_47_1 : decode prog_4_method_6_code 1 = .ok (.ifCond .lt 9, 3) := by decide +kernel
theorem dd_47_4 : decode prog_4_method_6_code 4 = .ok (.iload_n 2, 1) := by decide +kernel
theorem dd_47_5 : decode prog_4_method_6_code 5 = .ok (.bipush 16, 2) := by decide +kernel
theorem dd_47_7 : decode prog_4_method_6_code 7 = .ok (.if_icmp .lt 4, 3) := by decide +kernel
theorem dd_47_10 : decode prog_4_method_6_code 10 = .ok (.return_, 1) := by decide +kernel
theorem dd_47_11 : decode prog_4_method_6_code 11 = .ok (.aload_n 0, 1) := by decide +kernel
theorem dd_47_12 : decode prog_4_method_6_code 12 = .ok (.getfield 11, 3) := by decide +kernel
theorem dd_47_15 : decode prog_4_method_6_code 15 = .ok (.iload_n 2, 1) := by decide +kernel
theorem dd_47_16 : decode prog_4_method_6_code 16 = .ok (.aaload, 1) := by decide +kernel
theorem dd_47_17 : decode prog_4_method_6_code 17 = .ok (.astore_n 3, 1) := by decide +kernel
theorem dd_47_18 : decode prog_4_method_6_code 18 = .ok (.aload_n 0, 1) := by decide +kernel
theorem dd_47_19 : decode prog_4_method_6_code 19 = .ok (.getfield 11, 3) := by decide +kernel
theorem dd_47_22 : decode prog_4_method_6_code 22 = .ok (.iload_n 2, 1) := by decide +kernel
theorem dd_47_23 : decode prog_4_method_6_code 23 = .ok (.iconst 1, 1) := by decide +kernel
theorem dd_47_24 : decode prog_4_method_6_code 24 = .ok (.iadd, 1) := by decide +kernel
theorem dd_47_25 : decode prog_4_method_6_code 25 = .ok (.aaload, 1) := by decide +kernel
theorem dd_47_26 : decode prog_4_method_6_code 26 = .ok (.astore 4, 2) := by decide +kernel
theorem dd_47_28 : decode prog_4_method_6_code 28 = .ok (.aload_n 0, 1) := by decide +kernel
theorem dd_47_29 : decode prog_4_method_6_code 29 = .ok (.getfield 20, 3) := by decide +kernel
theorem dd_47_32 : decode prog_4_method_6_code 32 = .ok (.iload_n 1, 1) := by decide +kernel
theorem dd_47_33 : decode prog_4_method_6_code 33 = .ok (.invokevirtual 91, 3) := by decide +kernel
theorem dd_47_36 : decode prog_4_method_6_code 36 = .ok (.iconst (-1), 1) := by decide +kernel
theorem dd_47_37 : decode prog_4_method_6_code 37 = .ok (.ixor, 1) := by decide +kernel
theorem dd_47_38 : decode prog_4_method_6_code 38 = .ok (.iconst 1, 1) := by decide +kernel
theorem dd_47_39 : decode prog_4_method_6_code 39 = .ok (.iload_n 1, 1) := by decide +kernel
theorem dd_47_40 : decode prog_4_method_6_code 40 = .ok (.ishl, 1) := by decide +kernel
theorem dd_47_41 : decode prog_4_method_6_code 41 = .ok (.iconst (-1), 1) := by decide +kernel
theorem dd_47_42 : decode prog_4_method_6_code 42 = .ok (.ixor, 1) := by decide +kernel
theorem dd_47_43 : decode prog_4_method_6_code 43 = .ok (.iand, 1) := by decide +kernel
theorem dd_47_44 : decode prog_4_method_6_code 44 = .ok (.istore 5, 2) := by decide +kernel
theorem dd_47_46 : decode prog_4_method_6_code 46 = .ok (.aload 4, 2) := by decide +kernel
theorem dd_47_48 : decode prog_4_method_6_code 48 = .ok (.iconst 0, 1) := by decide +kernel
theorem dd_47_49 : decode prog_4_method_6_code 49 = .ok (.aload_n 3, 1) := by decide +kernel
theorem dd_47_50 : decode prog_4_method_6_code 50 = .ok (.iconst 0, 1) := by decide +kernel
theorem dd_47_51 : decode prog_4_method_6_code 51 = .ok (.iaload, 1) := by decide +kernel
theorem dd_47_52 : decode prog_4_method_6_code 52 = .ok (.iastore, 1) := by decide +kernel
theorem dd_47_53 : decode prog_4_method_6_code 53 = .ok (.iconst 1, 1) := by decide +kernel
theorem dd_47_54 : decode prog_4_method_6_code 54 = .ok (.istore 6, 2) := by decide +kernel
theorem dd_47_56 : decode prog_4_method_6_code 56 = .ok (.iload 6, 2) := by decide +kernel
theorem dd_47_58 : decode prog_4_method_6_code 58 = .ok (.iconst 4, 1) := by decide +kernel
theorem dd_47_59 : decode prog_4_method_6_code 59 = .ok (.if_icmp .gt 28, 3) := by decide +kernel
theorem dd_47_62 : decode prog_4_method_6_code 62 = .ok (.aload 4, 2) := by decide +kernel
theorem dd_47_64 : decode prog_4_method_6_code 64 = .ok (.iload 6, 2) := by decide +kernel
theorem dd_47_66 : decode prog_4_method_6_code 66 = .ok (.aload_n 3, 1) := by decide +kernel
theorem dd_47_67 : decode prog_4_method_6_code 67 = .ok (.iload 6, 2) := by decide +kernel
theorem dd_47_69 : decode prog_4_method_6_code 69 = .ok (.iaload, 1) := by decide +kernel
theorem dd_47_70 : decode prog_4_method_6_code 70 = .ok (.aload_n 3, 1) := by decide +kernel
theorem dd_47_71 : decode prog_4_method_6_code 71 = .ok (.iload 6, 2) := by decide +kernel
theorem dd_47_73 : decode prog_4_method_6_code 73 = .ok (.iconst 1, 1) := by decide +kernel
theorem dd_47_74 : decode prog_4_method_6_code 74 = .ok (.isub, 1) := by decide +kernel
theorem dd_47_75 : decode prog_4_method_6_code 75 = .ok (.iaload, 1) := by decide +kernel
theorem dd_47_76 : decode prog_4_method_6_code 76 = .ok (.iload 5, 2) := by decide +kernel
theorem dd_47_78 : decode prog_4_method_6_code 78 = .ok (.iand, 1) := by decide +kernel
theorem dd_47_79 : decode prog_4_method_6_code 79 = .ok (.ior, 1) := by decide +kernel
theorem dd_47_80 : decode prog_4_method_6_code 80 = .ok (.iastore, 1) := by decide +kernel
theorem dd_47_81 : decode prog_4_method_6_code 81 = .ok (.iinc 6 1, 3) := by decide +kernel
theorem dd_47_84 : decode prog_4_method_6_code 84 = .ok (.goto (-28), 3) := by decide +kernel
theorem dd_47_87 : decode prog_4_method_6_code 87 = .ok (.return_, 1) := by decide +kernel
theorem ks_47_0 : mi_snd cs_G cs_cl cs_inf 47 0 (mj_iload 2 1) := ms_iload_n (mi_dec ib_47 dd_47_0) rfl
theorem ks_47_1 : mi_snd cs_G cs_cl cs_inf 47 1 (mj_if (fun x => decide (x < 0)) 10 4) := ms_if_lt (mi_dec ib_47 dd_47_1) (by decide)
theorem ks_47_4 : mi_snd cs_G cs_cl cs_inf 47 4 (mj_iload 2 5) := ms_iload_n (mi_dec ib_47 dd_47_4) rfl
theorem ks_47_5 : mi_snd cs_G cs_cl cs_inf 47 5 (mj_push (.inl 16) 7) := ms_bipush (mi_dec ib_47 dd_47_5) (by decide)
theorem ks_47_7 : mi_snd cs_G cs_cl cs_inf 47 7 (mj_cmp (fun x y => decide (x < y)) 11 10) := ms_icmp_lt (mi_dec ib_47 dd_47_7) (by decide)
theorem ks_47_10 : mi_snd cs_G cs_cl cs_inf 47 10 (mj_ret) := ms_ret (mi_dec ib_47 dd_47_10) rfl
theorem ks_47_11 : mi_snd cs_G cs_cl cs_inf 47 11 (mj_aload 0 12) := ms_aload_n (mi_dec ib_47 dd_47_11) rfl
theorem ks_47_12 : mi_snd cs_G cs_cl cs_inf 47 12 (mj_get 4 1 15) := ms_get (T := cs_T4) (k := 1) (mi_dec ib_47 dd_47_12) rfl cs_in4 (by decide) gw_99
theorem ks_47_15 : mi_snd cs_G cs_cl cs_inf 47 15 (mj_iload 2 16) := ms_iload_n (mi_dec ib_47 dd_47_15) rfl
theorem ks_47_16 : mi_snd cs_G cs_cl cs_inf 47 16 (mj_aald 17) := ms_aald (mi_dec ib_47 dd_47_16)
theorem ks_47_17 : mi_snd cs_G cs_cl cs_inf 47 17 (mj_astore 3 18) := ms_astore_n (mi_dec ib_47 dd_47_17) rfl
theorem ks_47_18 : mi_snd cs_G cs_cl cs_inf 47 18 (mj_aload 0 19) := ms_aload_n (mi_dec ib_47 dd_47_18) rfl
theorem ks_47_19 : mi_snd cs_G cs_cl cs_inf 47 19 (mj_get 4 1 22) := ms_get (T := cs_T4) (k := 1) (mi_dec ib_47 dd_47_19) rfl cs_in4 (by decide) gw_99
theorem ks_47_22 : mi_snd cs_G cs_cl cs_inf 47 22 (mj_iload 2 23) := ms_iload_n (mi_dec ib_47 dd_47_22) rfl
theorem ks_47_23 : mi_snd cs_G cs_cl cs_inf 47 23 (mj_push (.inl 1) 24) := ms_iconst (mi_dec ib_47 dd_47_23) (by decide)
theorem ks_47_24 : mi_snd cs_G cs_cl cs_inf 47 24 (mj_bin (fun x y => x + y) 25) := ms_iadd (mi_dec ib_47 dd_47_24)
theorem ks_47_25 : mi_snd cs_G cs_cl cs_inf 47 25 (mj_aald 26) := ms_aald (mi_dec ib_47 dd_47_25)
theorem ks_47_26 : mi_snd cs_G cs_cl cs_inf 47 26 (mj_astore 4 28) := ms_astore (mi_dec ib_47 dd_47_26)
theorem ks_47_28 : mi_snd cs_G cs_cl cs_inf 47 28 (mj_aload 0 29) := ms_aload_n (mi_dec ib_47 dd_47_28) rfl
theorem ks_47_29 : mi_snd cs_G cs_cl cs_inf 47 29 (mj_get 4 0 32) := ms_get (T := cs_T4) (k := 0) (mi_dec ib_47 dd_47_29) rfl cs_in4 (by decide) gw_98
theorem ks_47_32 : mi_snd cs_G cs_cl cs_inf 47 32 (mj_iload 1 33) := ms_iload_n (mi_dec ib_47 dd_47_32) rfl
theorem ks_47_33 : mi_snd cs_G cs_cl cs_inf 47 33 (mj_callV 1 6 1 2 36) := ms_callVN iw_c6 (mi_dec ib_47 dd_47_33) gw_467 iw_i6 rfl iw_v6 iw_n6 (by decide +kernel) rfl (by decide)
theorem ks_47_36 : mi_snd cs_G cs_cl cs_inf 47 36 (mj_push (.inl (-1)) 37) := ms_iconst (mi_dec ib_47 dd_47_36) (by decide)
theorem ks_47_37 : mi_snd cs_G cs_cl cs_inf 47 37 (mj_bin (fun x y => x ^^^ y) 38) := ms_ixor (mi_dec ib_47 dd_47_37)
theorem ks_47_38 : mi_snd cs_G cs_cl cs_inf 47 38 (mj_push (.inl 1) 39) := ms_iconst (mi_dec ib_47 dd_47_38) (by decide)
theorem ks_47_39 : mi_snd cs_G cs_cl cs_inf 47 39 (mj_iload 1 40) := ms_iload_n (mi_dec ib_47 dd_47_39) rfl
theorem ks_47_40 : mi_snd cs_G cs_cl cs_inf 47 40 (mj_bin (fun x y => x <<< (y &&& 31)) 41) := ms_ishl (mi_dec ib_47 dd_47_40)
theorem ks_47_41 : mi_snd cs_G cs_cl cs_inf 47 41 (mj_push (.inl (-1)) 42) := ms_iconst (mi_dec ib_47 dd_47_41) (by decide)
theorem ks_47_42 : mi_snd cs_G cs_cl cs_inf 47 42 (mj_bin (fun x y => x ^^^ y) 43) := ms_ixor (mi_dec ib_47 dd_47_42)
theorem ks_47_43 : mi_snd cs_G cs_cl cs_inf 47 43 (mj_bin (fun x y => x &&& y) 44) := ms_iand (mi_dec ib_47 dd_47_43)
theorem ks_47_44 : mi_snd cs_G cs_cl cs_inf 47 44 (mj_istore 5 46) := ms_istore (mi_dec ib_47 dd_47_44)
theorem ks_47_46 : mi_snd cs_G cs_cl cs_inf 47 46 (mj_aload 4 48) := ms_aload (mi_dec ib_47 dd_47_46)
theorem ks_47_48 : mi_snd cs_G cs_cl cs_inf 47 48 (mj_push (.inl 0) 49) := ms_iconst (mi_dec ib_47 dd_47_48) (by decide)
theorem ks_47_49 : mi_snd cs_G cs_cl cs_inf 47 49 (mj_aload 3 50) := ms_aload_n (mi_dec ib_47 dd_47_49) rfl
theorem ks_47_50 : mi_snd cs_G cs_cl cs_inf 47 50 (mj_push (.inl 0) 51) := ms_iconst (mi_dec ib_47 dd_47_50) (by decide)
theorem ks_47_51 : mi_snd cs_G cs_cl cs_inf 47 51 (mj_ald 0 52) := ms_ald0 (mi_dec ib_47 dd_47_51)
theorem ks_47_52 : mi_snd cs_G cs_cl cs_inf 47 52 (mj_iast 53) := ms_iast (mi_dec ib_47 dd_47_52)
theorem ks_47_53 : mi_snd cs_G cs_cl cs_inf 47 53 (mj_push (.inl 1) 54) := ms_iconst (mi_dec ib_47 dd_47_53) (by decide)
theorem ks_47_54 : mi_snd cs_G cs_cl cs_inf 47 54 (mj_istore 6 56) := ms_istore (mi_dec ib_47 dd_47_54)
theorem ks_47_56 : mi_snd cs_G cs_cl cs_inf 47 56 (mj_iload 6 58) := ms_iload (mi_dec ib_47 dd_47_56)
theorem ks_47_58 : mi_snd cs_G cs_cl cs_inf 47 58 (mj_push (.inl 4) 59) := ms_iconst (mi_dec ib_47 dd_47_58) (by decide)
theorem ks_47_59 : mi_snd cs_G cs_cl cs_inf 47 59 (mj_cmp (fun x y => decide (y < x)) 87 62) := ms_icmp_gt (mi_dec ib_47 dd_47_59) (by decide)
theorem ks_47_62 : mi_snd cs_G cs_cl cs_inf 47 62 (mj_aload 4 64) := ms_aload (mi_dec ib_47 dd_47_62)
theorem ks_47_64 : mi_snd cs_G cs_cl cs_inf 47 64 (mj_iload 6 66) := ms_iload (mi_dec ib_47 dd_47_64)
theorem ks_47_66 : mi_snd cs_G cs_cl cs_inf 47 66 (mj_aload 3 67) := ms_aload_n (mi_dec ib_47 dd_47_66) rfl
theorem ks_47_67 : mi_snd cs_G cs_cl cs_inf 47 67 (mj_iload 6 69) := ms_iload (mi_dec ib_47 dd_47_67)
theorem ks_47_69 : mi_snd cs_G cs_cl cs_inf 47 69 (mj_ald 0 70) := ms_ald0 (mi_dec ib_47 dd_47_69)
theorem ks_47_70 : mi_snd cs_G cs_cl cs_inf 47 70 (mj_aload 3 71) := ms_aload_n (mi_dec ib_47 dd_47_70) rfl
theorem ks_47_71 : mi_snd cs_G cs_cl cs_inf 47 71 (mj_iload 6 73) := ms_iload (mi_dec ib_47 dd_47_71)
theorem ks_47_73 : mi_snd cs_G cs_cl cs_inf 47 73 (mj_push (.inl 1) 74) := ms_iconst (mi_dec ib_47 dd_47_73) (by decide)
theorem ks_47_74 : mi_snd cs_G cs_cl cs_inf 47 74 (mj_bin (fun x y => x - y) 75) := ms_isub (mi_dec ib_47 dd_47_74)
theorem ks_47_75 : mi_snd cs_G cs_cl cs_inf 47 75 (mj_ald 0 76) := ms_ald0 (mi_dec ib_47 dd_47_75)
theorem ks_47_76 : mi_snd cs_G cs_cl cs_inf 47 76 (mj_iload 5 78) := ms_iload (mi_dec ib_47 dd_47_76)
theorem ks_47_78 : mi_snd cs_G cs_cl cs_inf 47 78 (mj_bin (fun x y => x &&& y) 79) := ms_iand (mi_dec ib_47 dd_47_78)
theorem ks_47_79 : mi_snd cs_G cs_cl cs_inf 47 79 (mj_bin (fun x y => x ||| y) 80) := ms_ior (mi_dec ib_47 dd_47_79)
theorem ks_47_80 : mi_snd cs_G cs_cl cs_inf 47 80 (mj_iast 81) := ms_iast (mi_dec ib_47 dd_47_80)
theorem ks_47_81 : mi_snd cs_G cs_cl cs_inf 47 81 (mj_iinc 6 1 84) := ms_iinc (mi_dec ib_47 dd_47_81) (by decide)
theorem ks_47_84 : mi_snd cs_G cs_cl cs_inf 47 84 (mj_goto 56) := ms_goto (mi_dec ib_47 dd_47_84) (by decide)
theorem ks_47_87 : mi_snd cs_G cs_cl cs_inf 47 87 (mj_ret) := ms_ret (mi_dec ib_47 dd_47_87) rfl
def ct_47 : List (Nat × mi_I) := [
  (0, mj_iload 2 1),
  (1, mj_if (fun x => decide (x < 0)) 10 4),
  (4, mj_iload 2 5),
  (5, mj_push (.inl 16) 7),
  (7, mj_cmp (fun x y => decide (x < y)) 11 10),
  (10, mj_ret),
  (11, mj_aload 0 12),
  (12, mj_get 4 1 15),
  (15, mj_iload 2 16),
  (16, mj_aald 17),
  (17, mj_astore 3 18),
  (18, mj_aload 0 19),
  (19, mj_get 4 1 22),
  (22, mj_iload 2 23),
  (23, mj_push (.inl 1) 24),
  (24, mj_bin (fun x y => x + y) 25),
  (25, mj_aald 26),
  (26, mj_astore 4 28),
  (28, mj_aload 0 29),
  (29, mj_get 4 0 32),
  (32, mj_iload 1 33),
  (33, mj_callV 1 6 1 2 36),
  (36, mj_push (.inl (-1)) 37),
  (37, mj_bin (fun x y => x ^^^ y) 38),
  (38, mj_push (.inl 1) 39),
  (39, mj_iload 1 40),
  (40, mj_bin (fun x y => x <<< (y &&& 31)) 41),
  (41, mj_push (.inl (-1)) 42),
  (42, mj_bin (fun x y => x ^^^ y) 43),
  (43, mj_bin (fun x y => x &&& y) 44),
  (44, mj_istore 5 46),
  (46, mj_aload 4 48),
  (48, mj_push (.inl 0) 49),
  (49, mj_aload 3 50),
  (50, mj_push (.inl 0) 51),
  (51, mj_ald 0 52),
  (52, mj_iast 53),
  (53, mj_push (.inl 1) 54),
  (54, mj_istore 6 56),
  (56, mj_iload 6 58),
  (58, mj_push (.inl 4) 59),
  (59, mj_cmp (fun x y => decide (y < x)) 87 62),
  (62, mj_aload 4 64),
  (64, mj_iload 6 66),
  (66, mj_aload 3 67),
  (67, mj_iload 6 69),
  (69, mj_ald 0 70),
  (70, mj_aload 3 71),
  (71, mj_iload 6 73),
  (73, mj_push (.inl 1) 74),
  (74, mj_bin (fun x y => x - y) 75),
  (75, mj_ald 0 76),
  (76, mj_iload 5 78),
  (78, mj_bin (fun x y => x &&& y) 79),
  (79, mj_bin (fun x y => x ||| y) 80),
  (80, mj_iast 81),
  (81, mj_iinc 6 1 84),
  (84, mj_goto 56),
  (87, mj_ret)]
theorem sd_47 : ∀ q ∈ ct_47, mi_snd cs_G cs_cl cs_inf 47 q.1 q.2 := mi_fc ks_47_0 (mi_fc ks_47_1 (mi_fc ks_47_4 (mi_fc ks_47_5 (mi_fc ks_47_7 (mi_fc ks_47_10 (mi_fc ks_47_11 (mi_fc ks_47_12 (mi_fc ks_47_15 (mi_fc ks_47_16 (mi_fc ks_47_17 (mi_fc ks_47_18 (mi_fc ks_47_19 (mi_fc ks_47_22 (mi_fc ks_47_23 (mi_fc ks_47_24 (mi_fc ks_47_25 (mi_fc ks_47_26 (mi_fc ks_47_28 (mi_fc ks_47_29 (mi_fc ks_47_32 (mi_fc ks_47_33 (mi_fc ks_47_36 (mi_fc ks_47_37 (mi_fc ks_47_38 (mi_fc ks_47_39 (mi_fc ks_47_40 (mi_fc ks_47_41 (mi_fc ks_47_42 (mi_fc ks_47_43 (mi_fc ks_47_44 (mi_fc ks_47_46 (mi_fc ks_47_48 (mi_fc ks_47_49 (mi_fc ks_47_50 (mi_fc ks_47_51 (mi_fc ks_47_52 (mi_fc ks_47_53 (mi_fc ks_47_54 (mi_fc ks_47_56 (mi_fc ks_47_58 (mi_fc ks_47_59 (mi_fc ks_47_62 (mi_fc ks_47_64 (mi_fc ks_47_66 (mi_fc ks_47_67 (mi_fc ks_47_69 (mi_fc ks_47_70 (mi_fc ks_47_71 (mi_fc ks_47_73 (mi_fc ks_47_74 (mi_fc ks_47_75 (mi_fc ks_47_76 (mi_fc ks_47_78 (mi_fc ks_47_79 (mi_fc ks_47_80 (mi_fc ks_47_81 (mi_fc ks_47_84 (mi_fc ks_47_87 mi_fn))))))))))))))))))))))))))))))))))))))))))))))))))))))))))
theorem dd_48_0 : decode prog_4_method_7_code 0 = .ok (.iload_n 3, 1) := by decide +kernel
theorem dd_48_1 : decode prog_4_method_7_code 1 = .ok (.ifCond .lt 9, 3) := by decide +kernel
theorem dd_48_4 : decode prog_4_method_7_code 4 = .ok (.iload_n 3, 1) := by decide +kernel
theorem dd_48_5 : decode prog_4_method_7_code 5 = .ok (.bipush 16, 2) := by decide +kernel
theorem dd_48_7 : decode prog_4_method_7_code 7 = .ok (.if_icmp .le 5, 3) := by decide +kernel
theorem dd_48_10 : decode prog_4_method_7_code 10 = .ok (.iconst 0, 1) := by decide +kernel
theorem dd_48_11 : decode prog_4_method_7_code 11 = .ok (.ireturn, 1) := by decide +kernel
theorem dd_48_12 : decode prog_4_method_7_code 12 = .ok (.iload_n 1, 1) := by decide +kernel
theorem dd_48_13 : decode prog_4_method_7_code 13 = .ok (.aload_n 0, 1) := by decide +kernel
theorem dd_48_14 : decode prog_4_method_7_code 14 = .ok (.getfield 11, 3) := by decide +kernel
theorem dd_48_17 : decode prog_4_method_7_code 17 = .ok (.iload_n 3, 1) := by decide +kernel
theorem dd_48_18 : decode prog_4_method_7_code 18 = .ok (.aaload, 1) := by decide +kernel
theorem dd_48_19 : decode prog_4_method_7_code 19 = .ok (.aload_n 0, 1) := by decide +kernel
theorem dd_48_20 : decode prog_4_method_7_code 20 = .ok (.getfield 33, 3) := by decide +kernel
theorem dd_48_23 : decode prog_4_method_7_code 23 = .ok (.iaload, 1) := by decide +kernel
theorem dd_48_24 : decode prog_4_method_7_code 24 = .ok (.iand, 1) := by decide +kernel
theorem dd_48_25 : decode prog_4_method_7_code 25 = .ok (.istore 4, 2) := by decide +kernel
theorem dd_48_27 : decode prog_4_method_7_code 27 = .ok (.iload_n 2, 1) := by decide +kernel
theorem dd_48_28 : decode prog_4_method_7_code 28 = .ok (.aload_n 0, 1) := by decide +kernel
theorem dd_48_29 : decode prog_4_method_7_code 29 = .ok (.getfield 11, 3) := by decide +kernel
theorem dd_48_32 : decode prog_4_method_7_code 32 = .ok (.iload_n 3, 1) := by decide +kernel
theorem dd_48_33 : decode prog_4_method_7_code 33 = .ok (.aaload, 1) := by decide +kernel
theorem dd_48_34 : decode prog_4_method_7_code 34 = .ok (.aload_n 0, 1) := by decide +kernel
theorem dd_48_35 : decode prog_4_method_7_code 35 = .ok (.getfield 33, 3) := by decide +kernel
theorem dd_48_38 : decode prog_4_method_7_code 38 = .ok (.iconst 1, 1) := by decide +kernel
theorem dd_48_39 : decode prog_4_method_7_code 39 = .ok (.iadd, 1) := by decide +kernel
theorem dd_48_40 : decode prog_4_method_7_code 40 = .ok (.iaload, 1) := by decide +kernel
theorem dd_48_41 : decode prog_4_method_7_code 41 = .ok (.iconst (-1), 1) := by decide +kernel
theorem dd_48_42 : decode prog_4_method_7_code 42 = .ok (.ixor, 1) := by decide +kernel
theorem dd_48_43 : decode prog_4_method_7_code 43 = .ok (.iand, 1) := by decide +kernel
theorem dd_48_44 : decode prog_4_method_7_code 44 = .ok (.istore 5, 2) := by decide +kernel
theorem dd_48_46 : decode prog_4_method_7_code 46 = .ok (.iconst 0, 1) := by decide +kernel
theorem dd_48_47 : decode prog_4_method_7_code 47 = .ok (.istore 6, 2) := by decide +kernel
theorem dd_48_49 : decode prog_4_method_7_code 49 = .ok (.iload 6, 2) := by decide +kernel
theorem dd_48_51 : decode prog_4_method_7_code 51 = .ok (.bipush 16, 2) := by decide +kernel
theorem dd_48_53 : decode prog_4_method_7_code 53 = .ok (.if_icmp .ge 42, 3) := by decide +kernel
theorem dd_48_56 : decode prog_4_method_7_code 56 = .ok (.iload 4, 2) := by decide +kernel
theorem dd_48_58 : decode prog_4_method_7_code 58 = .ok (.ifCond .eq 37, 3) := by decide +kernel
theorem dd_48_61 : decode prog_4_method_7_code 61 = .ok (.iload 5, 2) := by decide +kernel
theorem dd_48_63 : decode prog_4_method_7_code 63 = .ok (.iload 4, 2) := by decide +kernel
theorem dd_48_65 : decode prog_4_method_7_code 65 = .ok (.iload 6, 2) := by decide +kernel
theorem dd_48_67 : decode prog_4_method_7_code 67 = .ok (.invokestatic 72, 3) := by decide +kernel
theorem dd_48_70 : decode prog_4_method_7_code 70 = .ok (.ifCond .eq 15, 3) := by decide +kernel
theorem dd_48_73 : decode prog_4_method_7_code 73 = .ok (.aload_n 0, 1) := by decide +kernel
theorem dd_48_74 : decode prog_4_method_7_code 74 = .ok (.getfield 20, 3) := by decide +kernel
theorem dd_48_77 : decode prog_4_method_7_code 77 = .ok (.iload 6, 2) := by decide +kernel
theorem dd_48_79 : decode prog_4_method_7_code 79 = .ok (.invokevirtual 91, 3) := by decide +kernel
theorem dd_48_82 : decode prog_4_method_7_code 82 = .ok (.goto 4, 3) := by decide +kernel
theorem dd_48_85 : decode prog_4_method_7_code 85 = .ok (.iconst (-1), 1) := by decide +kernel
theorem dd_48_86 : decode prog_4_method_7_code 86 = .ok (.iand, 1) := by decide +kernel
theorem dd_48_87 : decode prog_4_method_7_code 87 = .ok (.istore 5, 2) := by decide +kernel
theorem dd_48_89 : decode prog_4_method_7_code 89 = .ok (.iinc 6 1, 3) := by decide +kernel
theorem dd_48_92 : decode prog_4_method_7_code 92 = .ok (.goto (-43), 3) := by decide +kernel
theorem dd_48_95 : decode prog_4_method_7_code 95 = .ok (.iload 5, 2) := by decide +kernel
theorem dd_48_97 : decode prog_4_method_7_code 97 = .ok (.ireturn, 1) := by decide +kernel
theorem ks_48_0 : mi_snd cs_G cs_cl cs_inf 48 0 (mj_iload 3 1) := ms_iload_n (mi_dec ib_48 dd_48_0) rfl
theorem ks_48_1 : mi_snd cs_G cs_cl cs_inf 48 1 (mj_if (fun x => decide (x < 0)) 10 4) := ms_if_lt (mi_dec ib_48 dd_48_1) (by decide)
theorem ks_48_4 : mi_snd cs_G cs_cl cs_inf 48 4 (mj_iload 3 5) := ms_iload_n (mi_dec ib_48 dd_48_4) rfl
theorem ks_48_5 : mi_snd cs_G cs_cl cs_inf 48 5 (mj_push (.inl 16) 7) := ms_bipush (mi_dec ib_48 dd_48_5) (by decide)
theorem ks_48_7 : mi_snd cs_G cs_cl cs_inf 48 7 (mj_cmp (fun x y => decide (x ≤ y)) 12 10) := ms_icmp_le (mi_dec ib_48 dd_48_7) (by decide)
theorem ks_48_10 : mi_snd cs_G cs_cl cs_inf 48 10 (mj_push (.inl 0) 11) := ms_iconst (mi_dec ib_48 dd_48_10) (by decide)
theorem ks_48_11 : mi_snd cs_G cs_cl cs_inf 48 11 (mj_iret) := ms_iret (mi_dec ib_48 dd_48_11) rfl
theorem ks_48_12 : mi_snd cs_G cs_cl cs_inf 48 12 (mj_iload 1 13) := ms_iload_n (mi_dec ib_48 dd_48_12) rfl
theorem ks_48_13 : mi_snd cs_G cs_cl cs_inf 48 13 (mj_aload 0 14) := ms_aload_n (mi_dec ib_48 dd_48_13) rfl
theorem ks_48_14 : mi_snd cs_G cs_cl cs_inf 48 14 (mj_get 4 1 17) := ms_get (T := cs_T4) (k := 1) (mi_dec ib_48 dd_48_14) rfl cs_in4 (by decide) gw_99
theorem ks_48_17 : mi_snd cs_G cs_cl cs_inf 48 17 (mj_iload 3 18) := ms_iload_n (mi_dec ib_48 dd_48_17) rfl
theorem ks_48_18 : mi_snd cs_G cs_cl cs_inf 48 18 (mj_aald 19) := ms_aald (mi_dec ib_48 dd_48_18)
theorem ks_48_19 : mi_snd cs_G cs_cl cs_inf 48 19 (mj_aload 0 20) := ms_aload_n (mi_dec ib_48 dd_48_19) rfl
theorem ks_48_20 : mi_snd cs_G cs_cl cs_inf 48 20 (mj_get 4 3 23) := ms_get (T := cs_T4) (k := 3) (mi_dec ib_48 dd_48_20) rfl cs_in4 (by decide) gw_101
theorem ks_48_23 : mi_snd cs_G cs_cl cs_inf 48 23 (mj_ald 0 24) := ms_ald0 (mi_dec ib_48 dd_48_23)
theorem ks_48_24 : mi_snd cs_G cs_cl cs_inf 48 24 (mj_bin (fun x y => x &&& y) 25) := ms_iand (mi_dec ib_48 dd_48_24)
theorem ks_48_25 : mi_snd cs_G cs_cl cs_inf 48 25 (mj_istore 4 27) := ms_istore (mi_dec ib_48 dd_48_25)
theorem ks_48_27 : mi_snd cs_G cs_cl cs_inf 48 27 (mj_iload 2 28) := ms_iload_n (mi_dec ib_48 dd_48_27) rfl
theorem ks_48_28 : mi_snd cs_G cs_cl cs_inf 48 28 (mj_aload 0 29) := ms_aload_n (mi_dec ib_48 dd_48_28) rfl
theorem ks_48_29 : mi_snd cs_G cs_cl cs_inf 48 29 (mj_get 4 1 32) := ms_get (T := cs_T4) (k := 1) (mi_dec ib_48 dd_48_29) rfl cs_in4 (by decide) gw_99
theorem ks_48_32 : mi_snd cs_G cs_cl cs_inf 48 32 (mj_iload 3 33) := ms_iload_n (mi_dec ib_48 dd_48_32) rfl
theorem ks_48_33 : mi_snd cs_G cs_cl cs_inf 48 33 (mj_aald 34) := ms_aald (mi_dec ib_48 dd_48_33)
theorem ks_48_34 : mi_snd cs_G cs_cl cs_inf 48 34 (mj_aload 0 35) := ms_aload_n (mi_dec ib_48 dd_48_34) rfl
theorem ks_48_35 : mi_snd cs_G cs_cl cs_inf 48 35 (mj_get 4 3 38) := ms_get (T := cs_T4) (k := 3) (mi_dec ib_48 dd_48_35) rfl cs_in4 (by decide) gw_101
theorem ks_48_38 : mi_snd cs_G cs_cl cs_inf 48 38 (mj_push (.inl 1) 39) := ms_iconst (mi_dec ib_48 dd_48_38) (by decide)
theorem ks_48_39 : mi_snd cs_G cs_cl cs_inf 48 39 (mj_bin (fun x y => x + y) 40) := ms_iadd (mi_dec ib_48 dd_48_39)
theorem ks_48_40 : mi_snd cs_G cs_cl cs_inf 48 40 (mj_ald 0 41) := ms_ald0 (mi_dec ib_48 dd_48_40)
theorem ks_48_41 : mi_snd cs_G cs_cl cs_inf 48 41 (mj_push (.inl (-1)) 42) := ms_iconst (mi_dec ib_48 dd_48_41) (by decide)
theorem ks_48_42 : mi_snd cs_G cs_cl cs_inf 48 42 (mj_bin (fun x y => x ^^^ y) 43) := ms_ixor (mi_dec ib_48 dd_48_42)
theorem ks_48_43 : mi_snd cs_G cs_cl cs_inf 48 43 (mj_bin (fun x y => x &&& y) 44) := ms_iand (mi_dec ib_48 dd_48_43)
theorem ks_48_44 : mi_snd cs_G cs_cl cs_inf 48 44 (mj_istore 5 46) := ms_istore (mi_dec ib_48 dd_48_44)
theorem ks_48_46 : mi_snd cs_G cs_cl cs_inf 48 46 (mj_push (.inl 0) 47) := ms_iconst (mi_dec ib_48 dd_48_46) (by decide)
theorem ks_48_47 : mi_snd cs_G cs_cl cs_inf 48 47 (mj_istore 6 49) := ms_istore (mi_dec ib_48 dd_48_47)
theorem ks_48_49 : mi_snd cs_G cs_cl cs_inf 48 49 (mj_iload 6 51) := ms_iload (mi_dec ib_48 dd_48_49)
theorem ks_48_51 : mi_snd cs_G cs_cl cs_inf 48 51 (mj_push (.inl 16) 53) := ms_bipush (mi_dec ib_48 dd_48_51) (by decide)
theorem ks_48_53 : mi_snd cs_G cs_cl cs_inf 48 53 (mj_cmp (fun x y => decide (y ≤ x)) 95 56) := ms_icmp_ge (mi_dec ib_48 dd_48_53) (by decide)
theorem ks_48_56 : mi_snd cs_G cs_cl cs_inf 48 56 (mj_iload 4 58) := ms_iload (mi_dec ib_48 dd_48_56)
theorem ks_48_58 : mi_snd cs_G cs_cl cs_inf 48 58 (mj_if (fun x => decide (x = 0)) 95 61) := ms_if_eq (mi_dec ib_48 dd_48_58) (by decide)
theorem ks_48_61 : mi_snd cs_G cs_cl cs_inf 48 61 (mj_iload 5 63) := ms_iload (mi_dec ib_48 dd_48_61)
theorem ks_48_63 : mi_snd cs_G cs_cl cs_inf 48 63 (mj_iload 4 65) := ms_iload (mi_dec ib_48 dd_48_63)
theorem ks_48_65 : mi_snd cs_G cs_cl cs_inf 48 65 (mj_iload 6 67) := ms_iload (mi_dec ib_48 dd_48_65)
theorem ks_48_67 : mi_snd cs_G cs_cl cs_inf 48 67 (mj_callS 7 2 2 70) := ms_callSN iw_c7 (mi_dec ib_48 dd_48_67) gw_458 iw_s7 iw_n7 (by decide +kernel) rfl (by decide)
theorem ks_48_70 : mi_snd cs_G cs_cl cs_inf 48 70 (mj_if (fun x => decide (x = 0)) 85 73) := ms_if_eq (mi_dec ib_48 dd_48_70) (by decide)
theorem ks_48_73 : mi_snd cs_G cs_cl cs_inf 48 73 (mj_aload 0 74) := ms_aload_n (mi_dec ib_48 dd_48_73) rfl
theorem ks_48_74 : mi_snd cs_G cs_cl cs_inf 48 74 (mj_get 4 0 77) := ms_get (T := cs_T4) (k := 0) (mi_dec ib_48 dd_48_74) rfl cs_in4 (by decide) gw_98
theorem ks_48_77 : mi_snd cs_G cs_cl cs_inf 48 77 (mj_iload 6 79) := ms_iload (mi_dec ib_48 dd_48_77)
theorem ks_48_79 : mi_snd cs_G cs_cl cs_inf 48 79 (mj_callV 1 6 1 2 82) := ms_callVN iw_c6 (mi_dec ib_48 dd_48_79) gw_467 iw_i6 rfl iw_v6 iw_n6 (by decide +kernel) rfl (by decide)
theorem ks_48_82 : mi_snd cs_G cs_cl cs_inf 48 82 (mj_goto 86) := ms_goto (mi_dec ib_48 dd_48_82) (by decide)
theorem ks_48_85 : mi_snd cs_G cs_cl cs_inf 48 85 (mj_push (.inl (-1)) 86) := ms_iconst (mi_dec ib_48 dd_48_85) (by decide)
theorem ks_48_86 : mi_snd cs_G cs_cl cs_inf 48 86 (mj_bin (fun x y => x &&& y) 87) := ms_iand (mi_dec ib_48 dd_48_86)
theorem ks_48_87 : mi_snd cs_G cs_cl cs_inf 48 87 (mj_istore 5 89) := ms_istore (mi_dec ib_48 dd_48_87)
theorem ks_48_89 : mi_snd cs_G cs_cl cs_inf 48 89 (mj_iinc 6 1 92) := ms_iinc (mi_dec ib_48 dd_48_89) (by decide)
theorem ks_48_92 : mi_snd cs_G cs_cl cs_inf 48 92 (mj_goto 49) := ms_goto (mi_dec ib_48 dd_48_92) (by decide)
theorem ks_48_95 : mi_snd cs_G cs_cl cs_inf 48 95 (mj_iload 5 97) := ms_iload (mi_dec ib_48 dd_48_95)
theorem ks_48_97 : mi_snd cs_G cs_cl cs_inf 48 97 (mj_iret) := ms_iret (mi_dec ib_48 dd_48_97) rfl
def ct_48 : List (Nat × mi_I) := [
  (0, mj_iload 3 1),
  (1, mj_if (fun x => decide (x < 0)) 10 4),
  (4, mj_iload 3 5),
  (5, mj_push (.inl 16) 7),
  (7, mj_cmp (fun x y => decide (x ≤ y)) 12 10),
  (10, mj_push (.inl 0) 11),
  (11, mj_iret),
  (12, mj_iload 1 13),
  (13, mj_aload 0 14),
  (14, mj_get 4 1 17),
  (17, mj_iload 3 18),
  (18, mj_aald 19),
  (19, mj_aload 0 20),
  (20, mj_get 4 3 23),
  (23, mj_ald 0 24),
  (24, mj_bin (fun x y => x &&& y) 25),
  (25, mj_istore 4 27),
  (27, mj_iload 2 28),
  (28, mj_aload 0 29),
  (29, mj_get 4 1 32),
  (32, mj_iload 3 33),
  (33, mj_aald 34),
  (34, mj_aload 0 35),
  (35, mj_get 4 3 38),
  (38, mj_push (.inl 1) 39),
  (39, mj_bin (fun x y => x + y) 40),
  (40, mj_ald 0 41),
  (41, mj_push (.inl (-1)) 42),
  (42, mj_bin (fun x y => x ^^^ y) 43),
  (43, mj_bin (fun x y => x &&& y) 44),
  (44, mj_istore 5 46),
  (46, mj_push (.inl 0) 47),
  (47, mj_istore 6 49),
  (49, mj_iload 6 51),
  (51, mj_push (.inl 16) 53),
  (53, mj_cmp (fun x y => decide (y ≤ x)) 95 56),
  (56, mj_iload 4 58),
  (58, mj_if (fun x => decide (x = 0)) 95 61),
  (61, mj_iload 5 63),
  (63, mj_iload 4 65),
  (65, mj_iload 6 67),
  (67, mj_callS 7 2 2 70),
  (70, mj_if (fun x => decide (x = 0)) 85 73),
  (73, mj_aload 0 74),
  (74, mj_get 4 0 77),
  (77, mj_iload 6 79),
  (79, mj_callV 1 6 1 2 82),
  (82, mj_goto 86),
  (85, mj_push (.inl (-1)) 86),
  (86, mj_bin (fun x y => x &&& y) 87),
  (87, mj_istore 5 89),
  (89, mj_iinc 6 1 92),
  (92, mj_goto 49),
  (95, mj_iload 5 97),
  (97, mj_iret)]
theorem sd_48 : ∀ q ∈ ct_48, mi_snd cs_G cs_cl cs_inf 48 q.1 q.2 := mi_fc ks_48_0 (mi_fc ks_48_1 (mi_fc ks_48_4 (mi_fc ks_48_5 (mi_fc ks_48_7 (mi_fc ks_48_10 (mi_fc ks_48_11 (mi_fc ks_48_12 (mi_fc ks_48_13 (mi_fc ks_48_14 (mi_fc ks_48_17 (mi_fc ks_48_18 (mi_fc ks_48_19 (mi_fc ks_48_20 (mi_fc ks_48_23 (mi_fc ks_48_24 (mi_fc ks_48_25 (mi_fc ks_48_27 (mi_fc ks_48_28 (mi_fc ks_48_29 (mi_fc ks_48_32 (mi_fc ks_48_33 (mi_fc ks_48_34 (mi_fc ks_48_35 (mi_fc ks_48_38 (mi_fc ks_48_39 (mi_fc ks_48_40 (mi_fc ks_48_41 (mi_fc ks_48_42 (mi_fc ks_48_43 (mi_fc ks_48_44 (mi_fc ks_48_46 (mi_fc ks_48_47 (mi_fc ks_48_49 (mi_fc ks_48_51 (mi_fc ks_48_53 (mi_fc ks_48_56 (mi_fc ks_48_58 (mi_fc ks_48_61 (mi_fc ks_48_63 (mi_fc ks_48_65 (mi_fc ks_48_67 (mi_fc ks_48_70 (mi_fc ks_48_73 (mi_fc ks_48_74 (mi_fc ks_48_77 (mi_fc ks_48_79 (mi_fc ks_48_82 (mi_fc ks_48_85 (mi_fc ks_48_86 (mi_fc ks_48_87 (mi_fc ks_48_89 (mi_fc ks_48_92 (mi_fc ks_48_95 (mi_fc ks_48_97 mi_fn))))))))))))))))))))))))))))))))))))))))))))))))))))))
theorem dd_49_0 : decode prog_1_method_14_code 0 = .ok (.aload_n 0, 1) := by decide +kernel
theorem dd_49_1 : decode prog_1_method_14_code 1 = .ok (.getfield 10, 3) := by decide +kernel
theorem dd_49_4 : decode prog_1_method_14_code 4 = .ok (.iload_n 1, 1) := by decide +kernel
theorem dd_49_5 : decode prog_1_method_14_code 5 = .ok (.invokevirtual 131, 3) := by decide +kernel
theorem dd_49_8 : decode prog_1_method_14_code 8 = .ok (.ifCond .eq 18, 3) := by decide +kernel
theorem dd_49_11 : decode prog_1_method_14_code 11 = .ok (.aload_n 0, 1) := by decide +kernel
theorem dd_49_12 : decode prog_1_method_14_code 12 = .ok (.getfield 10, 3) := by decide +kernel
theorem dd_49_15 : decode prog_1_method_14_code 15 = .ok (.iload_n 1, 1) := by decide +kernel
theorem dd_49_16 : decode prog_1_method_14_code 16 = .ok (.aload_n 0, 1) := by decide +kernel
theorem dd_49_17 : decode prog_1_method_14_code 17 = .ok (.getfield 72, 3) := by decide +kernel
theorem dd_49_20 : decode prog_1_method_14_code 20 = .ok (.invokevirtual 134, 3) := by decide +kernel
theorem dd_49_23 : decode prog_1_method_14_code 23 = .ok (.goto 4, 3) := by decide +kernel
theorem dd_49_26 : decode prog_1_method_14_code 26 = .ok (.iconst (-1), 1) := by decide +kernel
theorem dd_49_27 : decode prog_1_method_14_code 27 = .ok (.ireturn, 1) := by decide +kernel
theorem ks_49_0 : mi_snd cs_G cs_cl cs_inf 49 0 (mj_aload 0 1) := ms_aload_n (mi_dec ib_49 dd_49_0) rfl
theorem ks_49_1 : mi_snd cs_G cs_cl cs_inf 49 1 (mj_get 0 0 4) := ms_get (T := cs_T0) (k := 0) (mi_dec ib_49 dd_49_1) rfl cs_in0 (by decide) gw_231
theorem ks_49_4 : mi_snd cs_G cs_cl cs_inf 49 4 (mj_iload 1 5) := ms_iload_n (mi_dec ib_49 dd_49_4) rfl
theorem ks_49_5 : mi_snd cs_G cs_cl cs_inf 49 5 (mj_callV 1 50 1 2 8) := ms_callVN iw_c50 (mi_dec ib_49 dd_49_5) gw_477 iw_i50 rfl iw_v50 iw_n50 (by decide +kernel) rfl (by decide)
theorem ks_49_8 : mi_snd cs_G cs_cl cs_inf 49 8 (mj_if (fun x => decide (x = 0)) 26 11) := ms_if_eq (mi_dec ib_49 dd_49_8) (by decide)
theorem ks_49_11 : mi_snd cs_G cs_cl cs_inf 49 11 (mj_aload 0 12) := ms_aload_n (mi_dec ib_49 dd_49_11) rfl
theorem ks_49_12 : mi_snd cs_G cs_cl cs_inf 49 12 (mj_get 0 0 15) := ms_get (T := cs_T0) (k := 0) (mi_dec ib_49 dd_49_12) rfl cs_in0 (by decide) gw_231
theorem ks_49_15 : mi_snd cs_G cs_cl cs_inf 49 15 (mj_iload 1 16) := ms_iload_n (mi_dec ib_49 dd_49_15) rfl
theorem ks_49_16 : mi_snd cs_G cs_cl cs_inf 49 16 (mj_aload 0 17) := ms_aload_n (mi_dec ib_49 dd_49_16) rfl
theorem ks_49_17 : mi_snd cs_G cs_cl cs_inf 49 17 (mj_get 0 9 20) := ms_get (T := cs_T0) (k := 9) (mi_dec ib_49 dd_49_17) rfl cs_in0 (by decide) gw_240
theorem ks_49_20 : mi_snd cs_G cs_cl cs_inf 49 20 (mj_callV 1 43 2 6 23) := ms_callVN iw_c43 (mi_dec ib_49 dd_49_20) gw_482 iw_i43 rfl iw_v43 iw_n43 (by decide +kernel) rfl (by decide)
theorem ks_49_23 : mi_snd cs_G cs_cl cs_inf 49 23 (mj_goto 27) := ms_goto (mi_dec ib_49 dd_49_23) (by decide)
theorem ks_49_26 : mi_snd cs_G cs_cl cs_inf 49 26 (mj_push (.inl (-1)) 27) := ms_iconst (mi_dec ib_49 dd_49_26) (by decide)
theorem ks_49_27 : mi_snd cs_G cs_cl cs_inf 49 27 (mj_iret) := ms_iret (mi_dec ib_49 dd_49_27) rfl
def ct_49 : List (Nat × mi_I) := [
  (0, mj_aload 0 1),
  (1, mj_get 0 0 4),
  (4, mj_iload 1 5),
  (5, mj_callV 1 50 1 2 8),
  (8, mj_if (fun x => decide (x = 0)) 26 11),
  (11, mj_aload 0 12),
  (12, mj_get 0 0 15),
  (15, mj_iload 1 16),
  (16, mj_aload 0 17),
  (17, mj_get 0 9 20),
  (20, mj_callV 1 43 2 6 23),
  (23, mj_goto 27),
  (26, mj_push (.inl (-1)) 27),
  (27, mj_iret)]
theorem sd_49 : ∀ q ∈ ct_49, mi_snd cs_G cs_cl cs_inf 49 q.1 q.2 := mi_fc ks_49_0 (mi_fc ks_49_1 (mi_fc ks_49_4 (mi_fc ks_49_5 (mi_fc ks_49_8 (mi_fc ks_49_11 (mi_fc ks_49_12 (mi_fc ks_49_15 (mi_fc ks_49_16 (mi_fc ks_49_17 (mi_fc ks_49_20 (mi_fc ks_49_23 (mi_fc ks_49_26 (mi_fc ks_49_27 mi_fn)))))))))))))
theorem dd_50_0 : decode prog_5_method_4_code 0 = .ok (.iload_n 1, 1) := by decide +kernel
theorem dd_50_1 : decode prog_5_method_4_code 1 = .ok (.aload_n 0, 1) := by decide +kernel
theorem dd_50_2 : decode prog_5_method_4_code 2 = .ok (.invokevirtual 22, 3) := by decide +kernel
theorem dd_50_5 : decode prog_5_method_4_code 5 = .ok (.iconst (-1), 1) := by decide +kernel
theorem dd_50_6 : decode prog_5_method_4_code 6 = .ok (.ixor, 1) := by decide +kernel
theorem dd_50_7 : decode prog_5_method_4_code 7 = .ok (.iand, 1) := by decide +kernel
theorem dd_50_8 : decode prog_5_method_4_code 8 = .ok (.ifCond .ne 7, 3) := by decide +kernel
theorem dd_50_11 : decode prog_5_method_4_code 11 = .ok (.iconst 1, 1) := by decide +kernel
theorem dd_50_12 : decode prog_5_method_4_code 12 = .ok (.goto 4, 3) := by decide +kernel
theorem dd_50_15 : decode prog_5_method_4_code 15 = .ok (.iconst 0, 1) := by decide +kernel
theorem dd_50_16 : decode prog_5_method_4_code 16 = .ok (.ireturn, 1) := by decide +kernel
theorem ks_50_0 : mi_snd cs_G cs_cl cs_inf 50 0 (mj_iload 1 1) := ms_iload_n (mi_dec ib_50 dd_50_0) rfl
theorem ks_50_1 : mi_snd cs_G cs_cl cs_inf 50 1 (mj_aload 0 2) := ms_aload_n (mi_dec ib_50 dd_50_1) rfl
theorem ks_50_2 : mi_snd cs_G cs_cl cs_inf 50 2 (mj_callV 1 15 0 1 5) := ms_callV iw_c15 (mi_dec ib_50 dd_50_2) gw_481 iw_i15 rfl iw_v15 iw_n15 (by decide +kernel) rfl (by decide)
theorem ks_50_5 : mi_snd cs_G cs_cl cs_inf 50 5 (mj_push (.inl (-1)) 6) := ms_iconst (mi_dec ib_50 dd_50_5) (by decide)
theorem ks_50_6 : mi_snd cs_G cs_cl cs_inf 50 6 (mj_bin (fun x y => x ^^^ y) 7) := ms_ixor (mi_dec ib_50 dd_50_6)
theorem ks_50_7 : mi_snd cs_G cs_cl cs_inf 50 7 (mj_bin (fun x y => x &&& y) 8) := ms_iand (mi_dec ib_50 dd_50_7)
theorem ks_50_8 : mi_snd cs_G cs_cl cs_inf 50 8 (mj_if (fun x => decide (¬ x = 0)) 15 11) := ms_if_ne (mi_dec ib_50 dd_50_8) (by decide)
theorem ks_50_11 : mi_snd cs_G cs_cl cs_inf 50 11 (mj_push (.inl 1) 12) := ms_iconst (mi_dec ib_50 dd_50_11) (by decide)
theorem ks_50_12 : mi_snd cs_G cs_cl cs_inf 50 12 (mj_goto 16) := ms_goto (mi_dec ib_50 dd_50_12) (by decide)
theorem ks_50_15 : mi_snd cs_G cs_cl cs_inf 50 15 (mj_push (.inl 0) 16) := ms_iconst (mi_dec ib_50 dd_50_15) (by decide)
theorem ks_50_16 : mi_snd cs_G cs_cl cs_inf 50 16 (mj_zret) := ms_zret (mi_dec ib_50 dd_50_16) rfl
def ct_50 : List (Nat × mi_I) := [
  (0, mj_iload 1 1),
  (1, mj_aload 0 2),
  (2, mj_callV 1 15 0 1 5),
  (5, mj_push (.inl (-1)) 6),
  (6, mj_bin (fun x y => x ^^^ y) 7),
  (7, mj_bin (fun x y => x &&& y) 8),
  (8, mj_if (fun x => decide (¬ x = 0)) 15 11),
  (11, mj_push (.inl 1) 12),
  (12, mj_goto 16),
  (15, mj_push (.inl 0) 16),
  (16, mj_zret)]
theorem sd_50 : ∀ q ∈ ct_50, mi_snd cs_G cs_cl cs_inf 50 q.1 q.2 := mi_fc ks_50_0 (mi_fc ks_50_1 (mi_fc ks_50_2 (mi_fc ks_50_5 (mi_fc ks_50_6 (mi_fc ks_50_7 (mi_fc ks_50_8 (mi_fc ks_50_11 (mi_fc ks_50_12 (mi_fc ks_50_15 (mi_fc ks_50_16 mi_fn))))))))))
theorem dd_51_0 : decode prog_1_method_15_code 0 = .ok (.aload_n 0, 1) := by decide +kernel
theorem dd_51_1 : decode prog_1_method_15_code 1 = .ok (.getfield 10, 3) := by decide +kernel
theorem dd_51_4 : decode prog_1_method_15_code 4 = .ok (.iload_n 1, 1) := by decide +kernel
theorem dd_51_5 : decode prog_1_method_15_code 5 = .ok (.invokevirtual 131, 3) := by decide +kernel
theorem dd_51_8 : decode prog_1_method_15_code 8 = .ok (.ifCond .eq 22, 3) := by decide +kernel
theorem dd_51_11 : decode prog_1_method_15_code 11 = .ok (.aload_n 0, 1) := by decide +kernel
theorem dd_51_12 : decode prog_1_method_15_code 12 = .ok (.getfield 10, 3) := by decide +kernel
theorem dd_51_15 : decode prog_1_method_15_code 15 = .ok (.iload_n 2, 1) := by decide +kernel
theorem dd_51_16 : decode prog_1_method_15_code 16 = .ok (.invokevirtual 88, 3) := by decide +kernel
theorem dd_51_19 : decode prog_1_method_15_code 19 = .ok (.ifCond .eq 11, 3) := by decide +kernel
theorem dd_51_22 : decode prog_1_method_15_code 22 = .ok (.iload_n 1, 1) := by decide +kernel
theorem dd_51_23 : decode prog_1_method_15_code 23 = .ok (.iload_n 2, 1) := by decide +kernel
theorem dd_51_24 : decode prog_1_method_15_code 24 = .ok (.invokestatic 94, 3) := by decide +kernel
theorem dd_51_27 : decode prog_1_method_15_code 27 = .ok (.ifCond .ne 5, 3) := by decide +kernel
theorem dd_51_30 : decode prog_1_method_15_code 30 = .ok (.iconst (-1), 1) := by decide +kernel
theorem dd_51_31 : decode prog_1_method_15_code 31 = .ok (.ireturn, 1) := by decide +kernel
theorem dd_51_32 : decode prog_1_method_15_code 32 = .ok (.aload_n 0, 1) := by decide +kernel
theorem dd_51_33 : decode prog_1_method_15_code 33 = .ok (.getfield 10, 3) := by decide +kernel
theorem dd_51_36 : decode prog_1_method_15_code 36 = .ok (.iload_n 1, 1) := by decide +kernel
theorem dd_51_37 : decode prog_1_method_15_code 37 = .ok (.aload_n 0, 1) := by decide +kernel
theorem dd_51_38 : decode prog_1_method_15_code 38 = .ok (.getfield 72, 3) := by decide +kernel
theorem dd_51_41 : decode prog_1_method_15_code 41 = .ok (.invokevirtual 134, 3) := by decide +kernel
theorem dd_51_44 : decode prog_1_method_15_code 44 = .ok (.istore_n 3, 1) := by decide +kernel
theorem dd_51_45 : decode prog_1_method_15_code 45 = .ok (.iconst 1, 1) := by decide +kernel
theorem dd_51_46 : decode prog_1_method_15_code 46 = .ok (.istore 4, 2) := by decide +kernel
theorem dd_51_48 : decode prog_1_method_15_code 48 = .ok (.iload 4, 2) := by decide +kernel
theorem dd_51_50 : decode prog_1_method_15_code 50 = .ok (.iload_n 3, 1) := by decide +kernel
theorem dd_51_51 : decode prog_1_method_15_code 51 = .ok (.if_icmp .gt 36, 3) := by decide +kernel
theorem dd_51_54 : decode prog_1_method_15_code 54 = .ok (.iload 4, 2) := by decide +kernel
theorem dd_51_56 : decode prog_1_method_15_code 56 = .ok (.aload_n 0, 1) := by decide +kernel
theorem dd_51_57 : decode prog_1_method_15_code 57 = .ok (.getfield 72, 3) := by decide +kernel
theorem dd_51_60 : decode prog_1_method_15_code 60 = .ok (.arraylength, 1) := by decide +kernel
theorem dd_51_61 : decode prog_1_method_15_code 61 = .ok (.if_icmp .ge 26, 3) := by decide +kernel
theorem dd_51_64 : decode prog_1_method_15_code 64 = .ok (.aload_n 0, 1) := by decide +kernel
theorem dd_51_65 : decode prog_1_method_15_code 65 = .ok (.getfield 72, 3) := by decide +kernel
theorem dd_51_68 : decode prog_1_method_15_code 68 = .ok (.iload 4, 2) := by decide +kernel
theorem dd_51_70 : decode prog_1_method_15_code 70 = .ok (.iaload, 1) := by decide +kernel
theorem dd_51_71 : decode prog_1_method_15_code 71 = .ok (.iload_n 2, 1) := by decide +kernel
theorem dd_51_72 : decode prog_1_method_15_code 72 = .ok (.invokestatic 94, 3) := by decide +kernel
theorem dd_51_75 : decode prog_1_method_15_code 75 = .ok (.ifCond .eq 6, 3) := by decide +kernel
theorem dd_51_78 : decode prog_1_method_15_code 78 = .ok (.iload 4, 2) := by decide +kernel
theorem dd_51_80 : decode prog_1_method_15_code 80 = .ok (.ireturn, 1) := by decide +kernel
theorem dd_51_81 : decode prog_1_method_15_code 81 = .ok (.iinc 4 1, 3) := by decide +kernel
theorem dd_51_84 : decode prog_1_method_15_code 84 = .ok (.goto (-36), 3) := by decide +kernel
theorem dd_51_87 : decode prog_1_method_15_code 87 = .ok (.iconst (-1), 1) := by decide +kernel
theorem dd_51_88 : decode prog_1_method_15_code 88 = .ok (.ireturn, 1) := by decide +kernel
theorem ks_51_0 : mi_snd cs_G cs_cl cs_inf 51 0 (mj_aload 0 1) := ms_aload_n (mi_dec ib_51 dd_51_0) rfl
theorem ks_51_1 : mi_snd cs_G cs_cl cs_inf 51 1 (mj_get 0 0 4) := ms_get (T := cs_T0) (k := 0) (mi_dec ib_51 dd_51_1) rfl cs_in0 (by decide) gw_231
theorem ks_51_4 : mi_snd cs_G cs_cl cs_inf 51 4 (mj_iload 1 5) := ms_iload_n (mi_dec ib_51 dd_51_4) rfl
theorem ks_51_5 : mi_snd cs_G cs_cl cs_inf 51 5 (mj_callV 1 50 1 2 8) := ms_callVN iw_c50 (mi_dec ib_51 dd_51_5) gw_477 iw_i50 rfl iw_v50 iw_n50 (by decide +kernel) rfl (by decide)
theorem ks_51_8 : mi_snd cs_G cs_cl cs_inf 51 8 (mj_if (fun x => decide (x = 0)) 30 11) := ms_if_eq (mi_dec ib_51 dd_51_8) (by decide)
theorem ks_51_11 : mi_snd cs_G cs_cl cs_inf 51 11 (mj_aload 0 12) := ms_aload_n (mi_dec ib_51 dd_51_11) rfl
theorem ks_51_12 : mi_snd cs_G cs_cl cs_inf 51 12 (mj_get 0 0 15) := ms_get (T := cs_T0) (k := 0) (mi_dec ib_51 dd_51_12) rfl cs_in0 (by decide) gw_231
theorem ks_51_15 : mi_snd cs_G cs_cl cs_inf 51 15 (mj_iload 2 16) := ms_iload_n (mi_dec ib_51 dd_51_15) rfl
theorem ks_51_16 : mi_snd cs_G cs_cl cs_inf 51 16 (mj_callV 1 5 1 2 19) := ms_callVN iw_c5 (mi_dec ib_51 dd_51_16) gw_282 iw_i5 rfl iw_v5 iw_n5 (by decide +kernel) rfl (by decide)
theorem ks_51_19 : mi_snd cs_G cs_cl cs_inf 51 19 (mj_if (fun x => decide (x = 0)) 30 22) := ms_if_eq (mi_dec ib_51 dd_51_19) (by decide)
theorem ks_51_22 : mi_snd cs_G cs_cl cs_inf 51 22 (mj_iload 1 23) := ms_iload_n (mi_dec ib_51 dd_51_22) rfl
theorem ks_51_23 : mi_snd cs_G cs_cl cs_inf 51 23 (mj_iload 2 24) := ms_iload_n (mi_dec ib_51 dd_51_23) rfl
theorem ks_51_24 : mi_snd cs_G cs_cl cs_inf 51 24 (mj_callS 7 2 2 27) := ms_callS iw_c7 (mi_dec ib_51 dd_51_24) gw_291 iw_s7 iw_n7 (by decide +kernel) rfl (by decide)
theorem ks_51_27 : mi_snd cs_G cs_cl cs_inf 51 27 (mj_if (fun x => decide (¬ x = 0)) 32 30) := ms_if_ne (mi_dec ib_51 dd_51_27) (by decide)
theorem ks_51_30 : mi_snd cs_G cs_cl cs_inf 51 30 (mj_push (.inl (-1)) 31) := ms_iconst (mi_dec ib_51 dd_51_30) (by decide)
theorem ks_51_31 : mi_snd cs_G cs_cl cs_inf 51 31 (mj_iret) := ms_iret (mi_dec ib_51 dd_51_31) rfl
theorem ks_51_32 : mi_snd cs_G cs_cl cs_inf 51 32 (mj_aload 0 33) := ms_aload_n (mi_dec ib_51 dd_51_32) rfl
theorem ks_51_33 : mi_snd cs_G cs_cl cs_inf 51 33 (mj_get 0 0 36) := ms_get (T := cs_T0) (k := 0) (mi_dec ib_51 dd_51_33) rfl cs_in0 (by decide) gw_231
theorem ks_51_36 : mi_snd cs_G cs_cl cs_inf 51 36 (mj_iload 1 37) := ms_iload_n (mi_dec ib_51 dd_51_36) rfl
theorem ks_51_37 : mi_snd cs_G cs_cl cs_inf 51 37 (mj_aload 0 38) := ms_aload_n (mi_dec ib_51 dd_51_37) rfl
theorem ks_51_38 : mi_snd cs_G cs_cl cs_inf 51 38 (mj_get 0 9 41) := ms_get (T := cs_T0) (k := 9) (mi_dec ib_51 dd_51_38) rfl cs_in0 (by decide) gw_240
theorem ks_51_41 : mi_snd cs_G cs_cl cs_inf 51 41 (mj_callV 1 43 2 6 44) := ms_callVN iw_c43 (mi_dec ib_51 dd_51_41) gw_482 iw_i43 rfl iw_v43 iw_n43 (by decide +kernel) rfl (by decide)
theorem ks_51_44 : mi_snd cs_G cs_cl cs_inf 51 44 (mj_istore 3 45) := ms_istore_n (mi_dec ib_51 dd_51_44) rfl
theorem ks_51_45 : mi_snd cs_G cs_cl cs_inf 51 45 (mj_push (.inl 1) 46) := ms_iconst (mi_dec ib_51 dd_51_45) (by decide)
theorem ks_51_46 : mi_snd cs_G cs_cl cs_inf 51 46 (mj_istore 4 48) := ms_istore (mi_dec ib_51 dd_51_46)
theorem ks_51_48 : mi_snd cs_G cs_cl cs_inf 51 48 (mj_iload 4 50) := ms_iload (mi_dec ib_51 dd_51_48)
theorem ks_51_50 : mi_snd cs_G cs_cl cs_inf 51 50 (mj_iload 3 51) := ms_iload_n (mi_dec ib_51 dd_51_50) rfl
theorem ks_51_51 : mi_snd cs_G cs_cl cs_inf 51 51 (mj_cmp (fun x y => decide (y < x)) 87 54) := ms_icmp_gt (mi_dec ib_51 dd_51_51) (by decide)
theorem ks_51_54 : mi_snd cs_G cs_cl cs_inf 51 54 (mj_iload 4 56) := ms_iload (mi_dec ib_51 dd_51_54)
theorem ks_51_56 : mi_snd cs_G cs_cl cs_inf 51 56 (mj_aload 0 57) := ms_aload_n (mi_dec ib_51 dd_51_56) rfl
theorem ks_51_57 : mi_snd cs_G cs_cl cs_inf 51 57 (mj_get 0 9 60) := ms_get (T := cs_T0) (k := 9) (mi_dec ib_51 dd_51_57) rfl cs_in0 (by decide) gw_240
theorem ks_51_60 : mi_snd cs_G cs_cl cs_inf 51 60 (mj_alen 61) := ms_alen (mi_dec ib_51 dd_51_60)
theorem ks_51_61 : mi_snd cs_G cs_cl cs_inf 51 61 (mj_cmp (fun x y => decide (y ≤ x)) 87 64) := ms_icmp_ge (mi_dec ib_51 dd_51_61) (by decide)
theorem ks_51_64 : mi_snd cs_G cs_cl cs_inf 51 64 (mj_aload 0 65) := ms_aload_n (mi_dec ib_51 dd_51_64) rfl
theorem ks_51_65 : mi_snd cs_G cs_cl cs_inf 51 65 (mj_get 0 9 68) := ms_get (T := cs_T0) (k := 9) (mi_dec ib_51 dd_51_65) rfl cs_in0 (by decide) gw_240
theorem ks_51_68 : mi_snd cs_G cs_cl cs_inf 51 68 (mj_iload 4 70) := ms_iload (mi_dec ib_51 dd_51_68)
theorem ks_51_70 : mi_snd cs_G cs_cl cs_inf 51 70 (mj_ald 0 71) := ms_ald0 (mi_dec ib_51 dd_51_70)
theorem ks_51_71 : mi_snd cs_G cs_cl cs_inf 51 71 (mj_iload 2 72) := ms_iload_n (mi_dec ib_51 dd_51_71) rfl
theorem ks_51_72 : mi_snd cs_G cs_cl cs_inf 51 72 (mj_callS 7 2 2 75) := ms_callS iw_c7 (mi_dec ib_51 dd_51_72) gw_291 iw_s7 iw_n7 (by decide +kernel) rfl (by decide)
theorem ks_51_75 : mi_snd cs_G cs_cl cs_inf 51 75 (mj_if (fun x => decide (x = 0)) 81 78) := ms_if_eq (mi_dec ib_51 dd_51_75) (by decide)
theorem ks_51_78 : mi_snd cs_G cs_cl cs_inf 51 78 (mj_iload 4 80) := ms_iload (mi_dec ib_51 dd_51_78)
theorem ks_51_80 : mi_snd cs_G cs_cl cs_inf 51 80 (mj_iret) := ms_iret (mi_dec ib_51 dd_51_80) rfl
theorem ks_51_81 : mi_snd cs_G cs_cl cs_inf 51 81 (mj_iinc 4 1 84) := ms_iinc (mi_dec ib_51 dd_51_81) (by decide)
theorem ks_51_84 : mi_snd cs_G cs_cl cs_inf 51 84 (mj_goto 48) := ms_goto (mi_dec ib_51 dd_51_84) (by decide)
theorem ks_51_87 : mi_snd cs_G cs_cl cs_inf 51 87 (mj_push (.inl (-1)) 88) := ms_iconst (mi_dec ib_51 dd_51_87) (by decide)
theorem ks_51_88 : mi_snd cs_G cs_cl cs_inf 51 88 (mj_iret) := ms_iret (mi_dec ib_51 dd_51_88) rfl
def ct_51 : List (Nat × mi_I) := [
  (0, mj_aload 0 1),
  (1, mj_get 0 0 4),
  (4, mj_iload 1 5),
  (5, mj_callV 1 50 1 2 8),
  (8, mj_if (fun x => decide (x = 0)) 30 11),
  (11, mj_aload 0 12),
  (12, mj_get 0 0 15),
  (15, mj_iload 2 16),
  (16, mj_callV 1 5 1 2 19),
  (19, mj_if (fun x => decide (x = 0)) 30 22),
  (22, mj_iload 1 23),
  (23, mj_iload 2 24),
  (24, mj_callS 7 2 2 27),
  (27, mj_if (fun x => decide (¬ x = 0)) 32 30),
  (30, mj_push (.inl (-1)) 31),
  (31, mj_iret),
  (32, mj_aload 0 33),
  (33, mj_get 0 0 36),
  (36, mj_iload 1 37),
  (37, mj_aload 0 38),
  (38, mj_get 0 9 41),
  (41, mj_callV 1 43 2 6 44),
  (44, mj_istore 3 45),
  (45, mj_push (.inl 1) 46),
  (46, mj_istore 4 48),
  (48, mj_iload 4 50),
  (50, mj_iload 3 51),
  (51, mj_cmp (fun x y => decide (y < x)) 87 54),
  (54, mj_iload 4 56),
  (56, mj_aload 0 57),
  (57, mj_get 0 9 60),
  (60, mj_alen 61),
  (61, mj_cmp (fun x y => decide (y ≤ x)) 87 64),
  (64, mj_aload 0 65),
  (65, mj_get 0 9 68),
  (68, mj_iload 4 70),
  (70, mj_ald 0 71),
  (71, mj_iload 2 72),
  (72, mj_callS 7 2 2 75),
  (75, mj_if (fun x => decide (x = 0)) 81 78),
  (78, mj_iload 4 80),
  (80, mj_iret),
  (81, mj_iinc 4 1 84),
  (84, mj_goto 48),
  (87, mj_push (.inl (-1)) 88),
  (88, mj_iret)]
theorem sd_51 : ∀ q ∈ ct_51, mi_snd cs_G cs_cl cs_inf 51 q.1 q.2 := mi_fc ks_51_0 (mi_fc ks_51_1 (mi_fc ks_51_4 (mi_fc ks_51_5 (mi_fc ks_51_8 (mi_fc ks_51_11 (mi_fc ks_51_12 (mi_fc ks_51_15 (mi_fc ks_51_16 (mi_fc ks_51_19 (mi_fc ks_51_22 (mi_fc ks_51_23 (mi_fc ks_51_24 (mi_fc ks_51_27 (mi_fc ks_51_30 (mi_fc ks_51_31 (mi_fc ks_51_32 (mi_fc ks_51_33 (mi_fc ks_51_36 (mi_fc ks_51_37 (mi_fc ks_51_38 (mi_fc ks_51_41 (mi_fc ks_51_44 (mi_fc ks_51_45 (mi_fc ks_51_46 (mi_fc ks_51_48 (mi_fc ks_51_50 (mi_fc ks_51_51 (mi_fc ks_51_54 (mi_fc ks_51_56 (mi_fc ks_51_57 (mi_fc ks_51_60 (mi_fc ks_51_61 (mi_fc ks_51_64 (mi_fc ks_51_65 (mi_fc ks_51_68 (mi_fc ks_51_70 (mi_fc ks_51_71 (mi_fc ks_51_72 (mi_fc ks_51_75 (mi_fc ks_51_78 (mi_fc ks_51_80 (mi_fc ks_51_81 (mi_fc ks_51_84 (mi_fc ks_51_87 (mi_fc ks_51_88 mi_fn)))))))))))))))))))))))))))))))))))))))))))))
theorem dd_52_0 : decode prog_1_method_16_code 0 = .ok (.aload_n 0, 1) := by decide +kernel
theorem dd_52_1 : decode prog_1_method_16_code 1 = .ok (.getfield 10, 3) := by decide +kernel
theorem dd_52_4 : decode prog_1_method_16_code 4 = .ok (.iload_n 1, 1) := by decide +kernel
theorem dd_52_5 : decode prog_1_method_16_code 5 = .ok (.invokevirtual 88, 3) := by decide +kernel
theorem dd_52_8 : decode prog_1_method_16_code 8 = .ok (.ifCond .eq 14, 3) := by decide +kernel
theorem dd_52_11 : decode prog_1_method_16_code 11 = .ok (.aload_n 0, 1) := by decide +kernel
theorem dd_52_12 : decode prog_1_method_16_code 12 = .ok (.getfield 47, 3) := by decide +kernel
theorem dd_52_15 : decode prog_1_method_16_code 15 = .ok (.iload_n 1, 1) := by decide +kernel
theorem dd_52_16 : decode prog_1_method_16_code 16 = .ok (.invokevirtual 138, 3) := by decide +kernel
theorem dd_52_19 : decode prog_1_method_16_code 19 = .ok (.goto 4, 3) := by decide +kernel
theorem dd_52_22 : decode prog_1_method_16_code 22 = .ok (.iconst (-1), 1) := by decide +kernel
theorem dd_52_23 : decode prog_1_method_16_code 23 = .ok (.ireturn, 1) := by decide +kernel
theorem ks_52_0 : mi_snd cs_G cs_cl cs_inf 52 0 (mj_aload 0 1) := ms_aload_n (mi_dec ib_52 dd_52_0) rfl
theorem ks_52_1 : mi_snd cs_G cs_cl cs_inf 52 1 (mj_get 0 0 4) := ms_get (T := cs_T0) (k := 0) (mi_dec ib_52 dd_52_1) rfl cs_in0 (by decide) gw_231
theorem ks_52_4 : mi_snd cs_G cs_cl cs_inf 52 4 (mj_iload 1 5) := ms_iload_n (mi_dec ib_52 dd_52_4) rfl
theorem ks_52_5 : mi_snd cs_G cs_cl cs_inf 52 5 (mj_callV 1 5 1 2 8) := ms_callVN iw_c5 (mi_dec ib_52 dd_52_5) gw_282 iw_i5 rfl iw_v5 iw_n5 (by decide +kernel) rfl (by decide)
theorem ks_52_8 : mi_snd cs_G cs_cl cs_inf 52 8 (mj_if (fun x => decide (x = 0)) 22 11) := ms_if_eq (mi_dec ib_52 dd_52_8) (by decide)
theorem ks_52_11 : mi_snd cs_G cs_cl cs_inf 52 11 (mj_aload 0 12) := ms_aload_n (mi_dec ib_52 dd_52_11) rfl
theorem ks_52_12 : mi_snd cs_G cs_cl cs_inf 52 12 (mj_get 0 5 15) := ms_get (T := cs_T0) (k := 5) (mi_dec ib_52 dd_52_12) rfl cs_in0 (by decide) gw_236
theorem ks_52_15 : mi_snd cs_G cs_cl cs_inf 52 15 (mj_iload 1 16) := ms_iload_n (mi_dec ib_52 dd_52_15) rfl
theorem ks_52_16 : mi_snd cs_G cs_cl cs_inf 52 16 (mj_callV 5 53 1 2 19) := ms_callVN iw_c53 (mi_dec ib_52 dd_52_16) gw_491 iw_i53 rfl iw_v53 iw_n53 (by decide +kernel) rfl (by decide)
theorem ks_52_19 : mi_snd cs_G cs_cl cs_inf 52 19 (mj_goto 23) := ms_goto (mi_dec ib_52 dd_52_19) (by decide)
theorem ks_52_22 : mi_snd cs_G cs_cl cs_inf 52 22 (mj_push (.inl (-1)) 23) := ms_iconst (mi_dec ib_52 dd_52_22) (by decide)
theorem ks_52_23 : mi_snd cs_G cs_cl cs_inf 52 23 (mj_iret) := ms_iret (mi_dec ib_52 dd_52_23) rfl
def ct_52 : List (Nat × mi_I) := [
  (0, mj_aload 0 1),
  (1, mj_get 0 0 4),
  (4, mj_iload 1 5),
  (5, mj_callV 1 5 1 2 8),
  (8, mj_if (fun x => decide (x = 0)) 22 11),
  (11, mj_aload 0 12),
  (12, mj_get 0 5 15),
  (15, mj_iload 1 16),
  (16, mj_callV 5 53 1 2 19),
  (19, mj_goto 23),
  (22, mj_push (.inl (-1)) 23),
  (23, mj_iret)]
theorem sd_52 : ∀ q ∈ ct_52, mi_snd cs_G cs_cl cs_inf 52 q.1 q.2 := mi_fc ks_52_0 (mi_fc ks_52_1 (mi_fc ks_52_4 (mi_fc ks_52_5 (mi_fc ks_52_8 (mi_fc ks_52_11 (mi_fc ks_52_12 (mi_fc ks_52_15 (mi_fc ks_52_16 (mi_fc ks_52_19 (mi_fc ks_52_22 (mi_fc ks_52_23 mi_fn)))))))))))
theorem dd_53_0 : decode prog_6_method_2_code 0 = .ok (.aload_n 0, 1) := by decide +kernel
theorem dd_53_1 : decode prog_6_method_2_code 1 = .ok (.invokevirtual 26, 3) := by decide +kernel
theorem dd_53_4 : decode prog_6_method_2_code 4 = .ok (.iload_n 1, 1) := by decide +kernel
theorem dd_53_5 : decode prog_6_method_2_code 5 = .ok (.ifCond .lt 21, 3) := by decide +kernel
theorem dd_53_8 : decode prog_6_method_2_code 8 = .ok (.iload_n 1, 1) := by decide +kernel
theorem dd_53_9 : decode prog_6_method_2_code 9 = .ok (.aload_n 0, 1) := by decide +kernel
theorem dd_53_10 : decode prog_6_method_2_code 10 = .ok (.getfield 9, 3) := by decide +kernel
theorem dd_53_13 : decode prog_6_method_2_code 13 = .ok (.arraylength, 1) := by decide +kernel
theorem dd_53_14 : decode prog_6_method_2_code 14 = .ok (.if_icmp .ge 12, 3) := by decide +kernel
theorem dd_53_17 : decode prog_6_method_2_code 17 = .ok (.aload_n 0, 1) := by decide +kernel
theorem dd_53_18 : decode prog_6_method_2_code 18 = .ok (.getfield 9, 3) := by decide +kernel
theorem dd_53_21 : decode prog_6_method_2_code 21 = .ok (.iload_n 1, 1) := by decide +kernel
theorem dd_53_22 : decode prog_6_method_2_code 22 = .ok (.iaload, 1) := by decide +kernel
theorem dd_53_23 : decode prog_6_method_2_code 23 = .ok (.goto 4, 3) := by decide +kernel
theorem dd_53_26 : decode prog_6_method_2_code 26 = .ok (.iconst (-1), 1) := by decide +kernel
theorem dd_53_27 : decode prog_6_method_2_code 27 = .ok (.ireturn, 1) := by decide +kernel
theorem ks_53_0 : mi_snd cs_G cs_cl cs_inf 53 0 (mj_aload 0 1) := ms_aload_n (mi_dec ib_53 dd_53_0) rfl
theorem ks_53_1 : mi_snd cs_G cs_cl cs_inf 53 1 (mj_callV 5 54 0 5 4) := ms_callV iw_c54 (mi_dec ib_53 dd_53_1) gw_495 iw_i54 rfl iw_v54 iw_n54 (by decide +kernel) rfl (by decide)
theorem ks_53_4 : mi_snd cs_G cs_cl cs_inf 53 4 (mj_iload 1 5) := ms_iload_n (mi_dec ib_53 dd_53_4) rfl
theorem ks_53_5 : mi_snd cs_G cs_cl cs_inf 53 5 (mj_if (fun x => decide (x < 0)) 26 8) := ms_if_lt (mi_dec ib_53 dd_53_5) (by decide)
theorem ks_53_8 : mi_snd cs_G cs_cl cs_inf 53 8 (mj_iload 1 9) := ms_iload_n (mi_dec ib_53 dd_53_8) rfl
theorem ks_53_9 : mi_snd cs_G cs_cl cs_inf 53 9 (mj_aload 0 10) := ms_aload_n (mi_dec ib_53 dd_53_9) rfl
theorem ks_53_10 : mi_snd cs_G cs_cl cs_inf 53 10 (mj_get 5 1 13) := ms_get (T := cs_T5) (k := 1) (mi_dec ib_53 dd_53_10) rfl cs_in5 (by decide) gw_124
theorem ks_53_13 : mi_snd cs_G cs_cl cs_inf 53 13 (mj_alen 14) := ms_alen (mi_dec ib_53 dd_53_13)
theorem ks_53_14 : mi_snd cs_G cs_cl cs_inf 53 14 (mj_cmp (fun x y => decide (y ≤ x)) 26 17) := ms_icmp_ge (mi_dec ib_53 dd_53_14) (by decide)
theorem ks_53_17 : mi_snd cs_G cs_cl cs_inf 53 17 (mj_aload 0 18) := ms_aload_n (mi_dec ib_53 dd_53_17) rfl
theorem ks_53_18 : mi_snd cs_G cs_cl cs_inf 53 18 (mj_get 5 1 21) := ms_get (T := cs_T5) (k := 1) (mi_dec ib_53 dd_53_18) rfl cs_in5 (by decide) gw_124
theorem ks_53_21 : mi_snd cs_G cs_cl cs_inf 53 21 (mj_iload 1 22) := ms_iload_n (mi_dec ib_53 dd_53_21) rfl
theorem ks_53_22 : mi_snd cs_G cs_cl cs_inf 53 22 (mj_ald 0 23) := ms_ald0 (mi_dec ib_53 dd_53_22)
theorem ks_53_23 : mi_snd cs_G cs_cl cs_inf 53 23 (mj_goto 27) := ms_goto (mi_dec ib_53 dd_53_23) (by decide)
theorem ks_53_26 : mi_snd cs_G cs_cl cs_inf 53 26 (mj_push (.inl (-1)) 27) := ms_iconst (mi_dec ib_53 dd_53_26) (by decide)
theorem ks_53_27 : mi_snd cs_G cs_cl cs_inf 53 27 (mj_iret) := ms_iret (mi_dec ib_53 dd_53_27) rfl
def ct_53 : List (Nat × mi_I) := [
  (0, mj_aload 0 1),
  (1, mj_callV 5 54 0 5 4),
  (4, mj_iload 1 5),
  (5, mj_if (fun x => decide (x < 0)) 26 8),
  (8, mj_iload 1 9),
  (9, mj_aload 0 10),
  (10, mj_get 5 1 13),
  (13, mj_alen 14),
  (14, mj_cmp (fun x y => decide (y ≤ x)) 26 17),
  (17, mj_aload 0 18),
  (18, mj_get 5 1 21),
  (21, mj_iload 1 22),
  (22, mj_ald 0 23),
  (23, mj_goto 27),
  (26, mj_push (.inl (-1)) 27),
  (27, mj_iret)]
theorem sd_53 : ∀ q ∈ ct_53, mi_snd cs_G cs_cl cs_inf 53 q.1 q.2 := mi_fc ks_53_0 (mi_fc ks_53_1 (mi_fc ks_53_4 (mi_fc ks_53_5 (mi_fc ks_53_8 (mi_fc ks_53_9 (mi_fc ks_53_10 (mi_fc ks_53_13 (mi_fc ks_53_14 (mi_fc ks_53_17 (mi_fc ks_53_18 (mi_fc ks_53_21 (mi_fc ks_53_22 (mi_fc ks_53_23 (mi_fc ks_53_26 (mi_fc ks_53_27 mi_fn)))))))))))))))
theorem dd_54_0 : decode prog_6_method_4_code 0 = .ok (.aload_n 0, 1) := by decide +kernel
theorem dd_54_1 : decode prog_6_method_4_code 1 = .ok (.getfield 18, 3) := by decide +kernel
theorem dd_54_4 : decode prog_6_method_4_code 4 = .ok (.aload_n 0, 1) := by decide +kernel
theorem dd_54_5 : decode prog_6_method_4_code 5 = .ok (.getfield 22, 3) := by decide +kernel
theorem dd_54_8 : decode prog_6_method_4_code 8 = .ok (.getfield 29, 3) := by decide +kernel
theorem dd_54_11 : decode prog_6_method_4_code 11 = .ok (.if_icmp .ne 4, 3) := by decide +kernel
theorem dd_54_14 : decode prog_6_method_4_code 14 = .ok (.return_, 1) := by decide +kernel
theorem dd_54_15 : decode prog_6_method_4_code 15 = .ok (.aload_n 0, 1) := by decide +kernel
theorem dd_54_16 : decode prog_6_method_4_code 16 = .ok (.aload_n 0, 1) := by decide +kernel
theorem dd_54_17 : decode prog_6_method_4_code 17 = .ok (.getfield 22, 3) := by decide +kernel
theorem dd_54_20 : decode prog_6_method_4_code 20 = .ok (.getfield 29, 3) := by decide +kernel
theorem dd_54_23 : decode prog_6_method_4_code 23 = .ok (.putfield 18, 3) := by decide +kernel
theorem dd_54_26 : decode prog_6_method_4_code 26 = .ok (.aload_n 0, 1) := by decide +kernel
theorem dd_54_27 : decode prog_6_method_4_code 27 = .ok (.getfield 22, 3) := by decide +kernel
theorem dd_54_30 : decode prog_6_method_4_code 30 = .ok (.invokevirtual 34, 3) := by decide +kernel
theorem dd_54_33 : decode prog_6_method_4_code 33 = .ok (.istore_n 1, 1) := by decide +kernel
theorem dd_54_34 : decode prog_6_method_4_code 34 = .ok (.iconst 0, 1) := by decide +kernel
theorem dd_54_35 : decode prog_6_method_4_code 35 = .ok (.istore_n 2, 1) := by decide +kernel
theorem dd_54_36 : decode prog_6_method_4_code 36 = .ok (.iconst 0, 1) := by decide +kernel
theorem dd_54_37 : decode prog_6_method_4_code 37 = .ok (.istore_n 3, 1) := by decide +kernel
theorem dd_54_38 : decode prog_6_method_4_code 38 = .ok (.iload_n 3, 1) := by decide +kernel
theorem dd_54_39 : decode prog_6_method_4_code 39 = .ok (.aload_n 0, 1) := by decide +kernel
theorem dd_54_40 : decode prog_6_method_4_code 40 = .ok (.getfield 22, 3) := by decide +kernel
theorem dd_54_43 : decode prog_6_method_4_code 43 = .ok (.getfield 38, 3) := by decide +kernel
theorem dd_54_46 : decode prog_6_method_4_code 46 = .ok (.if_icmp .ge 64, 3) := by decide +kernel
theorem dd_54_49 : decode prog_6_method_4_code 49 = .ok (.aload_n 0, 1) := by decide +kernel
theorem dd_54_50 : decode prog_6_method_4_code 50 = .ok (.getfield 22, 3) := by decide +kernel
theorem dd_54_53 : decode prog_6_method_4_code 53 = .ok (.iload_n 1, 1) := by decide +kernel
theorem dd_54_54 : decode prog_6_method_4_code 54 = .ok (.invokevirtual 41, 3) := by decide +kernel
theorem dd_54_57 : decode prog_6_method_4_code 57 = .ok (.istore 4, 2) := by decide +kernel
theorem dd_54_59 : decode prog_6_method_4_code 59 = .ok (.iload 4, 2) := by decide +kernel
theorem dd_54_61 : decode prog_6_method_4_code 61 = .ok (.ifCond .lt 43, 3) := by decide +kernel
theorem dd_54_64 : decode prog_6_method_4_code 64 = .ok (.iload_n 2, 1) := by decide +kernel
theorem dd_54_65 : decode prog_6_method_4_code 65 = .ok (.aload_n 0, 1) := by decide +kernel
theorem dd_54_66 : decode prog_6_method_4_code 66 = .ok (.getfield 22, 3) := by decide +kernel
theorem dd_54_69 : decode prog_6_method_4_code 69 = .ok (.iload 4, 2) := by decide +kernel
theorem dd_54_71 : decode prog_6_method_4_code 71 = .ok (.iload_n 1, 1) := by decide +kernel
theorem dd_54_72 : decode prog_6_method_4_code 72 = .ok (.invokevirtual 45, 3) := by decide +kernel
theorem dd_54_75 : decode prog_6_method_4_code 75 = .ok (.invokestatic 49, 3) := by decide +kernel
theorem dd_54_78 : decode prog_6_method_4_code 78 = .ok (.istore_n 2, 1) := by decide +kernel
theorem dd_54_79 : decode prog_6_method_4_code 79 = .ok (.aload_n 0, 1) := by decide +kernel
theorem dd_54_80 : decode prog_6_method_4_code 80 = .ok (.getfield 9, 3) := by decide +kernel
theorem dd_54_83 : decode prog_6_method_4_code 83 = .ok (.iload_n 3, 1) := by decide +kernel
theorem dd_54_84 : decode prog_6_method_4_code 84 = .ok (.iload 4, 2) := by decide +kernel
theorem dd_54_86 : decode prog_6_method_4_code 86 = .ok (.iastore, 1) := by decide +kernel
theorem dd_54_87 : decode prog_6_method_4_code 87 = .ok (.aload_n 0, 1) := by decide +kernel
theorem dd_54_88 : decode prog_6_method_4_code 88 = .ok (.getfield 15, 3) := by decide +kernel
theorem dd_54_91 : decode prog_6_method_4_code 91 = .ok (.iload 4, 2) := by decide +kernel
theorem dd_54_93 : decode prog_6_method_4_code 93 = .ok (.iload_n 2, 1) := by decide +kernel
theorem dd_54_94 : decode prog_6_method_4_code 94 = .ok (.iastore, 1) := by decide +kernel
theorem dd_54_95 : decode prog_6_method_4_code 95 = .ok (.iload_n 1, 1) := by decide +kernel
theorem dd_54_96 : decode prog_6_method_4_code 96 = .ok (.iconst 1, 1) := by decide +kernel
theorem dd_54_97 : decode prog_6_method_4_code 97 = .ok (.iload 4, 2) := by decide +kernel
theorem dd_54_99 : decode prog_6_method_4_code 99 = .ok (.ishl, 1) := by decide +kernel
theorem dd_54_100 : decode prog_6_method_4_code 100 = .ok (.iconst (-1), 1) := by decide +kernel
theorem dd_54_101 : decode prog_6_method_4_code 101 = .ok (.ixor, 1) := by decide +kernel
theorem dd_54_102 : decode prog_6_method_4_code 102 = .ok (.iand, 1) := by decide +kernel
theorem dd_54_103 : decode prog_6_method_4_code 103 = .ok (.istore_n 1, 1) := by decide +kernel
theorem dd_54_104 : decode prog_6_method_4_code 104 = .ok (.iinc 3 1, 3) := by decide +kernel
theorem dd_54_107 : decode prog_6_method_4_code 107 = .ok (.goto (-69), 3) := by decide +kernel
theorem dd_54_110 : decode prog_6_method_4_code 110 = .ok (.return_, 1) := by decide +kernel
theorem ks_54_0 : mi_snd cs_G cs_cl cs_inf 54 0 (mj_aload 0 1) := ms_aload_n (mi_dec ib_54 dd_54_0) rfl
theorem ks_54_1 : mi_snd cs_G cs_cl cs_inf 54 1 (mj_get 5 3 4) := ms_get (T := cs_T5) (k := 3) (mi_dec ib_54 dd_54_1) rfl cs_in5 (by decide) gw_126
theorem ks_54_4 : mi_snd cs_G cs_cl cs_inf 54 4 (mj_aload 0 5) := ms_aload_n (mi_dec ib_54 dd_54_4) rfl
theorem ks_54_5 : mi_snd cs_G cs_cl cs_inf 54 5 (mj_get 5 0 8) := ms_get (T := cs_T5) (k := 0) (mi_dec ib_54 dd_54_5) rfl cs_in5 (by decide) gw_123
theorem ks_54_8 : mi_snd cs_G cs_cl cs_inf 54 8 (mj_get 1 1 11) := ms_getN (T := cs_T1) (k := 1) (mi_dec ib_54 dd_54_8) rfl cs_in1 (by decide) gw_34
theorem ks_54_11 : mi_snd cs_G cs_cl cs_inf 54 11 (mj_cmp (fun x y => decide (¬ x = y)) 15 14) := ms_icmp_ne (mi_dec ib_54 dd_54_11) (by decide)
theorem ks_54_14 : mi_snd cs_G cs_cl cs_inf 54 14 (mj_ret) := ms_ret (mi_dec ib_54 dd_54_14) rfl
theorem ks_54_15 : mi_snd cs_G cs_cl cs_inf 54 15 (mj_aload 0 16) := ms_aload_n (mi_dec ib_54 dd_54_15) rfl
theorem ks_54_16 : mi_snd cs_G cs_cl cs_inf 54 16 (mj_aload 0 17) := ms_aload_n (mi_dec ib_54 dd_54_16) rfl
theorem ks_54_17 : mi_snd cs_G cs_cl cs_inf 54 17 (mj_get 5 0 20) := ms_get (T := cs_T5) (k := 0) (mi_dec ib_54 dd_54_17) rfl cs_in5 (by decide) gw_123
theorem ks_54_20 : mi_snd cs_G cs_cl cs_inf 54 20 (mj_get 1 1 23) := ms_getN (T := cs_T1) (k := 1) (mi_dec ib_54 dd_54_20) rfl cs_in1 (by decide) gw_34
theorem ks_54_23 : mi_snd cs_G cs_cl cs_inf 54 23 (mj_putI 5 3 26) := ms_putI (T := cs_T5) (k := 3) (mi_dec ib_54 dd_54_23) rfl cs_in5 cs_ty5_ok cs_nm5 (by decide) gw_126 (by decide) (by decide +kernel)
theorem ks_54_26 : mi_snd cs_G cs_cl cs_inf 54 26 (mj_aload 0 27) := ms_aload_n (mi_dec ib_54 dd_54_26) rfl
theorem ks_54_27 : mi_snd cs_G cs_cl cs_inf 54 27 (mj_get 5 0 30) := ms_get (T := cs_T5) (k := 0) (mi_dec ib_54 dd_54_27) rfl cs_in5 (by decide) gw_123
theorem ks_54_30 : mi_snd cs_G cs_cl cs_inf 54 30 (mj_callV 1 15 0 1 33) := ms_callVN iw_c15 (mi_dec ib_54 dd_54_30) gw_499 iw_i15 rfl iw_v15 iw_n15 (by decide +kernel) rfl (by decide)
theorem ks_54_33 : mi_snd cs_G cs_cl cs_inf 54 33 (mj_istore 1 34) := ms_istore_n (mi_dec ib_54 dd_54_33) rfl
theorem ks_54_34 : mi_snd cs_G cs_cl cs_inf 54 34 (mj_push (.inl 0) 35) := ms_iconst (mi_dec ib_54 dd_54_34) (by decide)
theorem ks_54_35 : mi_snd cs_G cs_cl cs_inf 54 35 (mj_istore 2 36) := ms_istore_n (mi_dec ib_54 dd_54_35) rfl
theorem ks_54_36 : mi_snd cs_G cs_cl cs_inf 54 36 (mj_push (.inl 0) 37) := ms_iconst (mi_dec ib_54 dd_54_36) (by decide)
theorem ks_54_37 : mi_snd cs_G cs_cl cs_inf 54 37 (mj_istore 3 38) := ms_istore_n (mi_dec ib_54 dd_54_37) rfl
theorem ks_54_38 : mi_snd cs_G cs_cl cs_inf 54 38 (mj_iload 3 39) := ms_iload_n (mi_dec ib_54 dd_54_38) rfl
theorem ks_54_39 : mi_snd cs_G cs_cl cs_inf 54 39 (mj_aload 0 40) := ms_aload_n (mi_dec ib_54 dd_54_39) rfl
theorem ks_54_40 : mi_snd cs_G cs_cl cs_inf 54 40 (mj_get 5 0 43) := ms_get (T := cs_T5) (k := 0) (mi_dec ib_54 dd_54_40) rfl cs_in5 (by decide) gw_123
theorem ks_54_43 : mi_snd cs_G cs_cl cs_inf 54 43 (mj_get 1 0 46) := ms_getN (T := cs_T1) (k := 0) (mi_dec ib_54 dd_54_43) rfl cs_in1 (by decide) gw_31
theorem ks_54_46 : mi_snd cs_G cs_cl cs_inf 54 46 (mj_cmp (fun x y => decide (y ≤ x)) 110 49) := ms_icmp_ge (mi_dec ib_54 dd_54_46) (by decide)
theorem ks_54_49 : mi_snd cs_G cs_cl cs_inf 54 49 (mj_aload 0 50) := ms_aload_n (mi_dec ib_54 dd_54_49) rfl
theorem ks_54_50 : mi_snd cs_G cs_cl cs_inf 54 50 (mj_get 5 0 53) := ms_get (T := cs_T5) (k := 0) (mi_dec ib_54 dd_54_50) rfl cs_in5 (by decide) gw_123
theorem ks_54_53 : mi_snd cs_G cs_cl cs_inf 54 53 (mj_iload 1 54) := ms_iload_n (mi_dec ib_54 dd_54_53) rfl
theorem ks_54_54 : mi_snd cs_G cs_cl cs_inf 54 54 (mj_callV 1 32 1 5 57) := ms_callVN iw_c32 (mi_dec ib_54 dd_54_54) gw_500 iw_i32 rfl iw_v32 iw_n32 (by decide +kernel) rfl (by decide)
theorem ks_54_57 : mi_snd cs_G cs_cl cs_inf 54 57 (mj_istore 4 59) := ms_istore (mi_dec ib_54 dd_54_57)
theorem ks_54_59 : mi_snd cs_G cs_cl cs_inf 54 59 (mj_iload 4 61) := ms_iload (mi_dec ib_54 dd_54_59)
theorem ks_54_61 : mi_snd cs_G cs_cl cs_inf 54 61 (mj_if (fun x => decide (x < 0)) 104 64) := ms_if_lt (mi_dec ib_54 dd_54_61) (by decide)
theorem ks_54_64 : mi_snd cs_G cs_cl cs_inf 54 64 (mj_iload 2 65) := ms_iload_n (mi_dec ib_54 dd_54_64) rfl
theorem ks_54_65 : mi_snd cs_G cs_cl cs_inf 54 65 (mj_aload 0 66) := ms_aload_n (mi_dec ib_54 dd_54_65) rfl
theorem ks_54_66 : mi_snd cs_G cs_cl cs_inf 54 66 (mj_get 5 0 69) := ms_get (T := cs_T5) (k := 0) (mi_dec ib_54 dd_54_66) rfl cs_in5 (by decide) gw_123
theorem ks_54_69 : mi_snd cs_G cs_cl cs_inf 54 69 (mj_iload 4 71) := ms_iload (mi_dec ib_54 dd_54_69)
theorem ks_54_71 : mi_snd cs_G cs_cl cs_inf 54 71 (mj_iload 1 72) := ms_iload_n (mi_dec ib_54 dd_54_71) rfl
theorem ks_54_72 : mi_snd cs_G cs_cl cs_inf 54 72 (mj_callV 1 33 2 3 75) := ms_callVN iw_c33 (mi_dec ib_54 dd_54_72) gw_501 iw_i33 rfl iw_v33 iw_n33 (by decide +kernel) rfl (by decide)
theorem ks_54_75 : mi_snd cs_G cs_cl cs_inf 54 75 (mj_callS 41 2 2 78) := ms_callS iw_c41 (mi_dec ib_54 dd_54_75) gw_502 iw_s41 iw_n41 (by decide +kernel) rfl (by decide)
theorem ks_54_78 : mi_snd cs_G cs_cl cs_inf 54 78 (mj_istore 2 79) := ms_istore_n (mi_dec ib_54 dd_54_78) rfl
theorem ks_54_79 : mi_snd cs_G cs_cl cs_inf 54 79 (mj_aload 0 80) := ms_aload_n (mi_dec ib_54 dd_54_79) rfl
theorem ks_54_80 : mi_snd cs_G cs_cl cs_inf 54 80 (mj_get 5 1 83) := ms_get (T := cs_T5) (k := 1) (mi_dec ib_54 dd_54_80) rfl cs_in5 (by decide) gw_124
theorem ks_54_83 : mi_snd cs_G cs_cl cs_inf 54 83 (mj_iload 3 84) := ms_iload_n (mi_dec ib_54 dd_54_83) rfl
theorem ks_54_84 : mi_snd cs_G cs_cl cs_inf 54 84 (mj_iload 4 86) := ms_iload (mi_dec ib_54 dd_54_84)
theorem ks_54_86 : mi_snd cs_G cs_cl cs_inf 54 86 (mj_iast 87) := ms_iast (mi_dec ib_54 dd_54_86)
theorem ks_54_87 : mi_snd cs_G cs_cl cs_inf 54 87 (mj_aload 0 88) := ms_aload_n (mi_dec ib_54 dd_54_87) rfl
theorem ks_54_88 : mi_snd cs_G cs_cl cs_inf 54 88 (mj_get 5 2 91) := ms_get (T := cs_T5) (k := 2) (mi_dec ib_54 dd_54_88) rfl cs_in5 (by decide) gw_125
theorem ks_54_91 : mi_snd cs_G cs_cl cs_inf 54 91 (mj_iload 4 93) := ms_iload (mi_dec ib_54 dd_54_91)
theorem ks_54_93 : mi_snd cs_G cs_cl cs_inf 54 93 (mj_iload 2 94) := ms_iload_n (mi_dec ib_54 dd_54_93) rfl
theorem ks_54_94 : mi_snd cs_G cs_cl cs_inf 54 94 (mj_iast 95) := ms_iast (mi_dec ib_54 dd_54_94)
theorem ks_54_95 : mi_snd cs_G cs_cl cs_inf 54 95 (mj_iload 1 96) := ms_iload_n (mi_dec ib_54 dd_54_95) rfl
theorem ks_54_96 : mi_snd cs_G cs_cl cs_inf 54 96 (mj_push (.inl 1) 97) := ms_iconst (mi_dec ib_54 dd_54_96) (by decide)
theorem ks_54_97 : mi_snd cs_G cs_cl cs_inf 54 97 (mj_iload 4 99) := ms_iload (mi_dec ib_54 dd_54_97)
theorem ks_54_99 : mi_snd cs_G cs_cl cs_inf 54 99 (mj_bin (fun x y => x <<< (y &&& 31)) 100) := ms_ishl (mi_dec ib_54 dd_54_99)
theorem ks_54_100 : mi_snd cs_G cs_cl cs_inf 54 100 (mj_push (.inl (-1)) 101) := ms_iconst (mi_dec ib_54 dd_54_100) (by decide)
theorem ks_54_101 : mi_snd cs_G cs_cl cs_inf 54 101 (mj_bin (fun x y => x ^^^ y) 102) := ms_ixor (mi_dec ib_54 dd_54_101)
theorem ks_54_102 : mi_snd cs_G cs_cl cs_inf 54 102 (mj_bin (fun x y => x &&& y) 103) := ms_iand (mi_dec ib_54 dd_54_102)
theorem ks_54_103 : mi_snd cs_G cs_cl cs_inf 54 103 (mj_istore 1 104) := ms_istore_n (mi_dec ib_54 dd_54_103) rfl
theorem ks_54_104 : mi_snd cs_G cs_cl cs_inf 54 104 (mj_iinc 3 1 107) := ms_iinc (mi_dec ib_54 dd_54_104) (by decide)
theorem ks_54_107 : mi_snd cs_G cs_cl cs_inf 54 107 (mj_goto 38) := ms_goto (mi_dec ib_54 dd_54_107) (by decide)
theorem ks_54_110 : mi_snd cs_G cs_cl cs_inf 54 110 (mj_ret) := ms_ret (mi_dec ib_54 dd_54_110) rfl
def ct_54 : List (Nat × mi_I) := [
  (0, mj_aload 0 1),
  (1, mj_get 5 3 4),
  (4, mj_aload 0 5),
  (5, mj_get 5 0 8),
  (8, mj_get 1 1 11),
  (11, mj_cmp (fun x y => decide (¬ x = y)) 15 14),
  (14, mj_ret),
  (15, mj_aload 0 16),
  (16, mj_aload 0 17),
  (17, mj_get 5 0 20),
  (20, mj_get 1 1 23),
  (23, mj_putI 5 3 26),
  (26, mj_aload 0 27),
  (27, mj_get 5 0 30),
  (30, mj_callV 1 15 0 1 33),
  (33, mj_istore 1 34),
  (34, mj_push (.inl 0) 35),
  (35, mj_istore 2 36),
  (36, mj_push (.inl 0) 37),
  (37, mj_istore 3 38),
  (38, mj_iload 3 39),
  (39, mj_aload 0 40),
  (40, mj_get 5 0 43),
  (43, mj_get 1 0 46),
  (46, mj_cmp (fun x y => decide (y ≤ x)) 110 49),
  (49, mj_aload 0 50),
  (50, mj_get 5 0 53),
  (53, mj_iload 1 54),
  (54, mj_callV 1 32 1 5 57),
  (57, mj_istore 4 59),
  (59, mj_iload 4 61),
  (61, mj_if (fun x => decide (x < 0)) 104 64),
  (64, mj_iload 2 65),
  (65, mj_aload 0 66),
  (66, mj_get 5 0 69),
  (69, mj_iload 4 71),
  (71, mj_iload 1 72),
  (72, mj_callV 1 33 2 3 75),
  (75, mj_callS 41 2 2 78),
  (78, mj_istore 2 79),
  (79, mj_aload 0 80),
  (80, mj_get 5 1 83),
  (83, mj_iload 3 84),
  (84, mj_iload 4 86),
  (86, mj_iast 87),
  (87, mj_aload 0 88),
  (88, mj_get 5 2 91),
  (91, mj_iload 4 93),
  (93, mj_iload 2 94),
  (94, mj_iast 95),
  (95, mj_iload 1 96),
  (96, mj_push (.inl 1) 97),
  (97, mj_iload 4 99),
  (99, mj_bin (fun x y => x <<< (y &&& 31)) 100),
  (100, mj_push (.inl (-1)) 101),
  (101, mj_bin (fun x y => x ^^^ y) 102),
  (102, mj_bin (fun x y => x &&& y) 103),
  (103, mj_istore 1 104),
  (104, mj_iinc 3 1 107),
  (107, mj_goto 38),
  (110, mj_ret)]
theorem sd_54 : ∀ q ∈ ct_54, mi_snd cs_G cs_cl cs_inf 54 q.1 q.2 := mi_fc ks_54_0 (mi_fc ks_54_1 (mi_fc ks_54_4 (mi_fc ks_54_5 (mi_fc ks_54_8 (mi_fc ks_54_11 (mi_fc ks_54_14 (mi_fc ks_54_15 (mi_fc ks_54_16 (mi_fc ks_54_17 (mi_fc ks_54_20 (mi_fc ks_54_23 (mi_fc ks_54_26 (mi_fc ks_54_27 (mi_fc ks_54_30 (mi_fc ks_54_33 (mi_fc ks_54_34 (mi_fc ks_54_35 (mi_fc ks_54_36 (mi_fc ks_54_37 (mi_fc ks_54_38 (mi_fc ks_54_39 (mi_fc ks_54_40 (mi_fc ks_54_43 (mi_fc ks_54_46 (mi_fc ks_54_49 (mi_fc ks_54_50 (mi_fc ks_54_53 (mi_fc ks_54_54 (mi_fc ks_54_57 (mi_fc ks_54_59 (mi_fc ks_54_61 (mi_fc ks_54_64 (mi_fc ks_54_65 (mi_fc ks_54_66 (mi_fc ks_54_69 (mi_fc ks_54_71 (mi_fc ks_54_72 (mi_fc ks_54_75 (mi_fc ks_54_78 (mi_fc ks_54_79 (mi_fc ks_54_80 (mi_fc ks_54_83 (mi_fc ks_54_84 (mi_fc ks_54_86 (mi_fc ks_54_87 (mi_fc ks_54_88 (mi_fc ks_54_91 (mi_fc ks_54_93 (mi_fc ks_54_94 (mi_fc ks_54_95 (mi_fc ks_54_96 (mi_fc ks_54_97 (mi_fc ks_54_99 (mi_fc ks_54_100 (mi_fc ks_54_101 (mi_fc ks_54_102 (mi_fc ks_54_103 (mi_fc ks_54_104 (mi_fc ks_54_107 (mi_fc ks_54_110 mi_fn))))))))))))))))))))))))))))))))))))))))))))))))))))))))))))

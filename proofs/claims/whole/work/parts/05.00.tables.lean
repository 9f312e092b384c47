theorem dd_0_0 : decode prog_1_method_2_code 0 = .ok (.iload_n 1, 1) := by decide +kernel
theorem dd_0_1 : decode prog_1_method_2_code 1 = .ok (.invokestatic 76, 3) := by decide +kernel
theorem dd_0_4 : decode prog_1_method_2_code 4 = .ok (.ifCond .ne 5, 3) := by decide +kernel
theorem dd_0_7 : decode prog_1_method_2_code 7 = .ok (.iconst (-1), 1) := by decide +kernel
theorem dd_0_8 : decode prog_1_method_2_code 8 = .ok (.ireturn, 1) := by decide +kernel
theorem dd_0_9 : decode prog_1_method_2_code 9 = .ok (.aload_n 0, 1) := by decide +kernel
theorem dd_0_10 : decode prog_1_method_2_code 10 = .ok (.getfield 10, 3) := by decide +kernel
theorem dd_0_13 : decode prog_1_method_2_code 13 = .ok (.invokevirtual 80, 3) := by decide +kernel
theorem dd_0_16 : decode prog_1_method_2_code 16 = .ok (.ifCond .eq 8, 3) := by decide +kernel
theorem dd_0_19 : decode prog_1_method_2_code 19 = .ok (.bipush (-3), 2) := by decide +kernel
theorem dd_0_21 : decode prog_1_method_2_code 21 = .ok (.goto 11, 3) := by decide +kernel
theorem dd_0_24 : decode prog_1_method_2_code 24 = .ok (.aload_n 0, 1) := by decide +kernel
theorem dd_0_25 : decode prog_1_method_2_code 25 = .ok (.getfield 10, 3) := by decide +kernel
theorem dd_0_28 : decode prog_1_method_2_code 28 = .ok (.iload_n 1, 1) := by decide +kernel
theorem dd_0_29 : decode prog_1_method_2_code 29 = .ok (.invokevirtual 84, 3) := by decide +kernel
theorem dd_0_32 : decode prog_1_method_2_code 32 = .ok (.ireturn, 1) := by decide +kernel
theorem ks_0_0 : mi_snd cs_G cs_cl cs_inf 0 0 (mj_iload 1 1) := ms_iload_n (mi_dec ib_0 dd_0_0) rfl
theorem ks_0_1 : mi_snd cs_G cs_cl cs_inf 0 1 (mj_callS 1 1 1 4) := ms_callS iw_c1 (mi_dec ib_0 dd_0_1) gw_266 iw_s1 iw_n1 (by decide +kernel) rfl (by decide)
theorem ks_0_4 : mi_snd cs_G cs_cl cs_inf 0 4 (mj_if (fun x => decide (¬ x = 0)) 9 7) := ms_if_ne (mi_dec ib_0 dd_0_4) (by decide)
theorem ks_0_7 : mi_snd cs_G cs_cl cs_inf 0 7 (mj_push (.inl (-1)) 8) := ms_iconst (mi_dec ib_0 dd_0_7) (by decide)
theorem ks_0_8 : mi_snd cs_G cs_cl cs_inf 0 8 (mj_iret) := ms_iret (mi_dec ib_0 dd_0_8) rfl
theorem ks_0_9 : mi_snd cs_G cs_cl cs_inf 0 9 (mj_aload 0 10) := ms_aload_n (mi_dec ib_0 dd_0_9) rfl
theorem ks_0_10 : mi_snd cs_G cs_cl cs_inf 0 10 (mj_get 0 0 13) := ms_get (T := cs_T0) (k := 0) (mi_dec ib_0 dd_0_10) rfl cs_in0 (by decide) gw_231
theorem ks_0_13 : mi_snd cs_G cs_cl cs_inf 0 13 (mj_callV 1 2 0 1 16) := ms_callVN iw_c2 (mi_dec ib_0 dd_0_13) gw_269 iw_i2 rfl iw_v2 iw_n2 (by decide +kernel) rfl (by decide)
theorem ks_0_16 : mi_snd cs_G cs_cl cs_inf 0 16 (mj_if (fun x => decide (x = 0)) 24 19) := ms_if_eq (mi_dec ib_0 dd_0_16) (by decide)
theorem ks_0_19 : mi_snd cs_G cs_cl cs_inf 0 19 (mj_push (.inl (-3)) 21) := ms_bipush (mi_dec ib_0 dd_0_19) (by decide)
theorem ks_0_21 : mi_snd cs_G cs_cl cs_inf 0 21 (mj_goto 32) := ms_goto (mi_dec ib_0 dd_0_21) (by decide)
theorem ks_0_24 : mi_snd cs_G cs_cl cs_inf 0 24 (mj_aload 0 25) := ms_aload_n (mi_dec ib_0 dd_0_24) rfl
theorem ks_0_25 : mi_snd cs_G cs_cl cs_inf 0 25 (mj_get 0 0 28) := ms_get (T := cs_T0) (k := 0) (mi_dec ib_0 dd_0_25) rfl cs_in0 (by decide) gw_231
theorem ks_0_28 : mi_snd cs_G cs_cl cs_inf 0 28 (mj_iload 1 29) := ms_iload_n (mi_dec ib_0 dd_0_28) rfl
theorem ks_0_29 : mi_snd cs_G cs_cl cs_inf 0 29 (mj_callV 1 3 1 3 32) := ms_callVN iw_c3 (mi_dec ib_0 dd_0_29) gw_273 iw_i3 rfl iw_v3 iw_n3 (by decide +kernel) rfl (by decide)
theorem ks_0_32 : mi_snd cs_G cs_cl cs_inf 0 32 (mj_iret) := ms_iret (mi_dec ib_0 dd_0_32) rfl
def ct_0 : List (Nat × mi_I) := [
  (0, mj_iload 1 1),
  (1, mj_callS 1 1 1 4),
  (4, mj_if (fun x => decide (¬ x = 0)) 9 7),
  (7, mj_push (.inl (-1)) 8),
  (8, mj_iret),
  (9, mj_aload 0 10),
  (10, mj_get 0 0 13),
  (13, mj_callV 1 2 0 1 16),
  (16, mj_if (fun x => decide (x = 0)) 24 19),
  (19, mj_push (.inl (-3)) 21),
  (21, mj_goto 32),
  (24, mj_aload 0 25),
  (25, mj_get 0 0 28),
  (28, mj_iload 1 29),
  (29, mj_callV 1 3 1 3 32),
  (32, mj_iret)]
theorem sd_0 : ∀ q ∈ ct_0, mi_snd cs_G cs_cl cs_inf 0 q.1 q.2 := mi_fc ks_0_0 (mi_fc ks_0_1 (mi_fc ks_0_4 (mi_fc ks_0_7 (mi_fc ks_0_8 (mi_fc ks_0_9 (mi_fc ks_0_10 (mi_fc ks_0_13 (mi_fc ks_0_16 (mi_fc ks_0_19 (mi_fc ks_0_21 (mi_fc ks_0_24 (mi_fc ks_0_25 (mi_fc ks_0_28 (mi_fc ks_0_29 (mi_fc ks_0_32 mi_fn)))))))))))))))
theorem dd_1_0 : decode prog_1_method_25_code 0 = .ok (.iload_n 0, 1) := by decide +kernel
theorem dd_1_1 : decode prog_1_method_25_code 1 = .ok (.iconst 1, 1) := by decide +kernel
theorem dd_1_2 : decode prog_1_method_25_code 2 = .ok (.if_icmp .lt 14, 3) := by decide +kernel
theorem dd_1_5 : decode prog_1_method_25_code 5 = .ok (.iload_n 0, 1) := by decide +kernel
theorem dd_1_6 : decode prog_1_method_25_code 6 = .ok (.sipush 1000, 3) := by decide +kernel
theorem dd_1_9 : decode prog_1_method_25_code 9 = .ok (.if_icmp .gt 7, 3) := by decide +kernel
theorem dd_1_12 : decode prog_1_method_25_code 12 = .ok (.iconst 1, 1) := by decide +kernel
theorem dd_1_13 : decode prog_1_method_25_code 13 = .ok (.goto 4, 3) := by decide +kernel
theorem dd_1_16 : decode prog_1_method_25_code 16 = .ok (.iconst 0, 1) := by decide +kernel
theorem dd_1_17 : decode prog_1_method_25_code 17 = .ok (.ireturn, 1) := by decide +kernel
theorem ks_1_0 : mi_snd cs_G cs_cl cs_inf 1 0 (mj_iload 0 1) := ms_iload_n (mi_dec ib_1 dd_1_0) rfl
theorem ks_1_1 : mi_snd cs_G cs_cl cs_inf 1 1 (mj_push (.inl 1) 2) := ms_iconst (mi_dec ib_1 dd_1_1) (by decide)
theorem ks_1_2 : mi_snd cs_G cs_cl cs_inf 1 2 (mj_cmp (fun x y => decide (x < y)) 16 5) := ms_icmp_lt (mi_dec ib_1 dd_1_2) (by decide)
theorem ks_1_5 : mi_snd cs_G cs_cl cs_inf 1 5 (mj_iload 0 6) := ms_iload_n (mi_dec ib_1 dd_1_5) rfl
theorem ks_1_6 : mi_snd cs_G cs_cl cs_inf 1 6 (mj_push (.inl 1000) 9) := ms_sipush (mi_dec ib_1 dd_1_6) (by decide)
theorem ks_1_9 : mi_snd cs_G cs_cl cs_inf 1 9 (mj_cmp (fun x y => decide (y < x)) 16 12) := ms_icmp_gt (mi_dec ib_1 dd_1_9) (by decide)
theorem ks_1_12 : mi_snd cs_G cs_cl cs_inf 1 12 (mj_push (.inl 1) 13) := ms_iconst (mi_dec ib_1 dd_1_12) (by decide)
theorem ks_1_13 : mi_snd cs_G cs_cl cs_inf 1 13 (mj_goto 17) := ms_goto (mi_dec ib_1 dd_1_13) (by decide)
theorem ks_1_16 : mi_snd cs_G cs_cl cs_inf 1 16 (mj_push (.inl 0) 17) := ms_iconst (mi_dec ib_1 dd_1_16) (by decide)
theorem ks_1_17 : mi_snd cs_G cs_cl cs_inf 1 17 (mj_zret) := ms_zret (mi_dec ib_1 dd_1_17) rfl
def ct_1 : List (Nat × mi_I) := [
  (0, mj_iload 0 1),
  (1, mj_push (.inl 1) 2),
  (2, mj_cmp (fun x y => decide (x < y)) 16 5),
  (5, mj_iload 0 6),
  (6, mj_push (.inl 1000) 9),
  (9, mj_cmp (fun x y => decide (y < x)) 16 12),
  (12, mj_push (.inl 1) 13),
  (13, mj_goto 17),
  (16, mj_push (.inl 0) 17),
  (17, mj_zret)]
theorem sd_1 : ∀ q ∈ ct_1, mi_snd cs_G cs_cl cs_inf 1 q.1 q.2 := mi_fc ks_1_0 (mi_fc ks_1_1 (mi_fc ks_1_2 (mi_fc ks_1_5 (mi_fc ks_1_6 (mi_fc ks_1_9 (mi_fc ks_1_12 (mi_fc ks_1_13 (mi_fc ks_1_16 (mi_fc ks_1_17 mi_fn)))))))))
theorem dd_2_0 : decode prog_5_method_2_code 0 = .ok (.aload_n 0, 1) := by decide +kernel
theorem dd_2_1 : decode prog_5_method_2_code 1 = .ok (.getfield 18, 3) := by decide +kernel
theorem dd_2_4 : decode prog_5_method_2_code 4 = .ok (.bipush 16, 2) := by decide +kernel
theorem dd_2_6 : decode prog_5_method_2_code 6 = .ok (.if_icmp .lt 7, 3) := by decide +kernel
theorem dd_2_9 : decode prog_5_method_2_code 9 = .ok (.iconst 1, 1) := by decide +kernel
theorem dd_2_10 : decode prog_5_method_2_code 10 = .ok (.goto 4, 3) := by decide +kernel
theorem dd_2_13 : decode prog_5_method_2_code 13 = .ok (.iconst 0, 1) := by decide +kernel
theorem dd_2_14 : decode prog_5_method_2_code 14 = .ok (.ireturn, 1) := by decide +kernel
theorem ks_2_0 : mi_snd cs_G cs_cl cs_inf 2 0 (mj_aload 0 1) := ms_aload_n (mi_dec ib_2 dd_2_0) rfl
theorem ks_2_1 : mi_snd cs_G cs_cl cs_inf 2 1 (mj_get 1 0 4) := ms_get (T := cs_T1) (k := 0) (mi_dec ib_2 dd_2_1) rfl cs_in1 (by decide) gw_29
theorem ks_2_4 : mi_snd cs_G cs_cl cs_inf 2 4 (mj_push (.inl 16) 6) := ms_bipush (mi_dec ib_2 dd_2_4) (by decide)
theorem ks_2_6 : mi_snd cs_G cs_cl cs_inf 2 6 (mj_cmp (fun x y => decide (x < y)) 13 9) := ms_icmp_lt (mi_dec ib_2 dd_2_6) (by decide)
theorem ks_2_9 : mi_snd cs_G cs_cl cs_inf 2 9 (mj_push (.inl 1) 10) := ms_iconst (mi_dec ib_2 dd_2_9) (by decide)
theorem ks_2_10 : mi_snd cs_G cs_cl cs_inf 2 10 (mj_goto 14) := ms_goto (mi_dec ib_2 dd_2_10) (by decide)
theorem ks_2_13 : mi_snd cs_G cs_cl cs_inf 2 13 (mj_push (.inl 0) 14) := ms_iconst (mi_dec ib_2 dd_2_13) (by decide)
theorem ks_2_14 : mi_snd cs_G cs_cl cs_inf 2 14 (mj_zret) := ms_zret (mi_dec ib_2 dd_2_14) rfl
def ct_2 : List (Nat × mi_I) := [
  (0, mj_aload 0 1),
  (1, mj_get 1 0 4),
  (4, mj_push (.inl 16) 6),
  (6, mj_cmp (fun x y => decide (x < y)) 13 9),
  (9, mj_push (.inl 1) 10),
  (10, mj_goto 14),
  (13, mj_push (.inl 0) 14),
  (14, mj_zret)]
theorem sd_2 : ∀ q ∈ ct_2, mi_snd cs_G cs_cl cs_inf 2 q.1 q.2 := mi_fc ks_2_0 (mi_fc ks_2_1 (mi_fc ks_2_4 (mi_fc ks_2_6 (mi_fc ks_2_9 (mi_fc ks_2_10 (mi_fc ks_2_13 (mi_fc ks_2_14 mi_fn)))))))
theorem dd_3_0 : decode prog_5_method_6_code 0 = .ok (.aload_n 0, 1) := by decide +kernel
theorem dd_3_1 : decode prog_5_method_6_code 1 = .ok (.invokevirtual 26, 3) := by decide +kernel
theorem dd_3_4 : decode prog_5_method_6_code 4 = .ok (.ifCond .eq 6, 3) := by decide +kernel
theorem dd_3_7 : decode prog_5_method_6_code 7 = .ok (.bipush (-3), 2) := by decide +kernel
theorem dd_3_9 : decode prog_5_method_6_code 9 = .ok (.ireturn, 1) := by decide +kernel
theorem dd_3_10 : decode prog_5_method_6_code 10 = .ok (.aload_n 0, 1) := by decide +kernel
theorem dd_3_11 : decode prog_5_method_6_code 11 = .ok (.getfield 18, 3) := by decide +kernel
theorem dd_3_14 : decode prog_5_method_6_code 14 = .ok (.istore_n 2, 1) := by decide +kernel
theorem dd_3_15 : decode prog_5_method_6_code 15 = .ok (.aload_n 0, 1) := by decide +kernel
theorem dd_3_16 : decode prog_5_method_6_code 16 = .ok (.getfield 9, 3) := by decide +kernel
theorem dd_3_19 : decode prog_5_method_6_code 19 = .ok (.iload_n 2, 1) := by decide +kernel
theorem dd_3_20 : decode prog_5_method_6_code 20 = .ok (.iload_n 1, 1) := by decide +kernel
theorem dd_3_21 : decode prog_5_method_6_code 21 = .ok (.iastore, 1) := by decide +kernel
theorem dd_3_22 : decode prog_5_method_6_code 22 = .ok (.aload_n 0, 1) := by decide +kernel
theorem dd_3_23 : decode prog_5_method_6_code 23 = .ok (.getfield 15, 3) := by decide +kernel
theorem dd_3_26 : decode prog_5_method_6_code 26 = .ok (.iload_n 2, 1) := by decide +kernel
theorem dd_3_27 : decode prog_5_method_6_code 27 = .ok (.iconst 0, 1) := by decide +kernel
theorem dd_3_28 : decode prog_5_method_6_code 28 = .ok (.iastore, 1) := by decide +kernel
theorem dd_3_29 : decode prog_5_method_6_code 29 = .ok (.aload_n 0, 1) := by decide +kernel
theorem dd_3_30 : decode prog_5_method_6_code 30 = .ok (.dup, 1) := by decide +kernel
theorem dd_3_31 : decode prog_5_method_6_code 31 = .ok (.getfield 18, 3) := by decide +kernel
theorem dd_3_34 : decode prog_5_method_6_code 34 = .ok (.iconst 1, 1) := by decide +kernel
theorem dd_3_35 : decode prog_5_method_6_code 35 = .ok (.iadd, 1) := by decide +kernel
theorem dd_3_36 : decode prog_5_method_6_code 36 = .ok (.putfield 18, 3) := by decide +kernel
theorem dd_3_39 : decode prog_5_method_6_code 39 = .ok (.aload_n 0, 1) := by decide +kernel
theorem dd_3_40 : decode prog_5_method_6_code 40 = .ok (.dup, 1) := by decide +kernel
theorem dd_3_41 : decode prog_5_method_6_code 41 = .ok (.getfield 30, 3) := by decide +kernel
theorem dd_3_44 : decode prog_5_method_6_code 44 = .ok (.iconst 1, 1) := by decide +kernel
theorem dd_3_45 : decode prog_5_method_6_code 45 = .ok (.iadd, 1) := by decide +kernel
theorem dd_3_46 : decode prog_5_method_6_code 46 = .ok (.putfield 30, 3) := by decide +kernel
theorem dd_3_49 : decode prog_5_method_6_code 49 = .ok (.iload_n 2, 1) := by decide +kernel
theorem dd_3_50 : decode prog_5_method_6_code 50 = .ok (.ireturn, 1) := by decide +kernel
theorem ks_3_0 : mi_snd cs_G cs_cl cs_inf 3 0 (mj_aload 0 1) := ms_aload_n (mi_dec ib_3 dd_3_0) rfl
theorem ks_3_1 : mi_snd cs_G cs_cl cs_inf 3 1 (mj_callV 1 2 0 1 4) := ms_callV iw_c2 (mi_dec ib_3 dd_3_1) gw_277 iw_i2 rfl iw_v2 iw_n2 (by decide +kernel) rfl (by decide)
theorem ks_3_4 : mi_snd cs_G cs_cl cs_inf 3 4 (mj_if (fun x => decide (x = 0)) 10 7) := ms_if_eq (mi_dec ib_3 dd_3_4) (by decide)
theorem ks_3_7 : mi_snd cs_G cs_cl cs_inf 3 7 (mj_push (.inl (-3)) 9) := ms_bipush (mi_dec ib_3 dd_3_7) (by decide)
theorem ks_3_9 : mi_snd cs_G cs_cl cs_inf 3 9 (mj_iret) := ms_iret (mi_dec ib_3 dd_3_9) rfl
theorem ks_3_10 : mi_snd cs_G cs_cl cs_inf 3 10 (mj_aload 0 11) := ms_aload_n (mi_dec ib_3 dd_3_10) rfl
theorem ks_3_11 : mi_snd cs_G cs_cl cs_inf 3 11 (mj_get 1 0 14) := ms_get (T := cs_T1) (k := 0) (mi_dec ib_3 dd_3_11) rfl cs_in1 (by decide) gw_29
theorem ks_3_14 : mi_snd cs_G cs_cl cs_inf 3 14 (mj_istore 2 15) := ms_istore_n (mi_dec ib_3 dd_3_14) rfl
theorem ks_3_15 : mi_snd cs_G cs_cl cs_inf 3 15 (mj_aload 0 16) := ms_aload_n (mi_dec ib_3 dd_3_15) rfl
theorem ks_3_16 : mi_snd cs_G cs_cl cs_inf 3 16 (mj_get 1 2 19) := ms_get (T := cs_T1) (k := 2) (mi_dec ib_3 dd_3_16) rfl cs_in1 (by decide) gw_37
theorem ks_3_19 : mi_snd cs_G cs_cl cs_inf 3 19 (mj_iload 2 20) := ms_iload_n (mi_dec ib_3 dd_3_19) rfl
theorem ks_3_20 : mi_snd cs_G cs_cl cs_inf 3 20 (mj_iload 1 21) := ms_iload_n (mi_dec ib_3 dd_3_20) rfl
theorem ks_3_21 : mi_snd cs_G cs_cl cs_inf 3 21 (mj_iast 22) := ms_iast (mi_dec ib_3 dd_3_21)
theorem ks_3_22 : mi_snd cs_G cs_cl cs_inf 3 22 (mj_aload 0 23) := ms_aload_n (mi_dec ib_3 dd_3_22) rfl
theorem ks_3_23 : mi_snd cs_G cs_cl cs_inf 3 23 (mj_get 1 3 26) := ms_get (T := cs_T1) (k := 3) (mi_dec ib_3 dd_3_23) rfl cs_in1 (by decide) gw_38
theorem ks_3_26 : mi_snd cs_G cs_cl cs_inf 3 26 (mj_iload 2 27) := ms_iload_n (mi_dec ib_3 dd_3_26) rfl
theorem ks_3_27 : mi_snd cs_G cs_cl cs_inf 3 27 (mj_push (.inl 0) 28) := ms_iconst (mi_dec ib_3 dd_3_27) (by decide)
theorem ks_3_28 : mi_snd cs_G cs_cl cs_inf 3 28 (mj_iast 29) := ms_iast (mi_dec ib_3 dd_3_28)
theorem ks_3_29 : mi_snd cs_G cs_cl cs_inf 3 29 (mj_aload 0 30) := ms_aload_n (mi_dec ib_3 dd_3_29) rfl
theorem ks_3_30 : mi_snd cs_G cs_cl cs_inf 3 30 (mj_dup 31) := ms_dup (mi_dec ib_3 dd_3_30)
theorem ks_3_31 : mi_snd cs_G cs_cl cs_inf 3 31 (mj_get 1 0 34) := ms_get (T := cs_T1) (k := 0) (mi_dec ib_3 dd_3_31) rfl cs_in1 (by decide) gw_29
theorem ks_3_34 : mi_snd cs_G cs_cl cs_inf 3 34 (mj_push (.inl 1) 35) := ms_iconst (mi_dec ib_3 dd_3_34) (by decide)
theorem ks_3_35 : mi_snd cs_G cs_cl cs_inf 3 35 (mj_bin (fun x y => x + y) 36) := ms_iadd (mi_dec ib_3 dd_3_35)
theorem ks_3_36 : mi_snd cs_G cs_cl cs_inf 3 36 (mj_putI 1 0 39) := ms_putI (T := cs_T1) (k := 0) (mi_dec ib_3 dd_3_36) rfl cs_in1 cs_ty1_ok cs_nm1 (by decide) gw_29 (by decide) (by decide +kernel)
theorem ks_3_39 : mi_snd cs_G cs_cl cs_inf 3 39 (mj_aload 0 40) := ms_aload_n (mi_dec ib_3 dd_3_39) rfl
theorem ks_3_40 : mi_snd cs_G cs_cl cs_inf 3 40 (mj_dup 41) := ms_dup (mi_dec ib_3 dd_3_40)
theorem ks_3_41 : mi_snd cs_G cs_cl cs_inf 3 41 (mj_get 1 1 44) := ms_get (T := cs_T1) (k := 1) (mi_dec ib_3 dd_3_41) rfl cs_in1 (by decide) gw_35
theorem ks_3_44 : mi_snd cs_G cs_cl cs_inf 3 44 (mj_push (.inl 1) 45) := ms_iconst (mi_dec ib_3 dd_3_44) (by decide)
theorem ks_3_45 : mi_snd cs_G cs_cl cs_inf 3 45 (mj_bin (fun x y => x + y) 46) := ms_iadd (mi_dec ib_3 dd_3_45)
theorem ks_3_46 : mi_snd cs_G cs_cl cs_inf 3 46 (mj_putI 1 1 49) := ms_putI (T := cs_T1) (k := 1) (mi_dec ib_3 dd_3_46) rfl cs_in1 cs_ty1_ok cs_nm1 (by decide) gw_35 (by decide) (by decide +kernel)
theorem ks_3_49 : mi_snd cs_G cs_cl cs_inf 3 49 (mj_iload 2 50) := ms_iload_n (mi_dec ib_3 dd_3_49) rfl
theorem ks_3_50 : mi_snd cs_G cs_cl cs_inf 3 50 (mj_iret) := ms_iret (mi_dec ib_3 dd_3_50) rfl
def ct_3 : List (Nat × mi_I) := [
  (0, mj_aload 0 1),
  (1, mj_callV 1 2 0 1 4),
  (4, mj_if (fun x => decide (x = 0)) 10 7),
  (7, mj_push (.inl (-3)) 9),
  (9, mj_iret),
  (10, mj_aload 0 11),
  (11, mj_get 1 0 14),
  (14, mj_istore 2 15),
  (15, mj_aload 0 16),
  (16, mj_get 1 2 19),
  (19, mj_iload 2 20),
  (20, mj_iload 1 21),
  (21, mj_iast 22),
  (22, mj_aload 0 23),
  (23, mj_get 1 3 26),
  (26, mj_iload 2 27),
  (27, mj_push (.inl 0) 28),
  (28, mj_iast 29),
  (29, mj_aload 0 30),
  (30, mj_dup 31),
  (31, mj_get 1 0 34),
  (34, mj_push (.inl 1) 35),
  (35, mj_bin (fun x y => x + y) 36),
  (36, mj_putI 1 0 39),
  (39, mj_aload 0 40),
  (40, mj_dup 41),
  (41, mj_get 1 1 44),
  (44, mj_push (.inl 1) 45),
  (45, mj_bin (fun x y => x + y) 46),
  (46, mj_putI 1 1 49),
  (49, mj_iload 2 50),
  (50, mj_iret)]
theorem sd_3 : ∀ q ∈ ct_3, mi_snd cs_G cs_cl cs_inf 3 q.1 q.2 := mi_fc ks_3_0 (mi_fc ks_3_1 (mi_fc ks_3_4 (mi_fc ks_3_7 (mi_fc ks_3_9 (mi_fc ks_3_10 (mi_fc ks_3_11 (mi_fc ks_3_14 (mi_fc ks_3_15 (mi_fc ks_3_16 (mi_fc ks_3_19 (mi_fc ks_3_20 (mi_fc ks_3_21 (mi_fc ks_3_22 (mi_fc ks_3_23 (mi_fc ks_3_26 (mi_fc ks_3_27 (mi_fc ks_3_28 (mi_fc ks_3_29 (mi_fc ks_3_30 (mi_fc ks_3_31 (mi_fc ks_3_34 (mi_fc ks_3_35 (mi_fc ks_3_36 (mi_fc ks_3_39 (mi_fc ks_3_40 (mi_fc ks_3_41 (mi_fc ks_3_44 (mi_fc ks_3_45 (mi_fc ks_3_46 (mi_fc ks_3_49 (mi_fc ks_3_50 mi_fn)))))))))))))))))))))))))))))))
theorem dd_4_0 : decode prog_1_method_3_code 0 = .ok (.aload_n 0, 1) := by decide +kernel
theorem dd_4_1 : decode prog_1_method_3_code 1 = .ok (.getfield 10, 3) := by decide +kernel
theorem dd_4_4 : decode prog_1_method_3_code 4 = .ok (.iload_n 1, 1) := by decide +kernel
theorem dd_4_5 : decode prog_1_method_3_code 5 = .ok (.invokevirtual 88, 3) := by decide +kernel
theorem dd_4_8 : decode prog_1_method_3_code 8 = .ok (.ifCond .eq 19, 3) := by decide +kernel
theorem dd_4_11 : decode prog_1_method_3_code 11 = .ok (.aload_n 0, 1) := by decide +kernel
theorem dd_4_12 : decode prog_1_method_3_code 12 = .ok (.getfield 10, 3) := by decide +kernel
theorem dd_4_15 : decode prog_1_method_3_code 15 = .ok (.iload_n 2, 1) := by decide +kernel
theorem dd_4_16 : decode prog_1_method_3_code 16 = .ok (.invokevirtual 88, 3) := by decide +kernel
theorem dd_4_19 : decode prog_1_method_3_code 19 = .ok (.ifCond .eq 8, 3) := by decide +kernel
theorem dd_4_22 : decode prog_1_method_3_code 22 = .ok (.iload_n 1, 1) := by decide +kernel
theorem dd_4_23 : decode prog_1_method_3_code 23 = .ok (.iload_n 2, 1) := by decide +kernel
theorem dd_4_24 : decode prog_1_method_3_code 24 = .ok (.if_icmp .ne 5, 3) := by decide +kernel
theorem dd_4_27 : decode prog_1_method_3_code 27 = .ok (.iconst (-1), 1) := by decide +kernel
theorem dd_4_28 : decode prog_1_method_3_code 28 = .ok (.ireturn, 1) := by decide +kernel
theorem dd_4_29 : decode prog_1_method_3_code 29 = .ok (.aload_n 0, 1) := by decide +kernel
theorem dd_4_30 : decode prog_1_method_3_code 30 = .ok (.getfield 10, 3) := by decide +kernel
theorem dd_4_33 : decode prog_1_method_3_code 33 = .ok (.iload_n 1, 1) := by decide +kernel
theorem dd_4_34 : decode prog_1_method_3_code 34 = .ok (.invokevirtual 91, 3) := by decide +kernel
theorem dd_4_37 : decode prog_1_method_3_code 37 = .ok (.iload_n 2, 1) := by decide +kernel
theorem dd_4_38 : decode prog_1_method_3_code 38 = .ok (.invokestatic 94, 3) := by decide +kernel
theorem dd_4_41 : decode prog_1_method_3_code 41 = .ok (.ifCond .eq 7, 3) := by decide +kernel
theorem dd_4_44 : decode prog_1_method_3_code 44 = .ok (.iconst 1, 1) := by decide +kernel
theorem dd_4_45 : decode prog_1_method_3_code 45 = .ok (.goto 4, 3) := by decide +kernel
theorem dd_4_48 : decode prog_1_method_3_code 48 = .ok (.iconst 0, 1) := by decide +kernel
theorem dd_4_49 : decode prog_1_method_3_code 49 = .ok (.istore 4, 2) := by decide +kernel
theorem dd_4_51 : decode prog_1_method_3_code 51 = .ok (.aload_n 0, 1) := by decide +kernel
theorem dd_4_52 : decode prog_1_method_3_code 52 = .ok (.getfield 10, 3) := by decide +kernel
theorem dd_4_55 : decode prog_1_method_3_code 55 = .ok (.iload_n 1, 1) := by decide +kernel
theorem dd_4_56 : decode prog_1_method_3_code 56 = .ok (.iload_n 2, 1) := by decide +kernel
theorem dd_4_57 : decode prog_1_method_3_code 57 = .ok (.iload_n 3, 1) := by decide +kernel
theorem dd_4_58 : decode prog_1_method_3_code 58 = .ok (.invokevirtual 98, 3) := by decide +kernel
theorem dd_4_61 : decode prog_1_method_3_code 61 = .ok (.iload 4, 2) := by decide +kernel
theorem dd_4_63 : decode prog_1_method_3_code 63 = .ok (.ireturn, 1) := by decide +kernel
theorem ks_4_0 : mi_snd cs_G cs_cl cs_inf 4 0 (mj_aload 0 1) := ms_aload_n (mi_dec ib_4 dd_4_0) rfl
theorem ks_4_1 : mi_snd cs_G cs_cl cs_inf 4 1 (mj_get 0 0 4) := ms_get (T := cs_T0) (k := 0) (mi_dec ib_4 dd_4_1) rfl cs_in0 (by decide) gw_231
theorem ks_4_4 : mi_snd cs_G cs_cl cs_inf 4 4 (mj_iload 1 5) := ms_iload_n (mi_dec ib_4 dd_4_4) rfl
theorem ks_4_5 : mi_snd cs_G cs_cl cs_inf 4 5 (mj_callV 1 5 1 2 8) := ms_callVN iw_c5 (mi_dec ib_4 dd_4_5) gw_282 iw_i5 rfl iw_v5 iw_n5 (by decide +kernel) rfl (by decide)
theorem ks_4_8 : mi_snd cs_G cs_cl cs_inf 4 8 (mj_if (fun x => decide (x = 0)) 27 11) := ms_if_eq (mi_dec ib_4 dd_4_8) (by decide)
theorem ks_4_11 : mi_snd cs_G cs_cl cs_inf 4 11 (mj_aload 0 12) := ms_aload_n (mi_dec ib_4 dd_4_11) rfl
theorem ks_4_12 : mi_snd cs_G cs_cl cs_inf 4 12 (mj_get 0 0 15) := ms_get (T := cs_T0) (k := 0) (mi_dec ib_4 dd_4_12) rfl cs_in0 (by decide) gw_231
theorem ks_4_15 : mi_snd cs_G cs_cl cs_inf 4 15 (mj_iload 2 16) := ms_iload_n (mi_dec ib_4 dd_4_15) rfl
theorem ks_4_16 : mi_snd cs_G cs_cl cs_inf 4 16 (mj_callV 1 5 1 2 19) := ms_callVN iw_c5 (mi_dec ib_4 dd_4_16) gw_282 iw_i5 rfl iw_v5 iw_n5 (by decide +kernel) rfl (by decide)
theorem ks_4_19 : mi_snd cs_G cs_cl cs_inf 4 19 (mj_if (fun x => decide (x = 0)) 27 22) := ms_if_eq (mi_dec ib_4 dd_4_19) (by decide)
theorem ks_4_22 : mi_snd cs_G cs_cl cs_inf 4 22 (mj_iload 1 23) := ms_iload_n (mi_dec ib_4 dd_4_22) rfl
theorem ks_4_23 : mi_snd cs_G cs_cl cs_inf 4 23 (mj_iload 2 24) := ms_iload_n (mi_dec ib_4 dd_4_23) rfl
theorem ks_4_24 : mi_snd cs_G cs_cl cs_inf 4 24 (mj_cmp (fun x y => decide (¬ x = y)) 29 27) := ms_icmp_ne (mi_dec ib_4 dd_4_24) (by decide)
theorem ks_4_27 : mi_snd cs_G cs_cl cs_inf 4 27 (mj_push (.inl (-1)) 28) := ms_iconst (mi_dec ib_4 dd_4_27) (by decide)
theorem ks_4_28 : mi_snd cs_G cs_cl cs_inf 4 28 (mj_iret) := ms_iret (mi_dec ib_4 dd_4_28) rfl
theorem ks_4_29 : mi_snd cs_G cs_cl cs_inf 4 29 (mj_aload 0 30) := ms_aload_n (mi_dec ib_4 dd_4_29) rfl
theorem ks_4_30 : mi_snd cs_G cs_cl cs_inf 4 30 (mj_get 0 0 33) := ms_get (T := cs_T0) (k := 0) (mi_dec ib_4 dd_4_30) rfl cs_in0 (by decide) gw_231
theorem ks_4_33 : mi_snd cs_G cs_cl cs_inf 4 33 (mj_iload 1 34) := ms_iload_n (mi_dec ib_4 dd_4_33) rfl
theorem ks_4_34 : mi_snd cs_G cs_cl cs_inf 4 34 (mj_callV 1 6 1 2 37) := ms_callVN iw_c6 (mi_dec ib_4 dd_4_34) gw_286 iw_i6 rfl iw_v6 iw_n6 (by decide +kernel) rfl (by decide)
theorem ks_4_37 : mi_snd cs_G cs_cl cs_inf 4 37 (mj_iload 2 38) := ms_iload_n (mi_dec ib_4 dd_4_37) rfl
theorem ks_4_38 : mi_snd cs_G cs_cl cs_inf 4 38 (mj_callS 7 2 2 41) := ms_callS iw_c7 (mi_dec ib_4 dd_4_38) gw_291 iw_s7 iw_n7 (by decide +kernel) rfl (by decide)
theorem ks_4_41 : mi_snd cs_G cs_cl cs_inf 4 41 (mj_if (fun x => decide (x = 0)) 48 44) := ms_if_eq (mi_dec ib_4 dd_4_41) (by decide)
theorem ks_4_44 : mi_snd cs_G cs_cl cs_inf 4 44 (mj_push (.inl 1) 45) := ms_iconst (mi_dec ib_4 dd_4_44) (by decide)
theorem ks_4_45 : mi_snd cs_G cs_cl cs_inf 4 45 (mj_goto 49) := ms_goto (mi_dec ib_4 dd_4_45) (by decide)
theorem ks_4_48 : mi_snd cs_G cs_cl cs_inf 4 48 (mj_push (.inl 0) 49) := ms_iconst (mi_dec ib_4 dd_4_48) (by decide)
theorem ks_4_49 : mi_snd cs_G cs_cl cs_inf 4 49 (mj_istore 4 51) := ms_istore (mi_dec ib_4 dd_4_49)
theorem ks_4_51 : mi_snd cs_G cs_cl cs_inf 4 51 (mj_aload 0 52) := ms_aload_n (mi_dec ib_4 dd_4_51) rfl
theorem ks_4_52 : mi_snd cs_G cs_cl cs_inf 4 52 (mj_get 0 0 55) := ms_get (T := cs_T0) (k := 0) (mi_dec ib_4 dd_4_52) rfl cs_in0 (by decide) gw_231
theorem ks_4_55 : mi_snd cs_G cs_cl cs_inf 4 55 (mj_iload 1 56) := ms_iload_n (mi_dec ib_4 dd_4_55) rfl
theorem ks_4_56 : mi_snd cs_G cs_cl cs_inf 4 56 (mj_iload 2 57) := ms_iload_n (mi_dec ib_4 dd_4_56) rfl
theorem ks_4_57 : mi_snd cs_G cs_cl cs_inf 4 57 (mj_iload 3 58) := ms_iload_n (mi_dec ib_4 dd_4_57) rfl
theorem ks_4_58 : mi_snd cs_G cs_cl cs_inf 4 58 (mj_callV 1 8 3 4 61) := ms_callVN iw_c8 (mi_dec ib_4 dd_4_58) gw_294 iw_i8 rfl iw_v8 iw_n8 (by decide +kernel) rfl (by decide)
theorem ks_4_61 : mi_snd cs_G cs_cl cs_inf 4 61 (mj_iload 4 63) := ms_iload (mi_dec ib_4 dd_4_61)
theorem ks_4_63 : mi_snd cs_G cs_cl cs_inf 4 63 (mj_iret) := ms_iret (mi_dec ib_4 dd_4_63) rfl
def ct_4 : List (Nat × mi_I) := [
  (0, mj_aload 0 1),
  (1, mj_get 0 0 4),
  (4, mj_iload 1 5),
  (5, mj_callV 1 5 1 2 8),
  (8, mj_if (fun x => decide (x = 0)) 27 11),
  (11, mj_aload 0 12),
  (12, mj_get 0 0 15),
  (15, mj_iload 2 16),
  (16, mj_callV 1 5 1 2 19),
  (19, mj_if (fun x => decide (x = 0)) 27 22),
  (22, mj_iload 1 23),
  (23, mj_iload 2 24),
  (24, mj_cmp (fun x y => decide (¬ x = y)) 29 27),
  (27, mj_push (.inl (-1)) 28),
  (28, mj_iret),
  (29, mj_aload 0 30),
  (30, mj_get 0 0 33),
  (33, mj_iload 1 34),
  (34, mj_callV 1 6 1 2 37),
  (37, mj_iload 2 38),
  (38, mj_callS 7 2 2 41),
  (41, mj_if (fun x => decide (x = 0)) 48 44),
  (44, mj_push (.inl 1) 45),
  (45, mj_goto 49),
  (48, mj_push (.inl 0) 49),
  (49, mj_istore 4 51),
  (51, mj_aload 0 52),
  (52, mj_get 0 0 55),
  (55, mj_iload 1 56),
  (56, mj_iload 2 57),
  (57, mj_iload 3 58),
  (58, mj_callV 1 8 3 4 61),
  (61, mj_iload 4 63),
  (63, mj_iret)]
theorem sd_4 : ∀ q ∈ ct_4, mi_snd cs_G cs_cl cs_inf 4 q.1 q.2 := mi_fc ks_4_0 (mi_fc ks_4_1 (mi_fc ks_4_4 (mi_fc ks_4_5 (mi_fc ks_4_8 (mi_fc ks_4_11 (mi_fc ks_4_12 (mi_fc ks_4_15 (mi_fc ks_4_16 (mi_fc ks_4_19 (mi_fc ks_4_22 (mi_fc ks_4_23 (mi_fc ks_4_24 (mi_fc ks_4_27 (mi_fc ks_4_28 (mi_fc ks_4_29 (mi_fc ks_4_30 (mi_fc ks_4_33 (mi_fc ks_4_34 (mi_fc ks_4_37 (mi_fc ks_4_38 (mi_fc ks_4_41 (mi_fc ks_4_44 (mi_fc ks_4_45 (mi_fc ks_4_48 (mi_fc ks_4_49 (mi_fc ks_4_51 (mi_fc ks_4_52 (mi_fc ks_4_55 (mi_fc ks_4_56 (mi_fc ks_4_57 (mi_fc ks_4_58 (mi_fc ks_4_61 (mi_fc ks_4_63 mi_fn)))))))))))))))))))))))))))))))))
theorem dd_5_0 : decode prog_5_method_3_code 0 = .ok (.iload_n 1, 1) := by decide +kernel
theorem dd_5_1 : decode prog_5_method_3_code 1 = .ok (.ifCond .lt 15, 3) := by decide +kernel
theorem dd_5_4 : decode prog_5_method_3_code 4 = .ok (.iload_n 1, 1) := by decide +kernel
theorem dd_5_5 : decode prog_5_method_3_code 5 = .ok (.aload_n 0, 1) := by decide +kernel
theorem dd_5_6 : decode prog_5_method_3_code 6 = .ok (.getfield 18, 3) := by decide +kernel
theorem dd_5_9 : decode prog_5_method_3_code 9 = .ok (.if_icmp .ge 7, 3) := by decide +kernel
theorem dd_5_12 : decode prog_5_method_3_code 12 = .ok (.iconst 1, 1) := by decide +kernel
theorem dd_5_13 : decode prog_5_method_3_code 13 = .ok (.goto 4, 3) := by decide +kernel
theorem dd_5_16 : decode prog_5_method_3_code 16 = .ok (.iconst 0, 1) := by decide +kernel
theorem dd_5_17 : decode prog_5_method_3_code 17 = .ok (.ireturn, 1) := by decide +kernel
theorem ks_5_0 : mi_snd cs_G cs_cl cs_inf 5 0 (mj_iload 1 1) := ms_iload_n (mi_dec ib_5 dd_5_0) rfl
theorem ks_5_1 : mi_snd cs_G cs_cl cs_inf 5 1 (mj_if (fun x => decide (x < 0)) 16 4) := ms_if_lt (mi_dec ib_5 dd_5_1) (by decide)
theorem ks_5_4 : mi_snd cs_G cs_cl cs_inf 5 4 (mj_iload 1 5) := ms_iload_n (mi_dec ib_5 dd_5_4) rfl
theorem ks_5_5 : mi_snd cs_G cs_cl cs_inf 5 5 (mj_aload 0 6) := ms_aload_n (mi_dec ib_5 dd_5_5) rfl
theorem ks_5_6 : mi_snd cs_G cs_cl cs_inf 5 6 (mj_get 1 0 9) := ms_get (T := cs_T1) (k := 0) (mi_dec ib_5 dd_5_6) rfl cs_in1 (by decide) gw_29
theorem ks_5_9 : mi_snd cs_G cs_cl cs_inf 5 9 (mj_cmp (fun x y => decide (y ≤ x)) 16 12) := ms_icmp_ge (mi_dec ib_5 dd_5_9) (by decide)
theorem ks_5_12 : mi_snd cs_G cs_cl cs_inf 5 12 (mj_push (.inl 1) 13) := ms_iconst (mi_dec ib_5 dd_5_12) (by decide)
theorem ks_5_13 : mi_snd cs_G cs_cl cs_inf 5 13 (mj_goto 17) := ms_goto (mi_dec ib_5 dd_5_13) (by decide)
theorem ks_5_16 : mi_snd cs_G cs_cl cs_inf 5 16 (mj_push (.inl 0) 17) := ms_iconst (mi_dec ib_5 dd_5_16) (by decide)
theorem ks_5_17 : mi_snd cs_G cs_cl cs_inf 5 17 (mj_zret) := ms_zret (mi_dec ib_5 dd_5_17) rfl
def ct_5 : List (Nat × mi_I) := [
  (0, mj_iload 1 1),
  (1, mj_if (fun x => decide (x < 0)) 16 4),
  (4, mj_iload 1 5),
  (5, mj_aload 0 6),
  (6, mj_get 1 0 9),
  (9, mj_cmp (fun x y => decide (y ≤ x)) 16 12),
  (12, mj_push (.inl 1) 13),
  (13, mj_goto 17),
  (16, mj_push (.inl 0) 17),
  (17, mj_zret)]
theorem sd_5 : ∀ q ∈ ct_5, mi_snd cs_G cs_cl cs_inf 5 q.1 q.2 := mi_fc ks_5_0 (mi_fc ks_5_1 (mi_fc ks_5_4 (mi_fc ks_5_5 (mi_fc ks_5_6 (mi_fc ks_5_9 (mi_fc ks_5_12 (mi_fc ks_5_13 (mi_fc ks_5_16 (mi_fc ks_5_17 mi_fn)))))))))
theorem dd_6_0 : decode prog_5_method_9_code 0 = .ok (.aload_n 0, 1) := by decide +kernel
theorem dd_6_1 : decode prog_5_method_9_code 1 = .ok (.iload_n 1, 1) := by decide +kernel
theorem dd_6_2 : decode prog_5_method_9_code 2 = .ok (.invokevirtual 33, 3) := by decide +kernel
theorem dd_6_5 : decode prog_5_method_9_code 5 = .ok (.ifCond .eq 12, 3) := by decide +kernel
theorem dd_6_8 : decode prog_5_method_9_code 8 = .ok (.aload_n 0, 1) := by decide +kernel
theorem dd_6_9 : decode prog_5_method_9_code 9 = .ok (.getfield 15, 3) := by decide +kernel
theorem dd_6_12 : decode prog_5_method_9_code 12 = .ok (.iload_n 1, 1) := by decide +kernel
theorem dd_6_13 : decode prog_5_method_9_code 13 = .ok (.iaload, 1) := by decide +kernel
theorem dd_6_14 : decode prog_5_method_9_code 14 = .ok (.goto 4, 3) := by decide +kernel
theorem dd_6_17 : decode prog_5_method_9_code 17 = .ok (.iconst 0, 1) := by decide +kernel
theorem dd_6_18 : decode prog_5_method_9_code 18 = .ok (.ireturn, 1) := by decide +kernel
theorem ks_6_0 : mi_snd cs_G cs_cl cs_inf 6 0 (mj_aload 0 1) := ms_aload_n (mi_dec ib_6 dd_6_0) rfl
theorem ks_6_1 : mi_snd cs_G cs_cl cs_inf 6 1 (mj_iload 1 2) := ms_iload_n (mi_dec ib_6 dd_6_1) rfl
theorem ks_6_2 : mi_snd cs_G cs_cl cs_inf 6 2 (mj_callV 1 5 1 2 5) := ms_callV iw_c5 (mi_dec ib_6 dd_6_2) gw_290 iw_i5 rfl iw_v5 iw_n5 (by decide +kernel) rfl (by decide)
theorem ks_6_5 : mi_snd cs_G cs_cl cs_inf 6 5 (mj_if (fun x => decide (x = 0)) 17 8) := ms_if_eq (mi_dec ib_6 dd_6_5) (by decide)
theorem ks_6_8 : mi_snd cs_G cs_cl cs_inf 6 8 (mj_aload 0 9) := ms_aload_n (mi_dec ib_6 dd_6_8) rfl
theorem ks_6_9 : mi_snd cs_G cs_cl cs_inf 6 9 (mj_get 1 3 12) := ms_get (T := cs_T1) (k := 3) (mi_dec ib_6 dd_6_9) rfl cs_in1 (by decide) gw_38
theorem ks_6_12 : mi_snd cs_G cs_cl cs_inf 6 12 (mj_iload 1 13) := ms_iload_n (mi_dec ib_6 dd_6_12) rfl
theorem ks_6_13 : mi_snd cs_G cs_cl cs_inf 6 13 (mj_ald 0 14) := ms_ald0 (mi_dec ib_6 dd_6_13)
theorem ks_6_14 : mi_snd cs_G cs_cl cs_inf 6 14 (mj_goto 18) := ms_goto (mi_dec ib_6 dd_6_14) (by decide)
theorem ks_6_17 : mi_snd cs_G cs_cl cs_inf 6 17 (mj_push (.inl 0) 18) := ms_iconst (mi_dec ib_6 dd_6_17) (by decide)
theorem ks_6_18 : mi_snd cs_G cs_cl cs_inf 6 18 (mj_iret) := ms_iret (mi_dec ib_6 dd_6_18) rfl
def ct_6 : List (Nat × mi_I) := [
  (0, mj_aload 0 1),
  (1, mj_iload 1 2),
  (2, mj_callV 1 5 1 2 5),
  (5, mj_if (fun x => decide (x = 0)) 17 8),
  (8, mj_aload 0 9),
  (9, mj_get 1 3 12),
  (12, mj_iload 1 13),
  (13, mj_ald 0 14),
  (14, mj_goto 18),
  (17, mj_push (.inl 0) 18),
  (18, mj_iret)]
theorem sd_6 : ∀ q ∈ ct_6, mi_snd cs_G cs_cl cs_inf 6 q.1 q.2 := mi_fc ks_6_0 (mi_fc ks_6_1 (mi_fc ks_6_2 (mi_fc ks_6_5 (mi_fc ks_6_8 (mi_fc ks_6_9 (mi_fc ks_6_12 (mi_fc ks_6_13 (mi_fc ks_6_14 (mi_fc ks_6_17 (mi_fc ks_6_18 mi_fn))))))))))
theorem dd_7_0 : decode prog_1_method_26_code 0 = .ok (.iload_n 0, 1) := by decide +kernel
theorem dd_7_1 : decode prog_1_method_26_code 1 = .ok (.iload_n 1, 1) := by decide +kernel
theorem dd_7_2 : decode prog_1_method_26_code 2 = .ok (.ishr, 1) := by decide +kernel
theorem dd_7_3 : decode prog_1_method_26_code 3 = .ok (.iconst 1, 1) := by decide +kernel
theorem dd_7_4 : decode prog_1_method_26_code 4 = .ok (.iand, 1) := by decide +kernel
theorem dd_7_5 : decode prog_1_method_26_code 5 = .ok (.ifCond .eq 7, 3) := by decide +kernel
theorem dd_7_8 : decode prog_1_method_26_code 8 = .ok (.iconst 1, 1) := by decide +kernel
theorem dd_7_9 : decode prog_1_method_26_code 9 = .ok (.goto 4, 3) := by decide +kernel
theorem dd_7_12 : decode prog_1_method_26_code 12 = .ok (.iconst 0, 1) := by decide +kernel
theorem dd_7_13 : decode prog_1_method_26_code 13 = .ok (.ireturn, 1) := by decide +kernel
theorem ks_7_0 : mi_snd cs_G cs_cl cs_inf 7 0 (mj_iload 0 1) := ms_iload_n (mi_dec ib_7 dd_7_0) rfl
theorem ks_7_1 : mi_snd cs_G cs_cl cs_inf 7 1 (mj_iload 1 2) := ms_iload_n (mi_dec ib_7 dd_7_1) rfl
theorem ks_7_2 : mi_snd cs_G cs_cl cs_inf 7 2 (mj_bin (fun x y => x >>> (y &&& 31)) 3) := ms_ishr (mi_dec ib_7 dd_7_2)
theorem ks_7_3 : mi_snd cs_G cs_cl cs_inf 7 3 (mj_push (.inl 1) 4) := ms_iconst (mi_dec ib_7 dd_7_3) (by decide)
theorem ks_7_4 : mi_snd cs_G cs_cl cs_inf 7 4 (mj_bin (fun x y => x &&& y) 5) := ms_iand (mi_dec ib_7 dd_7_4)
theorem ks_7_5 : mi_snd cs_G cs_cl cs_inf 7 5 (mj_if (fun x => decide (x = 0)) 12 8) := ms_if_eq (mi_dec ib_7 dd_7_5) (by decide)
theorem ks_7_8 : mi_snd cs_G cs_cl cs_inf 7 8 (mj_push (.inl 1) 9) := ms_iconst (mi_dec ib_7 dd_7_8) (by decide)
theorem ks_7_9 : mi_snd cs_G cs_cl cs_inf 7 9 (mj_goto 13) := ms_goto (mi_dec ib_7 dd_7_9) (by decide)
theorem ks_7_12 : mi_snd cs_G cs_cl cs_inf 7 12 (mj_push (.inl 0) 13) := ms_iconst (mi_dec ib_7 dd_7_12) (by decide)
theorem ks_7_13 : mi_snd cs_G cs_cl cs_inf 7 13 (mj_zret) := ms_zret (mi_dec ib_7 dd_7_13) rfl
def ct_7 : List (Nat × mi_I) := [
  (0, mj_iload 0 1),
  (1, mj_iload 1 2),
  (2, mj_bin (fun x y => x >>> (y &&& 31)) 3),
  (3, mj_push (.inl 1) 4),
  (4, mj_bin (fun x y => x &&& y) 5),
  (5, mj_if (fun x => decide (x = 0)) 12 8),
  (8, mj_push (.inl 1) 9),
  (9, mj_goto 13),
  (12, mj_push (.inl 0) 13),
  (13, mj_zret)]
theorem sd_7 : ∀ q ∈ ct_7, mi_snd cs_G cs_cl cs_inf 7 q.1 q.2 := mi_fc ks_7_0 (mi_fc ks_7_1 (mi_fc ks_7_2 (mi_fc ks_7_3 (mi_fc ks_7_4 (mi_fc ks_7_5 (mi_fc ks_7_8 (mi_fc ks_7_9 (mi_fc ks_7_12 (mi_fc ks_7_13 mi_fn)))))))))
theorem dd_8_0 : decode prog_5_method_7_code 0 = .ok (.aload_n 0, 1) := by decide +kernel
theorem dd_8_1 : decode prog_5_method_7_code 1 = .ok (.iload_n 1, 1) := by decide +kernel
theorem dd_8_2 : decode prog_5_method_7_code 2 = .ok (.invokevirtual 33, 3) := by decide +kernel
theorem dd_8_5 : decode prog_5_method_7_code 5 = .ok (.ifCond .eq 11, 3) := by decide +kernel
theorem dd_8_8 : decode prog_5_method_7_code 8 = .ok (.aload_n 0, 1) := by decide +kernel
theorem dd_8_9 : decode prog_5_method_7_code 9 = .ok (.iload_n 2, 1) := by decide +kernel
theorem dd_8_10 : decode prog_5_method_7_code 10 = .ok (.invokevirtual 33, 3) := by decide +kernel
theorem dd_8_13 : decode prog_5_method_7_code 13 = .ok (.ifCond .ne 4, 3) := by decide +kernel
theorem dd_8_16 : decode prog_5_method_7_code 16 = .ok (.return_, 1) := by decide +kernel
theorem dd_8_17 : decode prog_5_method_7_code 17 = .ok (.iload_n 3, 1) := by decide +kernel
theorem dd_8_18 : decode prog_5_method_7_code 18 = .ok (.ifCond .eq 30, 3) := by decide +kernel
theorem dd_8_21 : decode prog_5_method_7_code 21 = .ok (.aload_n 0, 1) := by decide +kernel
theorem dd_8_22 : decode prog_5_method_7_code 22 = .ok (.getfield 15, 3) := by decide +kernel
theorem dd_8_25 : decode prog_5_method_7_code 25 = .ok (.iload_n 1, 1) := by decide +kernel
theorem dd_8_26 : decode prog_5_method_7_code 26 = .ok (.dup2, 1) := by decide +kernel
theorem dd_8_27 : decode prog_5_method_7_code 27 = .ok (.iaload, 1) := by decide +kernel
theorem dd_8_28 : decode prog_5_method_7_code 28 = .ok (.iconst 1, 1) := by decide +kernel
theorem dd_8_29 : decode prog_5_method_7_code 29 = .ok (.iload_n 2, 1) := by decide +kernel
theorem dd_8_30 : decode prog_5_method_7_code 30 = .ok (.ishl, 1) := by decide +kernel
theorem dd_8_31 : decode prog_5_method_7_code 31 = .ok (.ior, 1) := by decide +kernel
theorem dd_8_32 : decode prog_5_method_7_code 32 = .ok (.iastore, 1) := by decide +kernel
theorem dd_8_33 : decode prog_5_method_7_code 33 = .ok (.aload_n 0, 1) := by decide +kernel
theorem dd_8_34 : decode prog_5_method_7_code 34 = .ok (.getfield 15, 3) := by decide +kernel
theorem dd_8_37 : decode prog_5_method_7_code 37 = .ok (.iload_n 2, 1) := by decide +kernel
theorem dd_8_38 : decode prog_5_method_7_code 38 = .ok (.dup2, 1) := by decide +kernel
theorem dd_8_39 : decode prog_5_method_7_code 39 = .ok (.iaload, 1) := by decide +kernel
theorem dd_8_40 : decode prog_5_method_7_code 40 = .ok (.iconst 1, 1) := by decide +kernel
theorem dd_8_41 : decode prog_5_method_7_code 41 = .ok (.iload_n 1, 1) := by decide +kernel
theorem dd_8_42 : decode prog_5_method_7_code 42 = .ok (.ishl, 1) := by decide +kernel
theorem dd_8_43 : decode prog_5_method_7_code 43 = .ok (.ior, 1) := by decide +kernel
theorem dd_8_44 : decode prog_5_method_7_code 44 = .ok (.iastore, 1) := by decide +kernel
theorem dd_8_45 : decode prog_5_method_7_code 45 = .ok (.goto 31, 3) := by decide +kernel
theorem dd_8_48 : decode prog_5_method_7_code 48 = .ok (.aload_n 0, 1) := by decide +kernel
theorem dd_8_49 : decode prog_5_method_7_code 49 = .ok (.getfield 15, 3) := by decide +kernel
theorem dd_8_52 : decode prog_5_method_7_code 52 = .ok (.iload_n 1, 1) := by decide +kernel
theorem dd_8_53 : decode prog_5_method_7_code 53 = .ok (.dup2, 1) := by decide +kernel
theorem dd_8_54 : decode prog_5_method_7_code 54 = .ok (.iaload, 1) := by decide +kernel
theorem dd_8_55 : decode prog_5_method_7_code 55 = .ok (.iconst 1, 1) := by decide +kernel
theorem dd_8_56 : decode prog_5_method_7_code 56 = .ok (.iload_n 2, 1) := by decide +kernel
theorem dd_8_57 : decode prog_5_method_7_code 57 = .ok (.ishl, 1) := by decide +kernel
theorem dd_8_58 : decode prog_5_method_7_code 58 = .ok (.iconst (-1), 1) := by decide +kernel
theorem dd_8_59 : decode prog_5_method_7_code 59 = .ok (.ixor, 1) := by decide +kernel
theorem dd_8_60 : decode prog_5_method_7_code 60 = .ok (.iand, 1) := by decide +kernel
theorem dd_8_61 : decode prog_5_method_7_code 61 = .ok (.iastore, 1) := by decide +kernel
theorem dd_8_62 : decode prog_5_method_7_code 62 = .ok (.aload_n 0, 1) := by decide +kernel
theorem dd_8_63 : decode prog_5_method_7_code 63 = .ok (.getfield 15, 3) := by decide +kernel
theorem dd_8_66 : decode prog_5_method_7_code 66 = .ok (.iload_n 2, 1) := by decide +kernel
theorem dd_8_67 : decode prog_5_method_7_code 67 = .ok (.dup2, 1) := by decide +kernel
theorem dd_8_68 : decode prog_5_method_7_code 68 = .ok (.iaload, 1) := by decide +kernel
theorem dd_8_69 : decode prog_5_method_7_code 69 = .ok (.iconst 1, 1) := by decide +kernel
theorem dd_8_70 : decode prog_5_method_7_code 70 = .ok (.iload_n 1, 1) := by decide +kernel
theorem dd_8_71 : decode prog_5_method_7_code 71 = .ok (.ishl, 1) := by decide +kernel
theorem dd_8_72 : decode prog_5_method_7_code 72 = .ok (.iconst (-1), 1) := by decide +kernel
theorem dd_8_73 : decode prog_5_method_7_code 73 = .ok (.ixor, 1) := by decide +kernel
theorem dd_8_74 : decode prog_5_method_7_code 74 = .ok (.iand, 1) := by decide +kernel
theorem dd_8_75 : decode prog_5_method_7_code 75 = .ok (.iastore, 1) := by decide +kernel
theorem dd_8_76 : decode prog_5_method_7_code 76 = .ok (.aload_n 0, 1) := by decide +kernel
theorem dd_8_77 : decode prog_5_method_7_code 77 = .ok (.dup, 1) := by decide +kernel
theorem dd_8_78 : decode prog_5_method_7_code 78 = .ok (.getfield 30, 3) := by decide +kernel
theorem dd_8_81 : decode prog_5_method_7_code 81 = .ok (.iconst 1, 1) := by decide +kernel
theorem dd_8_82 : decode prog_5_method_7_code 82 = .ok (.iadd, 1) := by decide +kernel
theorem dd_8_83 : decode prog_5_method_7_code 83 = .ok (.putfield 30, 3) := by decide +kernel
theorem dd_8_86 : decode prog_5_method_7_code 86 = .ok (.return_, 1) := by decide +kernel
theorem ks_8_0 : mi_snd cs_G cs_cl cs_inf 8 0 (mj_aload 0 1) := ms_aload_n (mi_dec ib_8 dd_8_0) rfl
theorem ks_8_1 : mi_snd cs_G cs_cl cs_inf 8 1 (mj_iload 1 2) := ms_iload_n (mi_dec ib_8 dd_8_1) rfl
theorem ks_8_2 : mi_snd cs_G cs_cl cs_inf 8 2 (mj_callV 1 5 1 2 5) := ms_callV iw_c5 (mi_dec ib_8 dd_8_2) gw_290 iw_i5 rfl iw_v5 iw_n5 (by decide +kernel) rfl (by decide)
theorem ks_8_5 : mi_snd cs_G cs_cl cs_inf 8 5 (mj_if (fun x => decide (x = 0)) 16 8) := ms_if_eq (mi_dec ib_8 dd_8_5) (by decide)
theorem ks_8_8 : mi_snd cs_G cs_cl cs_inf 8 8 (mj_aload 0 9) := ms_aload_n (mi_dec ib_8 dd_8_8) rfl
theorem ks_8_9 : mi_snd cs_G cs_cl cs_inf 8 9 (mj_iload 2 10) := ms_iload_n (mi_dec ib_8 dd_8_9) rfl
theorem ks_8_10 : mi_snd cs_G cs_cl cs_inf 8 10 (mj_callV 1 5 1 2 13) := ms_callV iw_c5 (mi_dec ib_8 dd_8_10) gw_290 iw_i5 rfl iw_v5 iw_n5 (by decide +kernel) rfl (by decide)
theorem ks_8_13 : mi_snd cs_G cs_cl cs_inf 8 13 (mj_if (fun x => decide (¬ x = 0)) 17 16) := ms_if_ne (mi_dec ib_8 dd_8_13) (by decide)
theorem ks_8_16 : mi_snd cs_G cs_cl cs_inf 8 16 (mj_ret) := ms_ret (mi_dec ib_8 dd_8_16) rfl
theorem ks_8_17 : mi_snd cs_G cs_cl cs_inf 8 17 (mj_iload 3 18) := ms_iload_n (mi_dec ib_8 dd_8_17) rfl
theorem ks_8_18 : mi_snd cs_G cs_cl cs_inf 8 18 (mj_if (fun x => decide (x = 0)) 48 21) := ms_if_eq (mi_dec ib_8 dd_8_18) (by decide)
theorem ks_8_21 : mi_snd cs_G cs_cl cs_inf 8 21 (mj_aload 0 22) := ms_aload_n (mi_dec ib_8 dd_8_21) rfl
theorem ks_8_22 : mi_snd cs_G cs_cl cs_inf 8 22 (mj_get 1 3 25) := ms_get (T := cs_T1) (k := 3) (mi_dec ib_8 dd_8_22) rfl cs_in1 (by decide) gw_38
theorem ks_8_25 : mi_snd cs_G cs_cl cs_inf 8 25 (mj_iload 1 26) := ms_iload_n (mi_dec ib_8 dd_8_25) rfl
theorem ks_8_26 : mi_snd cs_G cs_cl cs_inf 8 26 (mj_dup2 27) := ms_dup2 (mi_dec ib_8 dd_8_26)
theorem ks_8_27 : mi_snd cs_G cs_cl cs_inf 8 27 (mj_ald 0 28) := ms_ald0 (mi_dec ib_8 dd_8_27)
theorem ks_8_28 : mi_snd cs_G cs_cl cs_inf 8 28 (mj_push (.inl 1) 29) := ms_iconst (mi_dec ib_8 dd_8_28) (by decide)
theorem ks_8_29 : mi_snd cs_G cs_cl cs_inf 8 29 (mj_iload 2 30) := ms_iload_n (mi_dec ib_8 dd_8_29) rfl
theorem ks_8_30 : mi_snd cs_G cs_cl cs_inf 8 30 (mj_bin (fun x y => x <<< (y &&& 31)) 31) := ms_ishl (mi_dec ib_8 dd_8_30)
theorem ks_8_31 : mi_snd cs_G cs_cl cs_inf 8 31 (mj_bin (fun x y => x ||| y) 32) := ms_ior (mi_dec ib_8 dd_8_31)
theorem ks_8_32 : mi_snd cs_G cs_cl cs_inf 8 32 (mj_iast 33) := ms_iast (mi_dec ib_8 dd_8_32)
theorem ks_8_33 : mi_snd cs_G cs_cl cs_inf 8 33 (mj_aload 0 34) := ms_aload_n (mi_dec ib_8 dd_8_33) rfl
theorem ks_8_34 : mi_snd cs_G cs_cl cs_inf 8 34 (mj_get 1 3 37) := ms_get (T := cs_T1) (k := 3) (mi_dec ib_8 dd_8_34) rfl cs_in1 (by decide) gw_38
theorem ks_8_37 : mi_snd cs_G cs_cl cs_inf 8 37 (mj_iload 2 38) := ms_iload_n (mi_dec ib_8 dd_8_37) rfl
theorem ks_8_38 : mi_snd cs_G cs_cl cs_inf 8 38 (mj_dup2 39) := ms_dup2 (mi_dec ib_8 dd_8_38)
theorem ks_8_39 : mi_snd cs_G cs_cl cs_inf 8 39 (mj_ald 0 40) := ms_ald0 (mi_dec ib_8 dd_8_39)
theorem ks_8_40 : mi_snd cs_G cs_cl cs_inf 8 40 (mj_push (.inl 1) 41) := ms_iconst (mi_dec ib_8 dd_8_40) (by decide)
theorem ks_8_41 : mi_snd cs_G cs_cl cs_inf 8 41 (mj_iload 1 42) := ms_iload_n (mi_dec ib_8 dd_8_41) rfl
theorem ks_8_42 : mi_snd cs_G cs_cl cs_inf 8 42 (mj_bin (fun x y => x <<< (y &&& 31)) 43) := ms_ishl (mi_dec ib_8 dd_8_42)
theorem ks_8_43 : mi_snd cs_G cs_cl cs_inf 8 43 (mj_bin (fun x y => x ||| y) 44) := ms_ior (mi_dec ib_8 dd_8_43)
theorem ks_8_44 : mi_snd cs_G cs_cl cs_inf 8 44 (mj_iast 45) := ms_iast (mi_dec ib_8 dd_8_44)
theorem ks_8_45 : mi_snd cs_G cs_cl cs_inf 8 45 (mj_goto 76) := ms_goto (mi_dec ib_8 dd_8_45) (by decide)
theorem ks_8_48 : mi_snd cs_G cs_cl cs_inf 8 48 (mj_aload 0 49) := ms_aload_n (mi_dec ib_8 dd_8_48) rfl
theorem ks_8_49 : mi_snd cs_G cs_cl cs_inf 8 49 (mj_get 1 3 52) := ms_get (T := cs_T1) (k := 3) (mi_dec ib_8 dd_8_49) rfl cs_in1 (by decide) gw_38
theorem ks_8_52 : mi_snd cs_G cs_cl cs_inf 8 52 (mj_iload 1 53) := ms_iload_n (mi_dec ib_8 dd_8_52) rfl
theorem ks_8_53 : mi_snd cs_G cs_cl cs_inf 8 53 (mj_dup2 54) := ms_dup2 (mi_dec ib_8 dd_8_53)
theorem ks_8_54 : mi_snd cs_G cs_cl cs_inf 8 54 (mj_ald 0 55) := ms_ald0 (mi_dec ib_8 dd_8_54)
theorem ks_8_55 : mi_snd cs_G cs_cl cs_inf 8 55 (mj_push (.inl 1) 56) := ms_iconst (mi_dec ib_8 dd_8_55) (by decide)
theorem ks_8_56 : mi_snd cs_G cs_cl cs_inf 8 56 (mj_iload 2 57) := ms_iload_n (mi_dec ib_8 dd_8_56) rfl
theorem ks_8_57 : mi_snd cs_G cs_cl cs_inf 8 57 (mj_bin (fun x y => x <<< (y &&& 31)) 58) := ms_ishl (mi_dec ib_8 dd_8_57)
theorem ks_8_58 : mi_snd cs_G cs_cl cs_inf 8 58 (mj_push (.inl (-1)) 59) := ms_iconst (mi_dec ib_8 dd_8_58) (by decide)
theorem ks_8_59 : mi_snd cs_G cs_cl cs_inf 8 59 (mj_bin (fun x y => x ^^^ y) 60) := ms_ixor (mi_dec ib_8 dd_8_59)
theorem ks_8_60 : mi_snd cs_G cs_cl cs_inf 8 60 (mj_bin (fun x y => x &&& y) 61) := ms_iand (mi_dec ib_8 dd_8_60)
theorem ks_8_61 : mi_snd cs_G cs_cl cs_inf 8 61 (mj_iast 62) := ms_iast (mi_dec ib_8 dd_8_61)
theorem ks_8_62 : mi_snd cs_G cs_cl cs_inf 8 62 (mj_aload 0 63) := ms_aload_n (mi_dec ib_8 dd_8_62) rfl
theorem ks_8_63 : mi_snd cs_G cs_cl cs_inf 8 63 (mj_get 1 3 66) := ms_get (T := cs_T1) (k := 3) (mi_dec ib_8 dd_8_63) rfl cs_in1 (by decide) gw_38
theorem ks_8_66 : mi_snd cs_G cs_cl cs_inf 8 66 (mj_iload 2 67) := ms_iload_n (mi_dec ib_8 dd_8_66) rfl
theorem ks_8_67 : mi_snd cs_G cs_cl cs_inf 8 67 (mj_dup2 68) := ms_dup2 (mi_dec ib_8 dd_8_67)
theorem ks_8_68 : mi_snd cs_G cs_cl cs_inf 8 68 (mj_ald 0 69) := ms_ald0 (mi_dec ib_8 dd_8_68)
theorem ks_8_69 : mi_snd cs_G cs_cl cs_inf 8 69 (mj_push (.inl 1) 70) := ms_iconst (mi_dec ib_8 dd_8_69) (by decide)
theorem ks_8_70 : mi_snd cs_G cs_cl cs_inf 8 70 (mj_iload 1 71) := ms_iload_n (mi_dec ib_8 dd_8_70) rfl
theorem ks_8_71 : mi_snd cs_G cs_cl cs_inf 8 71 (mj_bin (fun x y => x <<< (y &&& 31)) 72) := ms_ishl (mi_dec ib_8 dd_8_71)
theorem ks_8_72 : mi_snd cs_G cs_cl cs_inf 8 72 (mj_push (.inl (-1)) 73) := ms_iconst (mi_dec ib_8 dd_8_72) (by decide)
theorem ks_8_73 : mi_snd cs_G cs_cl cs_inf 8 73 (mj_bin (fun x y => x ^^^ y) 74) := ms_ixor (mi_dec ib_8 dd_8_73)
theorem ks_8_74 : mi_snd cs_G cs_cl cs_inf 8 74 (mj_bin (fun x y => x &&& y) 75) := ms_iand (mi_dec ib_8 dd_8_74)
theorem ks_8_75 : mi_snd cs_G cs_cl cs_inf 8 75 (mj_iast 76) := ms_iast (mi_dec ib_8 dd_8_75)
theorem ks_8_76 : mi_snd cs_G cs_cl cs_inf 8 76 (mj_aload 0 77) := ms_aload_n (mi_dec ib_8 dd_8_76) rfl
theorem ks_8_77 : mi_snd cs_G cs_cl cs_inf 8 77 (mj_dup 78) := ms_dup (mi_dec ib_8 dd_8_77)
theorem ks_8_78 : mi_snd cs_G cs_cl cs_inf 8 78 (mj_get 1 1 81) := ms_get (T := cs_T1) (k := 1) (mi_dec ib_8 dd_8_78) rfl cs_in1 (by decide) gw_35
theorem ks_8_81 : mi_snd cs_G cs_cl cs_inf 8 81 (mj_push (.inl 1) 82) := ms_iconst (mi_dec ib_8 dd_8_81) (by decide)
theorem ks_8_82 : mi_snd cs_G cs_cl cs_inf 8 82 (mj_bin (fun x y => x + y) 83) := ms_iadd (mi_dec ib_8 dd_8_82)
theorem ks_8_83 : mi_snd cs_G cs_cl cs_inf 8 83 (mj_putI 1 1 86) := ms_putI (T := cs_T1) (k := 1) (mi_dec ib_8 dd_8_83) rfl cs_in1 cs_ty1_ok cs_nm1 (by decide) gw_35 (by decide) (by decide +kernel)
theorem ks_8_86 : mi_snd cs_G cs_cl cs_inf 8 86 (mj_ret) := ms_ret (mi_dec ib_8 dd_8_86) rfl
def ct_8 : List (Nat × mi_I) := [
  (0, mj_aload 0 1),
  (1, mj_iload 1 2),
  (2, mj_callV 1 5 1 2 5),
  (5, mj_if (fun x => decide (x = 0)) 16 8),
  (8, mj_aload 0 9),
  (9, mj_iload 2 10),
  (10, mj_callV 1 5 1 2 13),
  (13, mj_if (fun x => decide (¬ x = 0)) 17 16),
  (16, mj_ret),
  (17, mj_iload 3 18),
  (18, mj_if (fun x => decide (x = 0)) 48 21),
  (21, mj_aload 0 22),
  (22, mj_get 1 3 25),
  (25, mj_iload 1 26),
  (26, mj_dup2 27),
  (27, mj_ald 0 28),
  (28, mj_push (.inl 1) 29),
  (29, mj_iload 2 30),
  (30, mj_bin (fun x y => x <<< (y &&& 31)) 31),
  (31, mj_bin (fun x y => x ||| y) 32),
  (32, mj_iast 33),
  (33, mj_aload 0 34),
  (34, mj_get 1 3 37),
  (37, mj_iload 2 38),
  (38, mj_dup2 39),
  (39, mj_ald 0 40),
  (40, mj_push (.inl 1) 41),
  (41, mj_iload 1 42),
  (42, mj_bin (fun x y => x <<< (y &&& 31)) 43),
  (43, mj_bin (fun x y => x ||| y) 44),
  (44, mj_iast 45),
  (45, mj_goto 76),
  (48, mj_aload 0 49),
  (49, mj_get 1 3 52),
  (52, mj_iload 1 53),
  (53, mj_dup2 54),
  (54, mj_ald 0 55),
  (55, mj_push (.inl 1) 56),
  (56, mj_iload 2 57),
  (57, mj_bin (fun x y => x <<< (y &&& 31)) 58),
  (58, mj_push (.inl (-1)) 59),
  (59, mj_bin (fun x y => x ^^^ y) 60),
  (60, mj_bin (fun x y => x &&& y) 61),
  (61, mj_iast 62),
  (62, mj_aload 0 63),
  (63, mj_get 1 3 66),
  (66, mj_iload 2 67),
  (67, mj_dup2 68),
  (68, mj_ald 0 69),
  (69, mj_push (.inl 1) 70),
  (70, mj_iload 1 71),
  (71, mj_bin (fun x y => x <<< (y &&& 31)) 72),
  (72, mj_push (.inl (-1)) 73),
  (73, mj_bin (fun x y => x ^^^ y) 74),
  (74, mj_bin (fun x y => x &&& y) 75),
  (75, mj_iast 76),
  (76, mj_aload 0 77),
  (77, mj_dup 78),
  (78, mj_get 1 1 81),
  (81, mj_push (.inl 1) 82),
  (82, mj_bin (fun x y => x + y) 83),
  (83, mj_putI 1 1 86),
  (86, mj_ret)]
theorem sd_8 : ∀ q ∈ ct_8, mi_snd cs_G cs_cl cs_inf 8 q.1 q.2 := mi_fc ks_8_0 (mi_fc ks_8_1 (mi_fc ks_8_2 (mi_fc ks_8_5 (mi_fc ks_8_8 (mi_fc ks_8_9 (mi_fc ks_8_10 (mi_fc ks_8_13 (mi_fc ks_8_16 (mi_fc ks_8_17 (mi_fc ks_8_18 (mi_fc ks_8_21 (mi_fc ks_8_22 (mi_fc ks_8_25 (mi_fc ks_8_26 (mi_fc ks_8_27 (mi_fc ks_8_28 (mi_fc ks_8_29 (mi_fc ks_8_30 (mi_fc ks_8_31 (mi_fc ks_8_32 (mi_fc ks_8_33 (mi_fc ks_8_34 (mi_fc ks_8_37 (mi_fc ks_8_38 (mi_fc ks_8_39 (mi_fc ks_8_40 (mi_fc ks_8_41 (mi_fc ks_8_42 (mi_fc ks_8_43 (mi_fc ks_8_44 (mi_fc ks_8_45 (mi_fc ks_8_48 (mi_fc ks_8_49 (mi_fc ks_8_52 (mi_fc ks_8_53 (mi_fc ks_8_54 (mi_fc ks_8_55 (mi_fc ks_8_56 (mi_fc ks_8_57 (mi_fc ks_8_58 (mi_fc ks_8_59 (mi_fc ks_8_60 (mi_fc ks_8_61 (mi_fc ks_8_62 (mi_fc ks_8_63 (mi_fc ks_8_66 (mi_fc ks_8_67 (mi_fc ks_8_68 (mi_fc ks_8_69 (mi_fc ks_8_70 (mi_fc ks_8_71 (mi_fc ks_8_72 (mi_fc ks_8_73 (mi_fc ks_8_74 (mi_fc ks_8_75 (mi_fc ks_8_76 (mi_fc ks_8_77 (mi_fc ks_8_78 (mi_fc ks_8_81 (mi_fc ks_8_82 (mi_fc ks_8_83 (mi_fc ks_8_86 mi_fn))))))))))))))))))))))))))))))))))))))))))))))))))))))))))))))
theorem dd_9_0 : decode prog_1_method_4_code 0 = .ok (.aload_n 0, 1) := by decide +kernel
theorem dd_9_1 : decode prog_1_method_4_code 1 = .ok (.getfield 10, 3) := by decide +kernel
theorem dd_9_4 : decode prog_1_method_4_code 4 = .ok (.iload_n 1, 1) := by decide +kernel
theorem dd_9_5 : decode prog_1_method_4_code 5 = .ok (.invokevirtual 88, 3) := by decide +kernel
theorem dd_9_8 : decode prog_1_method_4_code 8 = .ok (.ifCond .eq 22, 3) := by decide +kernel
theorem dd_9_11 : decode prog_1_method_4_code 11 = .ok (.iload_n 2, 1) := by decide +kernel
theorem dd_9_12 : decode prog_1_method_4_code 12 = .ok (.invokestatic 76, 3) := by decide +kernel
theorem dd_9_15 : decode prog_1_method_4_code 15 = .ok (.ifCond .eq 15, 3) := by decide +kernel
theorem dd_9_18 : decode prog_1_method_4_code 18 = .ok (.aload_n 0, 1) := by decide +kernel
theorem dd_9_19 : decode prog_1_method_4_code 19 = .ok (.getfield 10, 3) := by decide +kernel
theorem dd_9_22 : decode prog_1_method_4_code 22 = .ok (.iload_n 1, 1) := by decide +kernel
theorem dd_9_23 : decode prog_1_method_4_code 23 = .ok (.iload_n 2, 1) := by decide +kernel
theorem dd_9_24 : decode prog_1_method_4_code 24 = .ok (.invokevirtual 102, 3) := by decide +kernel
theorem dd_9_27 : decode prog_1_method_4_code 27 = .ok (.goto 4, 3) := by decide +kernel
theorem dd_9_30 : decode prog_1_method_4_code 30 = .ok (.iconst (-1), 1) := by decide +kernel
theorem dd_9_31 : decode prog_1_method_4_code 31 = .ok (.ireturn, 1) := by decide +kernel
theorem ks_9_0 : mi_snd cs_G cs_cl cs_inf 9 0 (mj_aload 0 1) := ms_aload_n (mi_dec ib_9 dd_9_0) rfl
theorem ks_9_1 : mi_snd cs_G cs_cl cs_inf 9 1 (mj_get 0 0 4) := ms_get (T := cs_T0) (k := 0) (mi_dec ib_9 dd_9_1) rfl cs_in0 (by decide) gw_231
theorem ks_9_4 : mi_snd cs_G cs_cl cs_inf 9 4 (mj_iload 1 5) := ms_iload_n (mi_dec ib_9 dd_9_4) rfl
theorem ks_9_5 : mi_snd cs_G cs_cl cs_inf 9 5 (mj_callV 1 5 1 2 8) := ms_callVN iw_c5 (mi_dec ib_9 dd_9_5) gw_282 iw_i5 rfl iw_v5 iw_n5 (by decide +kernel) rfl (by decide)
theorem ks_9_8 : mi_snd cs_G cs_cl cs_inf 9 8 (mj_if (fun x => decide (x = 0)) 30 11) := ms_if_eq (mi_dec ib_9 dd_9_8) (by decide)
theorem ks_9_11 : mi_snd cs_G cs_cl cs_inf 9 11 (mj_iload 2 12) := ms_iload_n (mi_dec ib_9 dd_9_11) rfl
theorem ks_9_12 : mi_snd cs_G cs_cl cs_inf 9 12 (mj_callS 1 1 1 15) := ms_callS iw_c1 (mi_dec ib_9 dd_9_12) gw_266 iw_s1 iw_n1 (by decide +kernel) rfl (by decide)
theorem ks_9_15 : mi_snd cs_G cs_cl cs_inf 9 15 (mj_if (fun x => decide (x = 0)) 30 18) := ms_if_eq (mi_dec ib_9 dd_9_15) (by decide)
theorem ks_9_18 : mi_snd cs_G cs_cl cs_inf 9 18 (mj_aload 0 19) := ms_aload_n (mi_dec ib_9 dd_9_18) rfl
theorem ks_9_19 : mi_snd cs_G cs_cl cs_inf 9 19 (mj_get 0 0 22) := ms_get (T := cs_T0) (k := 0) (mi_dec ib_9 dd_9_19) rfl cs_in0 (by decide) gw_231
theorem ks_9_22 : mi_snd cs_G cs_cl cs_inf 9 22 (mj_iload 1 23) := ms_iload_n (mi_dec ib_9 dd_9_22) rfl
theorem ks_9_23 : mi_snd cs_G cs_cl cs_inf 9 23 (mj_iload 2 24) := ms_iload_n (mi_dec ib_9 dd_9_23) rfl
theorem ks_9_24 : mi_snd cs_G cs_cl cs_inf 9 24 (mj_callV 1 10 2 4 27) := ms_callVN iw_c10 (mi_dec ib_9 dd_9_24) gw_302 iw_i10 rfl iw_v10 iw_n10 (by decide +kernel) rfl (by decide)
theorem ks_9_27 : mi_snd cs_G cs_cl cs_inf 9 27 (mj_goto 31) := ms_goto (mi_dec ib_9 dd_9_27) (by decide)
theorem ks_9_30 : mi_snd cs_G cs_cl cs_inf 9 30 (mj_push (.inl (-1)) 31) := ms_iconst (mi_dec ib_9 dd_9_30) (by decide)
theorem ks_9_31 : mi_snd cs_G cs_cl cs_inf 9 31 (mj_iret) := ms_iret (mi_dec ib_9 dd_9_31) rfl
def ct_9 : List (Nat × mi_I) := [
  (0, mj_aload 0 1),
  (1, mj_get 0 0 4),
  (4, mj_iload 1 5),
  (5, mj_callV 1 5 1 2 8),
  (8, mj_if (fun x => decide (x = 0)) 30 11),
  (11, mj_iload 2 12),
  (12, mj_callS 1 1 1 15),
  (15, mj_if (fun x => decide (x = 0)) 30 18),
  (18, mj_aload 0 19),
  (19, mj_get 0 0 22),
  (22, mj_iload 1 23),
  (23, mj_iload 2 24),
  (24, mj_callV 1 10 2 4 27),
  (27, mj_goto 31),
  (30, mj_push (.inl (-1)) 31),
  (31, mj_iret)]
theorem sd_9 : ∀ q ∈ ct_9, mi_snd cs_G cs_cl cs_inf 9 q.1 q.2 := mi_fc ks_9_0 (mi_fc ks_9_1 (mi_fc ks_9_4 (mi_fc ks_9_5 (mi_fc ks_9_8 (mi_fc ks_9_11 (mi_fc ks_9_12 (mi_fc ks_9_15 (mi_fc ks_9_18 (mi_fc ks_9_19 (mi_fc ks_9_22 (mi_fc ks_9_23 (mi_fc ks_9_24 (mi_fc ks_9_27 (mi_fc ks_9_30 (mi_fc ks_9_31 mi_fn)))))))))))))))
theorem dd_10_0 : decode prog_5_method_8_code 0 = .ok (.aload_n 0, 1) := by decide +kernel
theorem dd_10_1 : decode prog_5_method_8_code 1 = .ok (.iload_n 1, 1) := by decide +kernel
theorem dd_10_2 : decode prog_5_method_8_code 2 = .ok (.invokevirtual 33, 3) := by decide +kernel
theorem dd_10_5 : decode prog_5_method_8_code 5 = .ok (.ifCond .ne 5, 3) := by decide +kernel
theorem dd_10_8 : decode prog_5_method_8_code 8 = .ok (.iconst (-1), 1) := by decide +kernel
theorem dd_10_9 : decode prog_5_method_8_code 9 = .ok (.ireturn, 1) := by decide +kernel
theorem dd_10_10 : decode prog_5_method_8_code 10 = .ok (.aload_n 0, 1) := by decide +kernel
theorem dd_10_11 : decode prog_5_method_8_code 11 = .ok (.getfield 9, 3) := by decide +kernel
theorem dd_10_14 : decode prog_5_method_8_code 14 = .ok (.iload_n 1, 1) := by decide +kernel
theorem dd_10_15 : decode prog_5_method_8_code 15 = .ok (.iaload, 1) := by decide +kernel
theorem dd_10_16 : decode prog_5_method_8_code 16 = .ok (.istore_n 3, 1) := by decide +kernel
theorem dd_10_17 : decode prog_5_method_8_code 17 = .ok (.aload_n 0, 1) := by decide +kernel
theorem dd_10_18 : decode prog_5_method_8_code 18 = .ok (.getfield 9, 3) := by decide +kernel
theorem dd_10_21 : decode prog_5_method_8_code 21 = .ok (.iload_n 1, 1) := by decide +kernel
theorem dd_10_22 : decode prog_5_method_8_code 22 = .ok (.iload_n 2, 1) := by decide +kernel
theorem dd_10_23 : decode prog_5_method_8_code 23 = .ok (.iastore, 1) := by decide +kernel
theorem dd_10_24 : decode prog_5_method_8_code 24 = .ok (.iload_n 3, 1) := by decide +kernel
theorem dd_10_25 : decode prog_5_method_8_code 25 = .ok (.ireturn, 1) := by decide +kernel
theorem ks_10_0 : mi_snd cs_G cs_cl cs_inf 10 0 (mj_aload 0 1) := ms_aload_n (mi_dec ib_10 dd_10_0) rfl
theorem ks_10_1 : mi_snd cs_G cs_cl cs_inf 10 1 (mj_iload 1 2) := ms_iload_n (mi_dec ib_10 dd_10_1) rfl
theorem ks_10_2 : mi_snd cs_G cs_cl cs_inf 10 2 (mj_callV 1 5 1 2 5) := ms_callV iw_c5 (mi_dec ib_10 dd_10_2) gw_290 iw_i5 rfl iw_v5 iw_n5 (by decide +kernel) rfl (by decide)
theorem ks_10_5 : mi_snd cs_G cs_cl cs_inf 10 5 (mj_if (fun x => decide (¬ x = 0)) 10 8) := ms_if_ne (mi_dec ib_10 dd_10_5) (by decide)
theorem ks_10_8 : mi_snd cs_G cs_cl cs_inf 10 8 (mj_push (.inl (-1)) 9) := ms_iconst (mi_dec ib_10 dd_10_8) (by decide)
theorem ks_10_9 : mi_snd cs_G cs_cl cs_inf 10 9 (mj_iret) := ms_iret (mi_dec ib_10 dd_10_9) rfl
theorem ks_10_10 : mi_snd cs_G cs_cl cs_inf 10 10 (mj_aload 0 11) := ms_aload_n (mi_dec ib_10 dd_10_10) rfl
theorem ks_10_11 : mi_snd cs_G cs_cl cs_inf 10 11 (mj_get 1 2 14) := ms_get (T := cs_T1) (k := 2) (mi_dec ib_10 dd_10_11) rfl cs_in1 (by decide) gw_37
theorem ks_10_14 : mi_snd cs_G cs_cl cs_inf 10 14 (mj_iload 1 15) := ms_iload_n (mi_dec ib_10 dd_10_14) rfl
theorem ks_10_15 : mi_snd cs_G cs_cl cs_inf 10 15 (mj_ald 0 16) := ms_ald0 (mi_dec ib_10 dd_10_15)
theorem ks_10_16 : mi_snd cs_G cs_cl cs_inf 10 16 (mj_istore 3 17) := ms_istore_n (mi_dec ib_10 dd_10_16) rfl
theorem ks_10_17 : mi_snd cs_G cs_cl cs_inf 10 17 (mj_aload 0 18) := ms_aload_n (mi_dec ib_10 dd_10_17) rfl
theorem ks_10_18 : mi_snd cs_G cs_cl cs_inf 10 18 (mj_get 1 2 21) := ms_get (T := cs_T1) (k := 2) (mi_dec ib_10 dd_10_18) rfl cs_in1 (by decide) gw_37
theorem ks_10_21 : mi_snd cs_G cs_cl cs_inf 10 21 (mj_iload 1 22) := ms_iload_n (mi_dec ib_10 dd_10_21) rfl
theorem ks_10_22 : mi_snd cs_G cs_cl cs_inf 10 22 (mj_iload 2 23) := ms_iload_n (mi_dec ib_10 dd_10_22) rfl
theorem ks_10_23 : mi_snd cs_G cs_cl cs_inf 10 23 (mj_iast 24) := ms_iast (mi_dec ib_10 dd_10_23)
theorem ks_10_24 : mi_snd cs_G cs_cl cs_inf 10 24 (mj_iload 3 25) := ms_iload_n (mi_dec ib_10 dd_10_24) rfl
theorem ks_10_25 : mi_snd cs_G cs_cl cs_inf 10 25 (mj_iret) := ms_iret (mi_dec ib_10 dd_10_25) rfl
def ct_10 : List (Nat × mi_I) := [
  (0, mj_aload 0 1),
  (1, mj_iload 1 2),
  (2, mj_callV 1 5 1 2 5),
  (5, mj_if (fun x => decide (¬ x = 0)) 10 8),
  (8, mj_push (.inl (-1)) 9),
  (9, mj_iret),
  (10, mj_aload 0 11),
  (11, mj_get 1 2 14),
  (14, mj_iload 1 15),
  (15, mj_ald 0 16),
  (16, mj_istore 3 17),
  (17, mj_aload 0 18),
  (18, mj_get 1 2 21),
  (21, mj_iload 1 22),
  (22, mj_iload 2 23),
  (23, mj_iast 24),
  (24, mj_iload 3 25),
  (25, mj_iret)]
theorem sd_10 : ∀ q ∈ ct_10, mi_snd cs_G cs_cl cs_inf 10 q.1 q.2 := mi_fc ks_10_0 (mi_fc ks_10_1 (mi_fc ks_10_2 (mi_fc ks_10_5 (mi_fc ks_10_8 (mi_fc ks_10_9 (mi_fc ks_10_10 (mi_fc ks_10_11 (mi_fc ks_10_14 (mi_fc ks_10_15 (mi_fc ks_10_16 (mi_fc ks_10_17 (mi_fc ks_10_18 (mi_fc ks_10_21 (mi_fc ks_10_22 (mi_fc ks_10_23 (mi_fc ks_10_24 (mi_fc ks_10_25 mi_fn)))))))))))))))))
theorem dd_11_0 : decode prog_1_method_5_code 0 = .ok (.aload_n 0, 1) := by decide +kernel
theorem dd_11_1 : decode prog_1_method_5_code 1 = .ok (.getfield 10, 3) := by decide +kernel
theorem dd_11_4 : decode prog_1_method_5_code 4 = .ok (.iload_n 1, 1) := by decide +kernel
theorem dd_11_5 : decode prog_1_method_5_code 5 = .ok (.invokevirtual 88, 3) := by decide +kernel
theorem dd_11_8 : decode prog_1_method_5_code 8 = .ok (.ifCond .eq 14, 3) := by decide +kernel
theorem dd_11_11 : decode prog_1_method_5_code 11 = .ok (.aload_n 0, 1) := by decide +kernel
theorem dd_11_12 : decode prog_1_method_5_code 12 = .ok (.getfield 10, 3) := by decide +kernel
theorem dd_11_15 : decode prog_1_method_5_code 15 = .ok (.iload_n 1, 1) := by decide +kernel
theorem dd_11_16 : decode prog_1_method_5_code 16 = .ok (.invokevirtual 91, 3) := by decide +kernel
theorem dd_11_19 : decode prog_1_method_5_code 19 = .ok (.goto 4, 3) := by decide +kernel
theorem dd_11_22 : decode prog_1_method_5_code 22 = .ok (.iconst (-1), 1) := by decide +kernel
theorem dd_11_23 : decode prog_1_method_5_code 23 = .ok (.ireturn, 1) := by decide +kernel
theorem ks_11_0 : mi_snd cs_G cs_cl cs_inf 11 0 (mj_aload 0 1) := ms_aload_n (mi_dec ib_11 dd_11_0) rfl
theorem ks_11_1 : mi_snd cs_G cs_cl cs_inf 11 1 (mj_get 0 0 4) := ms_get (T := cs_T0) (k := 0) (mi_dec ib_11 dd_11_1) rfl cs_in0 (by decide) gw_231
theorem ks_11_4 : mi_snd cs_G cs_cl cs_inf 11 4 (mj_iload 1 5) := ms_iload_n (mi_dec ib_11 dd_11_4) rfl
theorem ks_11_5 : mi_snd cs_G cs_cl cs_inf 11 5 (mj_callV 1 5 1 2 8) := ms_callVN iw_c5 (mi_dec ib_11 dd_11_5) gw_282 iw_i5 rfl iw_v5 iw_n5 (by decide +kernel) rfl (by decide)
theorem ks_11_8 : mi_snd cs_G cs_cl cs_inf 11 8 (mj_if (fun x => decide (x = 0)) 22 11) := ms_if_eq (mi_dec ib_11 dd_11_8) (by decide)
theorem ks_11_11 : mi_snd cs_G cs_cl cs_inf 11 11 (mj_aload 0 12) := ms_aload_n (mi_dec ib_11 dd_11_11) rfl
theorem ks_11_12 : mi_snd cs_G cs_cl cs_inf 11 12 (mj_get 0 0 15) := ms_get (T := cs_T0) (k := 0) (mi_dec ib_11 dd_11_12) rfl cs_in0 (by decide) gw_231
theorem ks_11_15 : mi_snd cs_G cs_cl cs_inf 11 15 (mj_iload 1 16) := ms_iload_n (mi_dec ib_11 dd_11_15) rfl
theorem ks_11_16 : mi_snd cs_G cs_cl cs_inf 11 16 (mj_callV 1 6 1 2 19) := ms_callVN iw_c6 (mi_dec ib_11 dd_11_16) gw_286 iw_i6 rfl iw_v6 iw_n6 (by decide +kernel) rfl (by decide)
theorem ks_11_19 : mi_snd cs_G cs_cl cs_inf 11 19 (mj_goto 23) := ms_goto (mi_dec ib_11 dd_11_19) (by decide)
theorem ks_11_22 : mi_snd cs_G cs_cl cs_inf 11 22 (mj_push (.inl (-1)) 23) := ms_iconst (mi_dec ib_11 dd_11_22) (by decide)
theorem ks_11_23 : mi_snd cs_G cs_cl cs_inf 11 23 (mj_iret) := ms_iret (mi_dec ib_11 dd_11_23) rfl
def ct_11 : List (Nat × mi_I) := [
  (0, mj_aload 0 1),
  (1, mj_get 0 0 4),
  (4, mj_iload 1 5),
  (5, mj_callV 1 5 1 2 8),
  (8, mj_if (fun x => decide (x = 0)) 22 11),
  (11, mj_aload 0 12),
  (12, mj_get 0 0 15),
  (15, mj_iload 1 16),
  (16, mj_callV 1 6 1 2 19),
  (19, mj_goto 23),
  (22, mj_push (.inl (-1)) 23),
  (23, mj_iret)]
theorem sd_11 : ∀ q ∈ ct_11, mi_snd cs_G cs_cl cs_inf 11 q.1 q.2 := mi_fc ks_11_0 (mi_fc ks_11_1 (mi_fc ks_11_4 (mi_fc ks_11_5 (mi_fc ks_11_8 (mi_fc ks_11_11 (mi_fc ks_11_12 (mi_fc ks_11_15 (mi_fc ks_11_16 (mi_fc ks_11_19 (mi_fc ks_11_22 (mi_fc ks_11_23 mi_fn)))))))))))
theorem dd_12_0 : decode prog_1_method_6_code 0 = .ok (.aload_n 0, 1) := by decide +kernel
theorem dd_12_1 : decode prog_1_method_6_code 1 = .ok (.getfield 21, 3) := by decide +kernel
theorem dd_12_4 : decode prog_1_method_6_code 4 = .ok (.invokevirtual 106, 3) := by decide +kernel
theorem dd_12_7 : decode prog_1_method_6_code 7 = .ok (.ireturn, 1) := by decide +kernel
theorem ks_12_0 : mi_snd cs_G cs_cl cs_inf 12 0 (mj_aload 0 1) := ms_aload_n (mi_dec ib_12 dd_12_0) rfl
theorem ks_12_1 : mi_snd cs_G cs_cl cs_inf 12 1 (mj_get 0 1 4) := ms_get (T := cs_T0) (k := 1) (mi_dec ib_12 dd_12_1) rfl cs_in0 (by decide) gw_232
theorem ks_12_4 : mi_snd cs_G cs_cl cs_inf 12 4 (mj_callV 2 13 0 3 7) := ms_callVN iw_c13 (mi_dec ib_12 dd_12_4) gw_314 iw_i13 rfl iw_v13 iw_n13 (by decide +kernel) rfl (by decide)
theorem ks_12_7 : mi_snd cs_G cs_cl cs_inf 12 7 (mj_iret) := ms_iret (mi_dec ib_12 dd_12_7) rfl
def ct_12 : List (Nat × mi_I) := [
  (0, mj_aload 0 1),
  (1, mj_get 0 1 4),
  (4, mj_callV 2 13 0 3 7),
  (7, mj_iret)]
theorem sd_12 : ∀ q ∈ ct_12, mi_snd cs_G cs_cl cs_inf 12 q.1 q.2 := mi_fc ks_12_0 (mi_fc ks_12_1 (mi_fc ks_12_4 (mi_fc ks_12_7 mi_fn)))
theorem dd_13_0 : decode prog_3_method_4_code 0 = .ok (.aload_n 0, 1) := by decide +kernel
theorem dd_13_1 : decode prog_3_method_4_code 1 = .ok (.invokevirtual 30, 3) := by decide +kernel
theorem dd_13_4 : decode prog_3_method_4_code 4 = .ok (.iconst 0, 1) := by decide +kernel
theorem dd_13_5 : decode prog_3_method_4_code 5 = .ok (.istore_n 1, 1) := by decide +kernel
theorem dd_13_6 : decode prog_3_method_4_code 6 = .ok (.iconst 0, 1) := by decide +kernel
theorem dd_13_7 : decode prog_3_method_4_code 7 = .ok (.istore_n 2, 1) := by decide +kernel
theorem dd_13_8 : decode prog_3_method_4_code 8 = .ok (.iload_n 2, 1) := by decide +kernel
theorem dd_13_9 : decode prog_3_method_4_code 9 = .ok (.aload_n 0, 1) := by decide +kernel
theorem dd_13_10 : decode prog_3_method_4_code 10 = .ok (.getfield 33, 3) := by decide +kernel
theorem dd_13_13 : decode prog_3_method_4_code 13 = .ok (.if_icmp .ge 32, 3) := by decide +kernel
theorem dd_13_16 : decode prog_3_method_4_code 16 = .ok (.aload_n 0, 1) := by decide +kernel
theorem dd_13_17 : decode prog_3_method_4_code 17 = .ok (.getfield 15, 3) := by decide +kernel
theorem dd_13_20 : decode prog_3_method_4_code 20 = .ok (.iload_n 2, 1) := by decide +kernel
theorem dd_13_21 : decode prog_3_method_4_code 21 = .ok (.iaload, 1) := by decide +kernel
theorem dd_13_22 : decode prog_3_method_4_code 22 = .ok (.invokestatic 36, 3) := by decide +kernel
theorem dd_13_25 : decode prog_3_method_4_code 25 = .ok (.iload_n 1, 1) := by decide +kernel
theorem dd_13_26 : decode prog_3_method_4_code 26 = .ok (.invokestatic 36, 3) := by decide +kernel
theorem dd_13_29 : decode prog_3_method_4_code 29 = .ok (.if_icmp .le 10, 3) := by decide +kernel
theorem dd_13_32 : decode prog_3_method_4_code 32 = .ok (.aload_n 0, 1) := by decide +kernel
theorem dd_13_33 : decode prog_3_method_4_code 33 = .ok (.getfield 15, 3) := by decide +kernel
theorem dd_13_36 : decode prog_3_method_4_code 36 = .ok (.iload_n 2, 1) := by decide +kernel
theorem dd_13_37 : decode prog_3_method_4_code 37 = .ok (.iaload, 1) := by decide +kernel
theorem dd_13_38 : decode prog_3_method_4_code 38 = .ok (.istore_n 1, 1) := by decide +kernel
theorem dd_13_39 : decode prog_3_method_4_code 39 = .ok (.iinc 2 1, 3) := by decide +kernel
theorem dd_13_42 : decode prog_3_method_4_code 42 = .ok (.goto (-34), 3) := by decide +kernel
theorem dd_13_45 : decode prog_3_method_4_code 45 = .ok (.iload_n 1, 1) := by decide +kernel
theorem dd_13_46 : decode prog_3_method_4_code 46 = .ok (.ireturn, 1) := by decide +kernel
theorem ks_13_0 : mi_snd cs_G cs_cl cs_inf 13 0 (mj_aload 0 1) := ms_aload_n (mi_dec ib_13 dd_13_0) rfl
theorem ks_13_1 : mi_snd cs_G cs_cl cs_inf 13 1 (mj_callV 2 14 0 4 4) := ms_callV iw_c14 (mi_dec ib_13 dd_13_1) gw_318 iw_i14 rfl iw_v14 iw_n14 (by decide +kernel) rfl (by decide)
theorem ks_13_4 : mi_snd cs_G cs_cl cs_inf 13 4 (mj_push (.inl 0) 5) := ms_iconst (mi_dec ib_13 dd_13_4) (by decide)
theorem ks_13_5 : mi_snd cs_G cs_cl cs_inf 13 5 (mj_istore 1 6) := ms_istore_n (mi_dec ib_13 dd_13_5) rfl
theorem ks_13_6 : mi_snd cs_G cs_cl cs_inf 13 6 (mj_push (.inl 0) 7) := ms_iconst (mi_dec ib_13 dd_13_6) (by decide)
theorem ks_13_7 : mi_snd cs_G cs_cl cs_inf 13 7 (mj_istore 2 8) := ms_istore_n (mi_dec ib_13 dd_13_7) rfl
theorem ks_13_8 : mi_snd cs_G cs_cl cs_inf 13 8 (mj_iload 2 9) := ms_iload_n (mi_dec ib_13 dd_13_8) rfl
theorem ks_13_9 : mi_snd cs_G cs_cl cs_inf 13 9 (mj_aload 0 10) := ms_aload_n (mi_dec ib_13 dd_13_9) rfl
theorem ks_13_10 : mi_snd cs_G cs_cl cs_inf 13 10 (mj_get 2 4 13) := ms_get (T := cs_T2) (k := 4) (mi_dec ib_13 dd_13_10) rfl cs_in2 (by decide) gw_59
theorem ks_13_13 : mi_snd cs_G cs_cl cs_inf 13 13 (mj_cmp (fun x y => decide (y ≤ x)) 45 16) := ms_icmp_ge (mi_dec ib_13 dd_13_13) (by decide)
theorem ks_13_16 : mi_snd cs_G cs_cl cs_inf 13 16 (mj_aload 0 17) := ms_aload_n (mi_dec ib_13 dd_13_16) rfl
theorem ks_13_17 : mi_snd cs_G cs_cl cs_inf 13 17 (mj_get 2 3 20) := ms_get (T := cs_T2) (k := 3) (mi_dec ib_13 dd_13_17) rfl cs_in2 (by decide) gw_58
theorem ks_13_20 : mi_snd cs_G cs_cl cs_inf 13 20 (mj_iload 2 21) := ms_iload_n (mi_dec ib_13 dd_13_20) rfl
theorem ks_13_21 : mi_snd cs_G cs_cl cs_inf 13 21 (mj_ald 0 22) := ms_ald0 (mi_dec ib_13 dd_13_21)
theorem ks_13_22 : mi_snd cs_G cs_cl cs_inf 13 22 (mj_callS 20 1 1 25) := ms_callS iw_c20 (mi_dec ib_13 dd_13_22) gw_345 iw_s20 iw_n20 (by decide +kernel) rfl (by decide)
theorem ks_13_25 : mi_snd cs_G cs_cl cs_inf 13 25 (mj_iload 1 26) := ms_iload_n (mi_dec ib_13 dd_13_25) rfl
theorem ks_13_26 : mi_snd cs_G cs_cl cs_inf 13 26 (mj_callS 20 1 1 29) := ms_callS iw_c20 (mi_dec ib_13 dd_13_26) gw_345 iw_s20 iw_n20 (by decide +kernel) rfl (by decide)
theorem ks_13_29 : mi_snd cs_G cs_cl cs_inf 13 29 (mj_cmp (fun x y => decide (x ≤ y)) 39 32) := ms_icmp_le (mi_dec ib_13 dd_13_29) (by decide)
theorem ks_13_32 : mi_snd cs_G cs_cl cs_inf 13 32 (mj_aload 0 33) := ms_aload_n (mi_dec ib_13 dd_13_32) rfl
theorem ks_13_33 : mi_snd cs_G cs_cl cs_inf 13 33 (mj_get 2 3 36) := ms_get (T := cs_T2) (k := 3) (mi_dec ib_13 dd_13_33) rfl cs_in2 (by decide) gw_58
theorem ks_13_36 : mi_snd cs_G cs_cl cs_inf 13 36 (mj_iload 2 37) := ms_iload_n (mi_dec ib_13 dd_13_36) rfl
theorem ks_13_37 : mi_snd cs_G cs_cl cs_inf 13 37 (mj_ald 0 38) := ms_ald0 (mi_dec ib_13 dd_13_37)
theorem ks_13_38 : mi_snd cs_G cs_cl cs_inf 13 38 (mj_istore 1 39) := ms_istore_n (mi_dec ib_13 dd_13_38) rfl
theorem ks_13_39 : mi_snd cs_G cs_cl cs_inf 13 39 (mj_iinc 2 1 42) := ms_iinc (mi_dec ib_13 dd_13_39) (by decide)
theorem ks_13_42 : mi_snd cs_G cs_cl cs_inf 13 42 (mj_goto 8) := ms_goto (mi_dec ib_13 dd_13_42) (by decide)
theorem ks_13_45 : mi_snd cs_G cs_cl cs_inf 13 45 (mj_iload 1 46) := ms_iload_n (mi_dec ib_13 dd_13_45) rfl
theorem ks_13_46 : mi_snd cs_G cs_cl cs_inf 13 46 (mj_iret) := ms_iret (mi_dec ib_13 dd_13_46) rfl
def ct_13 : List (Nat × mi_I) := [
  (0, mj_aload 0 1),
  (1, mj_callV 2 14 0 4 4),
  (4, mj_push (.inl 0) 5),
  (5, mj_istore 1 6),
  (6, mj_push (.inl 0) 7),
  (7, mj_istore 2 8),
  (8, mj_iload 2 9),
  (9, mj_aload 0 10),
  (10, mj_get 2 4 13),
  (13, mj_cmp (fun x y => decide (y ≤ x)) 45 16),
  (16, mj_aload 0 17),
  (17, mj_get 2 3 20),
  (20, mj_iload 2 21),
  (21, mj_ald 0 22),
  (22, mj_callS 20 1 1 25),
  (25, mj_iload 1 26),
  (26, mj_callS 20 1 1 29),
  (29, mj_cmp (fun x y => decide (x ≤ y)) 39 32),
  (32, mj_aload 0 33),
  (33, mj_get 2 3 36),
  (36, mj_iload 2 37),
  (37, mj_ald 0 38),
  (38, mj_istore 1 39),
  (39, mj_iinc 2 1 42),
  (42, mj_goto 8),
  (45, mj_iload 1 46),
  (46, mj_iret)]
theorem sd_13 : ∀ q ∈ ct_13, mi_snd cs_G cs_cl cs_inf 13 q.1 q.2 := mi_fc ks_13_0 (mi_fc ks_13_1 (mi_fc ks_13_4 (mi_fc ks_13_5 (mi_fc ks_13_6 (mi_fc ks_13_7 (mi_fc ks_13_8 (mi_fc ks_13_9 (mi_fc ks_13_10 (mi_fc ks_13_13 (mi_fc ks_13_16 (mi_fc ks_13_17 (mi_fc ks_13_20 (mi_fc ks_13_21 (mi_fc ks_13_22 (mi_fc ks_13_25 (mi_fc ks_13_26 (mi_fc ks_13_29 (mi_fc ks_13_32 (mi_fc ks_13_33 (mi_fc ks_13_36 (mi_fc ks_13_37 (mi_fc ks_13_38 (mi_fc ks_13_39 (mi_fc ks_13_42 (mi_fc ks_13_45 (mi_fc ks_13_46 mi_fn))))))))))))))))))))))))))
theorem dd_14_0 : decode prog_3_method_7_code 0 = .ok (.aload_n 0, 1) := by decide +kernel
theorem dd_14_1 : decode prog_3_method_7_code 1 = .ok (.getfield 18, 3) := by decide +kernel
theorem dd_14_4 : decode prog_3_method_7_code 4 = .ok (.aload_n 0, 1) := by decide +kernel
theorem dd_14_5 : decode prog_3_method_7_code 5 = .ok (.getfield 22, 3) := by decide +kernel
theorem dd_14_8 : decode prog_3_method_7_code 8 = .ok (.getfield 47, 3) := by decide +kernel
theorem dd_14_11 : decode prog_3_method_7_code 11 = .ok (.if_icmp .ne 4, 3) := by decide +kernel
theorem dd_14_14 : decode prog_3_method_7_code 14 = .ok (.return_, 1) := by decide +kernel
theorem dd_14_15 : decode prog_3_method_7_code 15 = .ok (.aload_n 0, 1) := by decide +kernel
theorem dd_14_16 : decode prog_3_method_7_code 16 = .ok (.aload_n 0, 1) := by decide +kernel
theorem dd_14_17 : decode prog_3_method_7_code 17 = .ok (.getfield 22, 3) := by decide +kernel
theorem dd_14_20 : decode prog_3_method_7_code 20 = .ok (.getfield 47, 3) := by decide +kernel
theorem dd_14_23 : decode prog_3_method_7_code 23 = .ok (.putfield 18, 3) := by decide +kernel
theorem dd_14_26 : decode prog_3_method_7_code 26 = .ok (.aload_n 0, 1) := by decide +kernel
theorem dd_14_27 : decode prog_3_method_7_code 27 = .ok (.iconst 0, 1) := by decide +kernel
theorem dd_14_28 : decode prog_3_method_7_code 28 = .ok (.putfield 33, 3) := by decide +kernel
theorem dd_14_31 : decode prog_3_method_7_code 31 = .ok (.aload_n 0, 1) := by decide +kernel
theorem dd_14_32 : decode prog_3_method_7_code 32 = .ok (.getfield 22, 3) := by decide +kernel
theorem dd_14_35 : decode prog_3_method_7_code 35 = .ok (.invokevirtual 50, 3) := by decide +kernel
theorem dd_14_38 : decode prog_3_method_7_code 38 = .ok (.istore_n 1, 1) := by decide +kernel
theorem dd_14_39 : decode prog_3_method_7_code 39 = .ok (.iconst 0, 1) := by decide +kernel
theorem dd_14_40 : decode prog_3_method_7_code 40 = .ok (.istore_n 2, 1) := by decide +kernel
theorem dd_14_41 : decode prog_3_method_7_code 41 = .ok (.iload_n 2, 1) := by decide +kernel
theorem dd_14_42 : decode prog_3_method_7_code 42 = .ok (.bipush 16, 2) := by decide +kernel
theorem dd_14_44 : decode prog_3_method_7_code 44 = .ok (.if_icmp .ge 46, 3) := by decide +kernel
theorem dd_14_47 : decode prog_3_method_7_code 47 = .ok (.aload_n 0, 1) := by decide +kernel
theorem dd_14_48 : decode prog_3_method_7_code 48 = .ok (.getfield 22, 3) := by decide +kernel
theorem dd_14_51 : decode prog_3_method_7_code 51 = .ok (.iload_n 2, 1) := by decide +kernel
theorem dd_14_52 : decode prog_3_method_7_code 52 = .ok (.invokevirtual 54, 3) := by decide +kernel
theorem dd_14_55 : decode prog_3_method_7_code 55 = .ok (.istore_n 3, 1) := by decide +kernel
theorem dd_14_56 : decode prog_3_method_7_code 56 = .ok (.aload_n 0, 1) := by decide +kernel
theorem dd_14_57 : decode prog_3_method_7_code 57 = .ok (.getfield 9, 3) := by decide +kernel
theorem dd_14_60 : decode prog_3_method_7_code 60 = .ok (.iload_n 2, 1) := by decide +kernel
theorem dd_14_61 : decode prog_3_method_7_code 61 = .ok (.aload_n 0, 1) := by decide +kernel
theorem dd_14_62 : decode prog_3_method_7_code 62 = .ok (.getfield 26, 3) := by decide +kernel
theorem dd_14_65 : decode prog_3_method_7_code 65 = .ok (.ifCond .eq 17, 3) := by decide +kernel
theorem dd_14_68 : decode prog_3_method_7_code 68 = .ok (.iload_n 1, 1) := by decide +kernel
theorem dd_14_69 : decode prog_3_method_7_code 69 = .ok (.iload_n 3, 1) := by decide +kernel
theorem dd_14_70 : decode prog_3_method_7_code 70 = .ok (.iconst (-1), 1) := by decide +kernel
theorem dd_14_71 : decode prog_3_method_7_code 71 = .ok (.ixor, 1) := by decide +kernel
theorem dd_14_72 : decode prog_3_method_7_code 72 = .ok (.iand, 1) := by decide +kernel
theorem dd_14_73 : decode prog_3_method_7_code 73 = .ok (.iconst 1, 1) := by decide +kernel
theorem dd_14_74 : decode prog_3_method_7_code 74 = .ok (.iload_n 2, 1) := by decide +kernel
theorem dd_14_75 : decode prog_3_method_7_code 75 = .ok (.ishl, 1) := by decide +kernel
theorem dd_14_76 : decode prog_3_method_7_code 76 = .ok (.iconst (-1), 1) := by decide +kernel
theorem dd_14_77 : decode prog_3_method_7_code 77 = .ok (.ixor, 1) := by decide +kernel
theorem dd_14_78 : decode prog_3_method_7_code 78 = .ok (.iand, 1) := by decide +kernel
theorem dd_14_79 : decode prog_3_method_7_code 79 = .ok (.goto 4, 3) := by decide +kernel
theorem dd_14_82 : decode prog_3_method_7_code 82 = .ok (.iload_n 3, 1) := by decide +kernel
theorem dd_14_83 : decode prog_3_method_7_code 83 = .ok (.iastore, 1) := by decide +kernel
theorem dd_14_84 : decode prog_3_method_7_code 84 = .ok (.iinc 2 1, 3) := by decide +kernel
theorem dd_14_87 : decode prog_3_method_7_code 87 = .ok (.goto (-46), 3) := by decide +kernel
theorem dd_14_90 : decode prog_3_method_7_code 90 = .ok (.aload_n 0, 1) := by decide +kernel
theorem dd_14_91 : decode prog_3_method_7_code 91 = .ok (.iconst 0, 1) := by decide +kernel
theorem dd_14_92 : decode prog_3_method_7_code 92 = .ok (.iload_n 1, 1) := by decide +kernel
theorem dd_14_93 : decode prog_3_method_7_code 93 = .ok (.iconst 0, 1) := by decide +kernel
theorem dd_14_94 : decode prog_3_method_7_code 94 = .ok (.iconst 0, 1) := by decide +kernel
theorem dd_14_95 : decode prog_3_method_7_code 95 = .ok (.invokestatic 57, 3) := by decide +kernel
theorem dd_14_98 : decode prog_3_method_7_code 98 = .ok (.return_, 1) := by decide +kernel
theorem ks_14_0 : mi_snd cs_G cs_cl cs_inf 14 0 (mj_aload 0 1) := ms_aload_n (mi_dec ib_14 dd_14_0) rfl
theorem ks_14_1 : mi_snd cs_G cs_cl cs_inf 14 1 (mj_get 2 5 4) := ms_get (T := cs_T2) (k := 5) (mi_dec ib_14 dd_14_1) rfl cs_in2 (by decide) gw_60
theorem ks_14_4 : mi_snd cs_G cs_cl cs_inf 14 4 (mj_aload 0 5) := ms_aload_n (mi_dec ib_14 dd_14_4) rfl
theorem ks_14_5 : mi_snd cs_G cs_cl cs_inf 14 5 (mj_get 2 0 8) := ms_get (T := cs_T2) (k := 0) (mi_dec ib_14 dd_14_5) rfl cs_in2 (by decide) gw_55
theorem ks_14_8 : mi_snd cs_G cs_cl cs_inf 14 8 (mj_get 1 1 11) := ms_getN (T := cs_T1) (k := 1) (mi_dec ib_14 dd_14_8) rfl cs_in1 (by decide) gw_36
theorem ks_14_11 : mi_snd cs_G cs_cl cs_inf 14 11 (mj_cmp (fun x y => decide (¬ x = y)) 15 14) := ms_icmp_ne (mi_dec ib_14 dd_14_11) (by decide)
theorem ks_14_14 : mi_snd cs_G cs_cl cs_inf 14 14 (mj_ret) := ms_ret (mi_dec ib_14 dd_14_14) rfl
theorem ks_14_15 : mi_snd cs_G cs_cl cs_inf 14 15 (mj_aload 0 16) := ms_aload_n (mi_dec ib_14 dd_14_15) rfl
theorem ks_14_16 : mi_snd cs_G cs_cl cs_inf 14 16 (mj_aload 0 17) := ms_aload_n (mi_dec ib_14 dd_14_16) rfl
theorem ks_14_17 : mi_snd cs_G cs_cl cs_inf 14 17 (mj_get 2 0 20) := ms_get (T := cs_T2) (k := 0) (mi_dec ib_14 dd_14_17) rfl cs_in2 (by decide) gw_55
theorem ks_14_20 : mi_snd cs_G cs_cl cs_inf 14 20 (mj_get 1 1 23) := ms_getN (T := cs_T1) (k := 1) (mi_dec ib_14 dd_14_20) rfl cs_in1 (by decide) gw_36
theorem ks_14_23 : mi_snd cs_G cs_cl cs_inf 14 23 (mj_putI 2 5 26) := ms_putI (T := cs_T2) (k := 5) (mi_dec ib_14 dd_14_23) rfl cs_in2 cs_ty2_ok cs_nm2 (by decide) gw_60 (by decide) (by decide +kernel)
theorem ks_14_26 : mi_snd cs_G cs_cl cs_inf 14 26 (mj_aload 0 27) := ms_aload_n (mi_dec ib_14 dd_14_26) rfl
theorem ks_14_27 : mi_snd cs_G cs_cl cs_inf 14 27 (mj_push (.inl 0) 28) := ms_iconst (mi_dec ib_14 dd_14_27) (by decide)
theorem ks_14_28 : mi_snd cs_G cs_cl cs_inf 14 28 (mj_putI 2 4 31) := ms_putI (T := cs_T2) (k := 4) (mi_dec ib_14 dd_14_28) rfl cs_in2 cs_ty2_ok cs_nm2 (by decide) gw_59 (by decide) (by decide +kernel)
theorem ks_14_31 : mi_snd cs_G cs_cl cs_inf 14 31 (mj_aload 0 32) := ms_aload_n (mi_dec ib_14 dd_14_31) rfl
theorem ks_14_32 : mi_snd cs_G cs_cl cs_inf 14 32 (mj_get 2 0 35) := ms_get (T := cs_T2) (k := 0) (mi_dec ib_14 dd_14_32) rfl cs_in2 (by decide) gw_55
theorem ks_14_35 : mi_snd cs_G cs_cl cs_inf 14 35 (mj_callV 1 15 0 1 38) := ms_callVN iw_c15 (mi_dec ib_14 dd_14_35) gw_322 iw_i15 rfl iw_v15 iw_n15 (by decide +kernel) rfl (by decide)
theorem ks_14_38 : mi_snd cs_G cs_cl cs_inf 14 38 (mj_istore 1 39) := ms_istore_n (mi_dec ib_14 dd_14_38) rfl
theorem ks_14_39 : mi_snd cs_G cs_cl cs_inf 14 39 (mj_push (.inl 0) 40) := ms_iconst (mi_dec ib_14 dd_14_39) (by decide)
theorem ks_14_40 : mi_snd cs_G cs_cl cs_inf 14 40 (mj_istore 2 41) := ms_istore_n (mi_dec ib_14 dd_14_40) rfl
theorem ks_14_41 : mi_snd cs_G cs_cl cs_inf 14 41 (mj_iload 2 42) := ms_iload_n (mi_dec ib_14 dd_14_41) rfl
theorem ks_14_42 : mi_snd cs_G cs_cl cs_inf 14 42 (mj_push (.inl 16) 44) := ms_bipush (mi_dec ib_14 dd_14_42) (by decide)
theorem ks_14_44 : mi_snd cs_G cs_cl cs_inf 14 44 (mj_cmp (fun x y => decide (y ≤ x)) 90 47) := ms_icmp_ge (mi_dec ib_14 dd_14_44) (by decide)
theorem ks_14_47 : mi_snd cs_G cs_cl cs_inf 14 47 (mj_aload 0 48) := ms_aload_n (mi_dec ib_14 dd_14_47) rfl
theorem ks_14_48 : mi_snd cs_G cs_cl cs_inf 14 48 (mj_get 2 0 51) := ms_get (T := cs_T2) (k := 0) (mi_dec ib_14 dd_14_48) rfl cs_in2 (by decide) gw_55
theorem ks_14_51 : mi_snd cs_G cs_cl cs_inf 14 51 (mj_iload 2 52) := ms_iload_n (mi_dec ib_14 dd_14_51) rfl
theorem ks_14_52 : mi_snd cs_G cs_cl cs_inf 14 52 (mj_callV 1 6 1 2 55) := ms_callVN iw_c6 (mi_dec ib_14 dd_14_52) gw_326 iw_i6 rfl iw_v6 iw_n6 (by decide +kernel) rfl (by decide)
theorem ks_14_55 : mi_snd cs_G cs_cl cs_inf 14 55 (mj_istore 3 56) := ms_istore_n (mi_dec ib_14 dd_14_55) rfl
theorem ks_14_56 : mi_snd cs_G cs_cl cs_inf 14 56 (mj_aload 0 57) := ms_aload_n (mi_dec ib_14 dd_14_56) rfl
theorem ks_14_57 : mi_snd cs_G cs_cl cs_inf 14 57 (mj_get 2 2 60) := ms_get (T := cs_T2) (k := 2) (mi_dec ib_14 dd_14_57) rfl cs_in2 (by decide) gw_57
theorem ks_14_60 : mi_snd cs_G cs_cl cs_inf 14 60 (mj_iload 2 61) := ms_iload_n (mi_dec ib_14 dd_14_60) rfl
theorem ks_14_61 : mi_snd cs_G cs_cl cs_inf 14 61 (mj_aload 0 62) := ms_aload_n (mi_dec ib_14 dd_14_61) rfl
theorem ks_14_62 : mi_snd cs_G cs_cl cs_inf 14 62 (mj_get 2 1 65) := ms_get (T := cs_T2) (k := 1) (mi_dec ib_14 dd_14_62) rfl cs_in2 (by decide) gw_56
theorem ks_14_65 : mi_snd cs_G cs_cl cs_inf 14 65 (mj_if (fun x => decide (x = 0)) 82 68) := ms_if_eq (mi_dec ib_14 dd_14_65) (by decide)
theorem ks_14_68 : mi_snd cs_G cs_cl cs_inf 14 68 (mj_iload 1 69) := ms_iload_n (mi_dec ib_14 dd_14_68) rfl
theorem ks_14_69 : mi_snd cs_G cs_cl cs_inf 14 69 (mj_iload 3 70) := ms_iload_n (mi_dec ib_14 dd_14_69) rfl
theorem ks_14_70 : mi_snd cs_G cs_cl cs_inf 14 70 (mj_push (.inl (-1)) 71) := ms_iconst (mi_dec ib_14 dd_14_70) (by decide)
theorem ks_14_71 : mi_snd cs_G cs_cl cs_inf 14 71 (mj_bin (fun x y => x ^^^ y) 72) := ms_ixor (mi_dec ib_14 dd_14_71)
theorem ks_14_72 : mi_snd cs_G cs_cl cs_inf 14 72 (mj_bin (fun x y => x &&& y) 73) := ms_iand (mi_dec ib_14 dd_14_72)
theorem ks_14_73 : mi_snd cs_G cs_cl cs_inf 14 73 (mj_push (.inl 1) 74) := ms_iconst (mi_dec ib_14 dd_14_73) (by decide)
theorem ks_14_74 : mi_snd cs_G cs_cl cs_inf 14 74 (mj_iload 2 75) := ms_iload_n (mi_dec ib_14 dd_14_74) rfl
theorem ks_14_75 : mi_snd cs_G cs_cl cs_inf 14 75 (mj_bin (fun x y => x <<< (y &&& 31)) 76) := ms_ishl (mi_dec ib_14 dd_14_75)
theorem ks_14_76 : mi_snd cs_G cs_cl cs_inf 14 76 (mj_push (.inl (-1)) 77) := ms_iconst (mi_dec ib_14 dd_14_76) (by decide)
theorem ks_14_77 : mi_snd cs_G cs_cl cs_inf 14 77 (mj_bin (fun x y => x ^^^ y) 78) := ms_ixor (mi_dec ib_14 dd_14_77)
theorem ks_14_78 : mi_snd cs_G cs_cl cs_inf 14 78 (mj_bin (fun x y => x &&& y) 79) := ms_iand (mi_dec ib_14 dd_14_78)
theorem ks_14_79 : mi_snd cs_G cs_cl cs_inf 14 79 (mj_goto 83) := ms_goto (mi_dec ib_14 dd_14_79) (by decide)
theorem ks_14_82 : mi_snd cs_G cs_cl cs_inf 14 82 (mj_iload 3 83) := ms_iload_n (mi_dec ib_14 dd_14_82) rfl
theorem ks_14_83 : mi_snd cs_G cs_cl cs_inf 14 83 (mj_iast 84) := ms_iast (mi_dec ib_14 dd_14_83)
theorem ks_14_84 : mi_snd cs_G cs_cl cs_inf 14 84 (mj_iinc 2 1 87) := ms_iinc (mi_dec ib_14 dd_14_84) (by decide)
theorem ks_14_87 : mi_snd cs_G cs_cl cs_inf 14 87 (mj_goto 41) := ms_goto (mi_dec ib_14 dd_14_87) (by decide)
theorem ks_14_90 : mi_snd cs_G cs_cl cs_inf 14 90 (mj_aload 0 91) := ms_aload_n (mi_dec ib_14 dd_14_90) rfl
theorem ks_14_91 : mi_snd cs_G cs_cl cs_inf 14 91 (mj_push (.inl 0) 92) := ms_iconst (mi_dec ib_14 dd_14_91) (by decide)
theorem ks_14_92 : mi_snd cs_G cs_cl cs_inf 14 92 (mj_iload 1 93) := ms_iload_n (mi_dec ib_14 dd_14_92) rfl
theorem ks_14_93 : mi_snd cs_G cs_cl cs_inf 14 93 (mj_push (.inl 0) 94) := ms_iconst (mi_dec ib_14 dd_14_93) (by decide)
theorem ks_14_94 : mi_snd cs_G cs_cl cs_inf 14 94 (mj_push (.inl 0) 95) := ms_iconst (mi_dec ib_14 dd_14_94) (by decide)
theorem ks_14_95 : mi_snd cs_G cs_cl cs_inf 14 95 (mj_callS 16 5 10 98) := ms_callS iw_c16 (mi_dec ib_14 dd_14_95) gw_327 iw_s16 iw_n16 (by decide +kernel) rfl (by decide)
theorem ks_14_98 : mi_snd cs_G cs_cl cs_inf 14 98 (mj_ret) := ms_ret (mi_dec ib_14 dd_14_98) rfl
def ct_14 : List (Nat × mi_I) := [
  (0, mj_aload 0 1),
  (1, mj_get 2 5 4),
  (4, mj_aload 0 5),
  (5, mj_get 2 0 8),
  (8, mj_get 1 1 11),
  (11, mj_cmp (fun x y => decide (¬ x = y)) 15 14),
  (14, mj_ret),
  (15, mj_aload 0 16),
  (16, mj_aload 0 17),
  (17, mj_get 2 0 20),
  (20, mj_get 1 1 23),
  (23, mj_putI 2 5 26),
  (26, mj_aload 0 27),
  (27, mj_push (.inl 0) 28),
  (28, mj_putI 2 4 31),
  (31, mj_aload 0 32),
  (32, mj_get 2 0 35),
  (35, mj_callV 1 15 0 1 38),
  (38, mj_istore 1 39),
  (39, mj_push (.inl 0) 40),
  (40, mj_istore 2 41),
  (41, mj_iload 2 42),
  (42, mj_push (.inl 16) 44),
  (44, mj_cmp (fun x y => decide (y ≤ x)) 90 47),
  (47, mj_aload 0 48),
  (48, mj_get 2 0 51),
  (51, mj_iload 2 52),
  (52, mj_callV 1 6 1 2 55),
  (55, mj_istore 3 56),
  (56, mj_aload 0 57),
  (57, mj_get 2 2 60),
  (60, mj_iload 2 61),
  (61, mj_aload 0 62),
  (62, mj_get 2 1 65),
  (65, mj_if (fun x => decide (x = 0)) 82 68),
  (68, mj_iload 1 69),
  (69, mj_iload 3 70),
  (70, mj_push (.inl (-1)) 71),
  (71, mj_bin (fun x y => x ^^^ y) 72),
  (72, mj_bin (fun x y => x &&& y) 73),
  (73, mj_push (.inl 1) 74),
  (74, mj_iload 2 75),
  (75, mj_bin (fun x y => x <<< (y &&& 31)) 76),
  (76, mj_push (.inl (-1)) 77),
  (77, mj_bin (fun x y => x ^^^ y) 78),
  (78, mj_bin (fun x y => x &&& y) 79),
  (79, mj_goto 83),
  (82, mj_iload 3 83),
  (83, mj_iast 84),
  (84, mj_iinc 2 1 87),
  (87, mj_goto 41),
  (90, mj_aload 0 91),
  (91, mj_push (.inl 0) 92),
  (92, mj_iload 1 93),
  (93, mj_push (.inl 0) 94),
  (94, mj_push (.inl 0) 95),
  (95, mj_callS 16 5 10 98),
  (98, mj_ret)]
theorem sd_14 : ∀ q ∈ ct_14, mi_snd cs_G cs_cl cs_inf 14 q.1 q.2 := mi_fc ks_14_0 (mi_fc ks_14_1 (mi_fc ks_14_4 (mi_fc ks_14_5 (mi_fc ks_14_8 (mi_fc ks_14_11 (mi_fc ks_14_14 (mi_fc ks_14_15 (mi_fc ks_14_16 (mi_fc ks_14_17 (mi_fc ks_14_20 (mi_fc ks_14_23 (mi_fc ks_14_26 (mi_fc ks_14_27 (mi_fc ks_14_28 (mi_fc ks_14_31 (mi_fc ks_14_32 (mi_fc ks_14_35 (mi_fc ks_14_38 (mi_fc ks_14_39 (mi_fc ks_14_40 (mi_fc ks_14_41 (mi_fc ks_14_42 (mi_fc ks_14_44 (mi_fc ks_14_47 (mi_fc ks_14_48 (mi_fc ks_14_51 (mi_fc ks_14_52 (mi_fc ks_14_55 (mi_fc ks_14_56 (mi_fc ks_14_57 (mi_fc ks_14_60 (mi_fc ks_14_61 (mi_fc ks_14_62 (mi_fc ks_14_65 (mi_fc ks_14_68 (mi_fc ks_14_69 (mi_fc ks_14_70 (mi_fc ks_14_71 (mi_fc ks_14_72 (mi_fc ks_14_73 (mi_fc ks_14_74 (mi_fc ks_14_75 (mi_fc ks_14_76 (mi_fc ks_14_77 (mi_fc ks_14_78 (mi_fc ks_14_79 (mi_fc ks_14_82 (mi_fc ks_14_83 (mi_fc ks_14_84 (mi_fc ks_14_87 (mi_fc ks_14_90 (mi_fc ks_14_91 (mi_fc ks_14_92 (mi_fc ks_14_93 (mi_fc ks_14_94 (mi_fc ks_14_95 (mi_fc ks_14_98 mi_fn)))))))))))))))))))))))))))))))))))))))))))))))))))))))))
theorem dd_15_0 : decode prog_5_method_5_code 0 = .ok (.iconst 1, 1) := by decide +kernel
theorem dd_15_1 : decode prog_5_method_5_code 1 = .ok (.aload_n 0, 1) := by decide +kernel
theorem dd_15_2 : decode prog_5_method_5_code 2 = .ok (.getfield 18, 3) := by decide +kernel
theorem dd_15_5 : decode prog_5_method_5_code 5 = .ok (.ishl, 1) := by decide +kernel
theorem dd_15_6 : decode prog_5_method_5_code 6 = .ok (.iconst 1, 1) := by decide +kernel
theorem dd_15_7 : decode prog_5_method_5_code 7 = .ok (.isub, 1) := by decide +kernel
theorem dd_15_8 : decode prog_5_method_5_code 8 = .ok (.ireturn, 1) := by decide +kernel
theorem ks_15_0 : mi_snd cs_G cs_cl cs_inf 15 0 (mj_push (.inl 1) 1) := ms_iconst (mi_dec ib_15 dd_15_0) (by decide)
theorem ks_15_1 : mi_snd cs_G cs_cl cs_inf 15 1 (mj_aload 0 2) := ms_aload_n (mi_dec ib_15 dd_15_1) rfl
theorem ks_15_2 : mi_snd cs_G cs_cl cs_inf 15 2 (mj_get 1 0 5) := ms_get (T := cs_T1) (k := 0) (mi_dec ib_15 dd_15_2) rfl cs_in1 (by decide) gw_29
theorem ks_15_5 : mi_snd cs_G cs_cl cs_inf 15 5 (mj_bin (fun x y => x <<< (y &&& 31)) 6) := ms_ishl (mi_dec ib_15 dd_15_5)
theorem ks_15_6 : mi_snd cs_G cs_cl cs_inf 15 6 (mj_push (.inl 1) 7) := ms_iconst (mi_dec ib_15 dd_15_6) (by decide)
theorem ks_15_7 : mi_snd cs_G cs_cl cs_inf 15 7 (mj_bin (fun x y => x - y) 8) := ms_isub (mi_dec ib_15 dd_15_7)
theorem ks_15_8 : mi_snd cs_G cs_cl cs_inf 15 8 (mj_iret) := ms_iret (mi_dec ib_15 dd_15_8) rfl
def ct_15 : List (Nat × mi_I) := [
  (0, mj_push (.inl 1) 1),
  (1, mj_aload 0 2),
  (2, mj_get 1 0 5),
  (5, mj_bin (fun x y => x <<< (y &&& 31)) 6),
  (6, mj_push (.inl 1) 7),
  (7, mj_bin (fun x y => x - y) 8),
  (8, mj_iret)]
theorem sd_15 : ∀ q ∈ ct_15, mi_snd cs_G cs_cl cs_inf 15 q.1 q.2 := mi_fc ks_15_0 (mi_fc ks_15_1 (mi_fc ks_15_2 (mi_fc ks_15_5 (mi_fc ks_15_6 (mi_fc ks_15_7 (mi_fc ks_15_8 mi_fn))))))
theorem dd_16_0 : decode prog_3_method_8_code 0 = .ok (.iload_n 2, 1) := by decide +kernel
theorem dd_16_1 : decode prog_3_method_8_code 1 = .ok (.ifCond .ne 12, 3) := by decide +kernel
theorem dd_16_4 : decode prog_3_method_8_code 4 = .ok (.iload_n 3, 1) := by decide +kernel
theorem dd_16_5 : decode prog_3_method_8_code 5 = .ok (.ifCond .ne 8, 3) := by decide +kernel
theorem dd_16_8 : decode prog_3_method_8_code 8 = .ok (.aload_n 0, 1) := by decide +kernel
theorem dd_16_9 : decode prog_3_method_8_code 9 = .ok (.iload_n 1, 1) := by decide +kernel
theorem dd_16_10 : decode prog_3_method_8_code 10 = .ok (.invokevirtual 61, 3) := by decide +kernel
theorem dd_16_13 : decode prog_3_method_8_code 13 = .ok (.iload_n 2, 1) := by decide +kernel
theorem dd_16_14 : decode prog_3_method_8_code 14 = .ok (.ifCond .eq 10, 3) := by decide +kernel
theorem dd_16_17 : decode prog_3_method_8_code 17 = .ok (.iload 4, 2) := by decide +kernel
theorem dd_16_19 : decode prog_3_method_8_code 19 = .ok (.bipush 16, 2) := by decide +kernel
theorem dd_16_21 : decode prog_3_method_8_code 21 = .ok (.if_icmp .lt 4, 3) := by decide +kernel
theorem dd_16_24 : decode prog_3_method_8_code 24 = .ok (.return_, 1) := by decide +kernel
theorem dd_16_25 : decode prog_3_method_8_code 25 = .ok (.iload_n 2, 1) := by decide +kernel
theorem dd_16_26 : decode prog_3_method_8_code 26 = .ok (.aload_n 0, 1) := by decide +kernel
theorem dd_16_27 : decode prog_3_method_8_code 27 = .ok (.iload_n 2, 1) := by decide +kernel
theorem dd_16_28 : decode prog_3_method_8_code 28 = .ok (.iload_n 3, 1) := by decide +kernel
theorem dd_16_29 : decode prog_3_method_8_code 29 = .ok (.ior, 1) := by decide +kernel
theorem dd_16_30 : decode prog_3_method_8_code 30 = .ok (.iload_n 2, 1) := by decide +kernel
theorem dd_16_31 : decode prog_3_method_8_code 31 = .ok (.invokevirtual 65, 3) := by decide +kernel
theorem dd_16_34 : decode prog_3_method_8_code 34 = .ok (.iconst (-1), 1) := by decide +kernel
theorem dd_16_35 : decode prog_3_method_8_code 35 = .ok (.ixor, 1) := by decide +kernel
theorem dd_16_36 : decode prog_3_method_8_code 36 = .ok (.iand, 1) := by decide +kernel
theorem dd_16_37 : decode prog_3_method_8_code 37 = .ok (.istore 5, 2) := by decide +kernel
theorem dd_16_39 : decode prog_3_method_8_code 39 = .ok (.iload_n 2, 1) := by decide +kernel
theorem dd_16_40 : decode prog_3_method_8_code 40 = .ok (.istore 6, 2) := by decide +kernel
theorem dd_16_42 : decode prog_3_method_8_code 42 = .ok (.iload_n 3, 1) := by decide +kernel
theorem dd_16_43 : decode prog_3_method_8_code 43 = .ok (.istore 7, 2) := by decide +kernel
theorem dd_16_45 : decode prog_3_method_8_code 45 = .ok (.iconst 0, 1) := by decide +kernel
theorem dd_16_46 : decode prog_3_method_8_code 46 = .ok (.istore 8, 2) := by decide +kernel
theorem dd_16_48 : decode prog_3_method_8_code 48 = .ok (.iload 8, 2) := by decide +kernel
theorem dd_16_50 : decode prog_3_method_8_code 50 = .ok (.bipush 16, 2) := by decide +kernel
theorem dd_16_52 : decode prog_3_method_8_code 52 = .ok (.if_icmp .ge 72, 3) := by decide +kernel
theorem dd_16_55 : decode prog_3_method_8_code 55 = .ok (.iload 5, 2) := by decide +kernel
theorem dd_16_57 : decode prog_3_method_8_code 57 = .ok (.iload 8, 2) := by decide +kernel
theorem dd_16_59 : decode prog_3_method_8_code 59 = .ok (.invokestatic 69, 3) := by decide +kernel
theorem dd_16_62 : decode prog_3_method_8_code 62 = .ok (.ifCond .eq 56, 3) := by decide +kernel
theorem dd_16_65 : decode prog_3_method_8_code 65 = .ok (.aload_n 0, 1) := by decide +kernel
theorem dd_16_66 : decode prog_3_method_8_code 66 = .ok (.getfield 9, 3) := by decide +kernel
theorem dd_16_69 : decode prog_3_method_8_code 69 = .ok (.iload 8, 2) := by decide +kernel
theorem dd_16_71 : decode prog_3_method_8_code 71 = .ok (.iaload, 1) := by decide +kernel
theorem dd_16_72 : decode prog_3_method_8_code 72 = .ok (.istore 9, 2) := by decide +kernel
theorem dd_16_74 : decode prog_3_method_8_code 74 = .ok (.aload_n 0, 1) := by decide +kernel
theorem dd_16_75 : decode prog_3_method_8_code 75 = .ok (.iload_n 1, 1) := by decide +kernel
theorem dd_16_76 : decode prog_3_method_8_code 76 = .ok (.iconst 1, 1) := by decide +kernel
theorem dd_16_77 : decode prog_3_method_8_code 77 = .ok (.iload 8, 2) := by decide +kernel
theorem dd_16_79 : decode prog_3_method_8_code 79 = .ok (.ishl, 1) := by decide +kernel
theorem dd_16_80 : decode prog_3_method_8_code 80 = .ok (.ior, 1) := by decide +kernel
theorem dd_16_81 : decode prog_3_method_8_code 81 = .ok (.iload 6, 2) := by decide +kernel
theorem dd_16_83 : decode prog_3_method_8_code 83 = .ok (.iload 9, 2) := by decide +kernel
theorem dd_16_85 : decode prog_3_method_8_code 85 = .ok (.iand, 1) := by decide +kernel
theorem dd_16_86 : decode prog_3_method_8_code 86 = .ok (.iload 7, 2) := by decide +kernel
theorem dd_16_88 : decode prog_3_method_8_code 88 = .ok (.iload 9, 2) := by decide +kernel
theorem dd_16_90 : decode prog_3_method_8_code 90 = .ok (.iand, 1) := by decide +kernel
theorem dd_16_91 : decode prog_3_method_8_code 91 = .ok (.iload 4, 2) := by decide +kernel
theorem dd_16_93 : decode prog_3_method_8_code 93 = .ok (.iconst 1, 1) := by decide +kernel
theorem dd_16_94 : decode prog_3_method_8_code 94 = .ok (.iadd, 1) := by decide +kernel
theorem dd_16_95 : decode prog_3_method_8_code 95 = .ok (.invokestatic 57, 3) := by decide +kernel
theorem dd_16_98 : decode prog_3_method_8_code 98 = .ok (.iload 6, 2) := by decide +kernel
theorem dd_16_100 : decode prog_3_method_8_code 100 = .ok (.iconst 1, 1) := by decide +kernel
theorem dd_16_101 : decode prog_3_method_8_code 101 = .ok (.iload 8, 2) := by decide +kernel
theorem dd_16_103 : decode prog_3_method_8_code 103 = .ok (.ishl, 1) := by decide +kernel
theorem dd_16_104 : decode prog_3_method_8_code 104 = .ok (.iconst (-1), 1) := by decide +kernel
theorem dd_16_105 : decode prog_3_method_8_code 105 = .ok (.ixor, 1) := by decide +kernel
theorem dd_16_106 : decode prog_3_method_8_code 106 = .ok (.iand, 1) := by decide +kernel
theorem dd_16_107 : decode prog_3_method_8_code 107 = .ok (.istore 6, 2) := by decide +kernel
theorem dd_16_109 : decode prog_3_method_8_code 109 = .ok (.iload 7, 2) := by decide +kernel
theorem dd_16_111 : decode prog_3_method_8_code 111 = .ok (.iconst 1, 1) := by decide +kernel
theorem dd_16_112 : decode prog_3_method_8_code 112 = .ok (.iload 8, 2) := by decide +kernel
theorem dd_16_114 : decode prog_3_method_8_code 114 = .ok (.ishl, 1) := by decide +kernel
theorem dd_16_115 : decode prog_3_method_8_code 115 = .ok (.ior, 1) := by decide +kernel
theorem dd_16_116 : decode prog_3_method_8_code 116 = .ok (.istore 7, 2) := by decide +kernel
theorem dd_16_118 : decode prog_3_method_8_code 118 = .ok (.iinc 8 1, 3) := by decide +kernel
theorem dd_16_121 : decode prog_3_method_8_code 121 = .ok (.goto (-73), 3) := by decide +kernel
theorem dd_16_124 : decode prog_3_method_8_code 124 = .ok (.return_, 1) := by decide +kernel
theorem ks_16_0 : mi_snd cs_G cs_cl cs_inf 16 0 (mj_iload 2 1) := ms_iload_n (mi_dec ib_16 dd_16_0) rfl
theorem ks_16_1 : mi_snd cs_G cs_cl cs_inf 16 1 (mj_if (fun x => decide (¬ x = 0)) 13 4) := ms_if_ne (mi_dec ib_16 dd_16_1) (by decide)
theorem ks_16_4 : mi_snd cs_G cs_cl cs_inf 16 4 (mj_iload 3 5) := ms_iload_n (mi_dec ib_16 dd_16_4) rfl
theorem ks_16_5 : mi_snd cs_G cs_cl cs_inf 16 5 (mj_if (fun x => decide (¬ x = 0)) 13 8) := ms_if_ne (mi_dec ib_16 dd_16_5) (by decide)
theorem ks_16_8 : mi_snd cs_G cs_cl cs_inf 16 8 (mj_aload 0 9) := ms_aload_n (mi_dec ib_16 dd_16_8) rfl
theorem ks_16_9 : mi_snd cs_G cs_cl cs_inf 16 9 (mj_iload 1 10) := ms_iload_n (mi_dec ib_16 dd_16_9) rfl
theorem ks_16_10 : mi_snd cs_G cs_cl cs_inf 16 10 (mj_callV 2 17 1 4 13) := ms_callV iw_c17 (mi_dec ib_16 dd_16_10) gw_330 iw_i17 rfl iw_v17 iw_n17 (by decide +kernel) rfl (by decide)
theorem ks_16_13 : mi_snd cs_G cs_cl cs_inf 16 13 (mj_iload 2 14) := ms_iload_n (mi_dec ib_16 dd_16_13) rfl
theorem ks_16_14 : mi_snd cs_G cs_cl cs_inf 16 14 (mj_if (fun x => decide (x = 0)) 24 17) := ms_if_eq (mi_dec ib_16 dd_16_14) (by decide)
theorem ks_16_17 : mi_snd cs_G cs_cl cs_inf 16 17 (mj_iload 4 19) := ms_iload (mi_dec ib_16 dd_16_17)
theorem ks_16_19 : mi_snd cs_G cs_cl cs_inf 16 19 (mj_push (.inl 16) 21) := ms_bipush (mi_dec ib_16 dd_16_19) (by decide)
theorem ks_16_21 : mi_snd cs_G cs_cl cs_inf 16 21 (mj_cmp (fun x y => decide (x < y)) 25 24) := ms_icmp_lt (mi_dec ib_16 dd_16_21) (by decide)
theorem ks_16_24 : mi_snd cs_G cs_cl cs_inf 16 24 (mj_ret) := ms_ret (mi_dec ib_16 dd_16_24) rfl
theorem ks_16_25 : mi_snd cs_G cs_cl cs_inf 16 25 (mj_iload 2 26) := ms_iload_n (mi_dec ib_16 dd_16_25) rfl
theorem ks_16_26 : mi_snd cs_G cs_cl cs_inf 16 26 (mj_aload 0 27) := ms_aload_n (mi_dec ib_16 dd_16_26) rfl
theorem ks_16_27 : mi_snd cs_G cs_cl cs_inf 16 27 (mj_iload 2 28) := ms_iload_n (mi_dec ib_16 dd_16_27) rfl
theorem ks_16_28 : mi_snd cs_G cs_cl cs_inf 16 28 (mj_iload 3 29) := ms_iload_n (mi_dec ib_16 dd_16_28) rfl
theorem ks_16_29 : mi_snd cs_G cs_cl cs_inf 16 29 (mj_bin (fun x y => x ||| y) 30) := ms_ior (mi_dec ib_16 dd_16_29)
theorem ks_16_30 : mi_snd cs_G cs_cl cs_inf 16 30 (mj_iload 2 31) := ms_iload_n (mi_dec ib_16 dd_16_30) rfl
theorem ks_16_31 : mi_snd cs_G cs_cl cs_inf 16 31 (mj_callV 2 19 2 5 34) := ms_callV iw_c19 (mi_dec ib_16 dd_16_31) gw_340 iw_i19 rfl iw_v19 iw_n19 (by decide +kernel) rfl (by decide)
theorem ks_16_34 : mi_snd cs_G cs_cl cs_inf 16 34 (mj_push (.inl (-1)) 35) := ms_iconst (mi_dec ib_16 dd_16_34) (by decide)
theorem ks_16_35 : mi_snd cs_G cs_cl cs_inf 16 35 (mj_bin (fun x y => x ^^^ y) 36) := ms_ixor (mi_dec ib_16 dd_16_35)
theorem ks_16_36 : mi_snd cs_G cs_cl cs_inf 16 36 (mj_bin (fun x y => x &&& y) 37) := ms_iand (mi_dec ib_16 dd_16_36)
theorem ks_16_37 : mi_snd cs_G cs_cl cs_inf 16 37 (mj_istore 5 39) := ms_istore (mi_dec ib_16 dd_16_37)
theorem ks_16_39 : mi_snd cs_G cs_cl cs_inf 16 39 (mj_iload 2 40) := ms_iload_n (mi_dec ib_16 dd_16_39) rfl
theorem ks_16_40 : mi_snd cs_G cs_cl cs_inf 16 40 (mj_istore 6 42) := ms_istore (mi_dec ib_16 dd_16_40)
theorem ks_16_42 : mi_snd cs_G cs_cl cs_inf 16 42 (mj_iload 3 43) := ms_iload_n (mi_dec ib_16 dd_16_42) rfl
theorem ks_16_43 : mi_snd cs_G cs_cl cs_inf 16 43 (mj_istore 7 45) := ms_istore (mi_dec ib_16 dd_16_43)
theorem ks_16_45 : mi_snd cs_G cs_cl cs_inf 16 45 (mj_push (.inl 0) 46) := ms_iconst (mi_dec ib_16 dd_16_45) (by decide)
theorem ks_16_46 : mi_snd cs_G cs_cl cs_inf 16 46 (mj_istore 8 48) := ms_istore (mi_dec ib_16 dd_16_46)
theorem ks_16_48 : mi_snd cs_G cs_cl cs_inf 16 48 (mj_iload 8 50) := ms_iload (mi_dec ib_16 dd_16_48)
theorem ks_16_50 : mi_snd cs_G cs_cl cs_inf 16 50 (mj_push (.inl 16) 52) := ms_bipush (mi_dec ib_16 dd_16_50) (by decide)
theorem ks_16_52 : mi_snd cs_G cs_cl cs_inf 16 52 (mj_cmp (fun x y => decide (y ≤ x)) 124 55) := ms_icmp_ge (mi_dec ib_16 dd_16_52) (by decide)
theorem ks_16_55 : mi_snd cs_G cs_cl cs_inf 16 55 (mj_iload 5 57) := ms_iload (mi_dec ib_16 dd_16_55)
theorem ks_16_57 : mi_snd cs_G cs_cl cs_inf 16 57 (mj_iload 8 59) := ms_iload (mi_dec ib_16 dd_16_57)
theorem ks_16_59 : mi_snd cs_G cs_cl cs_inf 16 59 (mj_callS 7 2 2 62) := ms_callSN iw_c7 (mi_dec ib_16 dd_16_59) gw_344 iw_s7 iw_n7 (by decide +kernel) rfl (by decide)
theorem ks_16_62 : mi_snd cs_G cs_cl cs_inf 16 62 (mj_if (fun x => decide (x = 0)) 118 65) := ms_if_eq (mi_dec ib_16 dd_16_62) (by decide)
theorem ks_16_65 : mi_snd cs_G cs_cl cs_inf 16 65 (mj_aload 0 66) := ms_aload_n (mi_dec ib_16 dd_16_65) rfl
theorem ks_16_66 : mi_snd cs_G cs_cl cs_inf 16 66 (mj_get 2 2 69) := ms_get (T := cs_T2) (k := 2) (mi_dec ib_16 dd_16_66) rfl cs_in2 (by decide) gw_57
theorem ks_16_69 : mi_snd cs_G cs_cl cs_inf 16 69 (mj_iload 8 71) := ms_iload (mi_dec ib_16 dd_16_69)
theorem ks_16_71 : mi_snd cs_G cs_cl cs_inf 16 71 (mj_ald 0 72) := ms_ald0 (mi_dec ib_16 dd_16_71)
theorem ks_16_72 : mi_snd cs_G cs_cl cs_inf 16 72 (mj_istore 9 74) := ms_istore (mi_dec ib_16 dd_16_72)
theorem ks_16_74 : mi_snd cs_G cs_cl cs_inf 16 74 (mj_aload 0 75) := ms_aload_n (mi_dec ib_16 dd_16_74) rfl
theorem ks_16_75 : mi_snd cs_G cs_cl cs_inf 16 75 (mj_iload 1 76) := ms_iload_n (mi_dec ib_16 dd_16_75) rfl
theorem ks_16_76 : mi_snd cs_G cs_cl cs_inf 16 76 (mj_push (.inl 1) 77) := ms_iconst (mi_dec ib_16 dd_16_76) (by decide)
theorem ks_16_77 : mi_snd cs_G cs_cl cs_inf 16 77 (mj_iload 8 79) := ms_iload (mi_dec ib_16 dd_16_77)
theorem ks_16_79 : mi_snd cs_G cs_cl cs_inf 16 79 (mj_bin (fun x y => x <<< (y &&& 31)) 80) := ms_ishl (mi_dec ib_16 dd_16_79)
theorem ks_16_80 : mi_snd cs_G cs_cl cs_inf 16 80 (mj_bin (fun x y => x ||| y) 81) := ms_ior (mi_dec ib_16 dd_16_80)
theorem ks_16_81 : mi_snd cs_G cs_cl cs_inf 16 81 (mj_iload 6 83) := ms_iload (mi_dec ib_16 dd_16_81)
theorem ks_16_83 : mi_snd cs_G cs_cl cs_inf 16 83 (mj_iload 9 85) := ms_iload (mi_dec ib_16 dd_16_83)
theorem ks_16_85 : mi_snd cs_G cs_cl cs_inf 16 85 (mj_bin (fun x y => x &&& y) 86) := ms_iand (mi_dec ib_16 dd_16_85)
theorem ks_16_86 : mi_snd cs_G cs_cl cs_inf 16 86 (mj_iload 7 88) := ms_iload (mi_dec ib_16 dd_16_86)
theorem ks_16_88 : mi_snd cs_G cs_cl cs_inf 16 88 (mj_iload 9 90) := ms_iload (mi_dec ib_16 dd_16_88)
theorem ks_16_90 : mi_snd cs_G cs_cl cs_inf 16 90 (mj_bin (fun x y => x &&& y) 91) := ms_iand (mi_dec ib_16 dd_16_90)
theorem ks_16_91 : mi_snd cs_G cs_cl cs_inf 16 91 (mj_iload 4 93) := ms_iload (mi_dec ib_16 dd_16_91)
theorem ks_16_93 : mi_snd cs_G cs_cl cs_inf 16 93 (mj_push (.inl 1) 94) := ms_iconst (mi_dec ib_16 dd_16_93) (by decide)
theorem ks_16_94 : mi_snd cs_G cs_cl cs_inf 16 94 (mj_bin (fun x y => x + y) 95) := ms_iadd (mi_dec ib_16 dd_16_94)
theorem ks_16_95 : mi_snd cs_G cs_cl cs_inf 16 95 (mj_callS 16 5 10 98) := ms_callS iw_c16 (mi_dec ib_16 dd_16_95) gw_327 iw_s16 iw_n16 (by decide +kernel) rfl (by decide)
theorem ks_16_98 : mi_snd cs_G cs_cl cs_inf 16 98 (mj_iload 6 100) := ms_iload (mi_dec ib_16 dd_16_98)
theorem ks_16_100 : mi_snd cs_G cs_cl cs_inf 16 100 (mj_push (.inl 1) 101) := ms_iconst (mi_dec ib_16 dd_16_100) (by decide)
theorem ks_16_101 : mi_snd cs_G cs_cl cs_inf 16 101 (mj_iload 8 103) := ms_iload (mi_dec ib_16 dd_16_101)
theorem ks_16_103 : mi_snd cs_G cs_cl cs_inf 16 103 (mj_bin (fun x y => x <<< (y &&& 31)) 104) := ms_ishl (mi_dec ib_16 dd_16_103)
theorem ks_16_104 : mi_snd cs_G cs_cl cs_inf 16 104 (mj_push (.inl (-1)) 105) := ms_iconst (mi_dec ib_16 dd_16_104) (by decide)
theorem ks_16_105 : mi_snd cs_G cs_cl cs_inf 16 105 (mj_bin (fun x y => x ^^^ y) 106) := ms_ixor (mi_dec ib_16 dd_16_105)
theorem ks_16_106 : mi_snd cs_G cs_cl cs_inf 16 106 (mj_bin (fun x y => x &&& y) 107) := ms_iand (mi_dec ib_16 dd_16_106)
theorem ks_16_107 : mi_snd cs_G cs_cl cs_inf 16 107 (mj_istore 6 109) := ms_istore (mi_dec ib_16 dd_16_107)
theorem ks_16_109 : mi_snd cs_G cs_cl cs_inf 16 109 (mj_iload 7 111) := ms_iload (mi_dec ib_16 dd_16_109)
theorem ks_16_111 : mi_snd cs_G cs_cl cs_inf 16 111 (mj_push (.inl 1) 112) := ms_iconst (mi_dec ib_16 dd_16_111) (by decide)
theorem ks_16_112 : mi_snd cs_G cs_cl cs_inf 16 112 (mj_iload 8 114) := ms_iload (mi_dec ib_16 dd_16_112)
theorem ks_16_114 : mi_snd cs_G cs_cl cs_inf 16 114 (mj_bin (fun x y => x <<< (y &&& 31)) 115) := ms_ishl (mi_dec ib_16 dd_16_114)
theorem ks_16_115 : mi_snd cs_G cs_cl cs_inf 16 115 (mj_bin (fun x y => x ||| y) 116) := ms_ior (mi_dec ib_16 dd_16_115)
theorem ks_16_116 : mi_snd cs_G cs_cl cs_inf 16 116 (mj_istore 7 118) := ms_istore (mi_dec ib_16 dd_16_116)
theorem ks_16_118 : mi_snd cs_G cs_cl cs_inf 16 118 (mj_iinc 8 1 121) := ms_iinc (mi_dec ib_16 dd_16_118) (by decide)
theorem ks_16_121 : mi_snd cs_G cs_cl cs_inf 16 121 (mj_goto 48) := ms_goto (mi_dec ib_16 dd_16_121) (by decide)
theorem ks_16_124 : mi_snd cs_G cs_cl cs_inf 16 124 (mj_ret) := ms_ret (mi_dec ib_16 dd_16_124) rfl
def ct_16 : List (Nat × mi_I) := [
  (0, mj_iload 2 1),
  (1, mj_if (fun x => decide (¬ x = 0)) 13 4),
  (4, mj_iload 3 5),
  (5, mj_if (fun x => decide (¬ x = 0)) 13 8),
  (8, mj_aload 0 9),
  (9, mj_iload 1 10),
  (10, mj_callV 2 17 1 4 13),
  (13, mj_iload 2 14),
  (14, mj_if (fun x => decide (x = 0)) 24 17),
  (17, mj_iload 4 19),
  (19, mj_push (.inl 16) 21),
  (21, mj_cmp (fun x y => decide (x < y)) 25 24),
  (24, mj_ret),
  (25, mj_iload 2 26),
  (26, mj_aload 0 27),
  (27, mj_iload 2 28),
  (28, mj_iload 3 29),
  (29, mj_bin (fun x y => x ||| y) 30),
  (30, mj_iload 2 31),
  (31, mj_callV 2 19 2 5 34),
  (34, mj_push (.inl (-1)) 35),
  (35, mj_bin (fun x y => x ^^^ y) 36),
  (36, mj_bin (fun x y => x &&& y) 37),
  (37, mj_istore 5 39),
  (39, mj_iload 2 40),
  (40, mj_istore 6 42),
  (42, mj_iload 3 43),
  (43, mj_istore 7 45),
  (45, mj_push (.inl 0) 46),
  (46, mj_istore 8 48),
  (48, mj_iload 8 50),
  (50, mj_push (.inl 16) 52),
  (52, mj_cmp (fun x y => decide (y ≤ x)) 124 55),
  (55, mj_iload 5 57),
  (57, mj_iload 8 59),
  (59, mj_callS 7 2 2 62),
  (62, mj_if (fun x => decide (x = 0)) 118 65),
  (65, mj_aload 0 66),
  (66, mj_get 2 2 69),
  (69, mj_iload 8 71),
  (71, mj_ald 0 72),
  (72, mj_istore 9 74),
  (74, mj_aload 0 75),
  (75, mj_iload 1 76),
  (76, mj_push (.inl 1) 77),
  (77, mj_iload 8 79),
  (79, mj_bin (fun x y => x <<< (y &&& 31)) 80),
  (80, mj_bin (fun x y => x ||| y) 81),
  (81, mj_iload 6 83),
  (83, mj_iload 9 85),
  (85, mj_bin (fun x y => x &&& y) 86),
  (86, mj_iload 7 88),
  (88, mj_iload 9 90),
  (90, mj_bin (fun x y => x &&& y) 91),
  (91, mj_iload 4 93),
  (93, mj_push (.inl 1) 94),
  (94, mj_bin (fun x y => x + y) 95),
  (95, mj_callS 16 5 10 98),
  (98, mj_iload 6 100),
  (100, mj_push (.inl 1) 101),
  (101, mj_iload 8 103),
  (103, mj_bin (fun x y => x <<< (y &&& 31)) 104),
  (104, mj_push (.inl (-1)) 105),
  (105, mj_bin (fun x y => x ^^^ y) 106),
  (106, mj_bin (fun x y => x &&& y) 107),
  (107, mj_istore 6 109),
  (109, mj_iload 7 111),
  (111, mj_push (.inl 1) 112),
  (112, mj_iload 8 114),
  (114, mj_bin (fun x y => x <<< (y &&& 31)) 115),
  (115, mj_bin (fun x y => x ||| y) 116),
  (116, mj_istore 7 118),
  (118, mj_iinc 8 1 121),
  (121, mj_goto 48),
  (124, mj_ret)]
theorem sd_16 : ∀ q ∈ ct_16, mi_snd cs_G cs_cl cs_inf 16 q.1 q.2 := mi_fc ks_16_0 (mi_fc ks_16_1 (mi_fc ks_16_4 (mi_fc ks_16_5 (mi_fc ks_16_8 (mi_fc ks_16_9 (mi_fc ks_16_10 (mi_fc ks_16_13 (mi_fc ks_16_14 (mi_fc ks_16_17 (mi_fc ks_16_19 (mi_fc ks_16_21 (mi_fc ks_16_24 (mi_fc ks_16_25 (mi_fc ks_16_26 (mi_fc ks_16_27 (mi_fc ks_16_28 (mi_fc ks_16_29 (mi_fc ks_16_30 (mi_fc ks_16_31 (mi_fc ks_16_34 (mi_fc ks_16_35 (mi_fc ks_16_36 (mi_fc ks_16_37 (mi_fc ks_16_39 (mi_fc ks_16_40 (mi_fc ks_16_42 (mi_fc ks_16_43 (mi_fc ks_16_45 (mi_fc ks_16_46 (mi_fc ks_16_48 (mi_fc ks_16_50 (mi_fc ks_16_52 (mi_fc ks_16_55 (mi_fc ks_16_57 (mi_fc ks_16_59 (mi_fc ks_16_62 (mi_fc ks_16_65 (mi_fc ks_16_66 (mi_fc ks_16_69 (mi_fc ks_16_71 (mi_fc ks_16_72 (mi_fc ks_16_74 (mi_fc ks_16_75 (mi_fc ks_16_76 (mi_fc ks_16_77 (mi_fc ks_16_79 (mi_fc ks_16_80 (mi_fc ks_16_81 (mi_fc ks_16_83 (mi_fc ks_16_85 (mi_fc ks_16_86 (mi_fc ks_16_88 (mi_fc ks_16_90 (mi_fc ks_16_91 (mi_fc ks_16_93 (mi_fc ks_16_94 (mi_fc ks_16_95 (mi_fc ks_16_98 (mi_fc ks_16_100 (mi_fc ks_16_101 (mi_fc ks_16_103 (mi_fc ks_16_104 (mi_fc ks_16_105 (mi_fc ks_16_106 (mi_fc ks_16_107 (mi_fc ks_16_109 (mi_fc ks_16_111 (mi_fc ks_16_112 (mi_fc ks_16_114 (mi_fc ks_16_115 (mi_fc ks_16_116 (mi_fc ks_16_118 (mi_fc ks_16_121 (mi_fc ks_16_124 mi_fn))))))))))))))))))))))))))))))))))))))))))))))))))))))))))))))))))))))))))
theorem dd_17_0 : decode prog_3_method_10_code 0 = .ok (.aload_n 0, 1) := by decide +kernel
theorem dd_17_1 : decode prog_3_method_10_code 1 = .ok (.getfield 33, 3) := by decide +kernel
theorem dd_17_4 : decode prog_3_method_10_code 4 = .ok (.sipush 324, 3) := by decide +kernel
theorem dd_17_7 : decode prog_3_method_10_code 7 = .ok (.if_icmp .lt 4, 3) := by decide +kernel
theorem dd_17_10 : decode prog_3_method_10_code 10 = .ok (.return_, 1) := by decide +kernel
theorem dd_17_11 : decode prog_3_method_10_code 11 = .ok (.iconst 0, 1) := by decide +kernel
theorem dd_17_12 : decode prog_3_method_10_code 12 = .ok (.istore_n 2, 1) := by decide +kernel
theorem dd_17_13 : decode prog_3_method_10_code 13 = .ok (.sipush 256, 3) := by decide +kernel
theorem dd_17_16 : decode prog_3_method_10_code 16 = .ok (.istore_n 3, 1) := by decide +kernel
theorem dd_17_17 : decode prog_3_method_10_code 17 = .ok (.iload_n 3, 1) := by decide +kernel
theorem dd_17_18 : decode prog_3_method_10_code 18 = .ok (.ifCond .le 41, 3) := by decide +kernel
theorem dd_17_21 : decode prog_3_method_10_code 21 = .ok (.iload_n 2, 1) := by decide +kernel
theorem dd_17_22 : decode prog_3_method_10_code 22 = .ok (.iload_n 3, 1) := by decide +kernel
theorem dd_17_23 : decode prog_3_method_10_code 23 = .ok (.iadd, 1) := by decide +kernel
theorem dd_17_24 : decode prog_3_method_10_code 24 = .ok (.aload_n 0, 1) := by decide +kernel
theorem dd_17_25 : decode prog_3_method_10_code 25 = .ok (.getfield 33, 3) := by decide +kernel
theorem dd_17_28 : decode prog_3_method_10_code 28 = .ok (.if_icmp .gt 24, 3) := by decide +kernel
theorem dd_17_31 : decode prog_3_method_10_code 31 = .ok (.aload_n 0, 1) := by decide +kernel
theorem dd_17_32 : decode prog_3_method_10_code 32 = .ok (.getfield 15, 3) := by decide +kernel
theorem dd_17_35 : decode prog_3_method_10_code 35 = .ok (.iload_n 2, 1) := by decide +kernel
theorem dd_17_36 : decode prog_3_method_10_code 36 = .ok (.iload_n 3, 1) := by decide +kernel
theorem dd_17_37 : decode prog_3_method_10_code 37 = .ok (.iadd, 1) := by decide +kernel
theorem dd_17_38 : decode prog_3_method_10_code 38 = .ok (.iconst 1, 1) := by decide +kernel
theorem dd_17_39 : decode prog_3_method_10_code 39 = .ok (.isub, 1) := by decide +kernel
theorem dd_17_40 : decode prog_3_method_10_code 40 = .ok (.iaload, 1) := by decide +kernel
theorem dd_17_41 : decode prog_3_method_10_code 41 = .ok (.iload_n 1, 1) := by decide +kernel
theorem dd_17_42 : decode prog_3_method_10_code 42 = .ok (.invokestatic 73, 3) := by decide +kernel
theorem dd_17_45 : decode prog_3_method_10_code 45 = .ok (.ifCond .eq 7, 3) := by decide +kernel
theorem dd_17_48 : decode prog_3_method_10_code 48 = .ok (.iload_n 2, 1) := by decide +kernel
theorem dd_17_49 : decode prog_3_method_10_code 49 = .ok (.iload_n 3, 1) := by decide +kernel
theorem dd_17_50 : decode prog_3_method_10_code 50 = .ok (.iadd, 1) := by decide +kernel
theorem dd_17_51 : decode prog_3_method_10_code 51 = .ok (.istore_n 2, 1) := by decide +kernel
theorem dd_17_52 : decode prog_3_method_10_code 52 = .ok (.iload_n 3, 1) := by decide +kernel
theorem dd_17_53 : decode prog_3_method_10_code 53 = .ok (.iconst 1, 1) := by decide +kernel
theorem dd_17_54 : decode prog_3_method_10_code 54 = .ok (.ishr, 1) := by decide +kernel
theorem dd_17_55 : decode prog_3_method_10_code 55 = .ok (.istore_n 3, 1) := by decide +kernel
theorem dd_17_56 : decode prog_3_method_10_code 56 = .ok (.goto (-39), 3) := by decide +kernel
theorem dd_17_59 : decode prog_3_method_10_code 59 = .ok (.aload_n 0, 1) := by decide +kernel
theorem dd_17_60 : decode prog_3_method_10_code 60 = .ok (.getfield 15, 3) := by decide +kernel
theorem dd_17_63 : decode prog_3_method_10_code 63 = .ok (.iload_n 2, 1) := by decide +kernel
theorem dd_17_64 : decode prog_3_method_10_code 64 = .ok (.aload_n 0, 1) := by decide +kernel
theorem dd_17_65 : decode prog_3_method_10_code 65 = .ok (.getfield 15, 3) := by decide +kernel
theorem dd_17_68 : decode prog_3_method_10_code 68 = .ok (.iload_n 2, 1) := by decide +kernel
theorem dd_17_69 : decode prog_3_method_10_code 69 = .ok (.iconst 1, 1) := by decide +kernel
theorem dd_17_70 : decode prog_3_method_10_code 70 = .ok (.iadd, 1) := by decide +kernel
theorem dd_17_71 : decode prog_3_method_10_code 71 = .ok (.aload_n 0, 1) := by decide +kernel
theorem dd_17_72 : decode prog_3_method_10_code 72 = .ok (.getfield 33, 3) := by decide +kernel
theorem dd_17_75 : decode prog_3_method_10_code 75 = .ok (.iload_n 2, 1) := by decide +kernel
theorem dd_17_76 : decode prog_3_method_10_code 76 = .ok (.isub, 1) := by decide +kernel
theorem dd_17_77 : decode prog_3_method_10_code 77 = .ok (.invokestatic 76, 3) := by decide +kernel
theorem dd_17_80 : decode prog_3_method_10_code 80 = .ok (.aload_n 0, 1) := by decide +kernel
theorem dd_17_81 : decode prog_3_method_10_code 81 = .ok (.getfield 15, 3) := by decide +kernel
theorem dd_17_84 : decode prog_3_method_10_code 84 = .ok (.iload_n 2, 1) := by decide +kernel
theorem dd_17_85 : decode prog_3_method_10_code 85 = .ok (.iload_n 1, 1) := by decide +kernel
theorem dd_17_86 : decode prog_3_method_10_code 86 = .ok (.iastore, 1) := by decide +kernel
theorem dd_17_87 : decode prog_3_method_10_code 87 = .ok (.aload_n 0, 1) := by decide +kernel
theorem dd_17_88 : decode prog_3_method_10_code 88 = .ok (.dup, 1) := by decide +kernel
theorem dd_17_89 : decode prog_3_method_10_code 89 = .ok (.getfield 33, 3) := by decide +kernel
theorem dd_17_92 : decode prog_3_method_10_code 92 = .ok (.iconst 1, 1) := by decide +kernel
theorem dd_17_93 : decode prog_3_method_10_code 93 = .ok (.iadd, 1) := by decide +kernel
theorem dd_17_94 : decode prog_3_method_10_code 94 = .ok (.putfield 33, 3) := by decide +kernel
theorem dd_17_97 : decode prog_3_method_10_code 97 = .ok (.return_, 1) := by decide +kernel
theorem ks_17_0 : mi_snd cs_G cs_cl cs_inf 17 0 (mj_aload 0 1) := ms_aload_n (mi_dec ib_17 dd_17_0) rfl
theorem ks_17_1 : mi_snd cs_G cs_cl cs_inf 17 1 (mj_get 2 4 4) := ms_get (T := cs_T2) (k := 4) (mi_dec ib_17 dd_17_1) rfl cs_in2 (by decide) gw_59
theorem ks_17_4 : mi_snd cs_G cs_cl cs_inf 17 4 (mj_push (.inl 324) 7) := ms_sipush (mi_dec ib_17 dd_17_4) (by decide)
theorem ks_17_7 : mi_snd cs_G cs_cl cs_inf 17 7 (mj_cmp (fun x y => decide (x < y)) 11 10) := ms_icmp_lt (mi_dec ib_17 dd_17_7) (by decide)
theorem ks_17_10 : mi_snd cs_G cs_cl cs_inf 17 10 (mj_ret) := ms_ret (mi_dec ib_17 dd_17_10) rfl
theorem ks_17_11 : mi_snd cs_G cs_cl cs_inf 17 11 (mj_push (.inl 0) 12) := ms_iconst (mi_dec ib_17 dd_17_11) (by decide)
theorem ks_17_12 : mi_snd cs_G cs_cl cs_inf 17 12 (mj_istore 2 13) := ms_istore_n (mi_dec ib_17 dd_17_12) rfl
theorem ks_17_13 : mi_snd cs_G cs_cl cs_inf 17 13 (mj_push (.inl 256) 16) := ms_sipush (mi_dec ib_17 dd_17_13) (by decide)
theorem ks_17_16 : mi_snd cs_G cs_cl cs_inf 17 16 (mj_istore 3 17) := ms_istore_n (mi_dec ib_17 dd_17_16) rfl
theorem ks_17_17 : mi_snd cs_G cs_cl cs_inf 17 17 (mj_iload 3 18) := ms_iload_n (mi_dec ib_17 dd_17_17) rfl
theorem ks_17_18 : mi_snd cs_G cs_cl cs_inf 17 18 (mj_if (fun x => decide (x ≤ 0)) 59 21) := ms_if_le (mi_dec ib_17 dd_17_18) (by decide)
theorem ks_17_21 : mi_snd cs_G cs_cl cs_inf 17 21 (mj_iload 2 22) := ms_iload_n (mi_dec ib_17 dd_17_21) rfl
theorem ks_17_22 : mi_snd cs_G cs_cl cs_inf 17 22 (mj_iload 3 23) := ms_iload_n (mi_dec ib_17 dd_17_22) rfl
theorem ks_17_23 : mi_snd cs_G cs_cl cs_inf 17 23 (mj_bin (fun x y => x + y) 24) := ms_iadd (mi_dec ib_17 dd_17_23)
theorem ks_17_24 : mi_snd cs_G cs_cl cs_inf 17 24 (mj_aload 0 25) := ms_aload_n (mi_dec ib_17 dd_17_24) rfl
theorem ks_17_25 : mi_snd cs_G cs_cl cs_inf 17 25 (mj_get 2 4 28) := ms_get (T := cs_T2) (k := 4) (mi_dec ib_17 dd_17_25) rfl cs_in2 (by decide) gw_59
theorem ks_17_28 : mi_snd cs_G cs_cl cs_inf 17 28 (mj_cmp (fun x y => decide (y < x)) 52 31) := ms_icmp_gt (mi_dec ib_17 dd_17_28) (by decide)
theorem ks_17_31 : mi_snd cs_G cs_cl cs_inf 17 31 (mj_aload 0 32) := ms_aload_n (mi_dec ib_17 dd_17_31) rfl
theorem ks_17_32 : mi_snd cs_G cs_cl cs_inf 17 32 (mj_get 2 3 35) := ms_get (T := cs_T2) (k := 3) (mi_dec ib_17 dd_17_32) rfl cs_in2 (by decide) gw_58
theorem ks_17_35 : mi_snd cs_G cs_cl cs_inf 17 35 (mj_iload 2 36) := ms_iload_n (mi_dec ib_17 dd_17_35) rfl
theorem ks_17_36 : mi_snd cs_G cs_cl cs_inf 17 36 (mj_iload 3 37) := ms_iload_n (mi_dec ib_17 dd_17_36) rfl
theorem ks_17_37 : mi_snd cs_G cs_cl cs_inf 17 37 (mj_bin (fun x y => x + y) 38) := ms_iadd (mi_dec ib_17 dd_17_37)
theorem ks_17_38 : mi_snd cs_G cs_cl cs_inf 17 38 (mj_push (.inl 1) 39) := ms_iconst (mi_dec ib_17 dd_17_38) (by decide)
theorem ks_17_39 : mi_snd cs_G cs_cl cs_inf 17 39 (mj_bin (fun x y => x - y) 40) := ms_isub (mi_dec ib_17 dd_17_39)
theorem ks_17_40 : mi_snd cs_G cs_cl cs_inf 17 40 (mj_ald 0 41) := ms_ald0 (mi_dec ib_17 dd_17_40)
theorem ks_17_41 : mi_snd cs_G cs_cl cs_inf 17 41 (mj_iload 1 42) := ms_iload_n (mi_dec ib_17 dd_17_41) rfl
theorem ks_17_42 : mi_snd cs_G cs_cl cs_inf 17 42 (mj_callS 18 2 3 45) := ms_callS iw_c18 (mi_dec ib_17 dd_17_42) gw_334 iw_s18 iw_n18 (by decide +kernel) rfl (by decide)
theorem ks_17_45 : mi_snd cs_G cs_cl cs_inf 17 45 (mj_if (fun x => decide (x = 0)) 52 48) := ms_if_eq (mi_dec ib_17 dd_17_45) (by decide)
theorem ks_17_48 : mi_snd cs_G cs_cl cs_inf 17 48 (mj_iload 2 49) := ms_iload_n (mi_dec ib_17 dd_17_48) rfl
theorem ks_17_49 : mi_snd cs_G cs_cl cs_inf 17 49 (mj_iload 3 50) := ms_iload_n (mi_dec ib_17 dd_17_49) rfl
theorem ks_17_50 : mi_snd cs_G cs_cl cs_inf 17 50 (mj_bin (fun x y => x + y) 51) := ms_iadd (mi_dec ib_17 dd_17_50)
theorem ks_17_51 : mi_snd cs_G cs_cl cs_inf 17 51 (mj_istore 2 52) := ms_istore_n (mi_dec ib_17 dd_17_51) rfl
theorem ks_17_52 : mi_snd cs_G cs_cl cs_inf 17 52 (mj_iload 3 53) := ms_iload_n (mi_dec ib_17 dd_17_52) rfl
theorem ks_17_53 : mi_snd cs_G cs_cl cs_inf 17 53 (mj_push (.inl 1) 54) := ms_iconst (mi_dec ib_17 dd_17_53) (by decide)
theorem ks_17_54 : mi_snd cs_G cs_cl cs_inf 17 54 (mj_bin (fun x y => x >>> (y &&& 31)) 55) := ms_ishr (mi_dec ib_17 dd_17_54)
theorem ks_17_55 : mi_snd cs_G cs_cl cs_inf 17 55 (mj_istore 3 56) := ms_istore_n (mi_dec ib_17 dd_17_55) rfl
theorem ks_17_56 : mi_snd cs_G cs_cl cs_inf 17 56 (mj_goto 17) := ms_goto (mi_dec ib_17 dd_17_56) (by decide)
theorem ks_17_59 : mi_snd cs_G cs_cl cs_inf 17 59 (mj_aload 0 60) := ms_aload_n (mi_dec ib_17 dd_17_59) rfl
theorem ks_17_60 : mi_snd cs_G cs_cl cs_inf 17 60 (mj_get 2 3 63) := ms_get (T := cs_T2) (k := 3) (mi_dec ib_17 dd_17_60) rfl cs_in2 (by decide) gw_58
theorem ks_17_63 : mi_snd cs_G cs_cl cs_inf 17 63 (mj_iload 2 64) := ms_iload_n (mi_dec ib_17 dd_17_63) rfl
theorem ks_17_64 : mi_snd cs_G cs_cl cs_inf 17 64 (mj_aload 0 65) := ms_aload_n (mi_dec ib_17 dd_17_64) rfl
theorem ks_17_65 : mi_snd cs_G cs_cl cs_inf 17 65 (mj_get 2 3 68) := ms_get (T := cs_T2) (k := 3) (mi_dec ib_17 dd_17_65) rfl cs_in2 (by decide) gw_58
theorem ks_17_68 : mi_snd cs_G cs_cl cs_inf 17 68 (mj_iload 2 69) := ms_iload_n (mi_dec ib_17 dd_17_68) rfl
theorem ks_17_69 : mi_snd cs_G cs_cl cs_inf 17 69 (mj_push (.inl 1) 70) := ms_iconst (mi_dec ib_17 dd_17_69) (by decide)
theorem ks_17_70 : mi_snd cs_G cs_cl cs_inf 17 70 (mj_bin (fun x y => x + y) 71) := ms_iadd (mi_dec ib_17 dd_17_70)
theorem ks_17_71 : mi_snd cs_G cs_cl cs_inf 17 71 (mj_aload 0 72) := ms_aload_n (mi_dec ib_17 dd_17_71) rfl
theorem ks_17_72 : mi_snd cs_G cs_cl cs_inf 17 72 (mj_get 2 4 75) := ms_get (T := cs_T2) (k := 4) (mi_dec ib_17 dd_17_72) rfl cs_in2 (by decide) gw_59
theorem ks_17_75 : mi_snd cs_G cs_cl cs_inf 17 75 (mj_iload 2 76) := ms_iload_n (mi_dec ib_17 dd_17_75) rfl
theorem ks_17_76 : mi_snd cs_G cs_cl cs_inf 17 76 (mj_bin (fun x y => x - y) 77) := ms_isub (mi_dec ib_17 dd_17_76)
theorem ks_17_77 : mi_snd cs_G cs_cl cs_inf 17 77 (mj_copy 80) := ms_copy (mi_dec ib_17 dd_17_77) gw_337 gw_339 gw_338 gw_11
theorem ks_17_80 : mi_snd cs_G cs_cl cs_inf 17 80 (mj_aload 0 81) := ms_aload_n (mi_dec ib_17 dd_17_80) rfl
theorem ks_17_81 : mi_snd cs_G cs_cl cs_inf 17 81 (mj_get 2 3 84) := ms_get (T := cs_T2) (k := 3) (mi_dec ib_17 dd_17_81) rfl cs_in2 (by decide) gw_58
theorem ks_17_84 : mi_snd cs_G cs_cl cs_inf 17 84 (mj_iload 2 85) := ms_iload_n (mi_dec ib_17 dd_17_84) rfl
theorem ks_17_85 : mi_snd cs_G cs_cl cs_inf 17 85 (mj_iload 1 86) := ms_iload_n (mi_dec ib_17 dd_17_85) rfl
theorem ks_17_86 : mi_snd cs_G cs_cl cs_inf 17 86 (mj_iast 87) := ms_iast (mi_dec ib_17 dd_17_86)
theorem ks_17_87 : mi_snd cs_G cs_cl cs_inf 17 87 (mj_aload 0 88) := ms_aload_n (mi_dec ib_17 dd_17_87) rfl
theorem ks_17_88 : mi_snd cs_G cs_cl cs_inf 17 88 (mj_dup 89) := ms_dup (mi_dec ib_17 dd_17_88)
theorem ks_17_89 : mi_snd cs_G cs_cl cs_inf 17 89 (mj_get 2 4 92) := ms_get (T := cs_T2) (k := 4) (mi_dec ib_17 dd_17_89) rfl cs_in2 (by decide) gw_59
theorem ks_17_92 : mi_snd cs_G cs_cl cs_inf 17 92 (mj_push (.inl 1) 93) := ms_iconst (mi_dec ib_17 dd_17_92) (by decide)
theorem ks_17_93 : mi_snd cs_G cs_cl cs_inf 17 93 (mj_bin (fun x y => x + y) 94) := ms_iadd (mi_dec ib_17 dd_17_93)
theorem ks_17_94 : mi_snd cs_G cs_cl cs_inf 17 94 (mj_putI 2 4 97) := ms_putI (T := cs_T2) (k := 4) (mi_dec ib_17 dd_17_94) rfl cs_in2 cs_ty2_ok cs_nm2 (by decide) gw_59 (by decide) (by decide +kernel)
theorem ks_17_97 : mi_snd cs_G cs_cl cs_inf 17 97 (mj_ret) := ms_ret (mi_dec ib_17 dd_17_97) rfl
def ct_17 : List (Nat × mi_I) := [
  (0, mj_aload 0 1),
  (1, mj_get 2 4 4),
  (4, mj_push (.inl 324) 7),
  (7, mj_cmp (fun x y => decide (x < y)) 11 10),
  (10, mj_ret),
  (11, mj_push (.inl 0) 12),
  (12, mj_istore 2 13),
  (13, mj_push (.inl 256) 16),
  (16, mj_istore 3 17),
  (17, mj_iload 3 18),
  (18, mj_if (fun x => decide (x ≤ 0)) 59 21),
  (21, mj_iload 2 22),
  (22, mj_iload 3 23),
  (23, mj_bin (fun x y => x + y) 24),
  (24, mj_aload 0 25),
  (25, mj_get 2 4 28),
  (28, mj_cmp (fun x y => decide (y < x)) 52 31),
  (31, mj_aload 0 32),
  (32, mj_get 2 3 35),
  (35, mj_iload 2 36),
  (36, mj_iload 3 37),
  (37, mj_bin (fun x y => x + y) 38),
  (38, mj_push (.inl 1) 39),
  (39, mj_bin (fun x y => x - y) 40),
  (40, mj_ald 0 41),
  (41, mj_iload 1 42),
  (42, mj_callS 18 2 3 45),
  (45, mj_if (fun x => decide (x = 0)) 52 48),
  (48, mj_iload 2 49),
  (49, mj_iload 3 50),
  (50, mj_bin (fun x y => x + y) 51),
  (51, mj_istore 2 52),
  (52, mj_iload 3 53),
  (53, mj_push (.inl 1) 54),
  (54, mj_bin (fun x y => x >>> (y &&& 31)) 55),
  (55, mj_istore 3 56),
  (56, mj_goto 17),
  (59, mj_aload 0 60),
  (60, mj_get 2 3 63),
  (63, mj_iload 2 64),
  (64, mj_aload 0 65),
  (65, mj_get 2 3 68),
  (68, mj_iload 2 69),
  (69, mj_push (.inl 1) 70),
  (70, mj_bin (fun x y => x + y) 71),
  (71, mj_aload 0 72),
  (72, mj_get 2 4 75),
  (75, mj_iload 2 76),
  (76, mj_bin (fun x y => x - y) 77),
  (77, mj_copy 80),
  (80, mj_aload 0 81),
  (81, mj_get 2 3 84),
  (84, mj_iload 2 85),
  (85, mj_iload 1 86),
  (86, mj_iast 87),
  (87, mj_aload 0 88),
  (88, mj_dup 89),
  (89, mj_get 2 4 92),
  (92, mj_push (.inl 1) 93),
  (93, mj_bin (fun x y => x + y) 94),
  (94, mj_putI 2 4 97),
  (97, mj_ret)]
theorem sd_17 : ∀ q ∈ ct_17, mi_snd cs_G cs_cl cs_inf 17 q.1 q.2 := mi_fc ks_17_0 (mi_fc ks_17_1 (mi_fc ks_17_4 (mi_fc ks_17_7 (mi_fc ks_17_10 (mi_fc ks_17_11 (mi_fc ks_17_12 (mi_fc ks_17_13 (mi_fc ks_17_16 (mi_fc ks_17_17 (mi_fc ks_17_18 (mi_fc ks_17_21 (mi_fc ks_17_22 (mi_fc ks_17_23 (mi_fc ks_17_24 (mi_fc ks_17_25 (mi_fc ks_17_28 (mi_fc ks_17_31 (mi_fc ks_17_32 (mi_fc ks_17_35 (mi_fc ks_17_36 (mi_fc ks_17_37 (mi_fc ks_17_38 (mi_fc ks_17_39 (mi_fc ks_17_40 (mi_fc ks_17_41 (mi_fc ks_17_42 (mi_fc ks_17_45 (mi_fc ks_17_48 (mi_fc ks_17_49 (mi_fc ks_17_50 (mi_fc ks_17_51 (mi_fc ks_17_52 (mi_fc ks_17_53 (mi_fc ks_17_54 (mi_fc ks_17_55 (mi_fc ks_17_56 (mi_fc ks_17_59 (mi_fc ks_17_60 (mi_fc ks_17_63 (mi_fc ks_17_64 (mi_fc ks_17_65 (mi_fc ks_17_68 (mi_fc ks_17_69 (mi_fc ks_17_70 (mi_fc ks_17_71 (mi_fc ks_17_72 (mi_fc ks_17_75 (mi_fc ks_17_76 (mi_fc ks_17_77 (mi_fc ks_17_80 (mi_fc ks_17_81 (mi_fc ks_17_84 (mi_fc ks_17_85 (mi_fc ks_17_86 (mi_fc ks_17_87 (mi_fc ks_17_88 (mi_fc ks_17_89 (mi_fc ks_17_92 (mi_fc ks_17_93 (mi_fc ks_17_94 (mi_fc ks_17_97 mi_fn)))))))))))))))))))))))))))))))))))))))))))))))))))))))))))))

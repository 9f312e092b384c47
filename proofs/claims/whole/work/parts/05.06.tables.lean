theorem dd_97_0 : decode prog_11_method_14_code 0 = .ok (.iconst 0, 1) := by decide +kernel
theorem dd_97_1 : decode prog_11_method_14_code 1 = .ok (.istore_n 3, 1) := by decide +kernel
theorem dd_97_2 : decode prog_11_method_14_code 2 = .ok (.iload_n 3, 1) := by decide +kernel
theorem dd_97_3 : decode prog_11_method_14_code 3 = .ok (.aload_n 0, 1) := by decide +kernel
theorem dd_97_4 : decode prog_11_method_14_code 4 = .ok (.getfield 37, 3) := by decide +kernel
theorem dd_97_7 : decode prog_11_method_14_code 7 = .ok (.if_icmp .ge 36, 3) := by decide +kernel
theorem dd_97_10 : decode prog_11_method_14_code 10 = .ok (.iload_n 1, 1) := by decide +kernel
theorem dd_97_11 : decode prog_11_method_14_code 11 = .ok (.iload_n 3, 1) := by decide +kernel
theorem dd_97_12 : decode prog_11_method_14_code 12 = .ok (.invokestatic 48, 3) := by decide +kernel
theorem dd_97_15 : decode prog_11_method_14_code 15 = .ok (.ifCond .eq 22, 3) := by decide +kernel
theorem dd_97_18 : decode prog_11_method_14_code 18 = .ok (.iload_n 1, 1) := by decide +kernel
theorem dd_97_19 : decode prog_11_method_14_code 19 = .ok (.aload_n 0, 1) := by decide +kernel
theorem dd_97_20 : decode prog_11_method_14_code 20 = .ok (.getfield 17, 3) := by decide +kernel
theorem dd_97_23 : decode prog_11_method_14_code 23 = .ok (.iload_n 3, 1) := by decide +kernel
theorem dd_97_24 : decode prog_11_method_14_code 24 = .ok (.iaload, 1) := by decide +kernel
theorem dd_97_25 : decode prog_11_method_14_code 25 = .ok (.iconst (-1), 1) := by decide +kernel
theorem dd_97_26 : decode prog_11_method_14_code 26 = .ok (.ixor, 1) := by decide +kernel
theorem dd_97_27 : decode prog_11_method_14_code 27 = .ok (.iand, 1) := by decide +kernel
theorem dd_97_28 : decode prog_11_method_14_code 28 = .ok (.invokestatic 52, 3) := by decide +kernel
theorem dd_97_31 : decode prog_11_method_14_code 31 = .ok (.iload_n 2, 1) := by decide +kernel
theorem dd_97_32 : decode prog_11_method_14_code 32 = .ok (.if_icmp .le 5, 3) := by decide +kernel
theorem dd_97_35 : decode prog_11_method_14_code 35 = .ok (.iconst 0, 1) := by decide +kernel
theorem dd_97_36 : decode prog_11_method_14_code 36 = .ok (.ireturn, 1) := by decide +kernel
theorem dd_97_37 : decode prog_11_method_14_code 37 = .ok (.iinc 3 1, 3) := by decide +kernel
theorem dd_97_40 : decode prog_11_method_14_code 40 = .ok (.goto (-38), 3) := by decide +kernel
theorem dd_97_43 : decode prog_11_method_14_code 43 = .ok (.iconst 1, 1) := by decide +kernel
theorem dd_97_44 : decode prog_11_method_14_code 44 = .ok (.ireturn, 1) := by decide +kernel
theorem ks_97_0 : mi_snd cs_G cs_cl cs_inf 97 0 (mj_push (.inl 0) 1) := ms_iconst (mi_dec ib_97 dd_97_0) (by decide)
theorem ks_97_1 : mi_snd cs_G cs_cl cs_inf 97 1 (mj_istore 3 2) := ms_istore_n (mi_dec ib_97 dd_97_1) rfl
theorem ks_97_2 : mi_snd cs_G cs_cl cs_inf 97 2 (mj_iload 3 3) := ms_iload_n (mi_dec ib_97 dd_97_2) rfl
theorem ks_97_3 : mi_snd cs_G cs_cl cs_inf 97 3 (mj_aload 0 4) := ms_aload_n (mi_dec ib_97 dd_97_3) rfl
theorem ks_97_4 : mi_snd cs_G cs_cl cs_inf 97 4 (mj_get 9 1 7) := ms_get (T := cs_T9) (k := 1) (mi_dec ib_97 dd_97_4) rfl cs_in9 (by decide) gw_637
theorem ks_97_7 : mi_snd cs_G cs_cl cs_inf 97 7 (mj_cmp (fun x y => decide (y ≤ x)) 43 10) := ms_icmp_ge (mi_dec ib_97 dd_97_7) (by decide)
theorem ks_97_10 : mi_snd cs_G cs_cl cs_inf 97 10 (mj_iload 1 11) := ms_iload_n (mi_dec ib_97 dd_97_10) rfl
theorem ks_97_11 : mi_snd cs_G cs_cl cs_inf 97 11 (mj_iload 3 12) := ms_iload_n (mi_dec ib_97 dd_97_11) rfl
theorem ks_97_12 : mi_snd cs_G cs_cl cs_inf 97 12 (mj_callS 93 2 2 15) := ms_callS iw_c93 (mi_dec ib_97 dd_97_12) gw_731 iw_s93 iw_n93 (by decide +kernel) rfl (by decide)
theorem ks_97_15 : mi_snd cs_G cs_cl cs_inf 97 15 (mj_if (fun x => decide (x = 0)) 37 18) := ms_if_eq (mi_dec ib_97 dd_97_15) (by decide)
theorem ks_97_18 : mi_snd cs_G cs_cl cs_inf 97 18 (mj_iload 1 19) := ms_iload_n (mi_dec ib_97 dd_97_18) rfl
theorem ks_97_19 : mi_snd cs_G cs_cl cs_inf 97 19 (mj_aload 0 20) := ms_aload_n (mi_dec ib_97 dd_97_19) rfl
theorem ks_97_20 : mi_snd cs_G cs_cl cs_inf 97 20 (mj_get 9 3 23) := ms_get (T := cs_T9) (k := 3) (mi_dec ib_97 dd_97_20) rfl cs_in9 (by decide) gw_639
theorem ks_97_23 : mi_snd cs_G cs_cl cs_inf 97 23 (mj_iload 3 24) := ms_iload_n (mi_dec ib_97 dd_97_23) rfl
theorem ks_97_24 : mi_snd cs_G cs_cl cs_inf 97 24 (mj_ald 0 25) := ms_ald0 (mi_dec ib_97 dd_97_24)
theorem ks_97_25 : mi_snd cs_G cs_cl cs_inf 97 25 (mj_push (.inl (-1)) 26) := ms_iconst (mi_dec ib_97 dd_97_25) (by decide)
theorem ks_97_26 : mi_snd cs_G cs_cl cs_inf 97 26 (mj_bin (fun x y => x ^^^ y) 27) := ms_ixor (mi_dec ib_97 dd_97_26)
theorem ks_97_27 : mi_snd cs_G cs_cl cs_inf 97 27 (mj_bin (fun x y => x &&& y) 28) := ms_iand (mi_dec ib_97 dd_97_27)
theorem ks_97_28 : mi_snd cs_G cs_cl cs_inf 97 28 (mj_callS 20 1 1 31) := ms_callS iw_c20 (mi_dec ib_97 dd_97_28) gw_734 iw_s20 iw_n20 (by decide +kernel) rfl (by decide)
theorem ks_97_31 : mi_snd cs_G cs_cl cs_inf 97 31 (mj_iload 2 32) := ms_iload_n (mi_dec ib_97 dd_97_31) rfl
theorem ks_97_32 : mi_snd cs_G cs_cl cs_inf 97 32 (mj_cmp (fun x y => decide (x ≤ y)) 37 35) := ms_icmp_le (mi_dec ib_97 dd_97_32) (by decide)
theorem ks_97_35 : mi_snd cs_G cs_cl cs_inf 97 35 (mj_push (.inl 0) 36) := ms_iconst (mi_dec ib_97 dd_97_35) (by decide)
theorem ks_97_36 : mi_snd cs_G cs_cl cs_inf 97 36 (mj_zret) := ms_zret (mi_dec ib_97 dd_97_36) rfl
theorem ks_97_37 : mi_snd cs_G cs_cl cs_inf 97 37 (mj_iinc 3 1 40) := ms_iinc (mi_dec ib_97 dd_97_37) (by decide)
theorem ks_97_40 : mi_snd cs_G cs_cl cs_inf 97 40 (mj_goto 2) := ms_goto (mi_dec ib_97 dd_97_40) (by decide)
theorem ks_97_43 : mi_snd cs_G cs_cl cs_inf 97 43 (mj_push (.inl 1) 44) := ms_iconst (mi_dec ib_97 dd_97_43) (by decide)
theorem ks_97_44 : mi_snd cs_G cs_cl cs_inf 97 44 (mj_zret) := ms_zret (mi_dec ib_97 dd_97_44) rfl
def ct_97 : List (Nat × mi_I) := [
  (0, mj_push (.inl 0) 1),
  (1, mj_istore 3 2),
  (2, mj_iload 3 3),
  (3, mj_aload 0 4),
  (4, mj_get 9 1 7),
  (7, mj_cmp (fun x y => decide (y ≤ x)) 43 10),
  (10, mj_iload 1 11),
  (11, mj_iload 3 12),
  (12, mj_callS 93 2 2 15),
  (15, mj_if (fun x => decide (x = 0)) 37 18),
  (18, mj_iload 1 19),
  (19, mj_aload 0 20),
  (20, mj_get 9 3 23),
  (23, mj_iload 3 24),
  (24, mj_ald 0 25),
  (25, mj_push (.inl (-1)) 26),
  (26, mj_bin (fun x y => x ^^^ y) 27),
  (27, mj_bin (fun x y => x &&& y) 28),
  (28, mj_callS 20 1 1 31),
  (31, mj_iload 2 32),
  (32, mj_cmp (fun x y => decide (x ≤ y)) 37 35),
  (35, mj_push (.inl 0) 36),
  (36, mj_zret),
  (37, mj_iinc 3 1 40),
  (40, mj_goto 2),
  (43, mj_push (.inl 1) 44),
  (44, mj_zret)]
theorem sd_97 : ∀ q ∈ ct_97, mi_snd cs_G cs_cl cs_inf 97 q.1 q.2 := mi_fc ks_97_0 (mi_fc ks_97_1 (mi_fc ks_97_2 (mi_fc ks_97_3 (mi_fc ks_97_4 (mi_fc ks_97_7 (mi_fc ks_97_10 (mi_fc ks_97_11 (mi_fc ks_97_12 (mi_fc ks_97_15 (mi_fc ks_97_18 (mi_fc ks_97_19 (mi_fc ks_97_20 (mi_fc ks_97_23 (mi_fc ks_97_24 (mi_fc ks_97_25 (mi_fc ks_97_26 (mi_fc ks_97_27 (mi_fc ks_97_28 (mi_fc ks_97_31 (mi_fc ks_97_32 (mi_fc ks_97_35 (mi_fc ks_97_36 (mi_fc ks_97_37 (mi_fc ks_97_40 (mi_fc ks_97_43 (mi_fc ks_97_44 mi_fn))))))))))))))))))))))))))
theorem dd_98_0 : decode prog_11_method_18_code 0 = .ok (.aload_n 0, 1) := by decide +kernel
theorem dd_98_1 : decode prog_11_method_18_code 1 = .ok (.iconst 0, 1) := by decide +kernel
theorem dd_98_2 : decode prog_11_method_18_code 2 = .ok (.putfield 1, 3) := by decide +kernel
theorem dd_98_5 : decode prog_11_method_18_code 5 = .ok (.aload_n 0, 1) := by decide +kernel
theorem dd_98_6 : decode prog_11_method_18_code 6 = .ok (.iconst 1, 1) := by decide +kernel
theorem dd_98_7 : decode prog_11_method_18_code 7 = .ok (.invokevirtual 77, 3) := by decide +kernel
theorem dd_98_10 : decode prog_11_method_18_code 10 = .ok (.ireturn, 1) := by decide +kernel
theorem ks_98_0 : mi_snd cs_G cs_cl cs_inf 98 0 (mj_aload 0 1) := ms_aload_n (mi_dec ib_98 dd_98_0) rfl
theorem ks_98_1 : mi_snd cs_G cs_cl cs_inf 98 1 (mj_push (.inl 0) 2) := ms_iconst (mi_dec ib_98 dd_98_1) (by decide)
theorem ks_98_2 : mi_snd cs_G cs_cl cs_inf 98 2 (mj_putI 9 0 5) := ms_putI (T := cs_T9) (k := 0) (mi_dec ib_98 dd_98_2) rfl cs_in9 cs_ty9_ok cs_nm9 (by decide) gw_636 (by decide) (by decide +kernel)
theorem ks_98_5 : mi_snd cs_G cs_cl cs_inf 98 5 (mj_aload 0 6) := ms_aload_n (mi_dec ib_98 dd_98_5) rfl
theorem ks_98_6 : mi_snd cs_G cs_cl cs_inf 98 6 (mj_push (.inl 1) 7) := ms_iconst (mi_dec ib_98 dd_98_6) (by decide)
theorem ks_98_7 : mi_snd cs_G cs_cl cs_inf 98 7 (mj_callV 9 90 1 7 10) := ms_callV iw_c90 (mi_dec ib_98 dd_98_7) gw_719 iw_i90 rfl iw_v90 iw_n90 (by decide +kernel) rfl (by decide)
theorem ks_98_10 : mi_snd cs_G cs_cl cs_inf 98 10 (mj_iret) := ms_iret (mi_dec ib_98 dd_98_10) rfl
def ct_98 : List (Nat × mi_I) := [
  (0, mj_aload 0 1),
  (1, mj_push (.inl 0) 2),
  (2, mj_putI 9 0 5),
  (5, mj_aload 0 6),
  (6, mj_push (.inl 1) 7),
  (7, mj_callV 9 90 1 7 10),
  (10, mj_iret)]
theorem sd_98 : ∀ q ∈ ct_98, mi_snd cs_G cs_cl cs_inf 98 q.1 q.2 := mi_fc ks_98_0 (mi_fc ks_98_1 (mi_fc ks_98_2 (mi_fc ks_98_5 (mi_fc ks_98_6 (mi_fc ks_98_7 (mi_fc ks_98_10 mi_fn))))))
theorem dd_99_0 : decode prog_11_method_20_code 0 = .ok (.aload_n 0, 1) := by decide +kernel
theorem dd_99_1 : decode prog_11_method_20_code 1 = .ok (.iconst 0, 1) := by decide +kernel
theorem dd_99_2 : decode prog_11_method_20_code 2 = .ok (.putfield 1, 3) := by decide +kernel
theorem dd_99_5 : decode prog_11_method_20_code 5 = .ok (.iconst 0, 1) := by decide +kernel
theorem dd_99_6 : decode prog_11_method_20_code 6 = .ok (.istore_n 1, 1) := by decide +kernel
theorem dd_99_7 : decode prog_11_method_20_code 7 = .ok (.iconst 0, 1) := by decide +kernel
theorem dd_99_8 : decode prog_11_method_20_code 8 = .ok (.istore_n 2, 1) := by decide +kernel
theorem dd_99_9 : decode prog_11_method_20_code 9 = .ok (.iload_n 2, 1) := by decide +kernel
theorem dd_99_10 : decode prog_11_method_20_code 10 = .ok (.aload_n 0, 1) := by decide +kernel
theorem dd_99_11 : decode prog_11_method_20_code 11 = .ok (.invokevirtual 58, 3) := by decide +kernel
theorem dd_99_14 : decode prog_11_method_20_code 14 = .ok (.if_icmp .gt 25, 3) := by decide +kernel
theorem dd_99_17 : decode prog_11_method_20_code 17 = .ok (.aload_n 0, 1) := by decide +kernel
theorem dd_99_18 : decode prog_11_method_20_code 18 = .ok (.iload_n 2, 1) := by decide +kernel
theorem dd_99_19 : decode prog_11_method_20_code 19 = .ok (.invokevirtual 80, 3) := by decide +kernel
theorem dd_99_22 : decode prog_11_method_20_code 22 = .ok (.ifCond .eq 9, 3) := by decide +kernel
theorem dd_99_25 : decode prog_11_method_20_code 25 = .ok (.iload_n 1, 1) := by decide +kernel
theorem dd_99_26 : decode prog_11_method_20_code 26 = .ok (.iconst 1, 1) := by decide +kernel
theorem dd_99_27 : decode prog_11_method_20_code 27 = .ok (.iadd, 1) := by decide +kernel
theorem dd_99_28 : decode prog_11_method_20_code 28 = .ok (.goto 4, 3) := by decide +kernel
theorem dd_99_31 : decode prog_11_method_20_code 31 = .ok (.iload_n 1, 1) := by decide +kernel
theorem dd_99_32 : decode prog_11_method_20_code 32 = .ok (.istore_n 1, 1) := by decide +kernel
theorem dd_99_33 : decode prog_11_method_20_code 33 = .ok (.iinc 2 1, 3) := by decide +kernel
theorem dd_99_36 : decode prog_11_method_20_code 36 = .ok (.goto (-27), 3) := by decide +kernel
theorem dd_99_39 : decode prog_11_method_20_code 39 = .ok (.iload_n 1, 1) := by decide +kernel
theorem dd_99_40 : decode prog_11_method_20_code 40 = .ok (.ireturn, 1) := by decide +kernel
theorem ks_99_0 : mi_snd cs_G cs_cl cs_inf 99 0 (mj_aload 0 1) := ms_aload_n (mi_dec ib_99 dd_99_0) rfl
theorem ks_99_1 : mi_snd cs_G cs_cl cs_inf 99 1 (mj_push (.inl 0) 2) := ms_iconst (mi_dec ib_99 dd_99_1) (by decide)
theorem ks_99_2 : mi_snd cs_G cs_cl cs_inf 99 2 (mj_putI 9 0 5) := ms_putI (T := cs_T9) (k := 0) (mi_dec ib_99 dd_99_2) rfl cs_in9 cs_ty9_ok cs_nm9 (by decide) gw_636 (by decide) (by decide +kernel)
theorem ks_99_5 : mi_snd cs_G cs_cl cs_inf 99 5 (mj_push (.inl 0) 6) := ms_iconst (mi_dec ib_99 dd_99_5) (by decide)
theorem ks_99_6 : mi_snd cs_G cs_cl cs_inf 99 6 (mj_istore 1 7) := ms_istore_n (mi_dec ib_99 dd_99_6) rfl
theorem ks_99_7 : mi_snd cs_G cs_cl cs_inf 99 7 (mj_push (.inl 0) 8) := ms_iconst (mi_dec ib_99 dd_99_7) (by decide)
theorem ks_99_8 : mi_snd cs_G cs_cl cs_inf 99 8 (mj_istore 2 9) := ms_istore_n (mi_dec ib_99 dd_99_8) rfl
theorem ks_99_9 : mi_snd cs_G cs_cl cs_inf 99 9 (mj_iload 2 10) := ms_iload_n (mi_dec ib_99 dd_99_9) rfl
theorem ks_99_10 : mi_snd cs_G cs_cl cs_inf 99 10 (mj_aload 0 11) := ms_aload_n (mi_dec ib_99 dd_99_10) rfl
theorem ks_99_11 : mi_snd cs_G cs_cl cs_inf 99 11 (mj_callV 9 91 0 1 14) := ms_callV iw_c91 (mi_dec ib_99 dd_99_11) gw_723 iw_i91 rfl iw_v91 iw_n91 (by decide +kernel) rfl (by decide)
theorem ks_99_14 : mi_snd cs_G cs_cl cs_inf 99 14 (mj_cmp (fun x y => decide (y < x)) 39 17) := ms_icmp_gt (mi_dec ib_99 dd_99_14) (by decide)
theorem ks_99_17 : mi_snd cs_G cs_cl cs_inf 99 17 (mj_aload 0 18) := ms_aload_n (mi_dec ib_99 dd_99_17) rfl
theorem ks_99_18 : mi_snd cs_G cs_cl cs_inf 99 18 (mj_iload 2 19) := ms_iload_n (mi_dec ib_99 dd_99_18) rfl
theorem ks_99_19 : mi_snd cs_G cs_cl cs_inf 99 19 (mj_callV 9 100 1 3 22) := ms_callV iw_c100 (mi_dec ib_99 dd_99_19) gw_758 iw_i100 rfl iw_v100 iw_n100 (by decide +kernel) rfl (by decide)
theorem ks_99_22 : mi_snd cs_G cs_cl cs_inf 99 22 (mj_if (fun x => decide (x = 0)) 31 25) := ms_if_eq (mi_dec ib_99 dd_99_22) (by decide)
theorem ks_99_25 : mi_snd cs_G cs_cl cs_inf 99 25 (mj_iload 1 26) := ms_iload_n (mi_dec ib_99 dd_99_25) rfl
theorem ks_99_26 : mi_snd cs_G cs_cl cs_inf 99 26 (mj_push (.inl 1) 27) := ms_iconst (mi_dec ib_99 dd_99_26) (by decide)
theorem ks_99_27 : mi_snd cs_G cs_cl cs_inf 99 27 (mj_bin (fun x y => x + y) 28) := ms_iadd (mi_dec ib_99 dd_99_27)
theorem ks_99_28 : mi_snd cs_G cs_cl cs_inf 99 28 (mj_goto 32) := ms_goto (mi_dec ib_99 dd_99_28) (by decide)
theorem ks_99_31 : mi_snd cs_G cs_cl cs_inf 99 31 (mj_iload 1 32) := ms_iload_n (mi_dec ib_99 dd_99_31) rfl
theorem ks_99_32 : mi_snd cs_G cs_cl cs_inf 99 32 (mj_istore 1 33) := ms_istore_n (mi_dec ib_99 dd_99_32) rfl
theorem ks_99_33 : mi_snd cs_G cs_cl cs_inf 99 33 (mj_iinc 2 1 36) := ms_iinc (mi_dec ib_99 dd_99_33) (by decide)
theorem ks_99_36 : mi_snd cs_G cs_cl cs_inf 99 36 (mj_goto 9) := ms_goto (mi_dec ib_99 dd_99_36) (by decide)
theorem ks_99_39 : mi_snd cs_G cs_cl cs_inf 99 39 (mj_iload 1 40) := ms_iload_n (mi_dec ib_99 dd_99_39) rfl
theorem ks_99_40 : mi_snd cs_G cs_cl cs_inf 99 40 (mj_iret) := ms_iret (mi_dec ib_99 dd_99_40) rfl
def ct_99 : List (Nat × mi_I) := [
  (0, mj_aload 0 1),
  (1, mj_push (.inl 0) 2),
  (2, mj_putI 9 0 5),
  (5, mj_push (.inl 0) 6),
  (6, mj_istore 1 7),
  (7, mj_push (.inl 0) 8),
  (8, mj_istore 2 9),
  (9, mj_iload 2 10),
  (10, mj_aload 0 11),
  (11, mj_callV 9 91 0 1 14),
  (14, mj_cmp (fun x y => decide (y < x)) 39 17),
  (17, mj_aload 0 18),
  (18, mj_iload 2 19),
  (19, mj_callV 9 100 1 3 22),
  (22, mj_if (fun x => decide (x = 0)) 31 25),
  (25, mj_iload 1 26),
  (26, mj_push (.inl 1) 27),
  (27, mj_bin (fun x y => x + y) 28),
  (28, mj_goto 32),
  (31, mj_iload 1 32),
  (32, mj_istore 1 33),
  (33, mj_iinc 2 1 36),
  (36, mj_goto 9),
  (39, mj_iload 1 40),
  (40, mj_iret)]
theorem sd_99 : ∀ q ∈ ct_99, mi_snd cs_G cs_cl cs_inf 99 q.1 q.2 := mi_fc ks_99_0 (mi_fc ks_99_1 (mi_fc ks_99_2 (mi_fc ks_99_5 (mi_fc ks_99_6 (mi_fc ks_99_7 (mi_fc ks_99_8 (mi_fc ks_99_9 (mi_fc ks_99_10 (mi_fc ks_99_11 (mi_fc ks_99_14 (mi_fc ks_99_17 (mi_fc ks_99_18 (mi_fc ks_99_19 (mi_fc ks_99_22 (mi_fc ks_99_25 (mi_fc ks_99_26 (mi_fc ks_99_27 (mi_fc ks_99_28 (mi_fc ks_99_31 (mi_fc ks_99_32 (mi_fc ks_99_33 (mi_fc ks_99_36 (mi_fc ks_99_39 (mi_fc ks_99_40 mi_fn))))))))))))))))))))))))
theorem dd_100_0 : decode prog_11_method_19_code 0 = .ok (.aload_n 0, 1) := by decide +kernel
theorem dd_100_1 : decode prog_11_method_19_code 1 = .ok (.iload_n 1, 1) := by decide +kernel
theorem dd_100_2 : decode prog_11_method_19_code 2 = .ok (.invokevirtual 68, 3) := by decide +kernel
theorem dd_100_5 : decode prog_11_method_19_code 5 = .ok (.ifCond .ne 5, 3) := by decide +kernel
theorem dd_100_8 : decode prog_11_method_19_code 8 = .ok (.iconst 0, 1) := by decide +kernel
theorem dd_100_9 : decode prog_11_method_19_code 9 = .ok (.ireturn, 1) := by decide +kernel
theorem dd_100_10 : decode prog_11_method_19_code 10 = .ok (.iconst 0, 1) := by decide +kernel
theorem dd_100_11 : decode prog_11_method_19_code 11 = .ok (.istore_n 2, 1) := by decide +kernel
theorem dd_100_12 : decode prog_11_method_19_code 12 = .ok (.iload_n 2, 1) := by decide +kernel
theorem dd_100_13 : decode prog_11_method_19_code 13 = .ok (.aload_n 0, 1) := by decide +kernel
theorem dd_100_14 : decode prog_11_method_19_code 14 = .ok (.getfield 37, 3) := by decide +kernel
theorem dd_100_17 : decode prog_11_method_19_code 17 = .ok (.if_icmp .ge 32, 3) := by decide +kernel
theorem dd_100_20 : decode prog_11_method_19_code 20 = .ok (.iload_n 1, 1) := by decide +kernel
theorem dd_100_21 : decode prog_11_method_19_code 21 = .ok (.iload_n 2, 1) := by decide +kernel
theorem dd_100_22 : decode prog_11_method_19_code 22 = .ok (.invokestatic 48, 3) := by decide +kernel
theorem dd_100_25 : decode prog_11_method_19_code 25 = .ok (.ifCond .ne 18, 3) := by decide +kernel
theorem dd_100_28 : decode prog_11_method_19_code 28 = .ok (.iload_n 1, 1) := by decide +kernel
theorem dd_100_29 : decode prog_11_method_19_code 29 = .ok (.aload_n 0, 1) := by decide +kernel
theorem dd_100_30 : decode prog_11_method_19_code 30 = .ok (.getfield 17, 3) := by decide +kernel
theorem dd_100_33 : decode prog_11_method_19_code 33 = .ok (.iload_n 2, 1) := by decide +kernel
theorem dd_100_34 : decode prog_11_method_19_code 34 = .ok (.iaload, 1) := by decide +kernel
theorem dd_100_35 : decode prog_11_method_19_code 35 = .ok (.iconst (-1), 1) := by decide +kernel
theorem dd_100_36 : decode prog_11_method_19_code 36 = .ok (.ixor, 1) := by decide +kernel
theorem dd_100_37 : decode prog_11_method_19_code 37 = .ok (.iand, 1) := by decide +kernel
theorem dd_100_38 : decode prog_11_method_19_code 38 = .ok (.ifCond .ne 5, 3) := by decide +kernel
theorem dd_100_41 : decode prog_11_method_19_code 41 = .ok (.iconst 0, 1) := by decide +kernel
theorem dd_100_42 : decode prog_11_method_19_code 42 = .ok (.ireturn, 1) := by decide +kernel
theorem dd_100_43 : decode prog_11_method_19_code 43 = .ok (.iinc 2 1, 3) := by decide +kernel
theorem dd_100_46 : decode prog_11_method_19_code 46 = .ok (.goto (-34), 3) := by decide +kernel
theorem dd_100_49 : decode prog_11_method_19_code 49 = .ok (.iconst 1, 1) := by decide +kernel
theorem dd_100_50 : decode prog_11_method_19_code 50 = .ok (.ireturn, 1) := by decide +kernel
theorem ks_100_0 : mi_snd cs_G cs_cl cs_inf 100 0 (mj_aload 0 1) := ms_aload_n (mi_dec ib_100 dd_100_0) rfl
theorem ks_100_1 : mi_snd cs_G cs_cl cs_inf 100 1 (mj_iload 1 2) := ms_iload_n (mi_dec ib_100 dd_100_1) rfl
theorem ks_100_2 : mi_snd cs_G cs_cl cs_inf 100 2 (mj_callV 9 95 1 3 5) := ms_callV iw_c95 (mi_dec ib_100 dd_100_2) gw_738 iw_i95 rfl iw_v95 iw_n95 (by decide +kernel) rfl (by decide)
theorem ks_100_5 : mi_snd cs_G cs_cl cs_inf 100 5 (mj_if (fun x => decide (¬ x = 0)) 10 8) := ms_if_ne (mi_dec ib_100 dd_100_5) (by decide)
theorem ks_100_8 : mi_snd cs_G cs_cl cs_inf 100 8 (mj_push (.inl 0) 9) := ms_iconst (mi_dec ib_100 dd_100_8) (by decide)
theorem ks_100_9 : mi_snd cs_G cs_cl cs_inf 100 9 (mj_zret) := ms_zret (mi_dec ib_100 dd_100_9) rfl
theorem ks_100_10 : mi_snd cs_G cs_cl cs_inf 100 10 (mj_push (.inl 0) 11) := ms_iconst (mi_dec ib_100 dd_100_10) (by decide)
theorem ks_100_11 : mi_snd cs_G cs_cl cs_inf 100 11 (mj_istore 2 12) := ms_istore_n (mi_dec ib_100 dd_100_11) rfl
theorem ks_100_12 : mi_snd cs_G cs_cl cs_inf 100 12 (mj_iload 2 13) := ms_iload_n (mi_dec ib_100 dd_100_12) rfl
theorem ks_100_13 : mi_snd cs_G cs_cl cs_inf 100 13 (mj_aload 0 14) := ms_aload_n (mi_dec ib_100 dd_100_13) rfl
theorem ks_100_14 : mi_snd cs_G cs_cl cs_inf 100 14 (mj_get 9 1 17) := ms_get (T := cs_T9) (k := 1) (mi_dec ib_100 dd_100_14) rfl cs_in9 (by decide) gw_637
theorem ks_100_17 : mi_snd cs_G cs_cl cs_inf 100 17 (mj_cmp (fun x y => decide (y ≤ x)) 49 20) := ms_icmp_ge (mi_dec ib_100 dd_100_17) (by decide)
theorem ks_100_20 : mi_snd cs_G cs_cl cs_inf 100 20 (mj_iload 1 21) := ms_iload_n (mi_dec ib_100 dd_100_20) rfl
theorem ks_100_21 : mi_snd cs_G cs_cl cs_inf 100 21 (mj_iload 2 22) := ms_iload_n (mi_dec ib_100 dd_100_21) rfl
theorem ks_100_22 : mi_snd cs_G cs_cl cs_inf 100 22 (mj_callS 93 2 2 25) := ms_callS iw_c93 (mi_dec ib_100 dd_100_22) gw_731 iw_s93 iw_n93 (by decide +kernel) rfl (by decide)
theorem ks_100_25 : mi_snd cs_G cs_cl cs_inf 100 25 (mj_if (fun x => decide (¬ x = 0)) 43 28) := ms_if_ne (mi_dec ib_100 dd_100_25) (by decide)
theorem ks_100_28 : mi_snd cs_G cs_cl cs_inf 100 28 (mj_iload 1 29) := ms_iload_n (mi_dec ib_100 dd_100_28) rfl
theorem ks_100_29 : mi_snd cs_G cs_cl cs_inf 100 29 (mj_aload 0 30) := ms_aload_n (mi_dec ib_100 dd_100_29) rfl
theorem ks_100_30 : mi_snd cs_G cs_cl cs_inf 100 30 (mj_get 9 3 33) := ms_get (T := cs_T9) (k := 3) (mi_dec ib_100 dd_100_30) rfl cs_in9 (by decide) gw_639
theorem ks_100_33 : mi_snd cs_G cs_cl cs_inf 100 33 (mj_iload 2 34) := ms_iload_n (mi_dec ib_100 dd_100_33) rfl
theorem ks_100_34 : mi_snd cs_G cs_cl cs_inf 100 34 (mj_ald 0 35) := ms_ald0 (mi_dec ib_100 dd_100_34)
theorem ks_100_35 : mi_snd cs_G cs_cl cs_inf 100 35 (mj_push (.inl (-1)) 36) := ms_iconst (mi_dec ib_100 dd_100_35) (by decide)
theorem ks_100_36 : mi_snd cs_G cs_cl cs_inf 100 36 (mj_bin (fun x y => x ^^^ y) 37) := ms_ixor (mi_dec ib_100 dd_100_36)
theorem ks_100_37 : mi_snd cs_G cs_cl cs_inf 100 37 (mj_bin (fun x y => x &&& y) 38) := ms_iand (mi_dec ib_100 dd_100_37)
theorem ks_100_38 : mi_snd cs_G cs_cl cs_inf 100 38 (mj_if (fun x => decide (¬ x = 0)) 43 41) := ms_if_ne (mi_dec ib_100 dd_100_38) (by decide)
theorem ks_100_41 : mi_snd cs_G cs_cl cs_inf 100 41 (mj_push (.inl 0) 42) := ms_iconst (mi_dec ib_100 dd_100_41) (by decide)
theorem ks_100_42 : mi_snd cs_G cs_cl cs_inf 100 42 (mj_zret) := ms_zret (mi_dec ib_100 dd_100_42) rfl
theorem ks_100_43 : mi_snd cs_G cs_cl cs_inf 100 43 (mj_iinc 2 1 46) := ms_iinc (mi_dec ib_100 dd_100_43) (by decide)
theorem ks_100_46 : mi_snd cs_G cs_cl cs_inf 100 46 (mj_goto 12) := ms_goto (mi_dec ib_100 dd_100_46) (by decide)
theorem ks_100_49 : mi_snd cs_G cs_cl cs_inf 100 49 (mj_push (.inl 1) 50) := ms_iconst (mi_dec ib_100 dd_100_49) (by decide)
theorem ks_100_50 : mi_snd cs_G cs_cl cs_inf 100 50 (mj_zret) := ms_zret (mi_dec ib_100 dd_100_50) rfl
def ct_100 : List (Nat × mi_I) := [
  (0, mj_aload 0 1),
  (1, mj_iload 1 2),
  (2, mj_callV 9 95 1 3 5),
  (5, mj_if (fun x => decide (¬ x = 0)) 10 8),
  (8, mj_push (.inl 0) 9),
  (9, mj_zret),
  (10, mj_push (.inl 0) 11),
  (11, mj_istore 2 12),
  (12, mj_iload 2 13),
  (13, mj_aload 0 14),
  (14, mj_get 9 1 17),
  (17, mj_cmp (fun x y => decide (y ≤ x)) 49 20),
  (20, mj_iload 1 21),
  (21, mj_iload 2 22),
  (22, mj_callS 93 2 2 25),
  (25, mj_if (fun x => decide (¬ x = 0)) 43 28),
  (28, mj_iload 1 29),
  (29, mj_aload 0 30),
  (30, mj_get 9 3 33),
  (33, mj_iload 2 34),
  (34, mj_ald 0 35),
  (35, mj_push (.inl (-1)) 36),
  (36, mj_bin (fun x y => x ^^^ y) 37),
  (37, mj_bin (fun x y => x &&& y) 38),
  (38, mj_if (fun x => decide (¬ x = 0)) 43 41),
  (41, mj_push (.inl 0) 42),
  (42, mj_zret),
  (43, mj_iinc 2 1 46),
  (46, mj_goto 12),
  (49, mj_push (.inl 1) 50),
  (50, mj_zret)]
theorem sd_100 : ∀ q ∈ ct_100, mi_snd cs_G cs_cl cs_inf 100 q.1 q.2 := mi_fc ks_100_0 (mi_fc ks_100_1 (mi_fc ks_100_2 (mi_fc ks_100_5 (mi_fc ks_100_8 (mi_fc ks_100_9 (mi_fc ks_100_10 (mi_fc ks_100_11 (mi_fc ks_100_12 (mi_fc ks_100_13 (mi_fc ks_100_14 (mi_fc ks_100_17 (mi_fc ks_100_20 (mi_fc ks_100_21 (mi_fc ks_100_22 (mi_fc ks_100_25 (mi_fc ks_100_28 (mi_fc ks_100_29 (mi_fc ks_100_30 (mi_fc ks_100_33 (mi_fc ks_100_34 (mi_fc ks_100_35 (mi_fc ks_100_36 (mi_fc ks_100_37 (mi_fc ks_100_38 (mi_fc ks_100_41 (mi_fc ks_100_42 (mi_fc ks_100_43 (mi_fc ks_100_46 (mi_fc ks_100_49 (mi_fc ks_100_50 mi_fn))))))))))))))))))))))))))))))
theorem dd_101_0 : decode prog_11_method_21_code 0 = .ok (.aload_n 0, 1) := by decide +kernel
theorem dd_101_1 : decode prog_11_method_21_code 1 = .ok (.iconst 0, 1) := by decide +kernel
theorem dd_101_2 : decode prog_11_method_21_code 2 = .ok (.putfield 1, 3) := by decide +kernel
theorem dd_101_5 : decode prog_11_method_21_code 5 = .ok (.iconst 0, 1) := by decide +kernel
theorem dd_101_6 : decode prog_11_method_21_code 6 = .ok (.istore_n 2, 1) := by decide +kernel
theorem dd_101_7 : decode prog_11_method_21_code 7 = .ok (.iconst 0, 1) := by decide +kernel
theorem dd_101_8 : decode prog_11_method_21_code 8 = .ok (.istore_n 3, 1) := by decide +kernel
theorem dd_101_9 : decode prog_11_method_21_code 9 = .ok (.iload_n 3, 1) := by decide +kernel
theorem dd_101_10 : decode prog_11_method_21_code 10 = .ok (.aload_n 0, 1) := by decide +kernel
theorem dd_101_11 : decode prog_11_method_21_code 11 = .ok (.invokevirtual 58, 3) := by decide +kernel
theorem dd_101_14 : decode prog_11_method_21_code 14 = .ok (.if_icmp .gt 74, 3) := by decide +kernel
theorem dd_101_17 : decode prog_11_method_21_code 17 = .ok (.aload_n 0, 1) := by decide +kernel
theorem dd_101_18 : decode prog_11_method_21_code 18 = .ok (.iload_n 3, 1) := by decide +kernel
theorem dd_101_19 : decode prog_11_method_21_code 19 = .ok (.invokevirtual 80, 3) := by decide +kernel
theorem dd_101_22 : decode prog_11_method_21_code 22 = .ok (.ifCond .eq 60, 3) := by decide +kernel
theorem dd_101_25 : decode prog_11_method_21_code 25 = .ok (.iload_n 2, 1) := by decide +kernel
theorem dd_101_26 : decode prog_11_method_21_code 26 = .ok (.istore 4, 2) := by decide +kernel
theorem dd_101_28 : decode prog_11_method_21_code 28 = .ok (.iload 4, 2) := by decide +kernel
theorem dd_101_30 : decode prog_11_method_21_code 30 = .ok (.ifCond .le 41, 3) := by decide +kernel
theorem dd_101_33 : decode prog_11_method_21_code 33 = .ok (.iload_n 3, 1) := by decide +kernel
theorem dd_101_34 : decode prog_11_method_21_code 34 = .ok (.aload_n 0, 1) := by decide +kernel
theorem dd_101_35 : decode prog_11_method_21_code 35 = .ok (.getfield 20, 3) := by decide +kernel
theorem dd_101_38 : decode prog_11_method_21_code 38 = .ok (.iload 4, 2) := by decide +kernel
theorem dd_101_40 : decode prog_11_method_21_code 40 = .ok (.iconst 1, 1) := by decide +kernel
theorem dd_101_41 : decode prog_11_method_21_code 41 = .ok (.isub, 1) := by decide +kernel
theorem dd_101_42 : decode prog_11_method_21_code 42 = .ok (.iaload, 1) := by decide +kernel
theorem dd_101_43 : decode prog_11_method_21_code 43 = .ok (.invokestatic 65, 3) := by decide +kernel
theorem dd_101_46 : decode prog_11_method_21_code 46 = .ok (.ifCond .eq 25, 3) := by decide +kernel
theorem dd_101_49 : decode prog_11_method_21_code 49 = .ok (.aload_n 0, 1) := by decide +kernel
theorem dd_101_50 : decode prog_11_method_21_code 50 = .ok (.getfield 20, 3) := by decide +kernel
theorem dd_101_53 : decode prog_11_method_21_code 53 = .ok (.iload 4, 2) := by decide +kernel
theorem dd_101_55 : decode prog_11_method_21_code 55 = .ok (.aload_n 0, 1) := by decide +kernel
theorem dd_101_56 : decode prog_11_method_21_code 56 = .ok (.getfield 20, 3) := by decide +kernel
theorem dd_101_59 : decode prog_11_method_21_code 59 = .ok (.iload 4, 2) := by decide +kernel
theorem dd_101_61 : decode prog_11_method_21_code 61 = .ok (.iconst 1, 1) := by decide +kernel
theorem dd_101_62 : decode prog_11_method_21_code 62 = .ok (.isub, 1) := by decide +kernel
theorem dd_101_63 : decode prog_11_method_21_code 63 = .ok (.iaload, 1) := by decide +kernel
theorem dd_101_64 : decode prog_11_method_21_code 64 = .ok (.iastore, 1) := by decide +kernel
theorem dd_101_65 : decode prog_11_method_21_code 65 = .ok (.iinc 4 (-1), 3) := by decide +kernel
theorem dd_101_68 : decode prog_11_method_21_code 68 = .ok (.goto (-40), 3) := by decide +kernel
theorem dd_101_71 : decode prog_11_method_21_code 71 = .ok (.aload_n 0, 1) := by decide +kernel
theorem dd_101_72 : decode prog_11_method_21_code 72 = .ok (.getfield 20, 3) := by decide +kernel
theorem dd_101_75 : decode prog_11_method_21_code 75 = .ok (.iload 4, 2) := by decide +kernel
theorem dd_101_77 : decode prog_11_method_21_code 77 = .ok (.iload_n 3, 1) := by decide +kernel
theorem dd_101_78 : decode prog_11_method_21_code 78 = .ok (.iastore, 1) := by decide +kernel
theorem dd_101_79 : decode prog_11_method_21_code 79 = .ok (.iinc 2 1, 3) := by decide +kernel
theorem dd_101_82 : decode prog_11_method_21_code 82 = .ok (.iinc 3 1, 3) := by decide +kernel
theorem dd_101_85 : decode prog_11_method_21_code 85 = .ok (.goto (-76), 3) := by decide +kernel
theorem dd_101_88 : decode prog_11_method_21_code 88 = .ok (.iload_n 1, 1) := by decide +kernel
theorem dd_101_89 : decode prog_11_method_21_code 89 = .ok (.iconst 0, 1) := by decide +kernel
theorem dd_101_90 : decode prog_11_method_21_code 90 = .ok (.iload_n 2, 1) := by decide +kernel
theorem dd_101_91 : decode prog_11_method_21_code 91 = .ok (.iconst 1, 1) := by decide +kernel
theorem dd_101_92 : decode prog_11_method_21_code 92 = .ok (.isub, 1) := by decide +kernel
theorem dd_101_93 : decode prog_11_method_21_code 93 = .ok (.invokestatic 40, 3) := by decide +kernel
theorem dd_101_96 : decode prog_11_method_21_code 96 = .ok (.ifCond .eq 12, 3) := by decide +kernel
theorem dd_101_99 : decode prog_11_method_21_code 99 = .ok (.aload_n 0, 1) := by decide +kernel
theorem dd_101_100 : decode prog_11_method_21_code 100 = .ok (.getfield 20, 3) := by decide +kernel
theorem dd_101_103 : decode prog_11_method_21_code 103 = .ok (.iload_n 1, 1) := by decide +kernel
theorem dd_101_104 : decode prog_11_method_21_code 104 = .ok (.iaload, 1) := by decide +kernel
theorem dd_101_105 : decode prog_11_method_21_code 105 = .ok (.goto 4, 3) := by decide +kernel
theorem dd_101_108 : decode prog_11_method_21_code 108 = .ok (.iconst (-1), 1) := by decide +kernel
theorem dd_101_109 : decode prog_11_method_21_code 109 = .ok (.ireturn, 1) := by decide +kernel
theorem ks_101_0 : mi_snd cs_G cs_cl cs_inf 101 0 (mj_aload 0 1) := ms_aload_n (mi_dec ib_101 dd_101_0) rfl
theorem ks_101_1 : mi_snd cs_G cs_cl cs_inf 101 1 (mj_push (.inl 0) 2) := ms_iconst (mi_dec ib_101 dd_101_1) (by decide)
theorem ks_101_2 : mi_snd cs_G cs_cl cs_inf 101 2 (mj_putI 9 0 5) := ms_putI (T := cs_T9) (k := 0) (mi_dec ib_101 dd_101_2) rfl cs_in9 cs_ty9_ok cs_nm9 (by decide) gw_636 (by decide) (by decide +kernel)
theorem ks_101_5 : mi_snd cs_G cs_cl cs_inf 101 5 (mj_push (.inl 0) 6) := ms_iconst (mi_dec ib_101 dd_101_5) (by decide)
theorem ks_101_6 : mi_snd cs_G cs_cl cs_inf 101 6 (mj_istore 2 7) := ms_istore_n (mi_dec ib_101 dd_101_6) rfl
theorem ks_101_7 : mi_snd cs_G cs_cl cs_inf 101 7 (mj_push (.inl 0) 8) := ms_iconst (mi_dec ib_101 dd_101_7) (by decide)
theorem ks_101_8 : mi_snd cs_G cs_cl cs_inf 101 8 (mj_istore 3 9) := ms_istore_n (mi_dec ib_101 dd_101_8) rfl
theorem ks_101_9 : mi_snd cs_G cs_cl cs_inf 101 9 (mj_iload 3 10) := ms_iload_n (mi_dec ib_101 dd_101_9) rfl
theorem ks_101_10 : mi_snd cs_G cs_cl cs_inf 101 10 (mj_aload 0 11) := ms_aload_n (mi_dec ib_101 dd_101_10) rfl
theorem ks_101_11 : mi_snd cs_G cs_cl cs_inf 101 11 (mj_callV 9 91 0 1 14) := ms_callV iw_c91 (mi_dec ib_101 dd_101_11) gw_723 iw_i91 rfl iw_v91 iw_n91 (by decide +kernel) rfl (by decide)
theorem ks_101_14 : mi_snd cs_G cs_cl cs_inf 101 14 (mj_cmp (fun x y => decide (y < x)) 88 17) := ms_icmp_gt (mi_dec ib_101 dd_101_14) (by decide)
theorem ks_101_17 : mi_snd cs_G cs_cl cs_inf 101 17 (mj_aload 0 18) := ms_aload_n (mi_dec ib_101 dd_101_17) rfl
theorem ks_101_18 : mi_snd cs_G cs_cl cs_inf 101 18 (mj_iload 3 19) := ms_iload_n (mi_dec ib_101 dd_101_18) rfl
theorem ks_101_19 : mi_snd cs_G cs_cl cs_inf 101 19 (mj_callV 9 100 1 3 22) := ms_callV iw_c100 (mi_dec ib_101 dd_101_19) gw_758 iw_i100 rfl iw_v100 iw_n100 (by decide +kernel) rfl (by decide)
theorem ks_101_22 : mi_snd cs_G cs_cl cs_inf 101 22 (mj_if (fun x => decide (x = 0)) 82 25) := ms_if_eq (mi_dec ib_101 dd_101_22) (by decide)
theorem ks_101_25 : mi_snd cs_G cs_cl cs_inf 101 25 (mj_iload 2 26) := ms_iload_n (mi_dec ib_101 dd_101_25) rfl
theorem ks_101_26 : mi_snd cs_G cs_cl cs_inf 101 26 (mj_istore 4 28) := ms_istore (mi_dec ib_101 dd_101_26)
theorem ks_101_28 : mi_snd cs_G cs_cl cs_inf 101 28 (mj_iload 4 30) := ms_iload (mi_dec ib_101 dd_101_28)
theorem ks_101_30 : mi_snd cs_G cs_cl cs_inf 101 30 (mj_if (fun x => decide (x ≤ 0)) 71 33) := ms_if_le (mi_dec ib_101 dd_101_30) (by decide)
theorem ks_101_33 : mi_snd cs_G cs_cl cs_inf 101 33 (mj_iload 3 34) := ms_iload_n (mi_dec ib_101 dd_101_33) rfl
theorem ks_101_34 : mi_snd cs_G cs_cl cs_inf 101 34 (mj_aload 0 35) := ms_aload_n (mi_dec ib_101 dd_101_34) rfl
theorem ks_101_35 : mi_snd cs_G cs_cl cs_inf 101 35 (mj_get 9 4 38) := ms_get (T := cs_T9) (k := 4) (mi_dec ib_101 dd_101_35) rfl cs_in9 (by decide) gw_640
theorem ks_101_38 : mi_snd cs_G cs_cl cs_inf 101 38 (mj_iload 4 40) := ms_iload (mi_dec ib_101 dd_101_38)
theorem ks_101_40 : mi_snd cs_G cs_cl cs_inf 101 40 (mj_push (.inl 1) 41) := ms_iconst (mi_dec ib_101 dd_101_40) (by decide)
theorem ks_101_41 : mi_snd cs_G cs_cl cs_inf 101 41 (mj_bin (fun x y => x - y) 42) := ms_isub (mi_dec ib_101 dd_101_41)
theorem ks_101_42 : mi_snd cs_G cs_cl cs_inf 101 42 (mj_ald 0 43) := ms_ald0 (mi_dec ib_101 dd_101_42)
theorem ks_101_43 : mi_snd cs_G cs_cl cs_inf 101 43 (mj_callS 94 2 3 46) := ms_callS iw_c94 (mi_dec ib_101 dd_101_43) gw_735 iw_s94 iw_n94 (by decide +kernel) rfl (by decide)
theorem ks_101_46 : mi_snd cs_G cs_cl cs_inf 101 46 (mj_if (fun x => decide (x = 0)) 71 49) := ms_if_eq (mi_dec ib_101 dd_101_46) (by decide)
theorem ks_101_49 : mi_snd cs_G cs_cl cs_inf 101 49 (mj_aload 0 50) := ms_aload_n (mi_dec ib_101 dd_101_49) rfl
theorem ks_101_50 : mi_snd cs_G cs_cl cs_inf 101 50 (mj_get 9 4 53) := ms_get (T := cs_T9) (k := 4) (mi_dec ib_101 dd_101_50) rfl cs_in9 (by decide) gw_640
theorem ks_101_53 : mi_snd cs_G cs_cl cs_inf 101 53 (mj_iload 4 55) := ms_iload (mi_dec ib_101 dd_101_53)
theorem ks_101_55 : mi_snd cs_G cs_cl cs_inf 101 55 (mj_aload 0 56) := ms_aload_n (mi_dec ib_101 dd_101_55) rfl
theorem ks_101_56 : mi_snd cs_G cs_cl cs_inf 101 56 (mj_get 9 4 59) := ms_get (T := cs_T9) (k := 4) (mi_dec ib_101 dd_101_56) rfl cs_in9 (by decide) gw_640
theorem ks_101_59 : mi_snd cs_G cs_cl cs_inf 101 59 (mj_iload 4 61) := ms_iload (mi_dec ib_101 dd_101_59)
theorem ks_101_61 : mi_snd cs_G cs_cl cs_inf 101 61 (mj_push (.inl 1) 62) := ms_iconst (mi_dec ib_101 dd_101_61) (by decide)
theorem ks_101_62 : mi_snd cs_G cs_cl cs_inf 101 62 (mj_bin (fun x y => x - y) 63) := ms_isub (mi_dec ib_101 dd_101_62)
theorem ks_101_63 : mi_snd cs_G cs_cl cs_inf 101 63 (mj_ald 0 64) := ms_ald0 (mi_dec ib_101 dd_101_63)
theorem ks_101_64 : mi_snd cs_G cs_cl cs_inf 101 64 (mj_iast 65) := ms_iast (mi_dec ib_101 dd_101_64)
theorem ks_101_65 : mi_snd cs_G cs_cl cs_inf 101 65 (mj_iinc 4 (-1) 68) := ms_iinc (mi_dec ib_101 dd_101_65) (by decide)
theorem ks_101_68 : mi_snd cs_G cs_cl cs_inf 101 68 (mj_goto 28) := ms_goto (mi_dec ib_101 dd_101_68) (by decide)
theorem ks_101_71 : mi_snd cs_G cs_cl cs_inf 101 71 (mj_aload 0 72) := ms_aload_n (mi_dec ib_101 dd_101_71) rfl
theorem ks_101_72 : mi_snd cs_G cs_cl cs_inf 101 72 (mj_get 9 4 75) := ms_get (T := cs_T9) (k := 4) (mi_dec ib_101 dd_101_72) rfl cs_in9 (by decide) gw_640
theorem ks_101_75 : mi_snd cs_G cs_cl cs_inf 101 75 (mj_iload 4 77) := ms_iload (mi_dec ib_101 dd_101_75)
theorem ks_101_77 : mi_snd cs_G cs_cl cs_inf 101 77 (mj_iload 3 78) := ms_iload_n (mi_dec ib_101 dd_101_77) rfl
theorem ks_101_78 : mi_snd cs_G cs_cl cs_inf 101 78 (mj_iast 79) := ms_iast (mi_dec ib_101 dd_101_78)
theorem ks_101_79 : mi_snd cs_G cs_cl cs_inf 101 79 (mj_iinc 2 1 82) := ms_iinc (mi_dec ib_101 dd_101_79) (by decide)
theorem ks_101_82 : mi_snd cs_G cs_cl cs_inf 101 82 (mj_iinc 3 1 85) := ms_iinc (mi_dec ib_101 dd_101_82) (by decide)
theorem ks_101_85 : mi_snd cs_G cs_cl cs_inf 101 85 (mj_goto 9) := ms_goto (mi_dec ib_101 dd_101_85) (by decide)
theorem ks_101_88 : mi_snd cs_G cs_cl cs_inf 101 88 (mj_iload 1 89) := ms_iload_n (mi_dec ib_101 dd_101_88) rfl
theorem ks_101_89 : mi_snd cs_G cs_cl cs_inf 101 89 (mj_push (.inl 0) 90) := ms_iconst (mi_dec ib_101 dd_101_89) (by decide)
theorem ks_101_90 : mi_snd cs_G cs_cl cs_inf 101 90 (mj_iload 2 91) := ms_iload_n (mi_dec ib_101 dd_101_90) rfl
theorem ks_101_91 : mi_snd cs_G cs_cl cs_inf 101 91 (mj_push (.inl 1) 92) := ms_iconst (mi_dec ib_101 dd_101_91) (by decide)
theorem ks_101_92 : mi_snd cs_G cs_cl cs_inf 101 92 (mj_bin (fun x y => x - y) 93) := ms_isub (mi_dec ib_101 dd_101_92)
theorem ks_101_93 : mi_snd cs_G cs_cl cs_inf 101 93 (mj_callS 84 3 3 96) := ms_callS iw_c84 (mi_dec ib_101 dd_101_93) gw_696 iw_s84 iw_n84 (by decide +kernel) rfl (by decide)
theorem ks_101_96 : mi_snd cs_G cs_cl cs_inf 101 96 (mj_if (fun x => decide (x = 0)) 108 99) := ms_if_eq (mi_dec ib_101 dd_101_96) (by decide)
theorem ks_101_99 : mi_snd cs_G cs_cl cs_inf 101 99 (mj_aload 0 100) := ms_aload_n (mi_dec ib_101 dd_101_99) rfl
theorem ks_101_100 : mi_snd cs_G cs_cl cs_inf 101 100 (mj_get 9 4 103) := ms_get (T := cs_T9) (k := 4) (mi_dec ib_101 dd_101_100) rfl cs_in9 (by decide) gw_640
theorem ks_101_103 : mi_snd cs_G cs_cl cs_inf 101 103 (mj_iload 1 104) := ms_iload_n (mi_dec ib_101 dd_101_103) rfl
theorem ks_101_104 : mi_snd cs_G cs_cl cs_inf 101 104 (mj_ald 0 105) := ms_ald0 (mi_dec ib_101 dd_101_104)
theorem ks_101_105 : mi_snd cs_G cs_cl cs_inf 101 105 (mj_goto 109) := ms_goto (mi_dec ib_101 dd_101_105) (by decide)
theorem ks_101_108 : mi_snd cs_G cs_cl cs_inf 101 108 (mj_push (.inl (-1)) 109) := ms_iconst (mi_dec ib_101 dd_101_108) (by decide)
theorem ks_101_109 : mi_snd cs_G cs_cl cs_inf 101 109 (mj_iret) := ms_iret (mi_dec ib_101 dd_101_109) rfl
def ct_101 : List (Nat × mi_I) := [
  (0, mj_aload 0 1),
  (1, mj_push (.inl 0) 2),
  (2, mj_putI 9 0 5),
  (5, mj_push (.inl 0) 6),
  (6, mj_istore 2 7),
  (7, mj_push (.inl 0) 8),
  (8, mj_istore 3 9),
  (9, mj_iload 3 10),
  (10, mj_aload 0 11),
  (11, mj_callV 9 91 0 1 14),
  (14, mj_cmp (fun x y => decide (y < x)) 88 17),
  (17, mj_aload 0 18),
  (18, mj_iload 3 19),
  (19, mj_callV 9 100 1 3 22),
  (22, mj_if (fun x => decide (x = 0)) 82 25),
  (25, mj_iload 2 26),
  (26, mj_istore 4 28),
  (28, mj_iload 4 30),
  (30, mj_if (fun x => decide (x ≤ 0)) 71 33),
  (33, mj_iload 3 34),
  (34, mj_aload 0 35),
  (35, mj_get 9 4 38),
  (38, mj_iload 4 40),
  (40, mj_push (.inl 1) 41),
  (41, mj_bin (fun x y => x - y) 42),
  (42, mj_ald 0 43),
  (43, mj_callS 94 2 3 46),
  (46, mj_if (fun x => decide (x = 0)) 71 49),
  (49, mj_aload 0 50),
  (50, mj_get 9 4 53),
  (53, mj_iload 4 55),
  (55, mj_aload 0 56),
  (56, mj_get 9 4 59),
  (59, mj_iload 4 61),
  (61, mj_push (.inl 1) 62),
  (62, mj_bin (fun x y => x - y) 63),
  (63, mj_ald 0 64),
  (64, mj_iast 65),
  (65, mj_iinc 4 (-1) 68),
  (68, mj_goto 28),
  (71, mj_aload 0 72),
  (72, mj_get 9 4 75),
  (75, mj_iload 4 77),
  (77, mj_iload 3 78),
  (78, mj_iast 79),
  (79, mj_iinc 2 1 82),
  (82, mj_iinc 3 1 85),
  (85, mj_goto 9),
  (88, mj_iload 1 89),
  (89, mj_push (.inl 0) 90),
  (90, mj_iload 2 91),
  (91, mj_push (.inl 1) 92),
  (92, mj_bin (fun x y => x - y) 93),
  (93, mj_callS 84 3 3 96),
  (96, mj_if (fun x => decide (x = 0)) 108 99),
  (99, mj_aload 0 100),
  (100, mj_get 9 4 103),
  (103, mj_iload 1 104),
  (104, mj_ald 0 105),
  (105, mj_goto 109),
  (108, mj_push (.inl (-1)) 109),
  (109, mj_iret)]
theorem sd_101 : ∀ q ∈ ct_101, mi_snd cs_G cs_cl cs_inf 101 q.1 q.2 := mi_fc ks_101_0 (mi_fc ks_101_1 (mi_fc ks_101_2 (mi_fc ks_101_5 (mi_fc ks_101_6 (mi_fc ks_101_7 (mi_fc ks_101_8 (mi_fc ks_101_9 (mi_fc ks_101_10 (mi_fc ks_101_11 (mi_fc ks_101_14 (mi_fc ks_101_17 (mi_fc ks_101_18 (mi_fc ks_101_19 (mi_fc ks_101_22 (mi_fc ks_101_25 (mi_fc ks_101_26 (mi_fc ks_101_28 (mi_fc ks_101_30 (mi_fc ks_101_33 (mi_fc ks_101_34 (mi_fc ks_101_35 (mi_fc ks_101_38 (mi_fc ks_101_40 (mi_fc ks_101_41 (mi_fc ks_101_42 (mi_fc ks_101_43 (mi_fc ks_101_46 (mi_fc ks_101_49 (mi_fc ks_101_50 (mi_fc ks_101_53 (mi_fc ks_101_55 (mi_fc ks_101_56 (mi_fc ks_101_59 (mi_fc ks_101_61 (mi_fc ks_101_62 (mi_fc ks_101_63 (mi_fc ks_101_64 (mi_fc ks_101_65 (mi_fc ks_101_68 (mi_fc ks_101_71 (mi_fc ks_101_72 (mi_fc ks_101_75 (mi_fc ks_101_77 (mi_fc ks_101_78 (mi_fc ks_101_79 (mi_fc ks_101_82 (mi_fc ks_101_85 (mi_fc ks_101_88 (mi_fc ks_101_89 (mi_fc ks_101_90 (mi_fc ks_101_91 (mi_fc ks_101_92 (mi_fc ks_101_93 (mi_fc ks_101_96 (mi_fc ks_101_99 (mi_fc ks_101_100 (mi_fc ks_101_103 (mi_fc ks_101_104 (mi_fc ks_101_105 (mi_fc ks_101_108 (mi_fc ks_101_109 mi_fn)))))))))))))))))))))))))))))))))))))))))))))))))))))))))))))
theorem dd_102_0 : decode prog_11_method_22_code 0 = .ok (.aload_n 0, 1) := by decide +kernel
theorem dd_102_1 : decode prog_11_method_22_code 1 = .ok (.iconst 0, 1) := by decide +kernel
theorem dd_102_2 : decode prog_11_method_22_code 2 = .ok (.putfield 1, 3) := by decide +kernel
theorem dd_102_5 : decode prog_11_method_22_code 5 = .ok (.iload_n 1, 1) := by decide +kernel
theorem dd_102_6 : decode prog_11_method_22_code 6 = .ok (.iconst 0, 1) := by decide +kernel
theorem dd_102_7 : decode prog_11_method_22_code 7 = .ok (.bipush 16, 2) := by decide +kernel
theorem dd_102_9 : decode prog_11_method_22_code 9 = .ok (.invokestatic 40, 3) := by decide +kernel
theorem dd_102_12 : decode prog_11_method_22_code 12 = .ok (.ifCond .ne 5, 3) := by decide +kernel
theorem dd_102_15 : decode prog_11_method_22_code 15 = .ok (.iconst (-1), 1) := by decide +kernel
theorem dd_102_16 : decode prog_11_method_22_code 16 = .ok (.ireturn, 1) := by decide +kernel
theorem dd_102_17 : decode prog_11_method_22_code 17 = .ok (.iconst 0, 1) := by decide +kernel
theorem dd_102_18 : decode prog_11_method_22_code 18 = .ok (.istore_n 2, 1) := by decide +kernel
theorem dd_102_19 : decode prog_11_method_22_code 19 = .ok (.iconst 0, 1) := by decide +kernel
theorem dd_102_20 : decode prog_11_method_22_code 20 = .ok (.istore_n 3, 1) := by decide +kernel
theorem dd_102_21 : decode prog_11_method_22_code 21 = .ok (.iload_n 3, 1) := by decide +kernel
theorem dd_102_22 : decode prog_11_method_22_code 22 = .ok (.aload_n 0, 1) := by decide +kernel
theorem dd_102_23 : decode prog_11_method_22_code 23 = .ok (.invokevirtual 58, 3) := by decide +kernel
theorem dd_102_26 : decode prog_11_method_22_code 26 = .ok (.if_icmp .gt 33, 3) := by decide +kernel
theorem dd_102_29 : decode prog_11_method_22_code 29 = .ok (.iload_n 3, 1) := by decide +kernel
theorem dd_102_30 : decode prog_11_method_22_code 30 = .ok (.invokestatic 52, 3) := by decide +kernel
theorem dd_102_33 : decode prog_11_method_22_code 33 = .ok (.iload_n 1, 1) := by decide +kernel
theorem dd_102_34 : decode prog_11_method_22_code 34 = .ok (.if_icmp .ne 17, 3) := by decide +kernel
theorem dd_102_37 : decode prog_11_method_22_code 37 = .ok (.aload_n 0, 1) := by decide +kernel
theorem dd_102_38 : decode prog_11_method_22_code 38 = .ok (.iload_n 3, 1) := by decide +kernel
theorem dd_102_39 : decode prog_11_method_22_code 39 = .ok (.invokevirtual 68, 3) := by decide +kernel
theorem dd_102_42 : decode prog_11_method_22_code 42 = .ok (.ifCond .eq 9, 3) := by decide +kernel
theorem dd_102_45 : decode prog_11_method_22_code 45 = .ok (.iload_n 2, 1) := by decide +kernel
theorem dd_102_46 : decode prog_11_method_22_code 46 = .ok (.iconst 1, 1) := by decide +kernel
theorem dd_102_47 : decode prog_11_method_22_code 47 = .ok (.iadd, 1) := by decide +kernel
theorem dd_102_48 : decode prog_11_method_22_code 48 = .ok (.goto 4, 3) := by decide +kernel
theorem dd_102_51 : decode prog_11_method_22_code 51 = .ok (.iload_n 2, 1) := by decide +kernel
theorem dd_102_52 : decode prog_11_method_22_code 52 = .ok (.istore_n 2, 1) := by decide +kernel
theorem dd_102_53 : decode prog_11_method_22_code 53 = .ok (.iinc 3 1, 3) := by decide +kernel
theorem dd_102_56 : decode prog_11_method_22_code 56 = .ok (.goto (-35), 3) := by decide +kernel
theorem dd_102_59 : decode prog_11_method_22_code 59 = .ok (.iload_n 2, 1) := by decide +kernel
theorem dd_102_60 : decode prog_11_method_22_code 60 = .ok (.ireturn, 1) := by decide +kernel
theorem ks_102_0 : mi_snd cs_G cs_cl cs_inf 102 0 (mj_aload 0 1) := ms_aload_n (mi_dec ib_102 dd_102_0) rfl
theorem ks_102_1 : mi_snd cs_G cs_cl cs_inf 102 1 (mj_push (.inl 0) 2) := ms_iconst (mi_dec ib_102 dd_102_1) (by decide)
theorem ks_102_2 : mi_snd cs_G cs_cl cs_inf 102 2 (mj_putI 9 0 5) := ms_putI (T := cs_T9) (k := 0) (mi_dec ib_102 dd_102_2) rfl cs_in9 cs_ty9_ok cs_nm9 (by decide) gw_636 (by decide) (by decide +kernel)
theorem ks_102_5 : mi_snd cs_G cs_cl cs_inf 102 5 (mj_iload 1 6) := ms_iload_n (mi_dec ib_102 dd_102_5) rfl
theorem ks_102_6 : mi_snd cs_G cs_cl cs_inf 102 6 (mj_push (.inl 0) 7) := ms_iconst (mi_dec ib_102 dd_102_6) (by decide)
theorem ks_102_7 : mi_snd cs_G cs_cl cs_inf 102 7 (mj_push (.inl 16) 9) := ms_bipush (mi_dec ib_102 dd_102_7) (by decide)
theorem ks_102_9 : mi_snd cs_G cs_cl cs_inf 102 9 (mj_callS 84 3 3 12) := ms_callS iw_c84 (mi_dec ib_102 dd_102_9) gw_696 iw_s84 iw_n84 (by decide +kernel) rfl (by decide)
theorem ks_102_12 : mi_snd cs_G cs_cl cs_inf 102 12 (mj_if (fun x => decide (¬ x = 0)) 17 15) := ms_if_ne (mi_dec ib_102 dd_102_12) (by decide)
theorem ks_102_15 : mi_snd cs_G cs_cl cs_inf 102 15 (mj_push (.inl (-1)) 16) := ms_iconst (mi_dec ib_102 dd_102_15) (by decide)
theorem ks_102_16 : mi_snd cs_G cs_cl cs_inf 102 16 (mj_iret) := ms_iret (mi_dec ib_102 dd_102_16) rfl
theorem ks_102_17 : mi_snd cs_G cs_cl cs_inf 102 17 (mj_push (.inl 0) 18) := ms_iconst (mi_dec ib_102 dd_102_17) (by decide)
theorem ks_102_18 : mi_snd cs_G cs_cl cs_inf 102 18 (mj_istore 2 19) := ms_istore_n (mi_dec ib_102 dd_102_18) rfl
theorem ks_102_19 : mi_snd cs_G cs_cl cs_inf 102 19 (mj_push (.inl 0) 20) := ms_iconst (mi_dec ib_102 dd_102_19) (by decide)
theorem ks_102_20 : mi_snd cs_G cs_cl cs_inf 102 20 (mj_istore 3 21) := ms_istore_n (mi_dec ib_102 dd_102_20) rfl
theorem ks_102_21 : mi_snd cs_G cs_cl cs_inf 102 21 (mj_iload 3 22) := ms_iload_n (mi_dec ib_102 dd_102_21) rfl
theorem ks_102_22 : mi_snd cs_G cs_cl cs_inf 102 22 (mj_aload 0 23) := ms_aload_n (mi_dec ib_102 dd_102_22) rfl
theorem ks_102_23 : mi_snd cs_G cs_cl cs_inf 102 23 (mj_callV 9 91 0 1 26) := ms_callV iw_c91 (mi_dec ib_102 dd_102_23) gw_723 iw_i91 rfl iw_v91 iw_n91 (by decide +kernel) rfl (by decide)
theorem ks_102_26 : mi_snd cs_G cs_cl cs_inf 102 26 (mj_cmp (fun x y => decide (y < x)) 59 29) := ms_icmp_gt (mi_dec ib_102 dd_102_26) (by decide)
theorem ks_102_29 : mi_snd cs_G cs_cl cs_inf 102 29 (mj_iload 3 30) := ms_iload_n (mi_dec ib_102 dd_102_29) rfl
theorem ks_102_30 : mi_snd cs_G cs_cl cs_inf 102 30 (mj_callS 20 1 1 33) := ms_callS iw_c20 (mi_dec ib_102 dd_102_30) gw_734 iw_s20 iw_n20 (by decide +kernel) rfl (by decide)
theorem ks_102_33 : mi_snd cs_G cs_cl cs_inf 102 33 (mj_iload 1 34) := ms_iload_n (mi_dec ib_102 dd_102_33) rfl
theorem ks_102_34 : mi_snd cs_G cs_cl cs_inf 102 34 (mj_cmp (fun x y => decide (¬ x = y)) 51 37) := ms_icmp_ne (mi_dec ib_102 dd_102_34) (by decide)
theorem ks_102_37 : mi_snd cs_G cs_cl cs_inf 102 37 (mj_aload 0 38) := ms_aload_n (mi_dec ib_102 dd_102_37) rfl
theorem ks_102_38 : mi_snd cs_G cs_cl cs_inf 102 38 (mj_iload 3 39) := ms_iload_n (mi_dec ib_102 dd_102_38) rfl
theorem ks_102_39 : mi_snd cs_G cs_cl cs_inf 102 39 (mj_callV 9 95 1 3 42) := ms_callV iw_c95 (mi_dec ib_102 dd_102_39) gw_738 iw_i95 rfl iw_v95 iw_n95 (by decide +kernel) rfl (by decide)
theorem ks_102_42 : mi_snd cs_G cs_cl cs_inf 102 42 (mj_if (fun x => decide (x = 0)) 51 45) := ms_if_eq (mi_dec ib_102 dd_102_42) (by decide)
theorem ks_102_45 : mi_snd cs_G cs_cl cs_inf 102 45 (mj_iload 2 46) := ms_iload_n (mi_dec ib_102 dd_102_45) rfl
theorem ks_102_46 : mi_snd cs_G cs_cl cs_inf 102 46 (mj_push (.inl 1) 47) := ms_iconst (mi_dec ib_102 dd_102_46) (by decide)
theorem ks_102_47 : mi_snd cs_G cs_cl cs_inf 102 47 (mj_bin (fun x y => x + y) 48) := ms_iadd (mi_dec ib_102 dd_102_47)
theorem ks_102_48 : mi_snd cs_G cs_cl cs_inf 102 48 (mj_goto 52) := ms_goto (mi_dec ib_102 dd_102_48) (by decide)
theorem ks_102_51 : mi_snd cs_G cs_cl cs_inf 102 51 (mj_iload 2 52) := ms_iload_n (mi_dec ib_102 dd_102_51) rfl
theorem ks_102_52 : mi_snd cs_G cs_cl cs_inf 102 52 (mj_istore 2 53) := ms_istore_n (mi_dec ib_102 dd_102_52) rfl
theorem ks_102_53 : mi_snd cs_G cs_cl cs_inf 102 53 (mj_iinc 3 1 56) := ms_iinc (mi_dec ib_102 dd_102_53) (by decide)
theorem ks_102_56 : mi_snd cs_G cs_cl cs_inf 102 56 (mj_goto 21) := ms_goto (mi_dec ib_102 dd_102_56) (by decide)
theorem ks_102_59 : mi_snd cs_G cs_cl cs_inf 102 59 (mj_iload 2 60) := ms_iload_n (mi_dec ib_102 dd_102_59) rfl
theorem ks_102_60 : mi_snd cs_G cs_cl cs_inf 102 60 (mj_iret) := ms_iret (mi_dec ib_102 dd_102_60) rfl
def ct_102 : List (Nat × mi_I) := [
  (0, mj_aload 0 1),
  (1, mj_push (.inl 0) 2),
  (2, mj_putI 9 0 5),
  (5, mj_iload 1 6),
  (6, mj_push (.inl 0) 7),
  (7, mj_push (.inl 16) 9),
  (9, mj_callS 84 3 3 12),
  (12, mj_if (fun x => decide (¬ x = 0)) 17 15),
  (15, mj_push (.inl (-1)) 16),
  (16, mj_iret),
  (17, mj_push (.inl 0) 18),
  (18, mj_istore 2 19),
  (19, mj_push (.inl 0) 20),
  (20, mj_istore 3 21),
  (21, mj_iload 3 22),
  (22, mj_aload 0 23),
  (23, mj_callV 9 91 0 1 26),
  (26, mj_cmp (fun x y => decide (y < x)) 59 29),
  (29, mj_iload 3 30),
  (30, mj_callS 20 1 1 33),
  (33, mj_iload 1 34),
  (34, mj_cmp (fun x y => decide (¬ x = y)) 51 37),
  (37, mj_aload 0 38),
  (38, mj_iload 3 39),
  (39, mj_callV 9 95 1 3 42),
  (42, mj_if (fun x => decide (x = 0)) 51 45),
  (45, mj_iload 2 46),
  (46, mj_push (.inl 1) 47),
  (47, mj_bin (fun x y => x + y) 48),
  (48, mj_goto 52),
  (51, mj_iload 2 52),
  (52, mj_istore 2 53),
  (53, mj_iinc 3 1 56),
  (56, mj_goto 21),
  (59, mj_iload 2 60),
  (60, mj_iret)]
theorem sd_102 : ∀ q ∈ ct_102, mi_snd cs_G cs_cl cs_inf 102 q.1 q.2 := mi_fc ks_102_0 (mi_fc ks_102_1 (mi_fc ks_102_2 (mi_fc ks_102_5 (mi_fc ks_102_6 (mi_fc ks_102_7 (mi_fc ks_102_9 (mi_fc ks_102_12 (mi_fc ks_102_15 (mi_fc ks_102_16 (mi_fc ks_102_17 (mi_fc ks_102_18 (mi_fc ks_102_19 (mi_fc ks_102_20 (mi_fc ks_102_21 (mi_fc ks_102_22 (mi_fc ks_102_23 (mi_fc ks_102_26 (mi_fc ks_102_29 (mi_fc ks_102_30 (mi_fc ks_102_33 (mi_fc ks_102_34 (mi_fc ks_102_37 (mi_fc ks_102_38 (mi_fc ks_102_39 (mi_fc ks_102_42 (mi_fc ks_102_45 (mi_fc ks_102_46 (mi_fc ks_102_47 (mi_fc ks_102_48 (mi_fc ks_102_51 (mi_fc ks_102_52 (mi_fc ks_102_53 (mi_fc ks_102_56 (mi_fc ks_102_59 (mi_fc ks_102_60 mi_fn)))))))))))))))))))))))))))))))))))
theorem dd_103_0 : decode prog_11_method_23_code 0 = .ok (.aload_n 0, 1) := by decide +kernel
theorem dd_103_1 : decode prog_11_method_23_code 1 = .ok (.iconst 0, 1) := by decide +kernel
theorem dd_103_2 : decode prog_11_method_23_code 2 = .ok (.putfield 1, 3) := by decide +kernel
theorem dd_103_5 : decode prog_11_method_23_code 5 = .ok (.aload_n 0, 1) := by decide +kernel
theorem dd_103_6 : decode prog_11_method_23_code 6 = .ok (.iconst 3, 1) := by decide +kernel
theorem dd_103_7 : decode prog_11_method_23_code 7 = .ok (.invokevirtual 77, 3) := by decide +kernel
theorem dd_103_10 : decode prog_11_method_23_code 10 = .ok (.ireturn, 1) := by decide +kernel
theorem ks_103_0 : mi_snd cs_G cs_cl cs_inf 103 0 (mj_aload 0 1) := ms_aload_n (mi_dec ib_103 dd_103_0) rfl
theorem ks_103_1 : mi_snd cs_G cs_cl cs_inf 103 1 (mj_push (.inl 0) 2) := ms_iconst (mi_dec ib_103 dd_103_1) (by decide)
theorem ks_103_2 : mi_snd cs_G cs_cl cs_inf 103 2 (mj_putI 9 0 5) := ms_putI (T := cs_T9) (k := 0) (mi_dec ib_103 dd_103_2) rfl cs_in9 cs_ty9_ok cs_nm9 (by decide) gw_636 (by decide) (by decide +kernel)
theorem ks_103_5 : mi_snd cs_G cs_cl cs_inf 103 5 (mj_aload 0 6) := ms_aload_n (mi_dec ib_103 dd_103_5) rfl
theorem ks_103_6 : mi_snd cs_G cs_cl cs_inf 103 6 (mj_push (.inl 3) 7) := ms_iconst (mi_dec ib_103 dd_103_6) (by decide)
theorem ks_103_7 : mi_snd cs_G cs_cl cs_inf 103 7 (mj_callV 9 90 1 7 10) := ms_callV iw_c90 (mi_dec ib_103 dd_103_7) gw_719 iw_i90 rfl iw_v90 iw_n90 (by decide +kernel) rfl (by decide)
theorem ks_103_10 : mi_snd cs_G cs_cl cs_inf 103 10 (mj_iret) := ms_iret (mi_dec ib_103 dd_103_10) rfl
def ct_103 : List (Nat × mi_I) := [
  (0, mj_aload 0 1),
  (1, mj_push (.inl 0) 2),
  (2, mj_putI 9 0 5),
  (5, mj_aload 0 6),
  (6, mj_push (.inl 3) 7),
  (7, mj_callV 9 90 1 7 10),
  (10, mj_iret)]
theorem sd_103 : ∀ q ∈ ct_103, mi_snd cs_G cs_cl cs_inf 103 q.1 q.2 := mi_fc ks_103_0 (mi_fc ks_103_1 (mi_fc ks_103_2 (mi_fc ks_103_5 (mi_fc ks_103_6 (mi_fc ks_103_7 (mi_fc ks_103_10 mi_fn))))))
theorem dd_104_0 : decode prog_11_method_24_code 0 = .ok (.aload_n 0, 1) := by decide +kernel
theorem dd_104_1 : decode prog_11_method_24_code 1 = .ok (.iconst 0, 1) := by decide +kernel
theorem dd_104_2 : decode prog_11_method_24_code 2 = .ok (.putfield 1, 3) := by decide +kernel
theorem dd_104_5 : decode prog_11_method_24_code 5 = .ok (.aload_n 0, 1) := by decide +kernel
theorem dd_104_6 : decode prog_11_method_24_code 6 = .ok (.iconst 2, 1) := by decide +kernel
theorem dd_104_7 : decode prog_11_method_24_code 7 = .ok (.invokevirtual 77, 3) := by decide +kernel
theorem dd_104_10 : decode prog_11_method_24_code 10 = .ok (.ireturn, 1) := by decide +kernel
theorem ks_104_0 : mi_snd cs_G cs_cl cs_inf 104 0 (mj_aload 0 1) := ms_aload_n (mi_dec ib_104 dd_104_0) rfl
theorem ks_104_1 : mi_snd cs_G cs_cl cs_inf 104 1 (mj_push (.inl 0) 2) := ms_iconst (mi_dec ib_104 dd_104_1) (by decide)
theorem ks_104_2 : mi_snd cs_G cs_cl cs_inf 104 2 (mj_putI 9 0 5) := ms_putI (T := cs_T9) (k := 0) (mi_dec ib_104 dd_104_2) rfl cs_in9 cs_ty9_ok cs_nm9 (by decide) gw_636 (by decide) (by decide +kernel)
theorem ks_104_5 : mi_snd cs_G cs_cl cs_inf 104 5 (mj_aload 0 6) := ms_aload_n (mi_dec ib_104 dd_104_5) rfl
theorem ks_104_6 : mi_snd cs_G cs_cl cs_inf 104 6 (mj_push (.inl 2) 7) := ms_iconst (mi_dec ib_104 dd_104_6) (by decide)
theorem ks_104_7 : mi_snd cs_G cs_cl cs_inf 104 7 (mj_callV 9 90 1 7 10) := ms_callV iw_c90 (mi_dec ib_104 dd_104_7) gw_719 iw_i90 rfl iw_v90 iw_n90 (by decide +kernel) rfl (by decide)
theorem ks_104_10 : mi_snd cs_G cs_cl cs_inf 104 10 (mj_iret) := ms_iret (mi_dec ib_104 dd_104_10) rfl
def ct_104 : List (Nat × mi_I) := [
  (0, mj_aload 0 1),
  (1, mj_push (.inl 0) 2),
  (2, mj_putI 9 0 5),
  (5, mj_aload 0 6),
  (6, mj_push (.inl 2) 7),
  (7, mj_callV 9 90 1 7 10),
  (10, mj_iret)]
theorem sd_104 : ∀ q ∈ ct_104, mi_snd cs_G cs_cl cs_inf 104 q.1 q.2 := mi_fc ks_104_0 (mi_fc ks_104_1 (mi_fc ks_104_2 (mi_fc ks_104_5 (mi_fc ks_104_6 (mi_fc ks_104_7 (mi_fc ks_104_10 mi_fn))))))
theorem dd_105_0 : decode prog_11_method_25_code 0 = .ok (.aload_n 0, 1) := by decide +kernel
theorem dd_105_1 : decode prog_11_method_25_code 1 = .ok (.iconst 0, 1) := by decide +kernel
theorem dd_105_2 : decode prog_11_method_25_code 2 = .ok (.putfield 1, 3) := by decide +kernel
theorem dd_105_5 : decode prog_11_method_25_code 5 = .ok (.iload_n 1, 1) := by decide +kernel
theorem dd_105_6 : decode prog_11_method_25_code 6 = .ok (.iconst 1, 1) := by decide +kernel
theorem dd_105_7 : decode prog_11_method_25_code 7 = .ok (.iconst 4, 1) := by decide +kernel
theorem dd_105_8 : decode prog_11_method_25_code 8 = .ok (.invokestatic 40, 3) := by decide +kernel
theorem dd_105_11 : decode prog_11_method_25_code 11 = .ok (.ifCond .eq 13, 3) := by decide +kernel
theorem dd_105_14 : decode prog_11_method_25_code 14 = .ok (.aload_n 0, 1) := by decide +kernel
theorem dd_105_15 : decode prog_11_method_25_code 15 = .ok (.iconst 3, 1) := by decide +kernel
theorem dd_105_16 : decode prog_11_method_25_code 16 = .ok (.iload_n 1, 1) := by decide +kernel
theorem dd_105_17 : decode prog_11_method_25_code 17 = .ok (.iadd, 1) := by decide +kernel
theorem dd_105_18 : decode prog_11_method_25_code 18 = .ok (.invokevirtual 77, 3) := by decide +kernel
theorem dd_105_21 : decode prog_11_method_25_code 21 = .ok (.goto 4, 3) := by decide +kernel
theorem dd_105_24 : decode prog_11_method_25_code 24 = .ok (.iconst (-1), 1) := by decide +kernel
theorem dd_105_25 : decode prog_11_method_25_code 25 = .ok (.ireturn, 1) := by decide +kernel
theorem ks_105_0 : mi_snd cs_G cs_cl cs_inf 105 0 (mj_aload 0 1) := ms_aload_n (mi_dec ib_105 dd_105_0) rfl
theorem ks_105_1 : mi_snd cs_G cs_cl cs_inf 105 1 (mj_push (.inl 0) 2) := ms_iconst (mi_dec ib_105 dd_105_1) (by decide)
theorem ks_105_2 : mi_snd cs_G cs_cl cs_inf 105 2 (mj_putI 9 0 5) := ms_putI (T := cs_T9) (k := 0) (mi_dec ib_105 dd_105_2) rfl cs_in9 cs_ty9_ok cs_nm9 (by decide) gw_636 (by decide) (by decide +kernel)
theorem ks_105_5 : mi_snd cs_G cs_cl cs_inf 105 5 (mj_iload 1 6) := ms_iload_n (mi_dec ib_105 dd_105_5) rfl
theorem ks_105_6 : mi_snd cs_G cs_cl cs_inf 105 6 (mj_push (.inl 1) 7) := ms_iconst (mi_dec ib_105 dd_105_6) (by decide)
theorem ks_105_7 : mi_snd cs_G cs_cl cs_inf 105 7 (mj_push (.inl 4) 8) := ms_iconst (mi_dec ib_105 dd_105_7) (by decide)
theorem ks_105_8 : mi_snd cs_G cs_cl cs_inf 105 8 (mj_callS 84 3 3 11) := ms_callS iw_c84 (mi_dec ib_105 dd_105_8) gw_696 iw_s84 iw_n84 (by decide +kernel) rfl (by decide)
theorem ks_105_11 : mi_snd cs_G cs_cl cs_inf 105 11 (mj_if (fun x => decide (x = 0)) 24 14) := ms_if_eq (mi_dec ib_105 dd_105_11) (by decide)
theorem ks_105_14 : mi_snd cs_G cs_cl cs_inf 105 14 (mj_aload 0 15) := ms_aload_n (mi_dec ib_105 dd_105_14) rfl
theorem ks_105_15 : mi_snd cs_G cs_cl cs_inf 105 15 (mj_push (.inl 3) 16) := ms_iconst (mi_dec ib_105 dd_105_15) (by decide)
theorem ks_105_16 : mi_snd cs_G cs_cl cs_inf 105 16 (mj_iload 1 17) := ms_iload_n (mi_dec ib_105 dd_105_16) rfl
theorem ks_105_17 : mi_snd cs_G cs_cl cs_inf 105 17 (mj_bin (fun x y => x + y) 18) := ms_iadd (mi_dec ib_105 dd_105_17)
theorem ks_105_18 : mi_snd cs_G cs_cl cs_inf 105 18 (mj_callV 9 90 1 7 21) := ms_callV iw_c90 (mi_dec ib_105 dd_105_18) gw_719 iw_i90 rfl iw_v90 iw_n90 (by decide +kernel) rfl (by decide)
theorem ks_105_21 : mi_snd cs_G cs_cl cs_inf 105 21 (mj_goto 25) := ms_goto (mi_dec ib_105 dd_105_21) (by decide)
theorem ks_105_24 : mi_snd cs_G cs_cl cs_inf 105 24 (mj_push (.inl (-1)) 25) := ms_iconst (mi_dec ib_105 dd_105_24) (by decide)
theorem ks_105_25 : mi_snd cs_G cs_cl cs_inf 105 25 (mj_iret) := ms_iret (mi_dec ib_105 dd_105_25) rfl
def ct_105 : List (Nat × mi_I) := [
  (0, mj_aload 0 1),
  (1, mj_push (.inl 0) 2),
  (2, mj_putI 9 0 5),
  (5, mj_iload 1 6),
  (6, mj_push (.inl 1) 7),
  (7, mj_push (.inl 4) 8),
  (8, mj_callS 84 3 3 11),
  (11, mj_if (fun x => decide (x = 0)) 24 14),
  (14, mj_aload 0 15),
  (15, mj_push (.inl 3) 16),
  (16, mj_iload 1 17),
  (17, mj_bin (fun x y => x + y) 18),
  (18, mj_callV 9 90 1 7 21),
  (21, mj_goto 25),
  (24, mj_push (.inl (-1)) 25),
  (25, mj_iret)]
theorem sd_105 : ∀ q ∈ ct_105, mi_snd cs_G cs_cl cs_inf 105 q.1 q.2 := mi_fc ks_105_0 (mi_fc ks_105_1 (mi_fc ks_105_2 (mi_fc ks_105_5 (mi_fc ks_105_6 (mi_fc ks_105_7 (mi_fc ks_105_8 (mi_fc ks_105_11 (mi_fc ks_105_14 (mi_fc ks_105_15 (mi_fc ks_105_16 (mi_fc ks_105_17 (mi_fc ks_105_18 (mi_fc ks_105_21 (mi_fc ks_105_24 (mi_fc ks_105_25 mi_fn)))))))))))))))
theorem dd_106_0 : decode prog_11_method_27_code 0 = .ok (.aload_n 0, 1) := by decide +kernel
theorem dd_106_1 : decode prog_11_method_27_code 1 = .ok (.iconst 0, 1) := by decide +kernel
theorem dd_106_2 : decode prog_11_method_27_code 2 = .ok (.putfield 1, 3) := by decide +kernel
theorem dd_106_5 : decode prog_11_method_27_code 5 = .ok (.iload_n 1, 1) := by decide +kernel
theorem dd_106_6 : decode prog_11_method_27_code 6 = .ok (.iconst 0, 1) := by decide +kernel
theorem dd_106_7 : decode prog_11_method_27_code 7 = .ok (.aload_n 0, 1) := by decide +kernel
theorem dd_106_8 : decode prog_11_method_27_code 8 = .ok (.invokevirtual 58, 3) := by decide +kernel
theorem dd_106_11 : decode prog_11_method_27_code 11 = .ok (.invokestatic 40, 3) := by decide +kernel
theorem dd_106_14 : decode prog_11_method_27_code 14 = .ok (.ifCond .eq 11, 3) := by decide +kernel
theorem dd_106_17 : decode prog_11_method_27_code 17 = .ok (.aload_n 0, 1) := by decide +kernel
theorem dd_106_18 : decode prog_11_method_27_code 18 = .ok (.iload_n 1, 1) := by decide +kernel
theorem dd_106_19 : decode prog_11_method_27_code 19 = .ok (.invokevirtual 83, 3) := by decide +kernel
theorem dd_106_22 : decode prog_11_method_27_code 22 = .ok (.goto 4, 3) := by decide +kernel
theorem dd_106_25 : decode prog_11_method_27_code 25 = .ok (.iconst (-1), 1) := by decide +kernel
theorem dd_106_26 : decode prog_11_method_27_code 26 = .ok (.ireturn, 1) := by decide +kernel
theorem ks_106_0 : mi_snd cs_G cs_cl cs_inf 106 0 (mj_aload 0 1) := ms_aload_n (mi_dec ib_106 dd_106_0) rfl
theorem ks_106_1 : mi_snd cs_G cs_cl cs_inf 106 1 (mj_push (.inl 0) 2) := ms_iconst (mi_dec ib_106 dd_106_1) (by decide)
theorem ks_106_2 : mi_snd cs_G cs_cl cs_inf 106 2 (mj_putI 9 0 5) := ms_putI (T := cs_T9) (k := 0) (mi_dec ib_106 dd_106_2) rfl cs_in9 cs_ty9_ok cs_nm9 (by decide) gw_636 (by decide) (by decide +kernel)
theorem ks_106_5 : mi_snd cs_G cs_cl cs_inf 106 5 (mj_iload 1 6) := ms_iload_n (mi_dec ib_106 dd_106_5) rfl
theorem ks_106_6 : mi_snd cs_G cs_cl cs_inf 106 6 (mj_push (.inl 0) 7) := ms_iconst (mi_dec ib_106 dd_106_6) (by decide)
theorem ks_106_7 : mi_snd cs_G cs_cl cs_inf 106 7 (mj_aload 0 8) := ms_aload_n (mi_dec ib_106 dd_106_7) rfl
theorem ks_106_8 : mi_snd cs_G cs_cl cs_inf 106 8 (mj_callV 9 91 0 1 11) := ms_callV iw_c91 (mi_dec ib_106 dd_106_8) gw_723 iw_i91 rfl iw_v91 iw_n91 (by decide +kernel) rfl (by decide)
theorem ks_106_11 : mi_snd cs_G cs_cl cs_inf 106 11 (mj_callS 84 3 3 14) := ms_callS iw_c84 (mi_dec ib_106 dd_106_11) gw_696 iw_s84 iw_n84 (by decide +kernel) rfl (by decide)
theorem ks_106_14 : mi_snd cs_G cs_cl cs_inf 106 14 (mj_if (fun x => decide (x = 0)) 25 17) := ms_if_eq (mi_dec ib_106 dd_106_14) (by decide)
theorem ks_106_17 : mi_snd cs_G cs_cl cs_inf 106 17 (mj_aload 0 18) := ms_aload_n (mi_dec ib_106 dd_106_17) rfl
theorem ks_106_18 : mi_snd cs_G cs_cl cs_inf 106 18 (mj_iload 1 19) := ms_iload_n (mi_dec ib_106 dd_106_18) rfl
theorem ks_106_19 : mi_snd cs_G cs_cl cs_inf 106 19 (mj_callV 9 107 1 6 22) := ms_callV iw_c107 (mi_dec ib_106 dd_106_19) gw_786 iw_i107 rfl iw_v107 iw_n107 (by decide +kernel) rfl (by decide)
theorem ks_106_22 : mi_snd cs_G cs_cl cs_inf 106 22 (mj_goto 26) := ms_goto (mi_dec ib_106 dd_106_22) (by decide)
theorem ks_106_25 : mi_snd cs_G cs_cl cs_inf 106 25 (mj_push (.inl (-1)) 26) := ms_iconst (mi_dec ib_106 dd_106_25) (by decide)
theorem ks_106_26 : mi_snd cs_G cs_cl cs_inf 106 26 (mj_iret) := ms_iret (mi_dec ib_106 dd_106_26) rfl
def ct_106 : List (Nat × mi_I) := [
  (0, mj_aload 0 1),
  (1, mj_push (.inl 0) 2),
  (2, mj_putI 9 0 5),
  (5, mj_iload 1 6),
  (6, mj_push (.inl 0) 7),
  (7, mj_aload 0 8),
  (8, mj_callV 9 91 0 1 11),
  (11, mj_callS 84 3 3 14),
  (14, mj_if (fun x => decide (x = 0)) 25 17),
  (17, mj_aload 0 18),
  (18, mj_iload 1 19),
  (19, mj_callV 9 107 1 6 22),
  (22, mj_goto 26),
  (25, mj_push (.inl (-1)) 26),
  (26, mj_iret)]
theorem sd_106 : ∀ q ∈ ct_106, mi_snd cs_G cs_cl cs_inf 106 q.1 q.2 := mi_fc ks_106_0 (mi_fc ks_106_1 (mi_fc ks_106_2 (mi_fc ks_106_5 (mi_fc ks_106_6 (mi_fc ks_106_7 (mi_fc ks_106_8 (mi_fc ks_106_11 (mi_fc ks_106_14 (mi_fc ks_106_17 (mi_fc ks_106_18 (mi_fc ks_106_19 (mi_fc ks_106_22 (mi_fc ks_106_25 (mi_fc ks_106_26 mi_fn))))))))))))))
theorem dd_107_0 : decode prog_11_method_26_code 0 = .ok (.iconst 0, 1) := by decide +kernel
theorem dd_107_1 : decode prog_11_method_26_code 1 = .ok (.istore_n 2, 1) := by decide +kernel
theorem dd_107_2 : decode prog_11_method_26_code 2 = .ok (.iconst 0, 1) := by decide +kernel
theorem dd_107_3 : decode prog_11_method_26_code 3 = .ok (.istore_n 3, 1) := by decide +kernel
theorem dd_107_4 : decode prog_11_method_26_code 4 = .ok (.iload_n 3, 1) := by decide +kernel
theorem dd_107_5 : decode prog_11_method_26_code 5 = .ok (.aload_n 0, 1) := by decide +kernel
theorem dd_107_6 : decode prog_11_method_26_code 6 = .ok (.getfield 37, 3) := by decide +kernel
theorem dd_107_9 : decode prog_11_method_26_code 9 = .ok (.if_icmp .ge 115, 3) := by decide +kernel
theorem dd_107_12 : decode prog_11_method_26_code 12 = .ok (.aload_n 0, 1) := by decide +kernel
theorem dd_107_13 : decode prog_11_method_26_code 13 = .ok (.getfield 23, 3) := by decide +kernel
theorem dd_107_16 : decode prog_11_method_26_code 16 = .ok (.iload_n 3, 1) := by decide +kernel
theorem dd_107_17 : decode prog_11_method_26_code 17 = .ok (.iconst 0, 1) := by decide +kernel
theorem dd_107_18 : decode prog_11_method_26_code 18 = .ok (.iastore, 1) := by decide +kernel
theorem dd_107_19 : decode prog_11_method_26_code 19 = .ok (.iload_n 1, 1) := by decide +kernel
theorem dd_107_20 : decode prog_11_method_26_code 20 = .ok (.iload_n 3, 1) := by decide +kernel
theorem dd_107_21 : decode prog_11_method_26_code 21 = .ok (.invokestatic 48, 3) := by decide +kernel
theorem dd_107_24 : decode prog_11_method_26_code 24 = .ok (.ifCond .eq 94, 3) := by decide +kernel
theorem dd_107_27 : decode prog_11_method_26_code 27 = .ok (.iconst 0, 1) := by decide +kernel
theorem dd_107_28 : decode prog_11_method_26_code 28 = .ok (.istore 4, 2) := by decide +kernel
theorem dd_107_30 : decode prog_11_method_26_code 30 = .ok (.iconst 0, 1) := by decide +kernel
theorem dd_107_31 : decode prog_11_method_26_code 31 = .ok (.istore 5, 2) := by decide +kernel
theorem dd_107_33 : decode prog_11_method_26_code 33 = .ok (.iload 5, 2) := by decide +kernel
theorem dd_107_35 : decode prog_11_method_26_code 35 = .ok (.iload_n 3, 1) := by decide +kernel
theorem dd_107_36 : decode prog_11_method_26_code 36 = .ok (.if_icmp .ge 42, 3) := by decide +kernel
theorem dd_107_39 : decode prog_11_method_26_code 39 = .ok (.aload_n 0, 1) := by decide +kernel
theorem dd_107_40 : decode prog_11_method_26_code 40 = .ok (.getfield 17, 3) := by decide +kernel
theorem dd_107_43 : decode prog_11_method_26_code 43 = .ok (.iload_n 3, 1) := by decide +kernel
theorem dd_107_44 : decode prog_11_method_26_code 44 = .ok (.iaload, 1) := by decide +kernel
theorem dd_107_45 : decode prog_11_method_26_code 45 = .ok (.iload 5, 2) := by decide +kernel
theorem dd_107_47 : decode prog_11_method_26_code 47 = .ok (.invokestatic 48, 3) := by decide +kernel
theorem dd_107_50 : decode prog_11_method_26_code 50 = .ok (.ifCond .eq 18, 3) := by decide +kernel
theorem dd_107_53 : decode prog_11_method_26_code 53 = .ok (.iload 4, 2) := by decide +kernel
theorem dd_107_55 : decode prog_11_method_26_code 55 = .ok (.iconst 1, 1) := by decide +kernel
theorem dd_107_56 : decode prog_11_method_26_code 56 = .ok (.aload_n 0, 1) := by decide +kernel
theorem dd_107_57 : decode prog_11_method_26_code 57 = .ok (.getfield 23, 3) := by decide +kernel
theorem dd_107_60 : decode prog_11_method_26_code 60 = .ok (.iload 5, 2) := by decide +kernel
theorem dd_107_62 : decode prog_11_method_26_code 62 = .ok (.iaload, 1) := by decide +kernel
theorem dd_107_63 : decode prog_11_method_26_code 63 = .ok (.ishl, 1) := by decide +kernel
theorem dd_107_64 : decode prog_11_method_26_code 64 = .ok (.ior, 1) := by decide +kernel
theorem dd_107_65 : decode prog_11_method_26_code 65 = .ok (.goto 5, 3) := by decide +kernel
theorem dd_107_68 : decode prog_11_method_26_code 68 = .ok (.iload 4, 2) := by decide +kernel
theorem dd_107_70 : decode prog_11_method_26_code 70 = .ok (.istore 4, 2) := by decide +kernel
theorem dd_107_72 : decode prog_11_method_26_code 72 = .ok (.iinc 5 1, 3) := by decide +kernel
theorem dd_107_75 : decode prog_11_method_26_code 75 = .ok (.goto (-42), 3) := by decide +kernel
theorem dd_107_78 : decode prog_11_method_26_code 78 = .ok (.iconst 1, 1) := by decide +kernel
theorem dd_107_79 : decode prog_11_method_26_code 79 = .ok (.istore 5, 2) := by decide +kernel
theorem dd_107_81 : decode prog_11_method_26_code 81 = .ok (.iload 4, 2) := by decide +kernel
theorem dd_107_83 : decode prog_11_method_26_code 83 = .ok (.iload 5, 2) := by decide +kernel
theorem dd_107_85 : decode prog_11_method_26_code 85 = .ok (.invokestatic 48, 3) := by decide +kernel
theorem dd_107_88 : decode prog_11_method_26_code 88 = .ok (.ifCond .eq 9, 3) := by decide +kernel
theorem dd_107_91 : decode prog_11_method_26_code 91 = .ok (.iinc 5 1, 3) := by decide +kernel
theorem dd_107_94 : decode prog_11_method_26_code 94 = .ok (.goto (-13), 3) := by decide +kernel
theorem dd_107_97 : decode prog_11_method_26_code 97 = .ok (.aload_n 0, 1) := by decide +kernel
theorem dd_107_98 : decode prog_11_method_26_code 98 = .ok (.getfield 23, 3) := by decide +kernel
theorem dd_107_101 : decode prog_11_method_26_code 101 = .ok (.iload_n 3, 1) := by decide +kernel
theorem dd_107_102 : decode prog_11_method_26_code 102 = .ok (.iload 5, 2) := by decide +kernel
theorem dd_107_104 : decode prog_11_method_26_code 104 = .ok (.iastore, 1) := by decide +kernel
theorem dd_107_105 : decode prog_11_method_26_code 105 = .ok (.iload 5, 2) := by decide +kernel
theorem dd_107_107 : decode prog_11_method_26_code 107 = .ok (.iload_n 2, 1) := by decide +kernel
theorem dd_107_108 : decode prog_11_method_26_code 108 = .ok (.if_icmp .le 8, 3) := by decide +kernel
theorem dd_107_111 : decode prog_11_method_26_code 111 = .ok (.iload 5, 2) := by decide +kernel
theorem dd_107_113 : decode prog_11_method_26_code 113 = .ok (.goto 4, 3) := by decide +kernel
theorem dd_107_116 : decode prog_11_method_26_code 116 = .ok (.iload_n 2, 1) := by decide +kernel
theorem dd_107_117 : decode prog_11_method_26_code 117 = .ok (.istore_n 2, 1) := by decide +kernel
theorem dd_107_118 : decode prog_11_method_26_code 118 = .ok (.iinc 3 1, 3) := by decide +kernel
theorem dd_107_121 : decode prog_11_method_26_code 121 = .ok (.goto (-117), 3) := by decide +kernel
theorem dd_107_124 : decode prog_11_method_26_code 124 = .ok (.iload_n 2, 1) := by decide +kernel
theorem dd_107_125 : decode prog_11_method_26_code 125 = .ok (.ireturn, 1) := by decide +kernel
theorem ks_107_0 : mi_snd cs_G cs_cl cs_inf 107 0 (mj_push (.inl 0) 1) := ms_iconst (mi_dec ib_107 dd_107_0) (by decide)
theorem ks_107_1 : mi_snd cs_G cs_cl cs_inf 107 1 (mj_istore 2 2) := ms_istore_n (mi_dec ib_107 dd_107_1) rfl
theorem ks_107_2 : mi_snd cs_G cs_cl cs_inf 107 2 (mj_push (.inl 0) 3) := ms_iconst (mi_dec ib_107 dd_107_2) (by decide)
theorem ks_107_3 : mi_snd cs_G cs_cl cs_inf 107 3 (mj_istore 3 4) := ms_istore_n (mi_dec ib_107 dd_107_3) rfl
theorem ks_107_4 : mi_snd cs_G cs_cl cs_inf 107 4 (mj_iload 3 5) := ms_iload_n (mi_dec ib_107 dd_107_4) rfl
theorem ks_107_5 : mi_snd cs_G cs_cl cs_inf 107 5 (mj_aload 0 6) := ms_aload_n (mi_dec ib_107 dd_107_5) rfl
theorem ks_107_6 : mi_snd cs_G cs_cl cs_inf 107 6 (mj_get 9 1 9) := ms_get (T := cs_T9) (k := 1) (mi_dec ib_107 dd_107_6) rfl cs_in9 (by decide) gw_637
theorem ks_107_9 : mi_snd cs_G cs_cl cs_inf 107 9 (mj_cmp (fun x y => decide (y ≤ x)) 124 12) := ms_icmp_ge (mi_dec ib_107 dd_107_9) (by decide)
theorem ks_107_12 : mi_snd cs_G cs_cl cs_inf 107 12 (mj_aload 0 13) := ms_aload_n (mi_dec ib_107 dd_107_12) rfl
theorem ks_107_13 : mi_snd cs_G cs_cl cs_inf 107 13 (mj_get 9 5 16) := ms_get (T := cs_T9) (k := 5) (mi_dec ib_107 dd_107_13) rfl cs_in9 (by decide) gw_641
theorem ks_107_16 : mi_snd cs_G cs_cl cs_inf 107 16 (mj_iload 3 17) := ms_iload_n (mi_dec ib_107 dd_107_16) rfl
theorem ks_107_17 : mi_snd cs_G cs_cl cs_inf 107 17 (mj_push (.inl 0) 18) := ms_iconst (mi_dec ib_107 dd_107_17) (by decide)
theorem ks_107_18 : mi_snd cs_G cs_cl cs_inf 107 18 (mj_iast 19) := ms_iast (mi_dec ib_107 dd_107_18)
theorem ks_107_19 : mi_snd cs_G cs_cl cs_inf 107 19 (mj_iload 1 20) := ms_iload_n (mi_dec ib_107 dd_107_19) rfl
theorem ks_107_20 : mi_snd cs_G cs_cl cs_inf 107 20 (mj_iload 3 21) := ms_iload_n (mi_dec ib_107 dd_107_20) rfl
theorem ks_107_21 : mi_snd cs_G cs_cl cs_inf 107 21 (mj_callS 93 2 2 24) := ms_callS iw_c93 (mi_dec ib_107 dd_107_21) gw_731 iw_s93 iw_n93 (by decide +kernel) rfl (by decide)
theorem ks_107_24 : mi_snd cs_G cs_cl cs_inf 107 24 (mj_if (fun x => decide (x = 0)) 118 27) := ms_if_eq (mi_dec ib_107 dd_107_24) (by decide)
theorem ks_107_27 : mi_snd cs_G cs_cl cs_inf 107 27 (mj_push (.inl 0) 28) := ms_iconst (mi_dec ib_107 dd_107_27) (by decide)
theorem ks_107_28 : mi_snd cs_G cs_cl cs_inf 107 28 (mj_istore 4 30) := ms_istore (mi_dec ib_107 dd_107_28)
theorem ks_107_30 : mi_snd cs_G cs_cl cs_inf 107 30 (mj_push (.inl 0) 31) := ms_iconst (mi_dec ib_107 dd_107_30) (by decide)
theorem ks_107_31 : mi_snd cs_G cs_cl cs_inf 107 31 (mj_istore 5 33) := ms_istore (mi_dec ib_107 dd_107_31)
theorem ks_107_33 : mi_snd cs_G cs_cl cs_inf 107 33 (mj_iload 5 35) := ms_iload (mi_dec ib_107 dd_107_33)
theorem ks_107_35 : mi_snd cs_G cs_cl cs_inf 107 35 (mj_iload 3 36) := ms_iload_n (mi_dec ib_107 dd_107_35) rfl
theorem ks_107_36 : mi_snd cs_G cs_cl cs_inf 107 36 (mj_cmp (fun x y => decide (y ≤ x)) 78 39) := ms_icmp_ge (mi_dec ib_107 dd_107_36) (by decide)
theorem ks_107_39 : mi_snd cs_G cs_cl cs_inf 107 39 (mj_aload 0 40) := ms_aload_n (mi_dec ib_107 dd_107_39) rfl
theorem ks_107_40 : mi_snd cs_G cs_cl cs_inf 107 40 (mj_get 9 3 43) := ms_get (T := cs_T9) (k := 3) (mi_dec ib_107 dd_107_40) rfl cs_in9 (by decide) gw_639
theorem ks_107_43 : mi_snd cs_G cs_cl cs_inf 107 43 (mj_iload 3 44) := ms_iload_n (mi_dec ib_107 dd_107_43) rfl
theorem ks_107_44 : mi_snd cs_G cs_cl cs_inf 107 44 (mj_ald 0 45) := ms_ald0 (mi_dec ib_107 dd_107_44)
theorem ks_107_45 : mi_snd cs_G cs_cl cs_inf 107 45 (mj_iload 5 47) := ms_iload (mi_dec ib_107 dd_107_45)
theorem ks_107_47 : mi_snd cs_G cs_cl cs_inf 107 47 (mj_callS 93 2 2 50) := ms_callS iw_c93 (mi_dec ib_107 dd_107_47) gw_731 iw_s93 iw_n93 (by decide +kernel) rfl (by decide)
theorem ks_107_50 : mi_snd cs_G cs_cl cs_inf 107 50 (mj_if (fun x => decide (x = 0)) 68 53) := ms_if_eq (mi_dec ib_107 dd_107_50) (by decide)
theorem ks_107_53 : mi_snd cs_G cs_cl cs_inf 107 53 (mj_iload 4 55) := ms_iload (mi_dec ib_107 dd_107_53)
theorem ks_107_55 : mi_snd cs_G cs_cl cs_inf 107 55 (mj_push (.inl 1) 56) := ms_iconst (mi_dec ib_107 dd_107_55) (by decide)
theorem ks_107_56 : mi_snd cs_G cs_cl cs_inf 107 56 (mj_aload 0 57) := ms_aload_n (mi_dec ib_107 dd_107_56) rfl
theorem ks_107_57 : mi_snd cs_G cs_cl cs_inf 107 57 (mj_get 9 5 60) := ms_get (T := cs_T9) (k := 5) (mi_dec ib_107 dd_107_57) rfl cs_in9 (by decide) gw_641
theorem ks_107_60 : mi_snd cs_G cs_cl cs_inf 107 60 (mj_iload 5 62) := ms_iload (mi_dec ib_107 dd_107_60)
theorem ks_107_62 : mi_snd cs_G cs_cl cs_inf 107 62 (mj_ald 0 63) := ms_ald0 (mi_dec ib_107 dd_107_62)
theorem ks_107_63 : mi_snd cs_G cs_cl cs_inf 107 63 (mj_bin (fun x y => x <<< (y &&& 31)) 64) := ms_ishl (mi_dec ib_107 dd_107_63)
theorem ks_107_64 : mi_snd cs_G cs_cl cs_inf 107 64 (mj_bin (fun x y => x ||| y) 65) := ms_ior (mi_dec ib_107 dd_107_64)
theorem ks_107_65 : mi_snd cs_G cs_cl cs_inf 107 65 (mj_goto 70) := ms_goto (mi_dec ib_107 dd_107_65) (by decide)
theorem ks_107_68 : mi_snd cs_G cs_cl cs_inf 107 68 (mj_iload 4 70) := ms_iload (mi_dec ib_107 dd_107_68)
theorem ks_107_70 : mi_snd cs_G cs_cl cs_inf 107 70 (mj_istore 4 72) := ms_istore (mi_dec ib_107 dd_107_70)
theorem ks_107_72 : mi_snd cs_G cs_cl cs_inf 107 72 (mj_iinc 5 1 75) := ms_iinc (mi_dec ib_107 dd_107_72) (by decide)
theorem ks_107_75 : mi_snd cs_G cs_cl cs_inf 107 75 (mj_goto 33) := ms_goto (mi_dec ib_107 dd_107_75) (by decide)
theorem ks_107_78 : mi_snd cs_G cs_cl cs_inf 107 78 (mj_push (.inl 1) 79) := ms_iconst (mi_dec ib_107 dd_107_78) (by decide)
theorem ks_107_79 : mi_snd cs_G cs_cl cs_inf 107 79 (mj_istore 5 81) := ms_istore (mi_dec ib_107 dd_107_79)
theorem ks_107_81 : mi_snd cs_G cs_cl cs_inf 107 81 (mj_iload 4 83) := ms_iload (mi_dec ib_107 dd_107_81)
theorem ks_107_83 : mi_snd cs_G cs_cl cs_inf 107 83 (mj_iload 5 85) := ms_iload (mi_dec ib_107 dd_107_83)
theorem ks_107_85 : mi_snd cs_G cs_cl cs_inf 107 85 (mj_callS 93 2 2 88) := ms_callS iw_c93 (mi_dec ib_107 dd_107_85) gw_731 iw_s93 iw_n93 (by decide +kernel) rfl (by decide)
theorem ks_107_88 : mi_snd cs_G cs_cl cs_inf 107 88 (mj_if (fun x => decide (x = 0)) 97 91) := ms_if_eq (mi_dec ib_107 dd_107_88) (by decide)
theorem ks_107_91 : mi_snd cs_G cs_cl cs_inf 107 91 (mj_iinc 5 1 94) := ms_iinc (mi_dec ib_107 dd_107_91) (by decide)
theorem ks_107_94 : mi_snd cs_G cs_cl cs_inf 107 94 (mj_goto 81) := ms_goto (mi_dec ib_107 dd_107_94) (by decide)
theorem ks_107_97 : mi_snd cs_G cs_cl cs_inf 107 97 (mj_aload 0 98) := ms_aload_n (mi_dec ib_107 dd_107_97) rfl
theorem ks_107_98 : mi_snd cs_G cs_cl cs_inf 107 98 (mj_get 9 5 101) := ms_get (T := cs_T9) (k := 5) (mi_dec ib_107 dd_107_98) rfl cs_in9 (by decide) gw_641
theorem ks_107_101 : mi_snd cs_G cs_cl cs_inf 107 101 (mj_iload 3 102) := ms_iload_n (mi_dec ib_107 dd_107_101) rfl
theorem ks_107_102 : mi_snd cs_G cs_cl cs_inf 107 102 (mj_iload 5 104) := ms_iload (mi_dec ib_107 dd_107_102)
theorem ks_107_104 : mi_snd cs_G cs_cl cs_inf 107 104 (mj_iast 105) := ms_iast (mi_dec ib_107 dd_107_104)
theorem ks_107_105 : mi_snd cs_G cs_cl cs_inf 107 105 (mj_iload 5 107) := ms_iload (mi_dec ib_107 dd_107_105)
theorem ks_107_107 : mi_snd cs_G cs_cl cs_inf 107 107 (mj_iload 2 108) := ms_iload_n (mi_dec ib_107 dd_107_107) rfl
theorem ks_107_108 : mi_snd cs_G cs_cl cs_inf 107 108 (mj_cmp (fun x y => decide (x ≤ y)) 116 111) := ms_icmp_le (mi_dec ib_107 dd_107_108) (by decide)
theorem ks_107_111 : mi_snd cs_G cs_cl cs_inf 107 111 (mj_iload 5 113) := ms_iload (mi_dec ib_107 dd_107_111)
theorem ks_107_113 : mi_snd cs_G cs_cl cs_inf 107 113 (mj_goto 117) := ms_goto (mi_dec ib_107 dd_107_113) (by decide)
theorem ks_107_116 : mi_snd cs_G cs_cl cs_inf 107 116 (mj_iload 2 117) := ms_iload_n (mi_dec ib_107 dd_107_116) rfl
theorem ks_107_117 : mi_snd cs_G cs_cl cs_inf 107 117 (mj_istore 2 118) := ms_istore_n (mi_dec ib_107 dd_107_117) rfl
theorem ks_107_118 : mi_snd cs_G cs_cl cs_inf 107 118 (mj_iinc 3 1 121) := ms_iinc (mi_dec ib_107 dd_107_118) (by decide)
theorem ks_107_121 : mi_snd cs_G cs_cl cs_inf 107 121 (mj_goto 4) := ms_goto (mi_dec ib_107 dd_107_121) (by decide)
theorem ks_107_124 : mi_snd cs_G cs_cl cs_inf 107 124 (mj_iload 2 125) := ms_iload_n (mi_dec ib_107 dd_107_124) rfl
theorem ks_107_125 : mi_snd cs_G cs_cl cs_inf 107 125 (mj_iret) := ms_iret (mi_dec ib_107 dd_107_125) rfl
def ct_107 : List (Nat × mi_I) := [
  (0, mj_push (.inl 0) 1),
  (1, mj_istore 2 2),
  (2, mj_push (.inl 0) 3),
  (3, mj_istore 3 4),
  (4, mj_iload 3 5),
  (5, mj_aload 0 6),
  (6, mj_get 9 1 9),
  (9, mj_cmp (fun x y => decide (y ≤ x)) 124 12),
  (12, mj_aload 0 13),
  (13, mj_get 9 5 16),
  (16, mj_iload 3 17),
  (17, mj_push (.inl 0) 18),
  (18, mj_iast 19),
  (19, mj_iload 1 20),
  (20, mj_iload 3 21),
  (21, mj_callS 93 2 2 24),
  (24, mj_if (fun x => decide (x = 0)) 118 27),
  (27, mj_push (.inl 0) 28),
  (28, mj_istore 4 30),
  (30, mj_push (.inl 0) 31),
  (31, mj_istore 5 33),
  (33, mj_iload 5 35),
  (35, mj_iload 3 36),
  (36, mj_cmp (fun x y => decide (y ≤ x)) 78 39),
  (39, mj_aload 0 40),
  (40, mj_get 9 3 43),
  (43, mj_iload 3 44),
  (44, mj_ald 0 45),
  (45, mj_iload 5 47),
  (47, mj_callS 93 2 2 50),
  (50, mj_if (fun x => decide (x = 0)) 68 53),
  (53, mj_iload 4 55),
  (55, mj_push (.inl 1) 56),
  (56, mj_aload 0 57),
  (57, mj_get 9 5 60),
  (60, mj_iload 5 62),
  (62, mj_ald 0 63),
  (63, mj_bin (fun x y => x <<< (y &&& 31)) 64),
  (64, mj_bin (fun x y => x ||| y) 65),
  (65, mj_goto 70),
  (68, mj_iload 4 70),
  (70, mj_istore 4 72),
  (72, mj_iinc 5 1 75),
  (75, mj_goto 33),
  (78, mj_push (.inl 1) 79),
  (79, mj_istore 5 81),
  (81, mj_iload 4 83),
  (83, mj_iload 5 85),
  (85, mj_callS 93 2 2 88),
  (88, mj_if (fun x => decide (x = 0)) 97 91),
  (91, mj_iinc 5 1 94),
  (94, mj_goto 81),
  (97, mj_aload 0 98),
  (98, mj_get 9 5 101),
  (101, mj_iload 3 102),
  (102, mj_iload 5 104),
  (104, mj_iast 105),
  (105, mj_iload 5 107),
  (107, mj_iload 2 108),
  (108, mj_cmp (fun x y => decide (x ≤ y)) 116 111),
  (111, mj_iload 5 113),
  (113, mj_goto 117),
  (116, mj_iload 2 117),
  (117, mj_istore 2 118),
  (118, mj_iinc 3 1 121),
  (121, mj_goto 4),
  (124, mj_iload 2 125),
  (125, mj_iret)]
theorem sd_107 : ∀ q ∈ ct_107, mi_snd cs_G cs_cl cs_inf 107 q.1 q.2 := mi_fc ks_107_0 (mi_fc ks_107_1 (mi_fc ks_107_2 (mi_fc ks_107_3 (mi_fc ks_107_4 (mi_fc ks_107_5 (mi_fc ks_107_6 (mi_fc ks_107_9 (mi_fc ks_107_12 (mi_fc ks_107_13 (mi_fc ks_107_16 (mi_fc ks_107_17 (mi_fc ks_107_18 (mi_fc ks_107_19 (mi_fc ks_107_20 (mi_fc ks_107_21 (mi_fc ks_107_24 (mi_fc ks_107_27 (mi_fc ks_107_28 (mi_fc ks_107_30 (mi_fc ks_107_31 (mi_fc ks_107_33 (mi_fc ks_107_35 (mi_fc ks_107_36 (mi_fc ks_107_39 (mi_fc ks_107_40 (mi_fc ks_107_43 (mi_fc ks_107_44 (mi_fc ks_107_45 (mi_fc ks_107_47 (mi_fc ks_107_50 (mi_fc ks_107_53 (mi_fc ks_107_55 (mi_fc ks_107_56 (mi_fc ks_107_57 (mi_fc ks_107_60 (mi_fc ks_107_62 (mi_fc ks_107_63 (mi_fc ks_107_64 (mi_fc ks_107_65 (mi_fc ks_107_68 (mi_fc ks_107_70 (mi_fc ks_107_72 (mi_fc ks_107_75 (mi_fc ks_107_78 (mi_fc ks_107_79 (mi_fc ks_107_81 (mi_fc ks_107_83 (mi_fc ks_107_85 (mi_fc ks_107_88 (mi_fc ks_107_91 (mi_fc ks_107_94 (mi_fc ks_107_97 (mi_fc ks_107_98 (mi_fc ks_107_101 (mi_fc ks_107_102 (mi_fc ks_107_104 (mi_fc ks_107_105 (mi_fc ks_107_107 (mi_fc ks_107_108 (mi_fc ks_107_111 (mi_fc ks_107_113 (mi_fc ks_107_116 (mi_fc ks_107_117 (mi_fc ks_107_118 (mi_fc ks_107_121 (mi_fc ks_107_124 (mi_fc ks_107_125 mi_fn)))))))))))))))))))))))))))))))))))))))))))))))))))))))))))))))))))
theorem dd_108_0 : decode prog_11_method_28_code 0 = .ok (.aload_n 0, 1) := by decide +kernel
theorem dd_108_1 : decode prog_11_method_28_code 1 = .ok (.iconst 0, 1) := by decide +kernel
theorem dd_108_2 : decode prog_11_method_28_code 2 = .ok (.putfield 1, 3) := by decide +kernel
theorem dd_108_5 : decode prog_11_method_28_code 5 = .ok (.iload_n 1, 1) := by decide +kernel
theorem dd_108_6 : decode prog_11_method_28_code 6 = .ok (.iconst 0, 1) := by decide +kernel
theorem dd_108_7 : decode prog_11_method_28_code 7 = .ok (.aload_n 0, 1) := by decide +kernel
theorem dd_108_8 : decode prog_11_method_28_code 8 = .ok (.invokevirtual 58, 3) := by decide +kernel
theorem dd_108_11 : decode prog_11_method_28_code 11 = .ok (.invokestatic 40, 3) := by decide +kernel
theorem dd_108_14 : decode prog_11_method_28_code 14 = .ok (.ifCond .eq 19, 3) := by decide +kernel
theorem dd_108_17 : decode prog_11_method_28_code 17 = .ok (.aload_n 0, 1) := by decide +kernel
theorem dd_108_18 : decode prog_11_method_28_code 18 = .ok (.iload_n 2, 1) := by decide +kernel
theorem dd_108_19 : decode prog_11_method_28_code 19 = .ok (.invokevirtual 44, 3) := by decide +kernel
theorem dd_108_22 : decode prog_11_method_28_code 22 = .ok (.ifCond .ne 11, 3) := by decide +kernel
theorem dd_108_25 : decode prog_11_method_28_code 25 = .ok (.iload_n 1, 1) := by decide +kernel
theorem dd_108_26 : decode prog_11_method_28_code 26 = .ok (.iload_n 2, 1) := by decide +kernel
theorem dd_108_27 : decode prog_11_method_28_code 27 = .ok (.invokestatic 48, 3) := by decide +kernel
theorem dd_108_30 : decode prog_11_method_28_code 30 = .ok (.ifCond .ne 5, 3) := by decide +kernel
theorem dd_108_33 : decode prog_11_method_28_code 33 = .ok (.iconst (-1), 1) := by decide +kernel
theorem dd_108_34 : decode prog_11_method_28_code 34 = .ok (.ireturn, 1) := by decide +kernel
theorem dd_108_35 : decode prog_11_method_28_code 35 = .ok (.aload_n 0, 1) := by decide +kernel
theorem dd_108_36 : decode prog_11_method_28_code 36 = .ok (.iload_n 1, 1) := by decide +kernel
theorem dd_108_37 : decode prog_11_method_28_code 37 = .ok (.invokevirtual 83, 3) := by decide +kernel
theorem dd_108_40 : decode prog_11_method_28_code 40 = .ok (.istore_n 3, 1) := by decide +kernel
theorem dd_108_41 : decode prog_11_method_28_code 41 = .ok (.aload_n 0, 1) := by decide +kernel
theorem dd_108_42 : decode prog_11_method_28_code 42 = .ok (.getfield 23, 3) := by decide +kernel
theorem dd_108_45 : decode prog_11_method_28_code 45 = .ok (.iload_n 2, 1) := by decide +kernel
theorem dd_108_46 : decode prog_11_method_28_code 46 = .ok (.iaload, 1) := by decide +kernel
theorem dd_108_47 : decode prog_11_method_28_code 47 = .ok (.ireturn, 1) := by decide +kernel
theorem ks_108_0 : mi_snd cs_G cs_cl cs_inf 108 0 (mj_aload 0 1) := ms_aload_n (mi_dec ib_108 dd_108_0) rfl
theorem ks_108_1 : mi_snd cs_G cs_cl cs_inf 108 1 (mj_push (.inl 0) 2) := ms_iconst (mi_dec ib_108 dd_108_1) (by decide)
theorem ks_108_2 : mi_snd cs_G cs_cl cs_inf 108 2 (mj_putI 9 0 5) := ms_putI (T := cs_T9) (k := 0) (mi_dec ib_108 dd_108_2) rfl cs_in9 cs_ty9_ok cs_nm9 (by decide) gw_636 (by decide) (by decide +kernel)
theorem ks_108_5 : mi_snd cs_G cs_cl cs_inf 108 5 (mj_iload 1 6) := ms_iload_n (mi_dec ib_108 dd_108_5) rfl
theorem ks_108_6 : mi_snd cs_G cs_cl cs_inf 108 6 (mj_push (.inl 0) 7) := ms_iconst (mi_dec ib_108 dd_108_6) (by decide)
theorem ks_108_7 : mi_snd cs_G cs_cl cs_inf 108 7 (mj_aload 0 8) := ms_aload_n (mi_dec ib_108 dd_108_7) rfl
theorem ks_108_8 : mi_snd cs_G cs_cl cs_inf 108 8 (mj_callV 9 91 0 1 11) := ms_callV iw_c91 (mi_dec ib_108 dd_108_8) gw_723 iw_i91 rfl iw_v91 iw_n91 (by decide +kernel) rfl (by decide)
theorem ks_108_11 : mi_snd cs_G cs_cl cs_inf 108 11 (mj_callS 84 3 3 14) := ms_callS iw_c84 (mi_dec ib_108 dd_108_11) gw_696 iw_s84 iw_n84 (by decide +kernel) rfl (by decide)
theorem ks_108_14 : mi_snd cs_G cs_cl cs_inf 108 14 (mj_if (fun x => decide (x = 0)) 33 17) := ms_if_eq (mi_dec ib_108 dd_108_14) (by decide)
theorem ks_108_17 : mi_snd cs_G cs_cl cs_inf 108 17 (mj_aload 0 18) := ms_aload_n (mi_dec ib_108 dd_108_17) rfl
theorem ks_108_18 : mi_snd cs_G cs_cl cs_inf 108 18 (mj_iload 2 19) := ms_iload_n (mi_dec ib_108 dd_108_18) rfl
theorem ks_108_19 : mi_snd cs_G cs_cl cs_inf 108 19 (mj_callV 9 86 1 2 22) := ms_callV iw_c86 (mi_dec ib_108 dd_108_19) gw_703 iw_i86 rfl iw_v86 iw_n86 (by decide +kernel) rfl (by decide)
theorem ks_108_22 : mi_snd cs_G cs_cl cs_inf 108 22 (mj_if (fun x => decide (¬ x = 0)) 33 25) := ms_if_ne (mi_dec ib_108 dd_108_22) (by decide)
theorem ks_108_25 : mi_snd cs_G cs_cl cs_inf 108 25 (mj_iload 1 26) := ms_iload_n (mi_dec ib_108 dd_108_25) rfl
theorem ks_108_26 : mi_snd cs_G cs_cl cs_inf 108 26 (mj_iload 2 27) := ms_iload_n (mi_dec ib_108 dd_108_26) rfl
theorem ks_108_27 : mi_snd cs_G cs_cl cs_inf 108 27 (mj_callS 93 2 2 30) := ms_callS iw_c93 (mi_dec ib_108 dd_108_27) gw_731 iw_s93 iw_n93 (by decide +kernel) rfl (by decide)
theorem ks_108_30 : mi_snd cs_G cs_cl cs_inf 108 30 (mj_if (fun x => decide (¬ x = 0)) 35 33) := ms_if_ne (mi_dec ib_108 dd_108_30) (by decide)
theorem ks_108_33 : mi_snd cs_G cs_cl cs_inf 108 33 (mj_push (.inl (-1)) 34) := ms_iconst (mi_dec ib_108 dd_108_33) (by decide)
theorem ks_108_34 : mi_snd cs_G cs_cl cs_inf 108 34 (mj_iret) := ms_iret (mi_dec ib_108 dd_108_34) rfl
theorem ks_108_35 : mi_snd cs_G cs_cl cs_inf 108 35 (mj_aload 0 36) := ms_aload_n (mi_dec ib_108 dd_108_35) rfl
theorem ks_108_36 : mi_snd cs_G cs_cl cs_inf 108 36 (mj_iload 1 37) := ms_iload_n (mi_dec ib_108 dd_108_36) rfl
theorem ks_108_37 : mi_snd cs_G cs_cl cs_inf 108 37 (mj_callV 9 107 1 6 40) := ms_callV iw_c107 (mi_dec ib_108 dd_108_37) gw_786 iw_i107 rfl iw_v107 iw_n107 (by decide +kernel) rfl (by decide)
theorem ks_108_40 : mi_snd cs_G cs_cl cs_inf 108 40 (mj_istore 3 41) := ms_istore_n (mi_dec ib_108 dd_108_40) rfl
theorem ks_108_41 : mi_snd cs_G cs_cl cs_inf 108 41 (mj_aload 0 42) := ms_aload_n (mi_dec ib_108 dd_108_41) rfl
theorem ks_108_42 : mi_snd cs_G cs_cl cs_inf 108 42 (mj_get 9 5 45) := ms_get (T := cs_T9) (k := 5) (mi_dec ib_108 dd_108_42) rfl cs_in9 (by decide) gw_641
theorem ks_108_45 : mi_snd cs_G cs_cl cs_inf 108 45 (mj_iload 2 46) := ms_iload_n (mi_dec ib_108 dd_108_45) rfl
theorem ks_108_46 : mi_snd cs_G cs_cl cs_inf 108 46 (mj_ald 0 47) := ms_ald0 (mi_dec ib_108 dd_108_46)
theorem ks_108_47 : mi_snd cs_G cs_cl cs_inf 108 47 (mj_iret) := ms_iret (mi_dec ib_108 dd_108_47) rfl
def ct_108 : List (Nat × mi_I) := [
  (0, mj_aload 0 1),
  (1, mj_push (.inl 0) 2),
  (2, mj_putI 9 0 5),
  (5, mj_iload 1 6),
  (6, mj_push (.inl 0) 7),
  (7, mj_aload 0 8),
  (8, mj_callV 9 91 0 1 11),
  (11, mj_callS 84 3 3 14),
  (14, mj_if (fun x => decide (x = 0)) 33 17),
  (17, mj_aload 0 18),
  (18, mj_iload 2 19),
  (19, mj_callV 9 86 1 2 22),
  (22, mj_if (fun x => decide (¬ x = 0)) 33 25),
  (25, mj_iload 1 26),
  (26, mj_iload 2 27),
  (27, mj_callS 93 2 2 30),
  (30, mj_if (fun x => decide (¬ x = 0)) 35 33),
  (33, mj_push (.inl (-1)) 34),
  (34, mj_iret),
  (35, mj_aload 0 36),
  (36, mj_iload 1 37),
  (37, mj_callV 9 107 1 6 40),
  (40, mj_istore 3 41),
  (41, mj_aload 0 42),
  (42, mj_get 9 5 45),
  (45, mj_iload 2 46),
  (46, mj_ald 0 47),
  (47, mj_iret)]
theorem sd_108 : ∀ q ∈ ct_108, mi_snd cs_G cs_cl cs_inf 108 q.1 q.2 := mi_fc ks_108_0 (mi_fc ks_108_1 (mi_fc ks_108_2 (mi_fc ks_108_5 (mi_fc ks_108_6 (mi_fc ks_108_7 (mi_fc ks_108_8 (mi_fc ks_108_11 (mi_fc ks_108_14 (mi_fc ks_108_17 (mi_fc ks_108_18 (mi_fc ks_108_19 (mi_fc ks_108_22 (mi_fc ks_108_25 (mi_fc ks_108_26 (mi_fc ks_108_27 (mi_fc ks_108_30 (mi_fc ks_108_33 (mi_fc ks_108_34 (mi_fc ks_108_35 (mi_fc ks_108_36 (mi_fc ks_108_37 (mi_fc ks_108_40 (mi_fc ks_108_41 (mi_fc ks_108_42 (mi_fc ks_108_45 (mi_fc ks_108_46 (mi_fc ks_108_47 mi_fn)))))))))))))))))))))))))))
theorem dd_109_0 : decode prog_11_method_30_code 0 = .ok (.aload_n 0, 1) := by decide +kernel
theorem dd_109_1 : decode prog_11_method_30_code 1 = .ok (.iconst 0, 1) := by decide +kernel
theorem dd_109_2 : decode prog_11_method_30_code 2 = .ok (.putfield 1, 3) := by decide +kernel
theorem dd_109_5 : decode prog_11_method_30_code 5 = .ok (.aload_n 0, 1) := by decide +kernel
theorem dd_109_6 : decode prog_11_method_30_code 6 = .ok (.invokevirtual 86, 3) := by decide +kernel
theorem dd_109_9 : decode prog_11_method_30_code 9 = .ok (.iload_n 1, 1) := by decide +kernel
theorem dd_109_10 : decode prog_11_method_30_code 10 = .ok (.iconst 0, 1) := by decide +kernel
theorem dd_109_11 : decode prog_11_method_30_code 11 = .ok (.aload_n 0, 1) := by decide +kernel
theorem dd_109_12 : decode prog_11_method_30_code 12 = .ok (.getfield 37, 3) := by decide +kernel
theorem dd_109_15 : decode prog_11_method_30_code 15 = .ok (.iconst 1, 1) := by decide +kernel
theorem dd_109_16 : decode prog_11_method_30_code 16 = .ok (.isub, 1) := by decide +kernel
theorem dd_109_17 : decode prog_11_method_30_code 17 = .ok (.invokestatic 40, 3) := by decide +kernel
theorem dd_109_20 : decode prog_11_method_30_code 20 = .ok (.ifCond .eq 12, 3) := by decide +kernel
theorem dd_109_23 : decode prog_11_method_30_code 23 = .ok (.aload_n 0, 1) := by decide +kernel
theorem dd_109_24 : decode prog_11_method_30_code 24 = .ok (.getfield 26, 3) := by decide +kernel
theorem dd_109_27 : decode prog_11_method_30_code 27 = .ok (.iload_n 1, 1) := by decide +kernel
theorem dd_109_28 : decode prog_11_method_30_code 28 = .ok (.iaload, 1) := by decide +kernel
theorem dd_109_29 : decode prog_11_method_30_code 29 = .ok (.goto 4, 3) := by decide +kernel
theorem dd_109_32 : decode prog_11_method_30_code 32 = .ok (.iconst (-1), 1) := by decide +kernel
theorem dd_109_33 : decode prog_11_method_30_code 33 = .ok (.ireturn, 1) := by decide +kernel
theorem ks_109_0 : mi_snd cs_G cs_cl cs_inf 109 0 (mj_aload 0 1) := ms_aload_n (mi_dec ib_109 dd_109_0) rfl
theorem ks_109_1 : mi_snd cs_G cs_cl cs_inf 109 1 (mj_push (.inl 0) 2) := ms_iconst (mi_dec ib_109 dd_109_1) (by decide)
theorem ks_109_2 : mi_snd cs_G cs_cl cs_inf 109 2 (mj_putI 9 0 5) := ms_putI (T := cs_T9) (k := 0) (mi_dec ib_109 dd_109_2) rfl cs_in9 cs_ty9_ok cs_nm9 (by decide) gw_636 (by decide) (by decide +kernel)
theorem ks_109_5 : mi_snd cs_G cs_cl cs_inf 109 5 (mj_aload 0 6) := ms_aload_n (mi_dec ib_109 dd_109_5) rfl
theorem ks_109_6 : mi_snd cs_G cs_cl cs_inf 109 6 (mj_callV 9 110 0 6 9) := ms_callV iw_c110 (mi_dec ib_109 dd_109_6) gw_798 iw_i110 rfl iw_v110 iw_n110 (by decide +kernel) rfl (by decide)
theorem ks_109_9 : mi_snd cs_G cs_cl cs_inf 109 9 (mj_iload 1 10) := ms_iload_n (mi_dec ib_109 dd_109_9) rfl
theorem ks_109_10 : mi_snd cs_G cs_cl cs_inf 109 10 (mj_push (.inl 0) 11) := ms_iconst (mi_dec ib_109 dd_109_10) (by decide)
theorem ks_109_11 : mi_snd cs_G cs_cl cs_inf 109 11 (mj_aload 0 12) := ms_aload_n (mi_dec ib_109 dd_109_11) rfl
theorem ks_109_12 : mi_snd cs_G cs_cl cs_inf 109 12 (mj_get 9 1 15) := ms_get (T := cs_T9) (k := 1) (mi_dec ib_109 dd_109_12) rfl cs_in9 (by decide) gw_637
theorem ks_109_15 : mi_snd cs_G cs_cl cs_inf 109 15 (mj_push (.inl 1) 16) := ms_iconst (mi_dec ib_109 dd_109_15) (by decide)
theorem ks_109_16 : mi_snd cs_G cs_cl cs_inf 109 16 (mj_bin (fun x y => x - y) 17) := ms_isub (mi_dec ib_109 dd_109_16)
theorem ks_109_17 : mi_snd cs_G cs_cl cs_inf 109 17 (mj_callS 84 3 3 20) := ms_callS iw_c84 (mi_dec ib_109 dd_109_17) gw_696 iw_s84 iw_n84 (by decide +kernel) rfl (by decide)
theorem ks_109_20 : mi_snd cs_G cs_cl cs_inf 109 20 (mj_if (fun x => decide (x = 0)) 32 23) := ms_if_eq (mi_dec ib_109 dd_109_20) (by decide)
theorem ks_109_23 : mi_snd cs_G cs_cl cs_inf 109 23 (mj_aload 0 24) := ms_aload_n (mi_dec ib_109 dd_109_23) rfl
theorem ks_109_24 : mi_snd cs_G cs_cl cs_inf 109 24 (mj_get 9 6 27) := ms_get (T := cs_T9) (k := 6) (mi_dec ib_109 dd_109_24) rfl cs_in9 (by decide) gw_642
theorem ks_109_27 : mi_snd cs_G cs_cl cs_inf 109 27 (mj_iload 1 28) := ms_iload_n (mi_dec ib_109 dd_109_27) rfl
theorem ks_109_28 : mi_snd cs_G cs_cl cs_inf 109 28 (mj_ald 0 29) := ms_ald0 (mi_dec ib_109 dd_109_28)
theorem ks_109_29 : mi_snd cs_G cs_cl cs_inf 109 29 (mj_goto 33) := ms_goto (mi_dec ib_109 dd_109_29) (by decide)
theorem ks_109_32 : mi_snd cs_G cs_cl cs_inf 109 32 (mj_push (.inl (-1)) 33) := ms_iconst (mi_dec ib_109 dd_109_32) (by decide)
theorem ks_109_33 : mi_snd cs_G cs_cl cs_inf 109 33 (mj_iret) := ms_iret (mi_dec ib_109 dd_109_33) rfl
def ct_109 : List (Nat × mi_I) := [
  (0, mj_aload 0 1),
  (1, mj_push (.inl 0) 2),
  (2, mj_putI 9 0 5),
  (5, mj_aload 0 6),
  (6, mj_callV 9 110 0 6 9),
  (9, mj_iload 1 10),
  (10, mj_push (.inl 0) 11),
  (11, mj_aload 0 12),
  (12, mj_get 9 1 15),
  (15, mj_push (.inl 1) 16),
  (16, mj_bin (fun x y => x - y) 17),
  (17, mj_callS 84 3 3 20),
  (20, mj_if (fun x => decide (x = 0)) 32 23),
  (23, mj_aload 0 24),
  (24, mj_get 9 6 27),
  (27, mj_iload 1 28),
  (28, mj_ald 0 29),
  (29, mj_goto 33),
  (32, mj_push (.inl (-1)) 33),
  (33, mj_iret)]
theorem sd_109 : ∀ q ∈ ct_109, mi_snd cs_G cs_cl cs_inf 109 q.1 q.2 := mi_fc ks_109_0 (mi_fc ks_109_1 (mi_fc ks_109_2 (mi_fc ks_109_5 (mi_fc ks_109_6 (mi_fc ks_109_9 (mi_fc ks_109_10 (mi_fc ks_109_11 (mi_fc ks_109_12 (mi_fc ks_109_15 (mi_fc ks_109_16 (mi_fc ks_109_17 (mi_fc ks_109_20 (mi_fc ks_109_23 (mi_fc ks_109_24 (mi_fc ks_109_27 (mi_fc ks_109_28 (mi_fc ks_109_29 (mi_fc ks_109_32 (mi_fc ks_109_33 mi_fn)))))))))))))))))))
theorem dd_110_0 : decode prog_11_method_29_code 0 = .ok (.aload_n 0, 1) := by decide +kernel
theorem dd_110_1 : decode prog_11_method_29_code 1 = .ok (.invokevirtual 58, 3) := by decide +kernel
theorem dd_110_4 : decode prog_11_method_29_code 4 = .ok (.istore_n 1, 1) := by decide +kernel
theorem dd_110_5 : decode prog_11_method_29_code 5 = .ok (.iconst 0, 1) := by decide +kernel
theorem dd_110_6 : decode prog_11_method_29_code 6 = .ok (.istore_n 2, 1) := by decide +kernel
theorem dd_110_7 : decode prog_11_method_29_code 7 = .ok (.iconst 0, 1) := by decide +kernel
theorem dd_110_8 : decode prog_11_method_29_code 8 = .ok (.istore_n 3, 1) := by decide +kernel
theorem dd_110_9 : decode prog_11_method_29_code 9 = .ok (.iload_n 3, 1) := by decide +kernel
theorem dd_110_10 : decode prog_11_method_29_code 10 = .ok (.aload_n 0, 1) := by decide +kernel
theorem dd_110_11 : decode prog_11_method_29_code 11 = .ok (.getfield 37, 3) := by decide +kernel
theorem dd_110_14 : decode prog_11_method_29_code 14 = .ok (.if_icmp .ge 127, 3) := by decide +kernel
theorem dd_110_17 : decode prog_11_method_29_code 17 = .ok (.iconst (-1), 1) := by decide +kernel
theorem dd_110_18 : decode prog_11_method_29_code 18 = .ok (.istore 4, 2) := by decide +kernel
theorem dd_110_20 : decode prog_11_method_29_code 20 = .ok (.iconst 0, 1) := by decide +kernel
theorem dd_110_21 : decode prog_11_method_29_code 21 = .ok (.istore 5, 2) := by decide +kernel
theorem dd_110_23 : decode prog_11_method_29_code 23 = .ok (.iload 5, 2) := by decide +kernel
theorem dd_110_25 : decode prog_11_method_29_code 25 = .ok (.aload_n 0, 1) := by decide +kernel
theorem dd_110_26 : decode prog_11_method_29_code 26 = .ok (.getfield 37, 3) := by decide +kernel
theorem dd_110_29 : decode prog_11_method_29_code 29 = .ok (.if_icmp .ge 54, 3) := by decide +kernel
theorem dd_110_32 : decode prog_11_method_29_code 32 = .ok (.iload_n 1, 1) := by decide +kernel
theorem dd_110_33 : decode prog_11_method_29_code 33 = .ok (.iload 5, 2) := by decide +kernel
theorem dd_110_35 : decode prog_11_method_29_code 35 = .ok (.invokestatic 48, 3) := by decide +kernel
theorem dd_110_38 : decode prog_11_method_29_code 38 = .ok (.ifCond .eq 39, 3) := by decide +kernel
theorem dd_110_41 : decode prog_11_method_29_code 41 = .ok (.iload 4, 2) := by decide +kernel
theorem dd_110_43 : decode prog_11_method_29_code 43 = .ok (.ifCond .lt 30, 3) := by decide +kernel
theorem dd_110_46 : decode prog_11_method_29_code 46 = .ok (.iload_n 1, 1) := by decide +kernel
theorem dd_110_47 : decode prog_11_method_29_code 47 = .ok (.aload_n 0, 1) := by decide +kernel
theorem dd_110_48 : decode prog_11_method_29_code 48 = .ok (.getfield 17, 3) := by decide +kernel
theorem dd_110_51 : decode prog_11_method_29_code 51 = .ok (.iload 5, 2) := by decide +kernel
theorem dd_110_53 : decode prog_11_method_29_code 53 = .ok (.iaload, 1) := by decide +kernel
theorem dd_110_54 : decode prog_11_method_29_code 54 = .ok (.iand, 1) := by decide +kernel
theorem dd_110_55 : decode prog_11_method_29_code 55 = .ok (.invokestatic 52, 3) := by decide +kernel
theorem dd_110_58 : decode prog_11_method_29_code 58 = .ok (.iload_n 1, 1) := by decide +kernel
theorem dd_110_59 : decode prog_11_method_29_code 59 = .ok (.aload_n 0, 1) := by decide +kernel
theorem dd_110_60 : decode prog_11_method_29_code 60 = .ok (.getfield 17, 3) := by decide +kernel
theorem dd_110_63 : decode prog_11_method_29_code 63 = .ok (.iload 4, 2) := by decide +kernel
theorem dd_110_65 : decode prog_11_method_29_code 65 = .ok (.iaload, 1) := by decide +kernel
theorem dd_110_66 : decode prog_11_method_29_code 66 = .ok (.iand, 1) := by decide +kernel
theorem dd_110_67 : decode prog_11_method_29_code 67 = .ok (.invokestatic 52, 3) := by decide +kernel
theorem dd_110_70 : decode prog_11_method_29_code 70 = .ok (.if_icmp .ge 7, 3) := by decide +kernel
theorem dd_110_73 : decode prog_11_method_29_code 73 = .ok (.iload 5, 2) := by decide +kernel
theorem dd_110_75 : decode prog_11_method_29_code 75 = .ok (.istore 4, 2) := by decide +kernel
theorem dd_110_77 : decode prog_11_method_29_code 77 = .ok (.iinc 5 1, 3) := by decide +kernel
theorem dd_110_80 : decode prog_11_method_29_code 80 = .ok (.goto (-57), 3) := by decide +kernel
theorem dd_110_83 : decode prog_11_method_29_code 83 = .ok (.iload_n 1, 1) := by decide +kernel
theorem dd_110_84 : decode prog_11_method_29_code 84 = .ok (.aload_n 0, 1) := by decide +kernel
theorem dd_110_85 : decode prog_11_method_29_code 85 = .ok (.getfield 17, 3) := by decide +kernel
theorem dd_110_88 : decode prog_11_method_29_code 88 = .ok (.iload 4, 2) := by decide +kernel
theorem dd_110_90 : decode prog_11_method_29_code 90 = .ok (.iaload, 1) := by decide +kernel
theorem dd_110_91 : decode prog_11_method_29_code 91 = .ok (.iand, 1) := by decide +kernel
theorem dd_110_92 : decode prog_11_method_29_code 92 = .ok (.invokestatic 52, 3) := by decide +kernel
theorem dd_110_95 : decode prog_11_method_29_code 95 = .ok (.istore 5, 2) := by decide +kernel
theorem dd_110_97 : decode prog_11_method_29_code 97 = .ok (.iload 5, 2) := by decide +kernel
theorem dd_110_99 : decode prog_11_method_29_code 99 = .ok (.iload_n 2, 1) := by decide +kernel
theorem dd_110_100 : decode prog_11_method_29_code 100 = .ok (.if_icmp .le 8, 3) := by decide +kernel
theorem dd_110_103 : decode prog_11_method_29_code 103 = .ok (.iload 5, 2) := by decide +kernel
theorem dd_110_105 : decode prog_11_method_29_code 105 = .ok (.goto 4, 3) := by decide +kernel
theorem dd_110_108 : decode prog_11_method_29_code 108 = .ok (.iload_n 2, 1) := by decide +kernel
theorem dd_110_109 : decode prog_11_method_29_code 109 = .ok (.istore_n 2, 1) := by decide +kernel
theorem dd_110_110 : decode prog_11_method_29_code 110 = .ok (.aload_n 0, 1) := by decide +kernel
theorem dd_110_111 : decode prog_11_method_29_code 111 = .ok (.getfield 26, 3) := by decide +kernel
theorem dd_110_114 : decode prog_11_method_29_code 114 = .ok (.iload_n 3, 1) := by decide +kernel
theorem dd_110_115 : decode prog_11_method_29_code 115 = .ok (.iload 4, 2) := by decide +kernel
theorem dd_110_117 : decode prog_11_method_29_code 117 = .ok (.iastore, 1) := by decide +kernel
theorem dd_110_118 : decode prog_11_method_29_code 118 = .ok (.aload_n 0, 1) := by decide +kernel
theorem dd_110_119 : decode prog_11_method_29_code 119 = .ok (.getfield 29, 3) := by decide +kernel
theorem dd_110_122 : decode prog_11_method_29_code 122 = .ok (.iload 4, 2) := by decide +kernel
theorem dd_110_124 : decode prog_11_method_29_code 124 = .ok (.iload_n 2, 1) := by decide +kernel
theorem dd_110_125 : decode prog_11_method_29_code 125 = .ok (.iastore, 1) := by decide +kernel
theorem dd_110_126 : decode prog_11_method_29_code 126 = .ok (.iload_n 1, 1) := by decide +kernel
theorem dd_110_127 : decode prog_11_method_29_code 127 = .ok (.iconst 1, 1) := by decide +kernel
theorem dd_110_128 : decode prog_11_method_29_code 128 = .ok (.iload 4, 2) := by decide +kernel
theorem dd_110_130 : decode prog_11_method_29_code 130 = .ok (.ishl, 1) := by decide +kernel
theorem dd_110_131 : decode prog_11_method_29_code 131 = .ok (.iconst (-1), 1) := by decide +kernel
theorem dd_110_132 : decode prog_11_method_29_code 132 = .ok (.ixor, 1) := by decide +kernel
theorem dd_110_133 : decode prog_11_method_29_code 133 = .ok (.iand, 1) := by decide +kernel
theorem dd_110_134 : decode prog_11_method_29_code 134 = .ok (.istore_n 1, 1) := by decide +kernel
theorem dd_110_135 : decode prog_11_method_29_code 135 = .ok (.iinc 3 1, 3) := by decide +kernel
theorem dd_110_138 : decode prog_11_method_29_code 138 = .ok (.goto (-129), 3) := by decide +kernel
theorem dd_110_141 : decode prog_11_method_29_code 141 = .ok (.return_, 1) := by decide +kernel
theorem ks_110_0 : mi_snd cs_G cs_cl cs_inf 110 0 (mj_aload 0 1) := ms_aload_n (mi_dec ib_110 dd_110_0) rfl
theorem ks_110_1 : mi_snd cs_G cs_cl cs_inf 110 1 (mj_callV 9 91 0 1 4) := ms_callV iw_c91 (mi_dec ib_110 dd_110_1) gw_723 iw_i91 rfl iw_v91 iw_n91 (by decide +kernel) rfl (by decide)
theorem ks_110_4 : mi_snd cs_G cs_cl cs_inf 110 4 (mj_istore 1 5) := ms_istore_n (mi_dec ib_110 dd_110_4) rfl
theorem ks_110_5 : mi_snd cs_G cs_cl cs_inf 110 5 (mj_push (.inl 0) 6) := ms_iconst (mi_dec ib_110 dd_110_5) (by decide)
theorem ks_110_6 : mi_snd cs_G cs_cl cs_inf 110 6 (mj_istore 2 7) := ms_istore_n (mi_dec ib_110 dd_110_6) rfl
theorem ks_110_7 : mi_snd cs_G cs_cl cs_inf 110 7 (mj_push (.inl 0) 8) := ms_iconst (mi_dec ib_110 dd_110_7) (by decide)
theorem ks_110_8 : mi_snd cs_G cs_cl cs_inf 110 8 (mj_istore 3 9) := ms_istore_n (mi_dec ib_110 dd_110_8) rfl
theorem ks_110_9 : mi_snd cs_G cs_cl cs_inf 110 9 (mj_iload 3 10) := ms_iload_n (mi_dec ib_110 dd_110_9) rfl
theorem ks_110_10 : mi_snd cs_G cs_cl cs_inf 110 10 (mj_aload 0 11) := ms_aload_n (mi_dec ib_110 dd_110_10) rfl
theorem ks_110_11 : mi_snd cs_G cs_cl cs_inf 110 11 (mj_get 9 1 14) := ms_get (T := cs_T9) (k := 1) (mi_dec ib_110 dd_110_11) rfl cs_in9 (by decide) gw_637
theorem ks_110_14 : mi_snd cs_G cs_cl cs_inf 110 14 (mj_cmp (fun x y => decide (y ≤ x)) 141 17) := ms_icmp_ge (mi_dec ib_110 dd_110_14) (by decide)
theorem ks_110_17 : mi_snd cs_G cs_cl cs_inf 110 17 (mj_push (.inl (-1)) 18) := ms_iconst (mi_dec ib_110 dd_110_17) (by decide)
theorem ks_110_18 : mi_snd cs_G cs_cl cs_inf 110 18 (mj_istore 4 20) := ms_istore (mi_dec ib_110 dd_110_18)
theorem ks_110_20 : mi_snd cs_G cs_cl cs_inf 110 20 (mj_push (.inl 0) 21) := ms_iconst (mi_dec ib_110 dd_110_20) (by decide)
theorem ks_110_21 : mi_snd cs_G cs_cl cs_inf 110 21 (mj_istore 5 23) := ms_istore (mi_dec ib_110 dd_110_21)
theorem ks_110_23 : mi_snd cs_G cs_cl cs_inf 110 23 (mj_iload 5 25) := ms_iload (mi_dec ib_110 dd_110_23)
theorem ks_110_25 : mi_snd cs_G cs_cl cs_inf 110 25 (mj_aload 0 26) := ms_aload_n (mi_dec ib_110 dd_110_25) rfl
theorem ks_110_26 : mi_snd cs_G cs_cl cs_inf 110 26 (mj_get 9 1 29) := ms_get (T := cs_T9) (k := 1) (mi_dec ib_110 dd_110_26) rfl cs_in9 (by decide) gw_637
theorem ks_110_29 : mi_snd cs_G cs_cl cs_inf 110 29 (mj_cmp (fun x y => decide (y ≤ x)) 83 32) := ms_icmp_ge (mi_dec ib_110 dd_110_29) (by decide)
theorem ks_110_32 : mi_snd cs_G cs_cl cs_inf 110 32 (mj_iload 1 33) := ms_iload_n (mi_dec ib_110 dd_110_32) rfl
theorem ks_110_33 : mi_snd cs_G cs_cl cs_inf 110 33 (mj_iload 5 35) := ms_iload (mi_dec ib_110 dd_110_33)
theorem ks_110_35 : mi_snd cs_G cs_cl cs_inf 110 35 (mj_callS 93 2 2 38) := ms_callS iw_c93 (mi_dec ib_110 dd_110_35) gw_731 iw_s93 iw_n93 (by decide +kernel) rfl (by decide)
theorem ks_110_38 : mi_snd cs_G cs_cl cs_inf 110 38 (mj_if (fun x => decide (x = 0)) 77 41) := ms_if_eq (mi_dec ib_110 dd_110_38) (by decide)
theorem ks_110_41 : mi_snd cs_G cs_cl cs_inf 110 41 (mj_iload 4 43) := ms_iload (mi_dec ib_110 dd_110_41)
theorem ks_110_43 : mi_snd cs_G cs_cl cs_inf 110 43 (mj_if (fun x => decide (x < 0)) 73 46) := ms_if_lt (mi_dec ib_110 dd_110_43) (by decide)
theorem ks_110_46 : mi_snd cs_G cs_cl cs_inf 110 46 (mj_iload 1 47) := ms_iload_n (mi_dec ib_110 dd_110_46) rfl
theorem ks_110_47 : mi_snd cs_G cs_cl cs_inf 110 47 (mj_aload 0 48) := ms_aload_n (mi_dec ib_110 dd_110_47) rfl
theorem ks_110_48 : mi_snd cs_G cs_cl cs_inf 110 48 (mj_get 9 3 51) := ms_get (T := cs_T9) (k := 3) (mi_dec ib_110 dd_110_48) rfl cs_in9 (by decide) gw_639
theorem ks_110_51 : mi_snd cs_G cs_cl cs_inf 110 51 (mj_iload 5 53) := ms_iload (mi_dec ib_110 dd_110_51)
theorem ks_110_53 : mi_snd cs_G cs_cl cs_inf 110 53 (mj_ald 0 54) := ms_ald0 (mi_dec ib_110 dd_110_53)
theorem ks_110_54 : mi_snd cs_G cs_cl cs_inf 110 54 (mj_bin (fun x y => x &&& y) 55) := ms_iand (mi_dec ib_110 dd_110_54)
theorem ks_110_55 : mi_snd cs_G cs_cl cs_inf 110 55 (mj_callS 20 1 1 58) := ms_callS iw_c20 (mi_dec ib_110 dd_110_55) gw_734 iw_s20 iw_n20 (by decide +kernel) rfl (by decide)
theorem ks_110_58 : mi_snd cs_G cs_cl cs_inf 110 58 (mj_iload 1 59) := ms_iload_n (mi_dec ib_110 dd_110_58) rfl
theorem ks_110_59 : mi_snd cs_G cs_cl cs_inf 110 59 (mj_aload 0 60) := ms_aload_n (mi_dec ib_110 dd_110_59) rfl
theorem ks_110_60 : mi_snd cs_G cs_cl cs_inf 110 60 (mj_get 9 3 63) := ms_get (T := cs_T9) (k := 3) (mi_dec ib_110 dd_110_60) rfl cs_in9 (by decide) gw_639
theorem ks_110_63 : mi_snd cs_G cs_cl cs_inf 110 63 (mj_iload 4 65) := ms_iload (mi_dec ib_110 dd_110_63)
theorem ks_110_65 : mi_snd cs_G cs_cl cs_inf 110 65 (mj_ald 0 66) := ms_ald0 (mi_dec ib_110 dd_110_65)
theorem ks_110_66 : mi_snd cs_G cs_cl cs_inf 110 66 (mj_bin (fun x y => x &&& y) 67) := ms_iand (mi_dec ib_110 dd_110_66)
theorem ks_110_67 : mi_snd cs_G cs_cl cs_inf 110 67 (mj_callS 20 1 1 70) := ms_callS iw_c20 (mi_dec ib_110 dd_110_67) gw_734 iw_s20 iw_n20 (by decide +kernel) rfl (by decide)
theorem ks_110_70 : mi_snd cs_G cs_cl cs_inf 110 70 (mj_cmp (fun x y => decide (y ≤ x)) 77 73) := ms_icmp_ge (mi_dec ib_110 dd_110_70) (by decide)
theorem ks_110_73 : mi_snd cs_G cs_cl cs_inf 110 73 (mj_iload 5 75) := ms_iload (mi_dec ib_110 dd_110_73)
theorem ks_110_75 : mi_snd cs_G cs_cl cs_inf 110 75 (mj_istore 4 77) := ms_istore (mi_dec ib_110 dd_110_75)
theorem ks_110_77 : mi_snd cs_G cs_cl cs_inf 110 77 (mj_iinc 5 1 80) := ms_iinc (mi_dec ib_110 dd_110_77) (by decide)
theorem ks_110_80 : mi_snd cs_G cs_cl cs_inf 110 80 (mj_goto 23) := ms_goto (mi_dec ib_110 dd_110_80) (by decide)
theorem ks_110_83 : mi_snd cs_G cs_cl cs_inf 110 83 (mj_iload 1 84) := ms_iload_n (mi_dec ib_110 dd_110_83) rfl
theorem ks_110_84 : mi_snd cs_G cs_cl cs_inf 110 84 (mj_aload 0 85) := ms_aload_n (mi_dec ib_110 dd_110_84) rfl
theorem ks_110_85 : mi_snd cs_G cs_cl cs_inf 110 85 (mj_get 9 3 88) := ms_get (T := cs_T9) (k := 3) (mi_dec ib_110 dd_110_85) rfl cs_in9 (by decide) gw_639
theorem ks_110_88 : mi_snd cs_G cs_cl cs_inf 110 88 (mj_iload 4 90) := ms_iload (mi_dec ib_110 dd_110_88)
theorem ks_110_90 : mi_snd cs_G cs_cl cs_inf 110 90 (mj_ald 0 91) := ms_ald0 (mi_dec ib_110 dd_110_90)
theorem ks_110_91 : mi_snd cs_G cs_cl cs_inf 110 91 (mj_bin (fun x y => x &&& y) 92) := ms_iand (mi_dec ib_110 dd_110_91)
theorem ks_110_92 : mi_snd cs_G cs_cl cs_inf 110 92 (mj_callS 20 1 1 95) := ms_callS iw_c20 (mi_dec ib_110 dd_110_92) gw_734 iw_s20 iw_n20 (by decide +kernel) rfl (by decide)
theorem ks_110_95 : mi_snd cs_G cs_cl cs_inf 110 95 (mj_istore 5 97) := ms_istore (mi_dec ib_110 dd_110_95)
theorem ks_110_97 : mi_snd cs_G cs_cl cs_inf 110 97 (mj_iload 5 99) := ms_iload (mi_dec ib_110 dd_110_97)
theorem ks_110_99 : mi_snd cs_G cs_cl cs_inf 110 99 (mj_iload 2 100) := ms_iload_n (mi_dec ib_110 dd_110_99) rfl
theorem ks_110_100 : mi_snd cs_G cs_cl cs_inf 110 100 (mj_cmp (fun x y => decide (x ≤ y)) 108 103) := ms_icmp_le (mi_dec ib_110 dd_110_100) (by decide)
theorem ks_110_103 : mi_snd cs_G cs_cl cs_inf 110 103 (mj_iload 5 105) := ms_iload (mi_dec ib_110 dd_110_103)
theorem ks_110_105 : mi_snd cs_G cs_cl cs_inf 110 105 (mj_goto 109) := ms_goto (mi_dec ib_110 dd_110_105) (by decide)
theorem ks_110_108 : mi_snd cs_G cs_cl cs_inf 110 108 (mj_iload 2 109) := ms_iload_n (mi_dec ib_110 dd_110_108) rfl
theorem ks_110_109 : mi_snd cs_G cs_cl cs_inf 110 109 (mj_istore 2 110) := ms_istore_n (mi_dec ib_110 dd_110_109) rfl
theorem ks_110_110 : mi_snd cs_G cs_cl cs_inf 110 110 (mj_aload 0 111) := ms_aload_n (mi_dec ib_110 dd_110_110) rfl
theorem ks_110_111 : mi_snd cs_G cs_cl cs_inf 110 111 (mj_get 9 6 114) := ms_get (T := cs_T9) (k := 6) (mi_dec ib_110 dd_110_111) rfl cs_in9 (by decide) gw_642
theorem ks_110_114 : mi_snd cs_G cs_cl cs_inf 110 114 (mj_iload 3 115) := ms_iload_n (mi_dec ib_110 dd_110_114) rfl
theorem ks_110_115 : mi_snd cs_G cs_cl cs_inf 110 115 (mj_iload 4 117) := ms_iload (mi_dec ib_110 dd_110_115)
theorem ks_110_117 : mi_snd cs_G cs_cl cs_inf 110 117 (mj_iast 118) := ms_iast (mi_dec ib_110 dd_110_117)
theorem ks_110_118 : mi_snd cs_G cs_cl cs_inf 110 118 (mj_aload 0 119) := ms_aload_n (mi_dec ib_110 dd_110_118) rfl
theorem ks_110_119 : mi_snd cs_G cs_cl cs_inf 110 119 (mj_get 9 7 122) := ms_get (T := cs_T9) (k := 7) (mi_dec ib_110 dd_110_119) rfl cs_in9 (by decide) gw_643
theorem ks_110_122 : mi_snd cs_G cs_cl cs_inf 110 122 (mj_iload 4 124) := ms_iload (mi_dec ib_110 dd_110_122)
theorem ks_110_124 : mi_snd cs_G cs_cl cs_inf 110 124 (mj_iload 2 125) := ms_iload_n (mi_dec ib_110 dd_110_124) rfl
theorem ks_110_125 : mi_snd cs_G cs_cl cs_inf 110 125 (mj_iast 126) := ms_iast (mi_dec ib_110 dd_110_125)
theorem ks_110_126 : mi_snd cs_G cs_cl cs_inf 110 126 (mj_iload 1 127) := ms_iload_n (mi_dec ib_110 dd_110_126) rfl
theorem ks_110_127 : mi_snd cs_G cs_cl cs_inf 110 127 (mj_push (.inl 1) 128) := ms_iconst (mi_dec ib_110 dd_110_127) (by decide)
theorem ks_110_128 : mi_snd cs_G cs_cl cs_inf 110 128 (mj_iload 4 130) := ms_iload (mi_dec ib_110 dd_110_128)
theorem ks_110_130 : mi_snd cs_G cs_cl cs_inf 110 130 (mj_bin (fun x y => x <<< (y &&& 31)) 131) := ms_ishl (mi_dec ib_110 dd_110_130)
theorem ks_110_131 : mi_snd cs_G cs_cl cs_inf 110 131 (mj_push (.inl (-1)) 132) := ms_iconst (mi_dec ib_110 dd_110_131) (by decide)
theorem ks_110_132 : mi_snd cs_G cs_cl cs_inf 110 132 (mj_bin (fun x y => x ^^^ y) 133) := ms_ixor (mi_dec ib_110 dd_110_132)
theorem ks_110_133 : mi_snd cs_G cs_cl cs_inf 110 133 (mj_bin (fun x y => x &&& y) 134) := ms_iand (mi_dec ib_110 dd_110_133)
theorem ks_110_134 : mi_snd cs_G cs_cl cs_inf 110 134 (mj_istore 1 135) := ms_istore_n (mi_dec ib_110 dd_110_134) rfl
theorem ks_110_135 : mi_snd cs_G cs_cl cs_inf 110 135 (mj_iinc 3 1 138) := ms_iinc (mi_dec ib_110 dd_110_135) (by decide)
theorem ks_110_138 : mi_snd cs_G cs_cl cs_inf 110 138 (mj_goto 9) := ms_goto (mi_dec ib_110 dd_110_138) (by decide)
theorem ks_110_141 : mi_snd cs_G cs_cl cs_inf 110 141 (mj_ret) := ms_ret (mi_dec ib_110 dd_110_141) rfl
def ct_110 : List (Nat × mi_I) := [
  (0, mj_aload 0 1),
  (1, mj_callV 9 91 0 1 4),
  (4, mj_istore 1 5),
  (5, mj_push (.inl 0) 6),
  (6, mj_istore 2 7),
  (7, mj_push (.inl 0) 8),
  (8, mj_istore 3 9),
  (9, mj_iload 3 10),
  (10, mj_aload 0 11),
  (11, mj_get 9 1 14),
  (14, mj_cmp (fun x y => decide (y ≤ x)) 141 17),
  (17, mj_push (.inl (-1)) 18),
  (18, mj_istore 4 20),
  (20, mj_push (.inl 0) 21),
  (21, mj_istore 5 23),
  (23, mj_iload 5 25),
  (25, mj_aload 0 26),
  (26, mj_get 9 1 29),
  (29, mj_cmp (fun x y => decide (y ≤ x)) 83 32),
  (32, mj_iload 1 33),
  (33, mj_iload 5 35),
  (35, mj_callS 93 2 2 38),
  (38, mj_if (fun x => decide (x = 0)) 77 41),
  (41, mj_iload 4 43),
  (43, mj_if (fun x => decide (x < 0)) 73 46),
  (46, mj_iload 1 47),
  (47, mj_aload 0 48),
  (48, mj_get 9 3 51),
  (51, mj_iload 5 53),
  (53, mj_ald 0 54),
  (54, mj_bin (fun x y => x &&& y) 55),
  (55, mj_callS 20 1 1 58),
  (58, mj_iload 1 59),
  (59, mj_aload 0 60),
  (60, mj_get 9 3 63),
  (63, mj_iload 4 65),
  (65, mj_ald 0 66),
  (66, mj_bin (fun x y => x &&& y) 67),
  (67, mj_callS 20 1 1 70),
  (70, mj_cmp (fun x y => decide (y ≤ x)) 77 73),
  (73, mj_iload 5 75),
  (75, mj_istore 4 77),
  (77, mj_iinc 5 1 80),
  (80, mj_goto 23),
  (83, mj_iload 1 84),
  (84, mj_aload 0 85),
  (85, mj_get 9 3 88),
  (88, mj_iload 4 90),
  (90, mj_ald 0 91),
  (91, mj_bin (fun x y => x &&& y) 92),
  (92, mj_callS 20 1 1 95),
  (95, mj_istore 5 97),
  (97, mj_iload 5 99),
  (99, mj_iload 2 100),
  (100, mj_cmp (fun x y => decide (x ≤ y)) 108 103),
  (103, mj_iload 5 105),
  (105, mj_goto 109),
  (108, mj_iload 2 109),
  (109, mj_istore 2 110),
  (110, mj_aload 0 111),
  (111, mj_get 9 6 114),
  (114, mj_iload 3 115),
  (115, mj_iload 4 117),
  (117, mj_iast 118),
  (118, mj_aload 0 119),
  (119, mj_get 9 7 122),
  (122, mj_iload 4 124),
  (124, mj_iload 2 125),
  (125, mj_iast 126),
  (126, mj_iload 1 127),
  (127, mj_push (.inl 1) 128),
  (128, mj_iload 4 130),
  (130, mj_bin (fun x y => x <<< (y &&& 31)) 131),
  (131, mj_push (.inl (-1)) 132),
  (132, mj_bin (fun x y => x ^^^ y) 133),
  (133, mj_bin (fun x y => x &&& y) 134),
  (134, mj_istore 1 135),
  (135, mj_iinc 3 1 138),
  (138, mj_goto 9),
  (141, mj_ret)]
theorem sd_110 : ∀ q ∈ ct_110, mi_snd cs_G cs_cl cs_inf 110 q.1 q.2 := mi_fc ks_110_0 (mi_fc ks_110_1 (mi_fc ks_110_4 (mi_fc ks_110_5 (mi_fc ks_110_6 (mi_fc ks_110_7 (mi_fc ks_110_8 (mi_fc ks_110_9 (mi_fc ks_110_10 (mi_fc ks_110_11 (mi_fc ks_110_14 (mi_fc ks_110_17 (mi_fc ks_110_18 (mi_fc ks_110_20 (mi_fc ks_110_21 (mi_fc ks_110_23 (mi_fc ks_110_25 (mi_fc ks_110_26 (mi_fc ks_110_29 (mi_fc ks_110_32 (mi_fc ks_110_33 (mi_fc ks_110_35 (mi_fc ks_110_38 (mi_fc ks_110_41 (mi_fc ks_110_43 (mi_fc ks_110_46 (mi_fc ks_110_47 (mi_fc ks_110_48 (mi_fc ks_110_51 (mi_fc ks_110_53 (mi_fc ks_110_54 (mi_fc ks_110_55 (mi_fc ks_110_58 (mi_fc ks_110_59 (mi_fc ks_110_60 (mi_fc ks_110_63 (mi_fc ks_110_65 (mi_fc ks_110_66 (mi_fc ks_110_67 (mi_fc ks_110_70 (mi_fc ks_110_73 (mi_fc ks_110_75 (mi_fc ks_110_77 (mi_fc ks_110_80 (mi_fc ks_110_83 (mi_fc ks_110_84 (mi_fc ks_110_85 (mi_fc ks_110_88 (mi_fc ks_110_90 (mi_fc ks_110_91 (mi_fc ks_110_92 (mi_fc ks_110_95 (mi_fc ks_110_97 (mi_fc ks_110_99 (mi_fc ks_110_100 (mi_fc ks_110_103 (mi_fc ks_110_105 (mi_fc ks_110_108 (mi_fc ks_110_109 (mi_fc ks_110_110 (mi_fc ks_110_111 (mi_fc ks_110_114 (mi_fc ks_110_115 (mi_fc ks_110_117 (mi_fc ks_110_118 (mi_fc ks_110_119 (mi_fc ks_110_122 (mi_fc ks_110_124 (mi_fc ks_110_125 (mi_fc ks_110_126 (mi_fc ks_110_127 (mi_fc ks_110_128 (mi_fc ks_110_130 (mi_fc ks_110_131 (mi_fc ks_110_132 (mi_fc ks_110_133 (mi_fc ks_110_134 (mi_fc ks_110_135 (mi_fc ks_110_138 (mi_fc ks_110_141 mi_fn)))))))))))))))))))))))))))))))))))))))))))))))))))))))))))))))))))))))))))))))
theorem dd_111_0 : decode prog_11_method_31_code 0 = .ok (.aload_n 0, 1) := by decide +kernel
theorem dd_111_1 : decode prog_11_method_31_code 1 = .ok (.iconst 0, 1) := by decide +kernel
theorem dd_111_2 : decode prog_11_method_31_code 2 = .ok (.putfield 1, 3) := by decide +kernel
theorem dd_111_5 : decode prog_11_method_31_code 5 = .ok (.aload_n 0, 1) := by decide +kernel
theorem dd_111_6 : decode prog_11_method_31_code 6 = .ok (.invokevirtual 86, 3) := by decide +kernel
theorem dd_111_9 : decode prog_11_method_31_code 9 = .ok (.aload_n 0, 1) := by decide +kernel
theorem dd_111_10 : decode prog_11_method_31_code 10 = .ok (.iload_n 1, 1) := by decide +kernel
theorem dd_111_11 : decode prog_11_method_31_code 11 = .ok (.invokevirtual 44, 3) := by decide +kernel
theorem dd_111_14 : decode prog_11_method_31_code 14 = .ok (.ifCond .eq 7, 3) := by decide +kernel
theorem dd_111_17 : decode prog_11_method_31_code 17 = .ok (.iconst (-1), 1) := by decide +kernel
theorem dd_111_18 : decode prog_11_method_31_code 18 = .ok (.goto 9, 3) := by decide +kernel
theorem dd_111_21 : decode prog_11_method_31_code 21 = .ok (.aload_n 0, 1) := by decide +kernel
theorem dd_111_22 : decode prog_11_method_31_code 22 = .ok (.getfield 29, 3) := by decide +kernel
theorem dd_111_25 : decode prog_11_method_31_code 25 = .ok (.iload_n 1, 1) := by decide +kernel
theorem dd_111_26 : decode prog_11_method_31_code 26 = .ok (.iaload, 1) := by decide +kernel
theorem dd_111_27 : decode prog_11_method_31_code 27 = .ok (.ireturn, 1) := by decide +kernel
theorem ks_111_0 : mi_snd cs_G cs_cl cs_inf 111 0 (mj_aload 0 1) := ms_aload_n (mi_dec ib_111 dd_111_0) rfl
theorem ks_111_1 : mi_snd cs_G cs_cl cs_inf 111 1 (mj_push (.inl 0) 2) := ms_iconst (mi_dec ib_111 dd_111_1) (by decide)
theorem ks_111_2 : mi_snd cs_G cs_cl cs_inf 111 2 (mj_putI 9 0 5) := ms_putI (T := cs_T9) (k := 0) (mi_dec ib_111 dd_111_2) rfl cs_in9 cs_ty9_ok cs_nm9 (by decide) gw_636 (by decide) (by decide +kernel)
theorem ks_111_5 : mi_snd cs_G cs_cl cs_inf 111 5 (mj_aload 0 6) := ms_aload_n (mi_dec ib_111 dd_111_5) rfl
theorem ks_111_6 : mi_snd cs_G cs_cl cs_inf 111 6 (mj_callV 9 110 0 6 9) := ms_callV iw_c110 (mi_dec ib_111 dd_111_6) gw_798 iw_i110 rfl iw_v110 iw_n110 (by decide +kernel) rfl (by decide)
theorem ks_111_9 : mi_snd cs_G cs_cl cs_inf 111 9 (mj_aload 0 10) := ms_aload_n (mi_dec ib_111 dd_111_9) rfl
theorem ks_111_10 : mi_snd cs_G cs_cl cs_inf 111 10 (mj_iload 1 11) := ms_iload_n (mi_dec ib_111 dd_111_10) rfl
theorem ks_111_11 : mi_snd cs_G cs_cl cs_inf 111 11 (mj_callV 9 86 1 2 14) := ms_callV iw_c86 (mi_dec ib_111 dd_111_11) gw_703 iw_i86 rfl iw_v86 iw_n86 (by decide +kernel) rfl (by decide)
theorem ks_111_14 : mi_snd cs_G cs_cl cs_inf 111 14 (mj_if (fun x => decide (x = 0)) 21 17) := ms_if_eq (mi_dec ib_111 dd_111_14) (by decide)
theorem ks_111_17 : mi_snd cs_G cs_cl cs_inf 111 17 (mj_push (.inl (-1)) 18) := ms_iconst (mi_dec ib_111 dd_111_17) (by decide)
theorem ks_111_18 : mi_snd cs_G cs_cl cs_inf 111 18 (mj_goto 27) := ms_goto (mi_dec ib_111 dd_111_18) (by decide)
theorem ks_111_21 : mi_snd cs_G cs_cl cs_inf 111 21 (mj_aload 0 22) := ms_aload_n (mi_dec ib_111 dd_111_21) rfl
theorem ks_111_22 : mi_snd cs_G cs_cl cs_inf 111 22 (mj_get 9 7 25) := ms_get (T := cs_T9) (k := 7) (mi_dec ib_111 dd_111_22) rfl cs_in9 (by decide) gw_643
theorem ks_111_25 : mi_snd cs_G cs_cl cs_inf 111 25 (mj_iload 1 26) := ms_iload_n (mi_dec ib_111 dd_111_25) rfl
theorem ks_111_26 : mi_snd cs_G cs_cl cs_inf 111 26 (mj_ald 0 27) := ms_ald0 (mi_dec ib_111 dd_111_26)
theorem ks_111_27 : mi_snd cs_G cs_cl cs_inf 111 27 (mj_iret) := ms_iret (mi_dec ib_111 dd_111_27) rfl
def ct_111 : List (Nat × mi_I) := [
  (0, mj_aload 0 1),
  (1, mj_push (.inl 0) 2),
  (2, mj_putI 9 0 5),
  (5, mj_aload 0 6),
  (6, mj_callV 9 110 0 6 9),
  (9, mj_aload 0 10),
  (10, mj_iload 1 11),
  (11, mj_callV 9 86 1 2 14),
  (14, mj_if (fun x => decide (x = 0)) 21 17),
  (17, mj_push (.inl (-1)) 18),
  (18, mj_goto 27),
  (21, mj_aload 0 22),
  (22, mj_get 9 7 25),
  (25, mj_iload 1 26),
  (26, mj_ald 0 27),
  (27, mj_iret)]
theorem sd_111 : ∀ q ∈ ct_111, mi_snd cs_G cs_cl cs_inf 111 q.1 q.2 := mi_fc ks_111_0 (mi_fc ks_111_1 (mi_fc ks_111_2 (mi_fc ks_111_5 (mi_fc ks_111_6 (mi_fc ks_111_9 (mi_fc ks_111_10 (mi_fc ks_111_11 (mi_fc ks_111_14 (mi_fc ks_111_17 (mi_fc ks_111_18 (mi_fc ks_111_21 (mi_fc ks_111_22 (mi_fc ks_111_25 (mi_fc ks_111_26 (mi_fc ks_111_27 mi_fn)))))))))))))))
theorem dd_112_0 : decode prog_11_method_33_code 0 = .ok (.aload_n 0, 1) := by decide +kernel
theorem dd_112_1 : decode prog_11_method_33_code 1 = .ok (.iconst 0, 1) := by decide +kernel
theorem dd_112_2 : decode prog_11_method_33_code 2 = .ok (.putfield 1, 3) := by decide +kernel
theorem dd_112_5 : decode prog_11_method_33_code 5 = .ok (.iload_n 1, 1) := by decide +kernel
theorem dd_112_6 : decode prog_11_method_33_code 6 = .ok (.iconst 1, 1) := by decide +kernel
theorem dd_112_7 : decode prog_11_method_33_code 7 = .ok (.ldc 111, 2) := by decide +kernel
theorem dd_112_9 : decode prog_11_method_33_code 9 = .ok (.invokestatic 40, 3) := by decide +kernel
theorem dd_112_12 : decode prog_11_method_33_code 12 = .ok (.ifCond .ne 5, 3) := by decide +kernel
theorem dd_112_15 : decode prog_11_method_33_code 15 = .ok (.iconst (-1), 1) := by decide +kernel
theorem dd_112_16 : decode prog_11_method_33_code 16 = .ok (.ireturn, 1) := by decide +kernel
theorem dd_112_17 : decode prog_11_method_33_code 17 = .ok (.aload_n 0, 1) := by decide +kernel
theorem dd_112_18 : decode prog_11_method_33_code 18 = .ok (.iconst 0, 1) := by decide +kernel
theorem dd_112_19 : decode prog_11_method_33_code 19 = .ok (.putfield 99, 3) := by decide +kernel
theorem dd_112_22 : decode prog_11_method_33_code 22 = .ok (.aload_n 0, 1) := by decide +kernel
theorem dd_112_23 : decode prog_11_method_33_code 23 = .ok (.iload_n 1, 1) := by decide +kernel
theorem dd_112_24 : decode prog_11_method_33_code 24 = .ok (.putfield 92, 3) := by decide +kernel
theorem dd_112_27 : decode prog_11_method_33_code 27 = .ok (.aload_n 0, 1) := by decide +kernel
theorem dd_112_28 : decode prog_11_method_33_code 28 = .ok (.iconst 0, 1) := by decide +kernel
theorem dd_112_29 : decode prog_11_method_33_code 29 = .ok (.putfield 89, 3) := by decide +kernel
theorem dd_112_32 : decode prog_11_method_33_code 32 = .ok (.aload_n 0, 1) := by decide +kernel
theorem dd_112_33 : decode prog_11_method_33_code 33 = .ok (.iconst 0, 1) := by decide +kernel
theorem dd_112_34 : decode prog_11_method_33_code 34 = .ok (.putfield 104, 3) := by decide +kernel
theorem dd_112_37 : decode prog_11_method_33_code 37 = .ok (.aload_n 0, 1) := by decide +kernel
theorem dd_112_38 : decode prog_11_method_33_code 38 = .ok (.iconst 0, 1) := by decide +kernel
theorem dd_112_39 : decode prog_11_method_33_code 39 = .ok (.putfield 95, 3) := by decide +kernel
theorem dd_112_42 : decode prog_11_method_33_code 42 = .ok (.aload_n 0, 1) := by decide +kernel
theorem dd_112_43 : decode prog_11_method_33_code 43 = .ok (.iconst 0, 1) := by decide +kernel
theorem dd_112_44 : decode prog_11_method_33_code 44 = .ok (.aload_n 0, 1) := by decide +kernel
theorem dd_112_45 : decode prog_11_method_33_code 45 = .ok (.invokevirtual 58, 3) := by decide +kernel
theorem dd_112_48 : decode prog_11_method_33_code 48 = .ok (.invokestatic 107, 3) := by decide +kernel
theorem dd_112_51 : decode prog_11_method_33_code 51 = .ok (.aload_n 0, 1) := by decide +kernel
theorem dd_112_52 : decode prog_11_method_33_code 52 = .ok (.aload_n 0, 1) := by decide +kernel
theorem dd_112_53 : decode prog_11_method_33_code 53 = .ok (.getfield 99, 3) := by decide +kernel
theorem dd_112_56 : decode prog_11_method_33_code 56 = .ok (.invokestatic 52, 3) := by decide +kernel
theorem dd_112_59 : decode prog_11_method_33_code 59 = .ok (.putfield 112, 3) := by decide +kernel
theorem dd_112_62 : decode prog_11_method_33_code 62 = .ok (.aload_n 0, 1) := by decide +kernel
theorem dd_112_63 : decode prog_11_method_33_code 63 = .ok (.aload_n 0, 1) := by decide +kernel
theorem dd_112_64 : decode prog_11_method_33_code 64 = .ok (.getfield 95, 3) := by decide +kernel
theorem dd_112_67 : decode prog_11_method_33_code 67 = .ok (.ifCond .eq 14, 3) := by decide +kernel
theorem dd_112_70 : decode prog_11_method_33_code 70 = .ok (.aload_n 0, 1) := by decide +kernel
theorem dd_112_71 : decode prog_11_method_33_code 71 = .ok (.aload_n 0, 1) := by decide +kernel
theorem dd_112_72 : decode prog_11_method_33_code 72 = .ok (.invokevirtual 58, 3) := by decide +kernel
theorem dd_112_75 : decode prog_11_method_33_code 75 = .ok (.invokevirtual 83, 3) := by decide +kernel
theorem dd_112_78 : decode prog_11_method_33_code 78 = .ok (.goto 7, 3) := by decide +kernel
theorem dd_112_81 : decode prog_11_method_33_code 81 = .ok (.aload_n 0, 1) := by decide +kernel
theorem dd_112_82 : decode prog_11_method_33_code 82 = .ok (.getfield 112, 3) := by decide +kernel
theorem dd_112_85 : decode prog_11_method_33_code 85 = .ok (.putfield 115, 3) := by decide +kernel
theorem dd_112_88 : decode prog_11_method_33_code 88 = .ok (.aload_n 0, 1) := by decide +kernel
theorem dd_112_89 : decode prog_11_method_33_code 89 = .ok (.getfield 99, 3) := by decide +kernel
theorem dd_112_92 : decode prog_11_method_33_code 92 = .ok (.ireturn, 1) := by decide +kernel
theorem ks_112_0 : mi_snd cs_G cs_cl cs_inf 112 0 (mj_aload 0 1) := ms_aload_n (mi_dec ib_112 dd_112_0) rfl
theorem ks_112_1 : mi_snd cs_G cs_cl cs_inf 112 1 (mj_push (.inl 0) 2) := ms_iconst (mi_dec ib_112 dd_112_1) (by decide)
theorem ks_112_2 : mi_snd cs_G cs_cl cs_inf 112 2 (mj_putI 9 0 5) := ms_putI (T := cs_T9) (k := 0) (mi_dec ib_112 dd_112_2) rfl cs_in9 cs_ty9_ok cs_nm9 (by decide) gw_636 (by decide) (by decide +kernel)
theorem ks_112_5 : mi_snd cs_G cs_cl cs_inf 112 5 (mj_iload 1 6) := ms_iload_n (mi_dec ib_112 dd_112_5) rfl
theorem ks_112_6 : mi_snd cs_G cs_cl cs_inf 112 6 (mj_push (.inl 1) 7) := ms_iconst (mi_dec ib_112 dd_112_6) (by decide)
theorem ks_112_7 : mi_snd cs_G cs_cl cs_inf 112 7 (mj_push (.inl 100000) 9) := ms_ldc (mi_dec ib_112 dd_112_7) gw_810
theorem ks_112_9 : mi_snd cs_G cs_cl cs_inf 112 9 (mj_callS 84 3 3 12) := ms_callS iw_c84 (mi_dec ib_112 dd_112_9) gw_696 iw_s84 iw_n84 (by decide +kernel) rfl (by decide)
theorem ks_112_12 : mi_snd cs_G cs_cl cs_inf 112 12 (mj_if (fun x => decide (¬ x = 0)) 17 15) := ms_if_ne (mi_dec ib_112 dd_112_12) (by decide)
theorem ks_112_15 : mi_snd cs_G cs_cl cs_inf 112 15 (mj_push (.inl (-1)) 16) := ms_iconst (mi_dec ib_112 dd_112_15) (by decide)
theorem ks_112_16 : mi_snd cs_G cs_cl cs_inf 112 16 (mj_iret) := ms_iret (mi_dec ib_112 dd_112_16) rfl
theorem ks_112_17 : mi_snd cs_G cs_cl cs_inf 112 17 (mj_aload 0 18) := ms_aload_n (mi_dec ib_112 dd_112_17) rfl
theorem ks_112_18 : mi_snd cs_G cs_cl cs_inf 112 18 (mj_push (.inl 0) 19) := ms_iconst (mi_dec ib_112 dd_112_18) (by decide)
theorem ks_112_19 : mi_snd cs_G cs_cl cs_inf 112 19 (mj_putI 9 8 22) := ms_putI (T := cs_T9) (k := 8) (mi_dec ib_112 dd_112_19) rfl cs_in9 cs_ty9_ok cs_nm9 (by decide) gw_644 (by decide) (by decide +kernel)
theorem ks_112_22 : mi_snd cs_G cs_cl cs_inf 112 22 (mj_aload 0 23) := ms_aload_n (mi_dec ib_112 dd_112_22) rfl
theorem ks_112_23 : mi_snd cs_G cs_cl cs_inf 112 23 (mj_iload 1 24) := ms_iload_n (mi_dec ib_112 dd_112_23) rfl
theorem ks_112_24 : mi_snd cs_G cs_cl cs_inf 112 24 (mj_putI 9 9 27) := ms_putI (T := cs_T9) (k := 9) (mi_dec ib_112 dd_112_24) rfl cs_in9 cs_ty9_ok cs_nm9 (by decide) gw_645 (by decide) (by decide +kernel)
theorem ks_112_27 : mi_snd cs_G cs_cl cs_inf 112 27 (mj_aload 0 28) := ms_aload_n (mi_dec ib_112 dd_112_27) rfl
theorem ks_112_28 : mi_snd cs_G cs_cl cs_inf 112 28 (mj_push (.inl 0) 29) := ms_iconst (mi_dec ib_112 dd_112_28) (by decide)
theorem ks_112_29 : mi_snd cs_G cs_cl cs_inf 112 29 (mj_putI 9 10 32) := ms_putI (T := cs_T9) (k := 10) (mi_dec ib_112 dd_112_29) rfl cs_in9 cs_ty9_ok cs_nm9 (by decide) gw_646 (by decide) (by decide +kernel)
theorem ks_112_32 : mi_snd cs_G cs_cl cs_inf 112 32 (mj_aload 0 33) := ms_aload_n (mi_dec ib_112 dd_112_32) rfl
theorem ks_112_33 : mi_snd cs_G cs_cl cs_inf 112 33 (mj_push (.inl 0) 34) := ms_iconst (mi_dec ib_112 dd_112_33) (by decide)
theorem ks_112_34 : mi_snd cs_G cs_cl cs_inf 112 34 (mj_putI 9 11 37) := ms_putI (T := cs_T9) (k := 11) (mi_dec ib_112 dd_112_34) rfl cs_in9 cs_ty9_ok cs_nm9 (by decide) gw_647 (by decide) (by decide +kernel)
theorem ks_112_37 : mi_snd cs_G cs_cl cs_inf 112 37 (mj_aload 0 38) := ms_aload_n (mi_dec ib_112 dd_112_37) rfl
theorem ks_112_38 : mi_snd cs_G cs_cl cs_inf 112 38 (mj_push (.inl 0) 39) := ms_iconst (mi_dec ib_112 dd_112_38) (by decide)
theorem ks_112_39 : mi_snd cs_G cs_cl cs_inf 112 39 (mj_putZ 9 12 42) := ms_putZ (T := cs_T9) (k := 12) (mi_dec ib_112 dd_112_39) rfl cs_in9 cs_ty9_ok cs_nm9 (by decide) gw_648 (by decide) (by decide +kernel)
theorem ks_112_42 : mi_snd cs_G cs_cl cs_inf 112 42 (mj_aload 0 43) := ms_aload_n (mi_dec ib_112 dd_112_42) rfl
theorem ks_112_43 : mi_snd cs_G cs_cl cs_inf 112 43 (mj_push (.inl 0) 44) := ms_iconst (mi_dec ib_112 dd_112_43) (by decide)
theorem ks_112_44 : mi_snd cs_G cs_cl cs_inf 112 44 (mj_aload 0 45) := ms_aload_n (mi_dec ib_112 dd_112_44) rfl
theorem ks_112_45 : mi_snd cs_G cs_cl cs_inf 112 45 (mj_callV 9 91 0 1 48) := ms_callV iw_c91 (mi_dec ib_112 dd_112_45) gw_723 iw_i91 rfl iw_v91 iw_n91 (by decide +kernel) rfl (by decide)
theorem ks_112_48 : mi_snd cs_G cs_cl cs_inf 112 48 (mj_callS 113 3 10 51) := ms_callS iw_c113 (mi_dec ib_112 dd_112_48) gw_811 iw_s113 iw_n113 (by decide +kernel) rfl (by decide)
theorem ks_112_51 : mi_snd cs_G cs_cl cs_inf 112 51 (mj_aload 0 52) := ms_aload_n (mi_dec ib_112 dd_112_51) rfl
theorem ks_112_52 : mi_snd cs_G cs_cl cs_inf 112 52 (mj_aload 0 53) := ms_aload_n (mi_dec ib_112 dd_112_52) rfl
theorem ks_112_53 : mi_snd cs_G cs_cl cs_inf 112 53 (mj_get 9 8 56) := ms_get (T := cs_T9) (k := 8) (mi_dec ib_112 dd_112_53) rfl cs_in9 (by decide) gw_644
theorem ks_112_56 : mi_snd cs_G cs_cl cs_inf 112 56 (mj_callS 20 1 1 59) := ms_callS iw_c20 (mi_dec ib_112 dd_112_56) gw_734 iw_s20 iw_n20 (by decide +kernel) rfl (by decide)
theorem ks_112_59 : mi_snd cs_G cs_cl cs_inf 112 59 (mj_putI 9 13 62) := ms_putI (T := cs_T9) (k := 13) (mi_dec ib_112 dd_112_59) rfl cs_in9 cs_ty9_ok cs_nm9 (by decide) gw_649 (by decide) (by decide +kernel)
theorem ks_112_62 : mi_snd cs_G cs_cl cs_inf 112 62 (mj_aload 0 63) := ms_aload_n (mi_dec ib_112 dd_112_62) rfl
theorem ks_112_63 : mi_snd cs_G cs_cl cs_inf 112 63 (mj_aload 0 64) := ms_aload_n (mi_dec ib_112 dd_112_63) rfl
theorem ks_112_64 : mi_snd cs_G cs_cl cs_inf 112 64 (mj_get 9 12 67) := ms_get (T := cs_T9) (k := 12) (mi_dec ib_112 dd_112_64) rfl cs_in9 (by decide) gw_648
theorem ks_112_67 : mi_snd cs_G cs_cl cs_inf 112 67 (mj_if (fun x => decide (x = 0)) 81 70) := ms_if_eq (mi_dec ib_112 dd_112_67) (by decide)
theorem ks_112_70 : mi_snd cs_G cs_cl cs_inf 112 70 (mj_aload 0 71) := ms_aload_n (mi_dec ib_112 dd_112_70) rfl
theorem ks_112_71 : mi_snd cs_G cs_cl cs_inf 112 71 (mj_aload 0 72) := ms_aload_n (mi_dec ib_112 dd_112_71) rfl
theorem ks_112_72 : mi_snd cs_G cs_cl cs_inf 112 72 (mj_callV 9 91 0 1 75) := ms_callV iw_c91 (mi_dec ib_112 dd_112_72) gw_723 iw_i91 rfl iw_v91 iw_n91 (by decide +kernel) rfl (by decide)
theorem ks_112_75 : mi_snd cs_G cs_cl cs_inf 112 75 (mj_callV 9 107 1 6 78) := ms_callV iw_c107 (mi_dec ib_112 dd_112_75) gw_786 iw_i107 rfl iw_v107 iw_n107 (by decide +kernel) rfl (by decide)
theorem ks_112_78 : mi_snd cs_G cs_cl cs_inf 112 78 (mj_goto 85) := ms_goto (mi_dec ib_112 dd_112_78) (by decide)
theorem ks_112_81 : mi_snd cs_G cs_cl cs_inf 112 81 (mj_aload 0 82) := ms_aload_n (mi_dec ib_112 dd_112_81) rfl
theorem ks_112_82 : mi_snd cs_G cs_cl cs_inf 112 82 (mj_get 9 13 85) := ms_get (T := cs_T9) (k := 13) (mi_dec ib_112 dd_112_82) rfl cs_in9 (by decide) gw_649
theorem ks_112_85 : mi_snd cs_G cs_cl cs_inf 112 85 (mj_putI 9 14 88) := ms_putI (T := cs_T9) (k := 14) (mi_dec ib_112 dd_112_85) rfl cs_in9 cs_ty9_ok cs_nm9 (by decide) gw_650 (by decide) (by decide +kernel)
theorem ks_112_88 : mi_snd cs_G cs_cl cs_inf 112 88 (mj_aload 0 89) := ms_aload_n (mi_dec ib_112 dd_112_88) rfl
theorem ks_112_89 : mi_snd cs_G cs_cl cs_inf 112 89 (mj_get 9 8 92) := ms_get (T := cs_T9) (k := 8) (mi_dec ib_112 dd_112_89) rfl cs_in9 (by decide) gw_644
theorem ks_112_92 : mi_snd cs_G cs_cl cs_inf 112 92 (mj_iret) := ms_iret (mi_dec ib_112 dd_112_92) rfl
def ct_112 : List (Nat × mi_I) := [
  (0, mj_aload 0 1),
  (1, mj_push (.inl 0) 2),
  (2, mj_putI 9 0 5),
  (5, mj_iload 1 6),
  (6, mj_push (.inl 1) 7),
  (7, mj_push (.inl 100000) 9),
  (9, mj_callS 84 3 3 12),
  (12, mj_if (fun x => decide (¬ x = 0)) 17 15),
  (15, mj_push (.inl (-1)) 16),
  (16, mj_iret),
  (17, mj_aload 0 18),
  (18, mj_push (.inl 0) 19),
  (19, mj_putI 9 8 22),
  (22, mj_aload 0 23),
  (23, mj_iload 1 24),
  (24, mj_putI 9 9 27),
  (27, mj_aload 0 28),
  (28, mj_push (.inl 0) 29),
  (29, mj_putI 9 10 32),
  (32, mj_aload 0 33),
  (33, mj_push (.inl 0) 34),
  (34, mj_putI 9 11 37),
  (37, mj_aload 0 38),
  (38, mj_push (.inl 0) 39),
  (39, mj_putZ 9 12 42),
  (42, mj_aload 0 43),
  (43, mj_push (.inl 0) 44),
  (44, mj_aload 0 45),
  (45, mj_callV 9 91 0 1 48),
  (48, mj_callS 113 3 10 51),
  (51, mj_aload 0 52),
  (52, mj_aload 0 53),
  (53, mj_get 9 8 56),
  (56, mj_callS 20 1 1 59),
  (59, mj_putI 9 13 62),
  (62, mj_aload 0 63),
  (63, mj_aload 0 64),
  (64, mj_get 9 12 67),
  (67, mj_if (fun x => decide (x = 0)) 81 70),
  (70, mj_aload 0 71),
  (71, mj_aload 0 72),
  (72, mj_callV 9 91 0 1 75),
  (75, mj_callV 9 107 1 6 78),
  (78, mj_goto 85),
  (81, mj_aload 0 82),
  (82, mj_get 9 13 85),
  (85, mj_putI 9 14 88),
  (88, mj_aload 0 89),
  (89, mj_get 9 8 92),
  (92, mj_iret)]
theorem sd_112 : ∀ q ∈ ct_112, mi_snd cs_G cs_cl cs_inf 112 q.1 q.2 := mi_fc ks_112_0 (mi_fc ks_112_1 (mi_fc ks_112_2 (mi_fc ks_112_5 (mi_fc ks_112_6 (mi_fc ks_112_7 (mi_fc ks_112_9 (mi_fc ks_112_12 (mi_fc ks_112_15 (mi_fc ks_112_16 (mi_fc ks_112_17 (mi_fc ks_112_18 (mi_fc ks_112_19 (mi_fc ks_112_22 (mi_fc ks_112_23 (mi_fc ks_112_24 (mi_fc ks_112_27 (mi_fc ks_112_28 (mi_fc ks_112_29 (mi_fc ks_112_32 (mi_fc ks_112_33 (mi_fc ks_112_34 (mi_fc ks_112_37 (mi_fc ks_112_38 (mi_fc ks_112_39 (mi_fc ks_112_42 (mi_fc ks_112_43 (mi_fc ks_112_44 (mi_fc ks_112_45 (mi_fc ks_112_48 (mi_fc ks_112_51 (mi_fc ks_112_52 (mi_fc ks_112_53 (mi_fc ks_112_56 (mi_fc ks_112_59 (mi_fc ks_112_62 (mi_fc ks_112_63 (mi_fc ks_112_64 (mi_fc ks_112_67 (mi_fc ks_112_70 (mi_fc ks_112_71 (mi_fc ks_112_72 (mi_fc ks_112_75 (mi_fc ks_112_78 (mi_fc ks_112_81 (mi_fc ks_112_82 (mi_fc ks_112_85 (mi_fc ks_112_88 (mi_fc ks_112_89 (mi_fc ks_112_92 mi_fn)))))))))))))))))))))))))))))))))))))))))))))))))

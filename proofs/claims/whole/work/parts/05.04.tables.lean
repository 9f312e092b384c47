theorem dd_69_0 : decode prog_5_method_15_code 0 = .ok (.iconst 1, 1) := by decide +kernel
theorem dd_69_1 : decode prog_5_method_15_code 1 = .ok (.iload_n 1, 1) := by decide +kernel
theorem dd_69_2 : decode prog_5_method_15_code 2 = .ok (.ishl, 1) := by decide +kernel
theorem dd_69_3 : decode prog_5_method_15_code 3 = .ok (.istore_n 3, 1) := by decide +kernel
theorem dd_69_4 : decode prog_5_method_15_code 4 = .ok (.iconst 0, 1) := by decide +kernel
theorem dd_69_5 : decode prog_5_method_15_code 5 = .ok (.istore 4, 2) := by decide +kernel
theorem dd_69_7 : decode prog_5_method_15_code 7 = .ok (.iconst 0, 1) := by decide +kernel
theorem dd_69_8 : decode prog_5_method_15_code 8 = .ok (.istore 5, 2) := by decide +kernel
theorem dd_69_10 : decode prog_5_method_15_code 10 = .ok (.iload 5, 2) := by decide +kernel
theorem dd_69_12 : decode prog_5_method_15_code 12 = .ok (.bipush 16, 2) := by decide +kernel
theorem dd_69_14 : decode prog_5_method_15_code 14 = .ok (.if_icmp .ge 28, 3) := by decide +kernel
theorem dd_69_17 : decode prog_5_method_15_code 17 = .ok (.iload 4, 2) := by decide +kernel
theorem dd_69_19 : decode prog_5_method_15_code 19 = .ok (.aload_n 0, 1) := by decide +kernel
theorem dd_69_20 : decode prog_5_method_15_code 20 = .ok (.iload_n 3, 1) := by decide +kernel
theorem dd_69_21 : decode prog_5_method_15_code 21 = .ok (.invokevirtual 54, 3) := by decide +kernel
theorem dd_69_24 : decode prog_5_method_15_code 24 = .ok (.ior, 1) := by decide +kernel
theorem dd_69_25 : decode prog_5_method_15_code 25 = .ok (.istore 4, 2) := by decide +kernel
theorem dd_69_27 : decode prog_5_method_15_code 27 = .ok (.iload_n 3, 1) := by decide +kernel
theorem dd_69_28 : decode prog_5_method_15_code 28 = .ok (.aload_n 0, 1) := by decide +kernel
theorem dd_69_29 : decode prog_5_method_15_code 29 = .ok (.iload 4, 2) := by decide +kernel
theorem dd_69_31 : decode prog_5_method_15_code 31 = .ok (.invokevirtual 54, 3) := by decide +kernel
theorem dd_69_34 : decode prog_5_method_15_code 34 = .ok (.ior, 1) := by decide +kernel
theorem dd_69_35 : decode prog_5_method_15_code 35 = .ok (.istore_n 3, 1) := by decide +kernel
theorem dd_69_36 : decode prog_5_method_15_code 36 = .ok (.iinc 5 1, 3) := by decide +kernel
theorem dd_69_39 : decode prog_5_method_15_code 39 = .ok (.goto (-29), 3) := by decide +kernel
theorem dd_69_42 : decode prog_5_method_15_code 42 = .ok (.iload_n 2, 1) := by decide +kernel
theorem dd_69_43 : decode prog_5_method_15_code 43 = .ok (.ifCond .eq 8, 3) := by decide +kernel
theorem dd_69_46 : decode prog_5_method_15_code 46 = .ok (.iload 4, 2) := by decide +kernel
theorem dd_69_48 : decode prog_5_method_15_code 48 = .ok (.goto 4, 3) := by decide +kernel
theorem dd_69_51 : decode prog_5_method_15_code 51 = .ok (.iload_n 3, 1) := by decide +kernel
theorem dd_69_52 : decode prog_5_method_15_code 52 = .ok (.ireturn, 1) := by decide +kernel
theorem ks_69_0 : mi_snd cs_G cs_cl cs_inf 69 0 (mj_push (.inl 1) 1) := ms_iconst (mi_dec ib_69 dd_69_0) (by decide)
theorem ks_69_1 : mi_snd cs_G cs_cl cs_inf 69 1 (mj_iload 1 2) := ms_iload_n (mi_dec ib_69 dd_69_1) rfl
theorem ks_69_2 : mi_snd cs_G cs_cl cs_inf 69 2 (mj_bin (fun x y => x <<< (y &&& 31)) 3) := ms_ishl (mi_dec ib_69 dd_69_2)
theorem ks_69_3 : mi_snd cs_G cs_cl cs_inf 69 3 (mj_istore 3 4) := ms_istore_n (mi_dec ib_69 dd_69_3) rfl
theorem ks_69_4 : mi_snd cs_G cs_cl cs_inf 69 4 (mj_push (.inl 0) 5) := ms_iconst (mi_dec ib_69 dd_69_4) (by decide)
theorem ks_69_5 : mi_snd cs_G cs_cl cs_inf 69 5 (mj_istore 4 7) := ms_istore (mi_dec ib_69 dd_69_5)
theorem ks_69_7 : mi_snd cs_G cs_cl cs_inf 69 7 (mj_push (.inl 0) 8) := ms_iconst (mi_dec ib_69 dd_69_7) (by decide)
theorem ks_69_8 : mi_snd cs_G cs_cl cs_inf 69 8 (mj_istore 5 10) := ms_istore (mi_dec ib_69 dd_69_8)
theorem ks_69_10 : mi_snd cs_G cs_cl cs_inf 69 10 (mj_iload 5 12) := ms_iload (mi_dec ib_69 dd_69_10)
theorem ks_69_12 : mi_snd cs_G cs_cl cs_inf 69 12 (mj_push (.inl 16) 14) := ms_bipush (mi_dec ib_69 dd_69_12) (by decide)
theorem ks_69_14 : mi_snd cs_G cs_cl cs_inf 69 14 (mj_cmp (fun x y => decide (y ≤ x)) 42 17) := ms_icmp_ge (mi_dec ib_69 dd_69_14) (by decide)
theorem ks_69_17 : mi_snd cs_G cs_cl cs_inf 69 17 (mj_iload 4 19) := ms_iload (mi_dec ib_69 dd_69_17)
theorem ks_69_19 : mi_snd cs_G cs_cl cs_inf 69 19 (mj_aload 0 20) := ms_aload_n (mi_dec ib_69 dd_69_19) rfl
theorem ks_69_20 : mi_snd cs_G cs_cl cs_inf 69 20 (mj_iload 3 21) := ms_iload_n (mi_dec ib_69 dd_69_20) rfl
theorem ks_69_21 : mi_snd cs_G cs_cl cs_inf 69 21 (mj_callV 1 70 1 4 24) := ms_callV iw_c70 (mi_dec ib_69 dd_69_21) gw_572 iw_i70 rfl iw_v70 iw_n70 (by decide +kernel) rfl (by decide)
theorem ks_69_24 : mi_snd cs_G cs_cl cs_inf 69 24 (mj_bin (fun x y => x ||| y) 25) := ms_ior (mi_dec ib_69 dd_69_24)
theorem ks_69_25 : mi_snd cs_G cs_cl cs_inf 69 25 (mj_istore 4 27) := ms_istore (mi_dec ib_69 dd_69_25)
theorem ks_69_27 : mi_snd cs_G cs_cl cs_inf 69 27 (mj_iload 3 28) := ms_iload_n (mi_dec ib_69 dd_69_27) rfl
theorem ks_69_28 : mi_snd cs_G cs_cl cs_inf 69 28 (mj_aload 0 29) := ms_aload_n (mi_dec ib_69 dd_69_28) rfl
theorem ks_69_29 : mi_snd cs_G cs_cl cs_inf 69 29 (mj_iload 4 31) := ms_iload (mi_dec ib_69 dd_69_29)
theorem ks_69_31 : mi_snd cs_G cs_cl cs_inf 69 31 (mj_callV 1 70 1 4 34) := ms_callV iw_c70 (mi_dec ib_69 dd_69_31) gw_572 iw_i70 rfl iw_v70 iw_n70 (by decide +kernel) rfl (by decide)
theorem ks_69_34 : mi_snd cs_G cs_cl cs_inf 69 34 (mj_bin (fun x y => x ||| y) 35) := ms_ior (mi_dec ib_69 dd_69_34)
theorem ks_69_35 : mi_snd cs_G cs_cl cs_inf 69 35 (mj_istore 3 36) := ms_istore_n (mi_dec ib_69 dd_69_35) rfl
theorem ks_69_36 : mi_snd cs_G cs_cl cs_inf 69 36 (mj_iinc 5 1 39) := ms_iinc (mi_dec ib_69 dd_69_36) (by decide)
theorem ks_69_39 : mi_snd cs_G cs_cl cs_inf 69 39 (mj_goto 10) := ms_goto (mi_dec ib_69 dd_69_39) (by decide)
theorem ks_69_42 : mi_snd cs_G cs_cl cs_inf 69 42 (mj_iload 2 43) := ms_iload_n (mi_dec ib_69 dd_69_42) rfl
theorem ks_69_43 : mi_snd cs_G cs_cl cs_inf 69 43 (mj_if (fun x => decide (x = 0)) 51 46) := ms_if_eq (mi_dec ib_69 dd_69_43) (by decide)
theorem ks_69_46 : mi_snd cs_G cs_cl cs_inf 69 46 (mj_iload 4 48) := ms_iload (mi_dec ib_69 dd_69_46)
theorem ks_69_48 : mi_snd cs_G cs_cl cs_inf 69 48 (mj_goto 52) := ms_goto (mi_dec ib_69 dd_69_48) (by decide)
theorem ks_69_51 : mi_snd cs_G cs_cl cs_inf 69 51 (mj_iload 3 52) := ms_iload_n (mi_dec ib_69 dd_69_51) rfl
theorem ks_69_52 : mi_snd cs_G cs_cl cs_inf 69 52 (mj_iret) := ms_iret (mi_dec ib_69 dd_69_52) rfl
def ct_69 : List (Nat × mi_I) := [
  (0, mj_push (.inl 1) 1),
  (1, mj_iload 1 2),
  (2, mj_bin (fun x y => x <<< (y &&& 31)) 3),
  (3, mj_istore 3 4),
  (4, mj_push (.inl 0) 5),
  (5, mj_istore 4 7),
  (7, mj_push (.inl 0) 8),
  (8, mj_istore 5 10),
  (10, mj_iload 5 12),
  (12, mj_push (.inl 16) 14),
  (14, mj_cmp (fun x y => decide (y ≤ x)) 42 17),
  (17, mj_iload 4 19),
  (19, mj_aload 0 20),
  (20, mj_iload 3 21),
  (21, mj_callV 1 70 1 4 24),
  (24, mj_bin (fun x y => x ||| y) 25),
  (25, mj_istore 4 27),
  (27, mj_iload 3 28),
  (28, mj_aload 0 29),
  (29, mj_iload 4 31),
  (31, mj_callV 1 70 1 4 34),
  (34, mj_bin (fun x y => x ||| y) 35),
  (35, mj_istore 3 36),
  (36, mj_iinc 5 1 39),
  (39, mj_goto 10),
  (42, mj_iload 2 43),
  (43, mj_if (fun x => decide (x = 0)) 51 46),
  (46, mj_iload 4 48),
  (48, mj_goto 52),
  (51, mj_iload 3 52),
  (52, mj_iret)]
theorem sd_69 : ∀ q ∈ ct_69, mi_snd cs_G cs_cl cs_inf 69 q.1 q.2 := mi_fc ks_69_0 (mi_fc ks_69_1 (mi_fc ks_69_2 (mi_fc ks_69_3 (mi_fc ks_69_4 (mi_fc ks_69_5 (mi_fc ks_69_7 (mi_fc ks_69_8 (mi_fc ks_69_10 (mi_fc ks_69_12 (mi_fc ks_69_14 (mi_fc ks_69_17 (mi_fc ks_69_19 (mi_fc ks_69_20 (mi_fc ks_69_21 (mi_fc ks_69_24 (mi_fc ks_69_25 (mi_fc ks_69_27 (mi_fc ks_69_28 (mi_fc ks_69_29 (mi_fc ks_69_31 (mi_fc ks_69_34 (mi_fc ks_69_35 (mi_fc ks_69_36 (mi_fc ks_69_39 (mi_fc ks_69_42 (mi_fc ks_69_43 (mi_fc ks_69_46 (mi_fc ks_69_48 (mi_fc ks_69_51 (mi_fc ks_69_52 mi_fn))))))))))))))))))))))))))))))
theorem dd_70_0 : decode prog_5_method_14_code 0 = .ok (.iconst 0, 1) := by decide +kernel
theorem dd_70_1 : decode prog_5_method_14_code 1 = .ok (.istore_n 2, 1) := by decide +kernel
theorem dd_70_2 : decode prog_5_method_14_code 2 = .ok (.iconst 0, 1) := by decide +kernel
theorem dd_70_3 : decode prog_5_method_14_code 3 = .ok (.istore_n 3, 1) := by decide +kernel
theorem dd_70_4 : decode prog_5_method_14_code 4 = .ok (.iload_n 3, 1) := by decide +kernel
theorem dd_70_5 : decode prog_5_method_14_code 5 = .ok (.aload_n 0, 1) := by decide +kernel
theorem dd_70_6 : decode prog_5_method_14_code 6 = .ok (.getfield 18, 3) := by decide +kernel
theorem dd_70_9 : decode prog_5_method_14_code 9 = .ok (.if_icmp .ge 30, 3) := by decide +kernel
theorem dd_70_12 : decode prog_5_method_14_code 12 = .ok (.iload_n 2, 1) := by decide +kernel
theorem dd_70_13 : decode prog_5_method_14_code 13 = .ok (.iload_n 1, 1) := by decide +kernel
theorem dd_70_14 : decode prog_5_method_14_code 14 = .ok (.iload_n 3, 1) := by decide +kernel
theorem dd_70_15 : decode prog_5_method_14_code 15 = .ok (.invokestatic 46, 3) := by decide +kernel
theorem dd_70_18 : decode prog_5_method_14_code 18 = .ok (.ifCond .eq 12, 3) := by decide +kernel
theorem dd_70_21 : decode prog_5_method_14_code 21 = .ok (.aload_n 0, 1) := by decide +kernel
theorem dd_70_22 : decode prog_5_method_14_code 22 = .ok (.getfield 15, 3) := by decide +kernel
theorem dd_70_25 : decode prog_5_method_14_code 25 = .ok (.iload_n 3, 1) := by decide +kernel
theorem dd_70_26 : decode prog_5_method_14_code 26 = .ok (.iaload, 1) := by decide +kernel
theorem dd_70_27 : decode prog_5_method_14_code 27 = .ok (.goto 4, 3) := by decide +kernel
theorem dd_70_30 : decode prog_5_method_14_code 30 = .ok (.iconst 0, 1) := by decide +kernel
theorem dd_70_31 : decode prog_5_method_14_code 31 = .ok (.ior, 1) := by decide +kernel
theorem dd_70_32 : decode prog_5_method_14_code 32 = .ok (.istore_n 2, 1) := by decide +kernel
theorem dd_70_33 : decode prog_5_method_14_code 33 = .ok (.iinc 3 1, 3) := by decide +kernel
theorem dd_70_36 : decode prog_5_method_14_code 36 = .ok (.goto (-32), 3) := by decide +kernel
theorem dd_70_39 : decode prog_5_method_14_code 39 = .ok (.iload_n 2, 1) := by decide +kernel
theorem dd_70_40 : decode prog_5_method_14_code 40 = .ok (.ireturn, 1) := by decide +kernel
theorem ks_70_0 : mi_snd cs_G cs_cl cs_inf 70 0 (mj_push (.inl 0) 1) := ms_iconst (mi_dec ib_70 dd_70_0) (by decide)
theorem ks_70_1 : mi_snd cs_G cs_cl cs_inf 70 1 (mj_istore 2 2) := ms_istore_n (mi_dec ib_70 dd_70_1) rfl
theorem ks_70_2 : mi_snd cs_G cs_cl cs_inf 70 2 (mj_push (.inl 0) 3) := ms_iconst (mi_dec ib_70 dd_70_2) (by decide)
theorem ks_70_3 : mi_snd cs_G cs_cl cs_inf 70 3 (mj_istore 3 4) := ms_istore_n (mi_dec ib_70 dd_70_3) rfl
theorem ks_70_4 : mi_snd cs_G cs_cl cs_inf 70 4 (mj_iload 3 5) := ms_iload_n (mi_dec ib_70 dd_70_4) rfl
theorem ks_70_5 : mi_snd cs_G cs_cl cs_inf 70 5 (mj_aload 0 6) := ms_aload_n (mi_dec ib_70 dd_70_5) rfl
theorem ks_70_6 : mi_snd cs_G cs_cl cs_inf 70 6 (mj_get 1 0 9) := ms_get (T := cs_T1) (k := 0) (mi_dec ib_70 dd_70_6) rfl cs_in1 (by decide) gw_29
theorem ks_70_9 : mi_snd cs_G cs_cl cs_inf 70 9 (mj_cmp (fun x y => decide (y ≤ x)) 39 12) := ms_icmp_ge (mi_dec ib_70 dd_70_9) (by decide)
theorem ks_70_12 : mi_snd cs_G cs_cl cs_inf 70 12 (mj_iload 2 13) := ms_iload_n (mi_dec ib_70 dd_70_12) rfl
theorem ks_70_13 : mi_snd cs_G cs_cl cs_inf 70 13 (mj_iload 1 14) := ms_iload_n (mi_dec ib_70 dd_70_13) rfl
theorem ks_70_14 : mi_snd cs_G cs_cl cs_inf 70 14 (mj_iload 3 15) := ms_iload_n (mi_dec ib_70 dd_70_14) rfl
theorem ks_70_15 : mi_snd cs_G cs_cl cs_inf 70 15 (mj_callS 7 2 2 18) := ms_callSN iw_c7 (mi_dec ib_70 dd_70_15) gw_363 iw_s7 iw_n7 (by decide +kernel) rfl (by decide)
theorem ks_70_18 : mi_snd cs_G cs_cl cs_inf 70 18 (mj_if (fun x => decide (x = 0)) 30 21) := ms_if_eq (mi_dec ib_70 dd_70_18) (by decide)
theorem ks_70_21 : mi_snd cs_G cs_cl cs_inf 70 21 (mj_aload 0 22) := ms_aload_n (mi_dec ib_70 dd_70_21) rfl
theorem ks_70_22 : mi_snd cs_G cs_cl cs_inf 70 22 (mj_get 1 3 25) := ms_get (T := cs_T1) (k := 3) (mi_dec ib_70 dd_70_22) rfl cs_in1 (by decide) gw_38
theorem ks_70_25 : mi_snd cs_G cs_cl cs_inf 70 25 (mj_iload 3 26) := ms_iload_n (mi_dec ib_70 dd_70_25) rfl
theorem ks_70_26 : mi_snd cs_G cs_cl cs_inf 70 26 (mj_ald 0 27) := ms_ald0 (mi_dec ib_70 dd_70_26)
theorem ks_70_27 : mi_snd cs_G cs_cl cs_inf 70 27 (mj_goto 31) := ms_goto (mi_dec ib_70 dd_70_27) (by decide)
theorem ks_70_30 : mi_snd cs_G cs_cl cs_inf 70 30 (mj_push (.inl 0) 31) := ms_iconst (mi_dec ib_70 dd_70_30) (by decide)
theorem ks_70_31 : mi_snd cs_G cs_cl cs_inf 70 31 (mj_bin (fun x y => x ||| y) 32) := ms_ior (mi_dec ib_70 dd_70_31)
theorem ks_70_32 : mi_snd cs_G cs_cl cs_inf 70 32 (mj_istore 2 33) := ms_istore_n (mi_dec ib_70 dd_70_32) rfl
theorem ks_70_33 : mi_snd cs_G cs_cl cs_inf 70 33 (mj_iinc 3 1 36) := ms_iinc (mi_dec ib_70 dd_70_33) (by decide)
theorem ks_70_36 : mi_snd cs_G cs_cl cs_inf 70 36 (mj_goto 4) := ms_goto (mi_dec ib_70 dd_70_36) (by decide)
theorem ks_70_39 : mi_snd cs_G cs_cl cs_inf 70 39 (mj_iload 2 40) := ms_iload_n (mi_dec ib_70 dd_70_39) rfl
theorem ks_70_40 : mi_snd cs_G cs_cl cs_inf 70 40 (mj_iret) := ms_iret (mi_dec ib_70 dd_70_40) rfl
def ct_70 : List (Nat × mi_I) := [
  (0, mj_push (.inl 0) 1),
  (1, mj_istore 2 2),
  (2, mj_push (.inl 0) 3),
  (3, mj_istore 3 4),
  (4, mj_iload 3 5),
  (5, mj_aload 0 6),
  (6, mj_get 1 0 9),
  (9, mj_cmp (fun x y => decide (y ≤ x)) 39 12),
  (12, mj_iload 2 13),
  (13, mj_iload 1 14),
  (14, mj_iload 3 15),
  (15, mj_callS 7 2 2 18),
  (18, mj_if (fun x => decide (x = 0)) 30 21),
  (21, mj_aload 0 22),
  (22, mj_get 1 3 25),
  (25, mj_iload 3 26),
  (26, mj_ald 0 27),
  (27, mj_goto 31),
  (30, mj_push (.inl 0) 31),
  (31, mj_bin (fun x y => x ||| y) 32),
  (32, mj_istore 2 33),
  (33, mj_iinc 3 1 36),
  (36, mj_goto 4),
  (39, mj_iload 2 40),
  (40, mj_iret)]
theorem sd_70 : ∀ q ∈ ct_70, mi_snd cs_G cs_cl cs_inf 70 q.1 q.2 := mi_fc ks_70_0 (mi_fc ks_70_1 (mi_fc ks_70_2 (mi_fc ks_70_3 (mi_fc ks_70_4 (mi_fc ks_70_5 (mi_fc ks_70_6 (mi_fc ks_70_9 (mi_fc ks_70_12 (mi_fc ks_70_13 (mi_fc ks_70_14 (mi_fc ks_70_15 (mi_fc ks_70_18 (mi_fc ks_70_21 (mi_fc ks_70_22 (mi_fc ks_70_25 (mi_fc ks_70_26 (mi_fc ks_70_27 (mi_fc ks_70_30 (mi_fc ks_70_31 (mi_fc ks_70_32 (mi_fc ks_70_33 (mi_fc ks_70_36 (mi_fc ks_70_39 (mi_fc ks_70_40 mi_fn))))))))))))))))))))))))
theorem dd_71_0 : decode prog_1_method_23_code 0 = .ok (.aload_n 0, 1) := by decide +kernel
theorem dd_71_1 : decode prog_1_method_23_code 1 = .ok (.getfield 68, 3) := by decide +kernel
theorem dd_71_4 : decode prog_1_method_23_code 4 = .ok (.invokevirtual 181, 3) := by decide +kernel
theorem dd_71_7 : decode prog_1_method_23_code 7 = .ok (.ireturn, 1) := by decide +kernel
theorem ks_71_0 : mi_snd cs_G cs_cl cs_inf 71 0 (mj_aload 0 1) := ms_aload_n (mi_dec ib_71 dd_71_0) rfl
theorem ks_71_1 : mi_snd cs_G cs_cl cs_inf 71 1 (mj_get 0 8 4) := ms_get (T := cs_T0) (k := 8) (mi_dec ib_71 dd_71_1) rfl cs_in0 (by decide) gw_239
theorem ks_71_4 : mi_snd cs_G cs_cl cs_inf 71 4 (mj_callV 8 72 0 4 7) := ms_callVN iw_c72 (mi_dec ib_71 dd_71_4) gw_580 iw_i72 rfl iw_v72 iw_n72 (by decide +kernel) rfl (by decide)
theorem ks_71_7 : mi_snd cs_G cs_cl cs_inf 71 7 (mj_iret) := ms_iret (mi_dec ib_71 dd_71_7) rfl
def ct_71 : List (Nat × mi_I) := [
  (0, mj_aload 0 1),
  (1, mj_get 0 8 4),
  (4, mj_callV 8 72 0 4 7),
  (7, mj_iret)]
theorem sd_71 : ∀ q ∈ ct_71, mi_snd cs_G cs_cl cs_inf 71 q.1 q.2 := mi_fc ks_71_0 (mi_fc ks_71_1 (mi_fc ks_71_4 (mi_fc ks_71_7 mi_fn)))
theorem dd_72_0 : decode prog_2_method_2_code 0 = .ok (.aload_n 0, 1) := by decide +kernel
theorem dd_72_1 : decode prog_2_method_2_code 1 = .ok (.getfield 9, 3) := by decide +kernel
theorem dd_72_4 : decode prog_2_method_2_code 4 = .ok (.iconst (-1), 1) := by decide +kernel
theorem dd_72_5 : decode prog_2_method_2_code 5 = .ok (.invokestatic 28, 3) := by decide +kernel
theorem dd_72_8 : decode prog_2_method_2_code 8 = .ok (.iconst 0, 1) := by decide +kernel
theorem dd_72_9 : decode prog_2_method_2_code 9 = .ok (.istore_n 1, 1) := by decide +kernel
theorem dd_72_10 : decode prog_2_method_2_code 10 = .ok (.iconst 0, 1) := by decide +kernel
theorem dd_72_11 : decode prog_2_method_2_code 11 = .ok (.istore_n 2, 1) := by decide +kernel
theorem dd_72_12 : decode prog_2_method_2_code 12 = .ok (.iload_n 2, 1) := by decide +kernel
theorem dd_72_13 : decode prog_2_method_2_code 13 = .ok (.aload_n 0, 1) := by decide +kernel
theorem dd_72_14 : decode prog_2_method_2_code 14 = .ok (.getfield 24, 3) := by decide +kernel
theorem dd_72_17 : decode prog_2_method_2_code 17 = .ok (.getfield 34, 3) := by decide +kernel
theorem dd_72_20 : decode prog_2_method_2_code 20 = .ok (.if_icmp .ge 40, 3) := by decide +kernel
theorem dd_72_23 : decode prog_2_method_2_code 23 = .ok (.aload_n 0, 1) := by decide +kernel
theorem dd_72_24 : decode prog_2_method_2_code 24 = .ok (.getfield 9, 3) := by decide +kernel
theorem dd_72_27 : decode prog_2_method_2_code 27 = .ok (.iload_n 2, 1) := by decide +kernel
theorem dd_72_28 : decode prog_2_method_2_code 28 = .ok (.iaload, 1) := by decide +kernel
theorem dd_72_29 : decode prog_2_method_2_code 29 = .ok (.ifCond .ge 11, 3) := by decide +kernel
theorem dd_72_32 : decode prog_2_method_2_code 32 = .ok (.aload_n 0, 1) := by decide +kernel
theorem dd_72_33 : decode prog_2_method_2_code 33 = .ok (.iload_n 2, 1) := by decide +kernel
theorem dd_72_34 : decode prog_2_method_2_code 34 = .ok (.invokevirtual 40, 3) := by decide +kernel
theorem dd_72_37 : decode prog_2_method_2_code 37 = .ok (.goto 4, 3) := by decide +kernel
theorem dd_72_40 : decode prog_2_method_2_code 40 = .ok (.iconst (-1), 1) := by decide +kernel
theorem dd_72_41 : decode prog_2_method_2_code 41 = .ok (.istore_n 3, 1) := by decide +kernel
theorem dd_72_42 : decode prog_2_method_2_code 42 = .ok (.iload_n 3, 1) := by decide +kernel
theorem dd_72_43 : decode prog_2_method_2_code 43 = .ok (.ifCond .lt 11, 3) := by decide +kernel
theorem dd_72_46 : decode prog_2_method_2_code 46 = .ok (.aload_n 0, 1) := by decide +kernel
theorem dd_72_47 : decode prog_2_method_2_code 47 = .ok (.iload_n 3, 1) := by decide +kernel
theorem dd_72_48 : decode prog_2_method_2_code 48 = .ok (.invokevirtual 44, 3) := by decide +kernel
theorem dd_72_51 : decode prog_2_method_2_code 51 = .ok (.iinc 1 1, 3) := by decide +kernel
theorem dd_72_54 : decode prog_2_method_2_code 54 = .ok (.iinc 2 1, 3) := by decide +kernel
theorem dd_72_57 : decode prog_2_method_2_code 57 = .ok (.goto (-45), 3) := by decide +kernel
theorem dd_72_60 : decode prog_2_method_2_code 60 = .ok (.iload_n 1, 1) := by decide +kernel
theorem dd_72_61 : decode prog_2_method_2_code 61 = .ok (.ireturn, 1) := by decide +kernel
theorem ks_72_0 : mi_snd cs_G cs_cl cs_inf 72 0 (mj_aload 0 1) := ms_aload_n (mi_dec ib_72 dd_72_0) rfl
theorem ks_72_1 : mi_snd cs_G cs_cl cs_inf 72 1 (mj_get 8 1 4) := ms_get (T := cs_T8) (k := 1) (mi_dec ib_72 dd_72_1) rfl cs_in8 (by decide) gw_210
theorem ks_72_4 : mi_snd cs_G cs_cl cs_inf 72 4 (mj_push (.inl (-1)) 5) := ms_iconst (mi_dec ib_72 dd_72_4) (by decide)
theorem ks_72_5 : mi_snd cs_G cs_cl cs_inf 72 5 (mj_callS 30 2 4 8) := ms_callS iw_c30 (mi_dec ib_72 dd_72_5) gw_584 iw_s30 iw_n30 (by decide +kernel) rfl (by decide)
theorem ks_72_8 : mi_snd cs_G cs_cl cs_inf 72 8 (mj_push (.inl 0) 9) := ms_iconst (mi_dec ib_72 dd_72_8) (by decide)
theorem ks_72_9 : mi_snd cs_G cs_cl cs_inf 72 9 (mj_istore 1 10) := ms_istore_n (mi_dec ib_72 dd_72_9) rfl
theorem ks_72_10 : mi_snd cs_G cs_cl cs_inf 72 10 (mj_push (.inl 0) 11) := ms_iconst (mi_dec ib_72 dd_72_10) (by decide)
theorem ks_72_11 : mi_snd cs_G cs_cl cs_inf 72 11 (mj_istore 2 12) := ms_istore_n (mi_dec ib_72 dd_72_11) rfl
theorem ks_72_12 : mi_snd cs_G cs_cl cs_inf 72 12 (mj_iload 2 13) := ms_iload_n (mi_dec ib_72 dd_72_12) rfl
theorem ks_72_13 : mi_snd cs_G cs_cl cs_inf 72 13 (mj_aload 0 14) := ms_aload_n (mi_dec ib_72 dd_72_13) rfl
theorem ks_72_14 : mi_snd cs_G cs_cl cs_inf 72 14 (mj_get 8 0 17) := ms_get (T := cs_T8) (k := 0) (mi_dec ib_72 dd_72_14) rfl cs_in8 (by decide) gw_209
theorem ks_72_17 : mi_snd cs_G cs_cl cs_inf 72 17 (mj_get 1 0 20) := ms_getN (T := cs_T1) (k := 0) (mi_dec ib_72 dd_72_17) rfl cs_in1 (by decide) gw_30
theorem ks_72_20 : mi_snd cs_G cs_cl cs_inf 72 20 (mj_cmp (fun x y => decide (y ≤ x)) 60 23) := ms_icmp_ge (mi_dec ib_72 dd_72_20) (by decide)
theorem ks_72_23 : mi_snd cs_G cs_cl cs_inf 72 23 (mj_aload 0 24) := ms_aload_n (mi_dec ib_72 dd_72_23) rfl
theorem ks_72_24 : mi_snd cs_G cs_cl cs_inf 72 24 (mj_get 8 1 27) := ms_get (T := cs_T8) (k := 1) (mi_dec ib_72 dd_72_24) rfl cs_in8 (by decide) gw_210
theorem ks_72_27 : mi_snd cs_G cs_cl cs_inf 72 27 (mj_iload 2 28) := ms_iload_n (mi_dec ib_72 dd_72_27) rfl
theorem ks_72_28 : mi_snd cs_G cs_cl cs_inf 72 28 (mj_ald 0 29) := ms_ald0 (mi_dec ib_72 dd_72_28)
theorem ks_72_29 : mi_snd cs_G cs_cl cs_inf 72 29 (mj_if (fun x => decide (0 ≤ x)) 40 32) := ms_if_ge (mi_dec ib_72 dd_72_29) (by decide)
theorem ks_72_32 : mi_snd cs_G cs_cl cs_inf 72 32 (mj_aload 0 33) := ms_aload_n (mi_dec ib_72 dd_72_32) rfl
theorem ks_72_33 : mi_snd cs_G cs_cl cs_inf 72 33 (mj_iload 2 34) := ms_iload_n (mi_dec ib_72 dd_72_33) rfl
theorem ks_72_34 : mi_snd cs_G cs_cl cs_inf 72 34 (mj_callV 8 73 1 4 37) := ms_callV iw_c73 (mi_dec ib_72 dd_72_34) gw_585 iw_i73 rfl iw_v73 iw_n73 (by decide +kernel) rfl (by decide)
theorem ks_72_37 : mi_snd cs_G cs_cl cs_inf 72 37 (mj_goto 41) := ms_goto (mi_dec ib_72 dd_72_37) (by decide)
theorem ks_72_40 : mi_snd cs_G cs_cl cs_inf 72 40 (mj_push (.inl (-1)) 41) := ms_iconst (mi_dec ib_72 dd_72_40) (by decide)
theorem ks_72_41 : mi_snd cs_G cs_cl cs_inf 72 41 (mj_istore 3 42) := ms_istore_n (mi_dec ib_72 dd_72_41) rfl
theorem ks_72_42 : mi_snd cs_G cs_cl cs_inf 72 42 (mj_iload 3 43) := ms_iload_n (mi_dec ib_72 dd_72_42) rfl
theorem ks_72_43 : mi_snd cs_G cs_cl cs_inf 72 43 (mj_if (fun x => decide (x < 0)) 54 46) := ms_if_lt (mi_dec ib_72 dd_72_43) (by decide)
theorem ks_72_46 : mi_snd cs_G cs_cl cs_inf 72 46 (mj_aload 0 47) := ms_aload_n (mi_dec ib_72 dd_72_46) rfl
theorem ks_72_47 : mi_snd cs_G cs_cl cs_inf 72 47 (mj_iload 3 48) := ms_iload_n (mi_dec ib_72 dd_72_47) rfl
theorem ks_72_48 : mi_snd cs_G cs_cl cs_inf 72 48 (mj_callV 8 80 1 6 51) := ms_callV iw_c80 (mi_dec ib_72 dd_72_48) gw_614 iw_i80 rfl iw_v80 iw_n80 (by decide +kernel) rfl (by decide)
theorem ks_72_51 : mi_snd cs_G cs_cl cs_inf 72 51 (mj_iinc 1 1 54) := ms_iinc (mi_dec ib_72 dd_72_51) (by decide)
theorem ks_72_54 : mi_snd cs_G cs_cl cs_inf 72 54 (mj_iinc 2 1 57) := ms_iinc (mi_dec ib_72 dd_72_54) (by decide)
theorem ks_72_57 : mi_snd cs_G cs_cl cs_inf 72 57 (mj_goto 12) := ms_goto (mi_dec ib_72 dd_72_57) (by decide)
theorem ks_72_60 : mi_snd cs_G cs_cl cs_inf 72 60 (mj_iload 1 61) := ms_iload_n (mi_dec ib_72 dd_72_60) rfl
theorem ks_72_61 : mi_snd cs_G cs_cl cs_inf 72 61 (mj_iret) := ms_iret (mi_dec ib_72 dd_72_61) rfl
def ct_72 : List (Nat × mi_I) := [
  (0, mj_aload 0 1),
  (1, mj_get 8 1 4),
  (4, mj_push (.inl (-1)) 5),
  (5, mj_callS 30 2 4 8),
  (8, mj_push (.inl 0) 9),
  (9, mj_istore 1 10),
  (10, mj_push (.inl 0) 11),
  (11, mj_istore 2 12),
  (12, mj_iload 2 13),
  (13, mj_aload 0 14),
  (14, mj_get 8 0 17),
  (17, mj_get 1 0 20),
  (20, mj_cmp (fun x y => decide (y ≤ x)) 60 23),
  (23, mj_aload 0 24),
  (24, mj_get 8 1 27),
  (27, mj_iload 2 28),
  (28, mj_ald 0 29),
  (29, mj_if (fun x => decide (0 ≤ x)) 40 32),
  (32, mj_aload 0 33),
  (33, mj_iload 2 34),
  (34, mj_callV 8 73 1 4 37),
  (37, mj_goto 41),
  (40, mj_push (.inl (-1)) 41),
  (41, mj_istore 3 42),
  (42, mj_iload 3 43),
  (43, mj_if (fun x => decide (x < 0)) 54 46),
  (46, mj_aload 0 47),
  (47, mj_iload 3 48),
  (48, mj_callV 8 80 1 6 51),
  (51, mj_iinc 1 1 54),
  (54, mj_iinc 2 1 57),
  (57, mj_goto 12),
  (60, mj_iload 1 61),
  (61, mj_iret)]
theorem sd_72 : ∀ q ∈ ct_72, mi_snd cs_G cs_cl cs_inf 72 q.1 q.2 := mi_fc ks_72_0 (mi_fc ks_72_1 (mi_fc ks_72_4 (mi_fc ks_72_5 (mi_fc ks_72_8 (mi_fc ks_72_9 (mi_fc ks_72_10 (mi_fc ks_72_11 (mi_fc ks_72_12 (mi_fc ks_72_13 (mi_fc ks_72_14 (mi_fc ks_72_17 (mi_fc ks_72_20 (mi_fc ks_72_23 (mi_fc ks_72_24 (mi_fc ks_72_27 (mi_fc ks_72_28 (mi_fc ks_72_29 (mi_fc ks_72_32 (mi_fc ks_72_33 (mi_fc ks_72_34 (mi_fc ks_72_37 (mi_fc ks_72_40 (mi_fc ks_72_41 (mi_fc ks_72_42 (mi_fc ks_72_43 (mi_fc ks_72_46 (mi_fc ks_72_47 (mi_fc ks_72_48 (mi_fc ks_72_51 (mi_fc ks_72_54 (mi_fc ks_72_57 (mi_fc ks_72_60 (mi_fc ks_72_61 mi_fn)))))))))))))))))))))))))))))))))
theorem dd_73_0 : decode prog_2_method_3_code 0 = .ok (.aload_n 0, 1) := by decide +kernel
theorem dd_73_1 : decode prog_2_method_3_code 1 = .ok (.getfield 15, 3) := by decide +kernel
theorem dd_73_4 : decode prog_2_method_3_code 4 = .ok (.iconst (-1), 1) := by decide +kernel
theorem dd_73_5 : decode prog_2_method_3_code 5 = .ok (.invokestatic 28, 3) := by decide +kernel
theorem dd_73_8 : decode prog_2_method_3_code 8 = .ok (.iconst 0, 1) := by decide +kernel
theorem dd_73_9 : decode prog_2_method_3_code 9 = .ok (.istore_n 2, 1) := by decide +kernel
theorem dd_73_10 : decode prog_2_method_3_code 10 = .ok (.iload_n 2, 1) := by decide +kernel
theorem dd_73_11 : decode prog_2_method_3_code 11 = .ok (.bipush 16, 2) := by decide +kernel
theorem dd_73_13 : decode prog_2_method_3_code 13 = .ok (.if_icmp .ge 16, 3) := by decide +kernel
theorem dd_73_16 : decode prog_2_method_3_code 16 = .ok (.aload_n 0, 1) := by decide +kernel
theorem dd_73_17 : decode prog_2_method_3_code 17 = .ok (.getfield 18, 3) := by decide +kernel
theorem dd_73_20 : decode prog_2_method_3_code 20 = .ok (.iload_n 2, 1) := by decide +kernel
theorem dd_73_21 : decode prog_2_method_3_code 21 = .ok (.iload_n 2, 1) := by decide +kernel
theorem dd_73_22 : decode prog_2_method_3_code 22 = .ok (.iastore, 1) := by decide +kernel
theorem dd_73_23 : decode prog_2_method_3_code 23 = .ok (.iinc 2 1, 3) := by decide +kernel
theorem dd_73_26 : decode prog_2_method_3_code 26 = .ok (.goto (-16), 3) := by decide +kernel
theorem dd_73_29 : decode prog_2_method_3_code 29 = .ok (.aload_n 0, 1) := by decide +kernel
theorem dd_73_30 : decode prog_2_method_3_code 30 = .ok (.iconst 0, 1) := by decide +kernel
theorem dd_73_31 : decode prog_2_method_3_code 31 = .ok (.putfield 48, 3) := by decide +kernel
theorem dd_73_34 : decode prog_2_method_3_code 34 = .ok (.aload_n 0, 1) := by decide +kernel
theorem dd_73_35 : decode prog_2_method_3_code 35 = .ok (.iconst 0, 1) := by decide +kernel
theorem dd_73_36 : decode prog_2_method_3_code 36 = .ok (.putfield 51, 3) := by decide +kernel
theorem dd_73_39 : decode prog_2_method_3_code 39 = .ok (.aload_n 0, 1) := by decide +kernel
theorem dd_73_40 : decode prog_2_method_3_code 40 = .ok (.iload_n 1, 1) := by decide +kernel
theorem dd_73_41 : decode prog_2_method_3_code 41 = .ok (.invokevirtual 54, 3) := by decide +kernel
theorem dd_73_44 : decode prog_2_method_3_code 44 = .ok (.iconst 0, 1) := by decide +kernel
theorem dd_73_45 : decode prog_2_method_3_code 45 = .ok (.istore_n 2, 1) := by decide +kernel
theorem dd_73_46 : decode prog_2_method_3_code 46 = .ok (.iload_n 2, 1) := by decide +kernel
theorem dd_73_47 : decode prog_2_method_3_code 47 = .ok (.aload_n 0, 1) := by decide +kernel
theorem dd_73_48 : decode prog_2_method_3_code 48 = .ok (.getfield 48, 3) := by decide +kernel
theorem dd_73_51 : decode prog_2_method_3_code 51 = .ok (.if_icmp .ge 33, 3) := by decide +kernel
theorem dd_73_54 : decode prog_2_method_3_code 54 = .ok (.iload_n 2, 1) := by decide +kernel
theorem dd_73_55 : decode prog_2_method_3_code 55 = .ok (.bipush 16, 2) := by decide +kernel
theorem dd_73_57 : decode prog_2_method_3_code 57 = .ok (.if_icmp .ge 27, 3) := by decide +kernel
theorem dd_73_60 : decode prog_2_method_3_code 60 = .ok (.aload_n 0, 1) := by decide +kernel
theorem dd_73_61 : decode prog_2_method_3_code 61 = .ok (.aload_n 0, 1) := by decide +kernel
theorem dd_73_62 : decode prog_2_method_3_code 62 = .ok (.getfield 21, 3) := by decide +kernel
theorem dd_73_65 : decode prog_2_method_3_code 65 = .ok (.iload_n 2, 1) := by decide +kernel
theorem dd_73_66 : decode prog_2_method_3_code 66 = .ok (.iaload, 1) := by decide +kernel
theorem dd_73_67 : decode prog_2_method_3_code 67 = .ok (.iload_n 1, 1) := by decide +kernel
theorem dd_73_68 : decode prog_2_method_3_code 68 = .ok (.invokevirtual 57, 3) := by decide +kernel
theorem dd_73_71 : decode prog_2_method_3_code 71 = .ok (.istore_n 3, 1) := by decide +kernel
theorem dd_73_72 : decode prog_2_method_3_code 72 = .ok (.iload_n 3, 1) := by decide +kernel
theorem dd_73_73 : decode prog_2_method_3_code 73 = .ok (.ifCond .lt 5, 3) := by decide +kernel
theorem dd_73_76 : decode prog_2_method_3_code 76 = .ok (.iload_n 3, 1) := by decide +kernel
theorem dd_73_77 : decode prog_2_method_3_code 77 = .ok (.ireturn, 1) := by decide +kernel
theorem dd_73_78 : decode prog_2_method_3_code 78 = .ok (.iinc 2 1, 3) := by decide +kernel
theorem dd_73_81 : decode prog_2_method_3_code 81 = .ok (.goto (-35), 3) := by decide +kernel
theorem dd_73_84 : decode prog_2_method_3_code 84 = .ok (.iconst (-1), 1) := by decide +kernel
theorem dd_73_85 : decode prog_2_method_3_code 85 = .ok (.ireturn, 1) := by decide +kernel
theorem ks_73_0 : mi_snd cs_G cs_cl cs_inf 73 0 (mj_aload 0 1) := ms_aload_n (mi_dec ib_73 dd_73_0) rfl
theorem ks_73_1 : mi_snd cs_G cs_cl cs_inf 73 1 (mj_get 8 2 4) := ms_get (T := cs_T8) (k := 2) (mi_dec ib_73 dd_73_1) rfl cs_in8 (by decide) gw_211
theorem ks_73_4 : mi_snd cs_G cs_cl cs_inf 73 4 (mj_push (.inl (-1)) 5) := ms_iconst (mi_dec ib_73 dd_73_4) (by decide)
theorem ks_73_5 : mi_snd cs_G cs_cl cs_inf 73 5 (mj_callS 30 2 4 8) := ms_callS iw_c30 (mi_dec ib_73 dd_73_5) gw_584 iw_s30 iw_n30 (by decide +kernel) rfl (by decide)
theorem ks_73_8 : mi_snd cs_G cs_cl cs_inf 73 8 (mj_push (.inl 0) 9) := ms_iconst (mi_dec ib_73 dd_73_8) (by decide)
theorem ks_73_9 : mi_snd cs_G cs_cl cs_inf 73 9 (mj_istore 2 10) := ms_istore_n (mi_dec ib_73 dd_73_9) rfl
theorem ks_73_10 : mi_snd cs_G cs_cl cs_inf 73 10 (mj_iload 2 11) := ms_iload_n (mi_dec ib_73 dd_73_10) rfl
theorem ks_73_11 : mi_snd cs_G cs_cl cs_inf 73 11 (mj_push (.inl 16) 13) := ms_bipush (mi_dec ib_73 dd_73_11) (by decide)
theorem ks_73_13 : mi_snd cs_G cs_cl cs_inf 73 13 (mj_cmp (fun x y => decide (y ≤ x)) 29 16) := ms_icmp_ge (mi_dec ib_73 dd_73_13) (by decide)
theorem ks_73_16 : mi_snd cs_G cs_cl cs_inf 73 16 (mj_aload 0 17) := ms_aload_n (mi_dec ib_73 dd_73_16) rfl
theorem ks_73_17 : mi_snd cs_G cs_cl cs_inf 73 17 (mj_get 8 3 20) := ms_get (T := cs_T8) (k := 3) (mi_dec ib_73 dd_73_17) rfl cs_in8 (by decide) gw_212
theorem ks_73_20 : mi_snd cs_G cs_cl cs_inf 73 20 (mj_iload 2 21) := ms_iload_n (mi_dec ib_73 dd_73_20) rfl
theorem ks_73_21 : mi_snd cs_G cs_cl cs_inf 73 21 (mj_iload 2 22) := ms_iload_n (mi_dec ib_73 dd_73_21) rfl
theorem ks_73_22 : mi_snd cs_G cs_cl cs_inf 73 22 (mj_iast 23) := ms_iast (mi_dec ib_73 dd_73_22)
theorem ks_73_23 : mi_snd cs_G cs_cl cs_inf 73 23 (mj_iinc 2 1 26) := ms_iinc (mi_dec ib_73 dd_73_23) (by decide)
theorem ks_73_26 : mi_snd cs_G cs_cl cs_inf 73 26 (mj_goto 10) := ms_goto (mi_dec ib_73 dd_73_26) (by decide)
theorem ks_73_29 : mi_snd cs_G cs_cl cs_inf 73 29 (mj_aload 0 30) := ms_aload_n (mi_dec ib_73 dd_73_29) rfl
theorem ks_73_30 : mi_snd cs_G cs_cl cs_inf 73 30 (mj_push (.inl 0) 31) := ms_iconst (mi_dec ib_73 dd_73_30) (by decide)
theorem ks_73_31 : mi_snd cs_G cs_cl cs_inf 73 31 (mj_putI 8 5 34) := ms_putI (T := cs_T8) (k := 5) (mi_dec ib_73 dd_73_31) rfl cs_in8 cs_ty8_ok cs_nm8 (by decide) gw_214 (by decide) (by decide +kernel)
theorem ks_73_34 : mi_snd cs_G cs_cl cs_inf 73 34 (mj_aload 0 35) := ms_aload_n (mi_dec ib_73 dd_73_34) rfl
theorem ks_73_35 : mi_snd cs_G cs_cl cs_inf 73 35 (mj_push (.inl 0) 36) := ms_iconst (mi_dec ib_73 dd_73_35) (by decide)
theorem ks_73_36 : mi_snd cs_G cs_cl cs_inf 73 36 (mj_putI 8 6 39) := ms_putI (T := cs_T8) (k := 6) (mi_dec ib_73 dd_73_36) rfl cs_in8 cs_ty8_ok cs_nm8 (by decide) gw_215 (by decide) (by decide +kernel)
theorem ks_73_39 : mi_snd cs_G cs_cl cs_inf 73 39 (mj_aload 0 40) := ms_aload_n (mi_dec ib_73 dd_73_39) rfl
theorem ks_73_40 : mi_snd cs_G cs_cl cs_inf 73 40 (mj_iload 1 41) := ms_iload_n (mi_dec ib_73 dd_73_40) rfl
theorem ks_73_41 : mi_snd cs_G cs_cl cs_inf 73 41 (mj_callV 8 74 1 2 44) := ms_callV iw_c74 (mi_dec ib_73 dd_73_41) gw_589 iw_i74 rfl iw_v74 iw_n74 (by decide +kernel) rfl (by decide)
theorem ks_73_44 : mi_snd cs_G cs_cl cs_inf 73 44 (mj_push (.inl 0) 45) := ms_iconst (mi_dec ib_73 dd_73_44) (by decide)
theorem ks_73_45 : mi_snd cs_G cs_cl cs_inf 73 45 (mj_istore 2 46) := ms_istore_n (mi_dec ib_73 dd_73_45) rfl
theorem ks_73_46 : mi_snd cs_G cs_cl cs_inf 73 46 (mj_iload 2 47) := ms_iload_n (mi_dec ib_73 dd_73_46) rfl
theorem ks_73_47 : mi_snd cs_G cs_cl cs_inf 73 47 (mj_aload 0 48) := ms_aload_n (mi_dec ib_73 dd_73_47) rfl
theorem ks_73_48 : mi_snd cs_G cs_cl cs_inf 73 48 (mj_get 8 5 51) := ms_get (T := cs_T8) (k := 5) (mi_dec ib_73 dd_73_48) rfl cs_in8 (by decide) gw_214
theorem ks_73_51 : mi_snd cs_G cs_cl cs_inf 73 51 (mj_cmp (fun x y => decide (y ≤ x)) 84 54) := ms_icmp_ge (mi_dec ib_73 dd_73_51) (by decide)
theorem ks_73_54 : mi_snd cs_G cs_cl cs_inf 73 54 (mj_iload 2 55) := ms_iload_n (mi_dec ib_73 dd_73_54) rfl
theorem ks_73_55 : mi_snd cs_G cs_cl cs_inf 73 55 (mj_push (.inl 16) 57) := ms_bipush (mi_dec ib_73 dd_73_55) (by decide)
theorem ks_73_57 : mi_snd cs_G cs_cl cs_inf 73 57 (mj_cmp (fun x y => decide (y ≤ x)) 84 60) := ms_icmp_ge (mi_dec ib_73 dd_73_57) (by decide)
theorem ks_73_60 : mi_snd cs_G cs_cl cs_inf 73 60 (mj_aload 0 61) := ms_aload_n (mi_dec ib_73 dd_73_60) rfl
theorem ks_73_61 : mi_snd cs_G cs_cl cs_inf 73 61 (mj_aload 0 62) := ms_aload_n (mi_dec ib_73 dd_73_61) rfl
theorem ks_73_62 : mi_snd cs_G cs_cl cs_inf 73 62 (mj_get 8 4 65) := ms_get (T := cs_T8) (k := 4) (mi_dec ib_73 dd_73_62) rfl cs_in8 (by decide) gw_213
theorem ks_73_65 : mi_snd cs_G cs_cl cs_inf 73 65 (mj_iload 2 66) := ms_iload_n (mi_dec ib_73 dd_73_65) rfl
theorem ks_73_66 : mi_snd cs_G cs_cl cs_inf 73 66 (mj_ald 0 67) := ms_ald0 (mi_dec ib_73 dd_73_66)
theorem ks_73_67 : mi_snd cs_G cs_cl cs_inf 73 67 (mj_iload 1 68) := ms_iload_n (mi_dec ib_73 dd_73_67) rfl
theorem ks_73_68 : mi_snd cs_G cs_cl cs_inf 73 68 (mj_callV 8 75 2 4 71) := ms_callV iw_c75 (mi_dec ib_73 dd_73_68) gw_594 iw_i75 rfl iw_v75 iw_n75 (by decide +kernel) rfl (by decide)
theorem ks_73_71 : mi_snd cs_G cs_cl cs_inf 73 71 (mj_istore 3 72) := ms_istore_n (mi_dec ib_73 dd_73_71) rfl
theorem ks_73_72 : mi_snd cs_G cs_cl cs_inf 73 72 (mj_iload 3 73) := ms_iload_n (mi_dec ib_73 dd_73_72) rfl
theorem ks_73_73 : mi_snd cs_G cs_cl cs_inf 73 73 (mj_if (fun x => decide (x < 0)) 78 76) := ms_if_lt (mi_dec ib_73 dd_73_73) (by decide)
theorem ks_73_76 : mi_snd cs_G cs_cl cs_inf 73 76 (mj_iload 3 77) := ms_iload_n (mi_dec ib_73 dd_73_76) rfl
theorem ks_73_77 : mi_snd cs_G cs_cl cs_inf 73 77 (mj_iret) := ms_iret (mi_dec ib_73 dd_73_77) rfl
theorem ks_73_78 : mi_snd cs_G cs_cl cs_inf 73 78 (mj_iinc 2 1 81) := ms_iinc (mi_dec ib_73 dd_73_78) (by decide)
theorem ks_73_81 : mi_snd cs_G cs_cl cs_inf 73 81 (mj_goto 46) := ms_goto (mi_dec ib_73 dd_73_81) (by decide)
theorem ks_73_84 : mi_snd cs_G cs_cl cs_inf 73 84 (mj_push (.inl (-1)) 85) := ms_iconst (mi_dec ib_73 dd_73_84) (by decide)
theorem ks_73_85 : mi_snd cs_G cs_cl cs_inf 73 85 (mj_iret) := ms_iret (mi_dec ib_73 dd_73_85) rfl
def ct_73 : List (Nat × mi_I) := [
  (0, mj_aload 0 1),
  (1, mj_get 8 2 4),
  (4, mj_push (.inl (-1)) 5),
  (5, mj_callS 30 2 4 8),
  (8, mj_push (.inl 0) 9),
  (9, mj_istore 2 10),
  (10, mj_iload 2 11),
  (11, mj_push (.inl 16) 13),
  (13, mj_cmp (fun x y => decide (y ≤ x)) 29 16),
  (16, mj_aload 0 17),
  (17, mj_get 8 3 20),
  (20, mj_iload 2 21),
  (21, mj_iload 2 22),
  (22, mj_iast 23),
  (23, mj_iinc 2 1 26),
  (26, mj_goto 10),
  (29, mj_aload 0 30),
  (30, mj_push (.inl 0) 31),
  (31, mj_putI 8 5 34),
  (34, mj_aload 0 35),
  (35, mj_push (.inl 0) 36),
  (36, mj_putI 8 6 39),
  (39, mj_aload 0 40),
  (40, mj_iload 1 41),
  (41, mj_callV 8 74 1 2 44),
  (44, mj_push (.inl 0) 45),
  (45, mj_istore 2 46),
  (46, mj_iload 2 47),
  (47, mj_aload 0 48),
  (48, mj_get 8 5 51),
  (51, mj_cmp (fun x y => decide (y ≤ x)) 84 54),
  (54, mj_iload 2 55),
  (55, mj_push (.inl 16) 57),
  (57, mj_cmp (fun x y => decide (y ≤ x)) 84 60),
  (60, mj_aload 0 61),
  (61, mj_aload 0 62),
  (62, mj_get 8 4 65),
  (65, mj_iload 2 66),
  (66, mj_ald 0 67),
  (67, mj_iload 1 68),
  (68, mj_callV 8 75 2 4 71),
  (71, mj_istore 3 72),
  (72, mj_iload 3 73),
  (73, mj_if (fun x => decide (x < 0)) 78 76),
  (76, mj_iload 3 77),
  (77, mj_iret),
  (78, mj_iinc 2 1 81),
  (81, mj_goto 46),
  (84, mj_push (.inl (-1)) 85),
  (85, mj_iret)]
theorem sd_73 : ∀ q ∈ ct_73, mi_snd cs_G cs_cl cs_inf 73 q.1 q.2 := mi_fc ks_73_0 (mi_fc ks_73_1 (mi_fc ks_73_4 (mi_fc ks_73_5 (mi_fc ks_73_8 (mi_fc ks_73_9 (mi_fc ks_73_10 (mi_fc ks_73_11 (mi_fc ks_73_13 (mi_fc ks_73_16 (mi_fc ks_73_17 (mi_fc ks_73_20 (mi_fc ks_73_21 (mi_fc ks_73_22 (mi_fc ks_73_23 (mi_fc ks_73_26 (mi_fc ks_73_29 (mi_fc ks_73_30 (mi_fc ks_73_31 (mi_fc ks_73_34 (mi_fc ks_73_35 (mi_fc ks_73_36 (mi_fc ks_73_39 (mi_fc ks_73_40 (mi_fc ks_73_41 (mi_fc ks_73_44 (mi_fc ks_73_45 (mi_fc ks_73_46 (mi_fc ks_73_47 (mi_fc ks_73_48 (mi_fc ks_73_51 (mi_fc ks_73_54 (mi_fc ks_73_55 (mi_fc ks_73_57 (mi_fc ks_73_60 (mi_fc ks_73_61 (mi_fc ks_73_62 (mi_fc ks_73_65 (mi_fc ks_73_66 (mi_fc ks_73_67 (mi_fc ks_73_68 (mi_fc ks_73_71 (mi_fc ks_73_72 (mi_fc ks_73_73 (mi_fc ks_73_76 (mi_fc ks_73_77 (mi_fc ks_73_78 (mi_fc ks_73_81 (mi_fc ks_73_84 (mi_fc ks_73_85 mi_fn)))))))))))))))))))))))))))))))))))))))))))))))))
theorem dd_74_0 : decode prog_2_method_5_code 0 = .ok (.aload_n 0, 1) := by decide +kernel
theorem dd_74_1 : decode prog_2_method_5_code 1 = .ok (.getfield 48, 3) := by decide +kernel
theorem dd_74_4 : decode prog_2_method_5_code 4 = .ok (.bipush 16, 2) := by decide +kernel
theorem dd_74_6 : decode prog_2_method_5_code 6 = .ok (.if_icmp .ge 46, 3) := by decide +kernel
theorem dd_74_9 : decode prog_2_method_5_code 9 = .ok (.aload_n 0, 1) := by decide +kernel
theorem dd_74_10 : decode prog_2_method_5_code 10 = .ok (.getfield 51, 3) := by decide +kernel
theorem dd_74_13 : decode prog_2_method_5_code 13 = .ok (.iload_n 1, 1) := by decide +kernel
theorem dd_74_14 : decode prog_2_method_5_code 14 = .ok (.invokestatic 64, 3) := by decide +kernel
theorem dd_74_17 : decode prog_2_method_5_code 17 = .ok (.ifCond .ne 35, 3) := by decide +kernel
theorem dd_74_20 : decode prog_2_method_5_code 20 = .ok (.aload_n 0, 1) := by decide +kernel
theorem dd_74_21 : decode prog_2_method_5_code 21 = .ok (.dup, 1) := by decide +kernel
theorem dd_74_22 : decode prog_2_method_5_code 22 = .ok (.getfield 51, 3) := by decide +kernel
theorem dd_74_25 : decode prog_2_method_5_code 25 = .ok (.iconst 1, 1) := by decide +kernel
theorem dd_74_26 : decode prog_2_method_5_code 26 = .ok (.iload_n 1, 1) := by decide +kernel
theorem dd_74_27 : decode prog_2_method_5_code 27 = .ok (.ishl, 1) := by decide +kernel
theorem dd_74_28 : decode prog_2_method_5_code 28 = .ok (.ior, 1) := by decide +kernel
theorem dd_74_29 : decode prog_2_method_5_code 29 = .ok (.putfield 51, 3) := by decide +kernel
theorem dd_74_32 : decode prog_2_method_5_code 32 = .ok (.aload_n 0, 1) := by decide +kernel
theorem dd_74_33 : decode prog_2_method_5_code 33 = .ok (.getfield 21, 3) := by decide +kernel
theorem dd_74_36 : decode prog_2_method_5_code 36 = .ok (.aload_n 0, 1) := by decide +kernel
theorem dd_74_37 : decode prog_2_method_5_code 37 = .ok (.getfield 48, 3) := by decide +kernel
theorem dd_74_40 : decode prog_2_method_5_code 40 = .ok (.iload_n 1, 1) := by decide +kernel
theorem dd_74_41 : decode prog_2_method_5_code 41 = .ok (.iastore, 1) := by decide +kernel
theorem dd_74_42 : decode prog_2_method_5_code 42 = .ok (.aload_n 0, 1) := by decide +kernel
theorem dd_74_43 : decode prog_2_method_5_code 43 = .ok (.dup, 1) := by decide +kernel
theorem dd_74_44 : decode prog_2_method_5_code 44 = .ok (.getfield 48, 3) := by decide +kernel
theorem dd_74_47 : decode prog_2_method_5_code 47 = .ok (.iconst 1, 1) := by decide +kernel
theorem dd_74_48 : decode prog_2_method_5_code 48 = .ok (.iadd, 1) := by decide +kernel
theorem dd_74_49 : decode prog_2_method_5_code 49 = .ok (.putfield 48, 3) := by decide +kernel
theorem dd_74_52 : decode prog_2_method_5_code 52 = .ok (.return_, 1) := by decide +kernel
theorem ks_74_0 : mi_snd cs_G cs_cl cs_inf 74 0 (mj_aload 0 1) := ms_aload_n (mi_dec ib_74 dd_74_0) rfl
theorem ks_74_1 : mi_snd cs_G cs_cl cs_inf 74 1 (mj_get 8 5 4) := ms_get (T := cs_T8) (k := 5) (mi_dec ib_74 dd_74_1) rfl cs_in8 (by decide) gw_214
theorem ks_74_4 : mi_snd cs_G cs_cl cs_inf 74 4 (mj_push (.inl 16) 6) := ms_bipush (mi_dec ib_74 dd_74_4) (by decide)
theorem ks_74_6 : mi_snd cs_G cs_cl cs_inf 74 6 (mj_cmp (fun x y => decide (y ≤ x)) 52 9) := ms_icmp_ge (mi_dec ib_74 dd_74_6) (by decide)
theorem ks_74_9 : mi_snd cs_G cs_cl cs_inf 74 9 (mj_aload 0 10) := ms_aload_n (mi_dec ib_74 dd_74_9) rfl
theorem ks_74_10 : mi_snd cs_G cs_cl cs_inf 74 10 (mj_get 8 6 13) := ms_get (T := cs_T8) (k := 6) (mi_dec ib_74 dd_74_10) rfl cs_in8 (by decide) gw_215
theorem ks_74_13 : mi_snd cs_G cs_cl cs_inf 74 13 (mj_iload 1 14) := ms_iload_n (mi_dec ib_74 dd_74_13) rfl
theorem ks_74_14 : mi_snd cs_G cs_cl cs_inf 74 14 (mj_callS 7 2 2 17) := ms_callSN iw_c7 (mi_dec ib_74 dd_74_14) gw_593 iw_s7 iw_n7 (by decide +kernel) rfl (by decide)
theorem ks_74_17 : mi_snd cs_G cs_cl cs_inf 74 17 (mj_if (fun x => decide (¬ x = 0)) 52 20) := ms_if_ne (mi_dec ib_74 dd_74_17) (by decide)
theorem ks_74_20 : mi_snd cs_G cs_cl cs_inf 74 20 (mj_aload 0 21) := ms_aload_n (mi_dec ib_74 dd_74_20) rfl
theorem ks_74_21 : mi_snd cs_G cs_cl cs_inf 74 21 (mj_dup 22) := ms_dup (mi_dec ib_74 dd_74_21)
theorem ks_74_22 : mi_snd cs_G cs_cl cs_inf 74 22 (mj_get 8 6 25) := ms_get (T := cs_T8) (k := 6) (mi_dec ib_74 dd_74_22) rfl cs_in8 (by decide) gw_215
theorem ks_74_25 : mi_snd cs_G cs_cl cs_inf 74 25 (mj_push (.inl 1) 26) := ms_iconst (mi_dec ib_74 dd_74_25) (by decide)
theorem ks_74_26 : mi_snd cs_G cs_cl cs_inf 74 26 (mj_iload 1 27) := ms_iload_n (mi_dec ib_74 dd_74_26) rfl
theorem ks_74_27 : mi_snd cs_G cs_cl cs_inf 74 27 (mj_bin (fun x y => x <<< (y &&& 31)) 28) := ms_ishl (mi_dec ib_74 dd_74_27)
theorem ks_74_28 : mi_snd cs_G cs_cl cs_inf 74 28 (mj_bin (fun x y => x ||| y) 29) := ms_ior (mi_dec ib_74 dd_74_28)
theorem ks_74_29 : mi_snd cs_G cs_cl cs_inf 74 29 (mj_putI 8 6 32) := ms_putI (T := cs_T8) (k := 6) (mi_dec ib_74 dd_74_29) rfl cs_in8 cs_ty8_ok cs_nm8 (by decide) gw_215 (by decide) (by decide +kernel)
theorem ks_74_32 : mi_snd cs_G cs_cl cs_inf 74 32 (mj_aload 0 33) := ms_aload_n (mi_dec ib_74 dd_74_32) rfl
theorem ks_74_33 : mi_snd cs_G cs_cl cs_inf 74 33 (mj_get 8 4 36) := ms_get (T := cs_T8) (k := 4) (mi_dec ib_74 dd_74_33) rfl cs_in8 (by decide) gw_213
theorem ks_74_36 : mi_snd cs_G cs_cl cs_inf 74 36 (mj_aload 0 37) := ms_aload_n (mi_dec ib_74 dd_74_36) rfl
theorem ks_74_37 : mi_snd cs_G cs_cl cs_inf 74 37 (mj_get 8 5 40) := ms_get (T := cs_T8) (k := 5) (mi_dec ib_74 dd_74_37) rfl cs_in8 (by decide) gw_214
theorem ks_74_40 : mi_snd cs_G cs_cl cs_inf 74 40 (mj_iload 1 41) := ms_iload_n (mi_dec ib_74 dd_74_40) rfl
theorem ks_74_41 : mi_snd cs_G cs_cl cs_inf 74 41 (mj_iast 42) := ms_iast (mi_dec ib_74 dd_74_41)
theorem ks_74_42 : mi_snd cs_G cs_cl cs_inf 74 42 (mj_aload 0 43) := ms_aload_n (mi_dec ib_74 dd_74_42) rfl
theorem ks_74_43 : mi_snd cs_G cs_cl cs_inf 74 43 (mj_dup 44) := ms_dup (mi_dec ib_74 dd_74_43)
theorem ks_74_44 : mi_snd cs_G cs_cl cs_inf 74 44 (mj_get 8 5 47) := ms_get (T := cs_T8) (k := 5) (mi_dec ib_74 dd_74_44) rfl cs_in8 (by decide) gw_214
theorem ks_74_47 : mi_snd cs_G cs_cl cs_inf 74 47 (mj_push (.inl 1) 48) := ms_iconst (mi_dec ib_74 dd_74_47) (by decide)
theorem ks_74_48 : mi_snd cs_G cs_cl cs_inf 74 48 (mj_bin (fun x y => x + y) 49) := ms_iadd (mi_dec ib_74 dd_74_48)
theorem ks_74_49 : mi_snd cs_G cs_cl cs_inf 74 49 (mj_putI 8 5 52) := ms_putI (T := cs_T8) (k := 5) (mi_dec ib_74 dd_74_49) rfl cs_in8 cs_ty8_ok cs_nm8 (by decide) gw_214 (by decide) (by decide +kernel)
theorem ks_74_52 : mi_snd cs_G cs_cl cs_inf 74 52 (mj_ret) := ms_ret (mi_dec ib_74 dd_74_52) rfl
def ct_74 : List (Nat × mi_I) := [
  (0, mj_aload 0 1),
  (1, mj_get 8 5 4),
  (4, mj_push (.inl 16) 6),
  (6, mj_cmp (fun x y => decide (y ≤ x)) 52 9),
  (9, mj_aload 0 10),
  (10, mj_get 8 6 13),
  (13, mj_iload 1 14),
  (14, mj_callS 7 2 2 17),
  (17, mj_if (fun x => decide (¬ x = 0)) 52 20),
  (20, mj_aload 0 21),
  (21, mj_dup 22),
  (22, mj_get 8 6 25),
  (25, mj_push (.inl 1) 26),
  (26, mj_iload 1 27),
  (27, mj_bin (fun x y => x <<< (y &&& 31)) 28),
  (28, mj_bin (fun x y => x ||| y) 29),
  (29, mj_putI 8 6 32),
  (32, mj_aload 0 33),
  (33, mj_get 8 4 36),
  (36, mj_aload 0 37),
  (37, mj_get 8 5 40),
  (40, mj_iload 1 41),
  (41, mj_iast 42),
  (42, mj_aload 0 43),
  (43, mj_dup 44),
  (44, mj_get 8 5 47),
  (47, mj_push (.inl 1) 48),
  (48, mj_bin (fun x y => x + y) 49),
  (49, mj_putI 8 5 52),
  (52, mj_ret)]
theorem sd_74 : ∀ q ∈ ct_74, mi_snd cs_G cs_cl cs_inf 74 q.1 q.2 := mi_fc ks_74_0 (mi_fc ks_74_1 (mi_fc ks_74_4 (mi_fc ks_74_6 (mi_fc ks_74_9 (mi_fc ks_74_10 (mi_fc ks_74_13 (mi_fc ks_74_14 (mi_fc ks_74_17 (mi_fc ks_74_20 (mi_fc ks_74_21 (mi_fc ks_74_22 (mi_fc ks_74_25 (mi_fc ks_74_26 (mi_fc ks_74_27 (mi_fc ks_74_28 (mi_fc ks_74_29 (mi_fc ks_74_32 (mi_fc ks_74_33 (mi_fc ks_74_36 (mi_fc ks_74_37 (mi_fc ks_74_40 (mi_fc ks_74_41 (mi_fc ks_74_42 (mi_fc ks_74_43 (mi_fc ks_74_44 (mi_fc ks_74_47 (mi_fc ks_74_48 (mi_fc ks_74_49 (mi_fc ks_74_52 mi_fn)))))))))))))))))))))))))))))
theorem dd_75_0 : decode prog_2_method_4_code 0 = .ok (.iconst 0, 1) := by decide +kernel
theorem dd_75_1 : decode prog_2_method_4_code 1 = .ok (.istore_n 3, 1) := by decide +kernel
theorem dd_75_2 : decode prog_2_method_4_code 2 = .ok (.iload_n 3, 1) := by decide +kernel
theorem dd_75_3 : decode prog_2_method_4_code 3 = .ok (.aload_n 0, 1) := by decide +kernel
theorem dd_75_4 : decode prog_2_method_4_code 4 = .ok (.getfield 24, 3) := by decide +kernel
theorem dd_75_7 : decode prog_2_method_4_code 7 = .ok (.getfield 34, 3) := by decide +kernel
theorem dd_75_10 : decode prog_2_method_4_code 10 = .ok (.if_icmp .ge 123, 3) := by decide +kernel
theorem dd_75_13 : decode prog_2_method_4_code 13 = .ok (.aload_n 0, 1) := by decide +kernel
theorem dd_75_14 : decode prog_2_method_4_code 14 = .ok (.getfield 24, 3) := by decide +kernel
theorem dd_75_17 : decode prog_2_method_4_code 17 = .ok (.iload_n 1, 1) := by decide +kernel
theorem dd_75_18 : decode prog_2_method_4_code 18 = .ok (.invokevirtual 61, 3) := by decide +kernel
theorem dd_75_21 : decode prog_2_method_4_code 21 = .ok (.iload_n 3, 1) := by decide +kernel
theorem dd_75_22 : decode prog_2_method_4_code 22 = .ok (.invokestatic 64, 3) := by decide +kernel
theorem dd_75_25 : decode prog_2_method_4_code 25 = .ok (.ifCond .eq 102, 3) := by decide +kernel
theorem dd_75_28 : decode prog_2_method_4_code 28 = .ok (.aload_n 0, 1) := by decide +kernel
theorem dd_75_29 : decode prog_2_method_4_code 29 = .ok (.getfield 18, 3) := by decide +kernel
theorem dd_75_32 : decode prog_2_method_4_code 32 = .ok (.iload_n 1, 1) := by decide +kernel
theorem dd_75_33 : decode prog_2_method_4_code 33 = .ok (.invokestatic 68, 3) := by decide +kernel
theorem dd_75_36 : decode prog_2_method_4_code 36 = .ok (.aload_n 0, 1) := by decide +kernel
theorem dd_75_37 : decode prog_2_method_4_code 37 = .ok (.getfield 18, 3) := by decide +kernel
theorem dd_75_40 : decode prog_2_method_4_code 40 = .ok (.iload_n 3, 1) := by decide +kernel
theorem dd_75_41 : decode prog_2_method_4_code 41 = .ok (.iaload, 1) := by decide +kernel
theorem dd_75_42 : decode prog_2_method_4_code 42 = .ok (.if_icmp .eq 85, 3) := by decide +kernel
theorem dd_75_45 : decode prog_2_method_4_code 45 = .ok (.aload_n 0, 1) := by decide +kernel
theorem dd_75_46 : decode prog_2_method_4_code 46 = .ok (.getfield 9, 3) := by decide +kernel
theorem dd_75_49 : decode prog_2_method_4_code 49 = .ok (.iload_n 1, 1) := by decide +kernel
theorem dd_75_50 : decode prog_2_method_4_code 50 = .ok (.invokestatic 68, 3) := by decide +kernel
theorem dd_75_53 : decode prog_2_method_4_code 53 = .ok (.iload_n 3, 1) := by decide +kernel
theorem dd_75_54 : decode prog_2_method_4_code 54 = .ok (.if_icmp .ne 6, 3) := by decide +kernel
theorem dd_75_57 : decode prog_2_method_4_code 57 = .ok (.goto 70, 3) := by decide +kernel
theorem dd_75_60 : decode prog_2_method_4_code 60 = .ok (.iload_n 3, 1) := by decide +kernel
theorem dd_75_61 : decode prog_2_method_4_code 61 = .ok (.iload_n 2, 1) := by decide +kernel
theorem dd_75_62 : decode prog_2_method_4_code 62 = .ok (.if_icmp .eq 19, 3) := by decide +kernel
theorem dd_75_65 : decode prog_2_method_4_code 65 = .ok (.aload_n 0, 1) := by decide +kernel
theorem dd_75_66 : decode prog_2_method_4_code 66 = .ok (.getfield 15, 3) := by decide +kernel
theorem dd_75_69 : decode prog_2_method_4_code 69 = .ok (.aload_n 0, 1) := by decide +kernel
theorem dd_75_70 : decode prog_2_method_4_code 70 = .ok (.getfield 9, 3) := by decide +kernel
theorem dd_75_73 : decode prog_2_method_4_code 73 = .ok (.iload_n 3, 1) := by decide +kernel
theorem dd_75_74 : decode prog_2_method_4_code 74 = .ok (.iaload, 1) := by decide +kernel
theorem dd_75_75 : decode prog_2_method_4_code 75 = .ok (.invokestatic 68, 3) := by decide +kernel
theorem dd_75_78 : decode prog_2_method_4_code 78 = .ok (.ifCond .lt 12, 3) := by decide +kernel
theorem dd_75_81 : decode prog_2_method_4_code 81 = .ok (.aload_n 0, 1) := by decide +kernel
theorem dd_75_82 : decode prog_2_method_4_code 82 = .ok (.iload_n 1, 1) := by decide +kernel
theorem dd_75_83 : decode prog_2_method_4_code 83 = .ok (.iload_n 3, 1) := by decide +kernel
theorem dd_75_84 : decode prog_2_method_4_code 84 = .ok (.invokevirtual 72, 3) := by decide +kernel
theorem dd_75_87 : decode prog_2_method_4_code 87 = .ok (.goto 40, 3) := by decide +kernel
theorem dd_75_90 : decode prog_2_method_4_code 90 = .ok (.aload_n 0, 1) := by decide +kernel
theorem dd_75_91 : decode prog_2_method_4_code 91 = .ok (.getfield 15, 3) := by decide +kernel
theorem dd_75_94 : decode prog_2_method_4_code 94 = .ok (.iload_n 3, 1) := by decide +kernel
theorem dd_75_95 : decode prog_2_method_4_code 95 = .ok (.iaload, 1) := by decide +kernel
theorem dd_75_96 : decode prog_2_method_4_code 96 = .ok (.ifCond .ge 31, 3) := by decide +kernel
theorem dd_75_99 : decode prog_2_method_4_code 99 = .ok (.aload_n 0, 1) := by decide +kernel
theorem dd_75_100 : decode prog_2_method_4_code 100 = .ok (.getfield 15, 3) := by decide +kernel
theorem dd_75_103 : decode prog_2_method_4_code 103 = .ok (.iload_n 3, 1) := by decide +kernel
theorem dd_75_104 : decode prog_2_method_4_code 104 = .ok (.iload_n 1, 1) := by decide +kernel
theorem dd_75_105 : decode prog_2_method_4_code 105 = .ok (.iastore, 1) := by decide +kernel
theorem dd_75_106 : decode prog_2_method_4_code 106 = .ok (.aload_n 0, 1) := by decide +kernel
theorem dd_75_107 : decode prog_2_method_4_code 107 = .ok (.getfield 9, 3) := by decide +kernel
theorem dd_75_110 : decode prog_2_method_4_code 110 = .ok (.iload_n 3, 1) := by decide +kernel
theorem dd_75_111 : decode prog_2_method_4_code 111 = .ok (.iaload, 1) := by decide +kernel
theorem dd_75_112 : decode prog_2_method_4_code 112 = .ok (.ifCond .ge 5, 3) := by decide +kernel
theorem dd_75_115 : decode prog_2_method_4_code 115 = .ok (.iload_n 3, 1) := by decide +kernel
theorem dd_75_116 : decode prog_2_method_4_code 116 = .ok (.ireturn, 1) := by decide +kernel
theorem dd_75_117 : decode prog_2_method_4_code 117 = .ok (.aload_n 0, 1) := by decide +kernel
theorem dd_75_118 : decode prog_2_method_4_code 118 = .ok (.aload_n 0, 1) := by decide +kernel
theorem dd_75_119 : decode prog_2_method_4_code 119 = .ok (.getfield 9, 3) := by decide +kernel
theorem dd_75_122 : decode prog_2_method_4_code 122 = .ok (.iload_n 3, 1) := by decide +kernel
theorem dd_75_123 : decode prog_2_method_4_code 123 = .ok (.iaload, 1) := by decide +kernel
theorem dd_75_124 : decode prog_2_method_4_code 124 = .ok (.invokevirtual 54, 3) := by decide +kernel
theorem dd_75_127 : decode prog_2_method_4_code 127 = .ok (.iinc 3 1, 3) := by decide +kernel
theorem dd_75_130 : decode prog_2_method_4_code 130 = .ok (.goto (-128), 3) := by decide +kernel
theorem dd_75_133 : decode prog_2_method_4_code 133 = .ok (.iconst (-1), 1) := by decide +kernel
theorem dd_75_134 : decode prog_2_method_4_code 134 = .ok (.ireturn, 1) := by decide +kernel
theorem ks_75_0 : mi_snd cs_G cs_cl cs_inf 75 0 (mj_push (.inl 0) 1) := ms_iconst (mi_dec ib_75 dd_75_0) (by decide)
theorem ks_75_1 : mi_snd cs_G cs_cl cs_inf 75 1 (mj_istore 3 2) := ms_istore_n (mi_dec ib_75 dd_75_1) rfl
theorem ks_75_2 : mi_snd cs_G cs_cl cs_inf 75 2 (mj_iload 3 3) := ms_iload_n (mi_dec ib_75 dd_75_2) rfl
theorem ks_75_3 : mi_snd cs_G cs_cl cs_inf 75 3 (mj_aload 0 4) := ms_aload_n (mi_dec ib_75 dd_75_3) rfl
theorem ks_75_4 : mi_snd cs_G cs_cl cs_inf 75 4 (mj_get 8 0 7) := ms_get (T := cs_T8) (k := 0) (mi_dec ib_75 dd_75_4) rfl cs_in8 (by decide) gw_209
theorem ks_75_7 : mi_snd cs_G cs_cl cs_inf 75 7 (mj_get 1 0 10) := ms_getN (T := cs_T1) (k := 0) (mi_dec ib_75 dd_75_7) rfl cs_in1 (by decide) gw_30
theorem ks_75_10 : mi_snd cs_G cs_cl cs_inf 75 10 (mj_cmp (fun x y => decide (y ≤ x)) 133 13) := ms_icmp_ge (mi_dec ib_75 dd_75_10) (by decide)
theorem ks_75_13 : mi_snd cs_G cs_cl cs_inf 75 13 (mj_aload 0 14) := ms_aload_n (mi_dec ib_75 dd_75_13) rfl
theorem ks_75_14 : mi_snd cs_G cs_cl cs_inf 75 14 (mj_get 8 0 17) := ms_get (T := cs_T8) (k := 0) (mi_dec ib_75 dd_75_14) rfl cs_in8 (by decide) gw_209
theorem ks_75_17 : mi_snd cs_G cs_cl cs_inf 75 17 (mj_iload 1 18) := ms_iload_n (mi_dec ib_75 dd_75_17) rfl
theorem ks_75_18 : mi_snd cs_G cs_cl cs_inf 75 18 (mj_callV 1 6 1 2 21) := ms_callVN iw_c6 (mi_dec ib_75 dd_75_18) gw_598 iw_i6 rfl iw_v6 iw_n6 (by decide +kernel) rfl (by decide)
theorem ks_75_21 : mi_snd cs_G cs_cl cs_inf 75 21 (mj_iload 3 22) := ms_iload_n (mi_dec ib_75 dd_75_21) rfl
theorem ks_75_22 : mi_snd cs_G cs_cl cs_inf 75 22 (mj_callS 7 2 2 25) := ms_callSN iw_c7 (mi_dec ib_75 dd_75_22) gw_593 iw_s7 iw_n7 (by decide +kernel) rfl (by decide)
theorem ks_75_25 : mi_snd cs_G cs_cl cs_inf 75 25 (mj_if (fun x => decide (x = 0)) 127 28) := ms_if_eq (mi_dec ib_75 dd_75_25) (by decide)
theorem ks_75_28 : mi_snd cs_G cs_cl cs_inf 75 28 (mj_aload 0 29) := ms_aload_n (mi_dec ib_75 dd_75_28) rfl
theorem ks_75_29 : mi_snd cs_G cs_cl cs_inf 75 29 (mj_get 8 3 32) := ms_get (T := cs_T8) (k := 3) (mi_dec ib_75 dd_75_29) rfl cs_in8 (by decide) gw_212
theorem ks_75_32 : mi_snd cs_G cs_cl cs_inf 75 32 (mj_iload 1 33) := ms_iload_n (mi_dec ib_75 dd_75_32) rfl
theorem ks_75_33 : mi_snd cs_G cs_cl cs_inf 75 33 (mj_callS 76 2 2 36) := ms_callS iw_c76 (mi_dec ib_75 dd_75_33) gw_599 iw_s76 iw_n76 (by decide +kernel) rfl (by decide)
theorem ks_75_36 : mi_snd cs_G cs_cl cs_inf 75 36 (mj_aload 0 37) := ms_aload_n (mi_dec ib_75 dd_75_36) rfl
theorem ks_75_37 : mi_snd cs_G cs_cl cs_inf 75 37 (mj_get 8 3 40) := ms_get (T := cs_T8) (k := 3) (mi_dec ib_75 dd_75_37) rfl cs_in8 (by decide) gw_212
theorem ks_75_40 : mi_snd cs_G cs_cl cs_inf 75 40 (mj_iload 3 41) := ms_iload_n (mi_dec ib_75 dd_75_40) rfl
theorem ks_75_41 : mi_snd cs_G cs_cl cs_inf 75 41 (mj_ald 0 42) := ms_ald0 (mi_dec ib_75 dd_75_41)
theorem ks_75_42 : mi_snd cs_G cs_cl cs_inf 75 42 (mj_cmp (fun x y => decide (x = y)) 127 45) := ms_icmp_eq (mi_dec ib_75 dd_75_42) (by decide)
theorem ks_75_45 : mi_snd cs_G cs_cl cs_inf 75 45 (mj_aload 0 46) := ms_aload_n (mi_dec ib_75 dd_75_45) rfl
theorem ks_75_46 : mi_snd cs_G cs_cl cs_inf 75 46 (mj_get 8 1 49) := ms_get (T := cs_T8) (k := 1) (mi_dec ib_75 dd_75_46) rfl cs_in8 (by decide) gw_210
theorem ks_75_49 : mi_snd cs_G cs_cl cs_inf 75 49 (mj_iload 1 50) := ms_iload_n (mi_dec ib_75 dd_75_49) rfl
theorem ks_75_50 : mi_snd cs_G cs_cl cs_inf 75 50 (mj_callS 76 2 2 53) := ms_callS iw_c76 (mi_dec ib_75 dd_75_50) gw_599 iw_s76 iw_n76 (by decide +kernel) rfl (by decide)
theorem ks_75_53 : mi_snd cs_G cs_cl cs_inf 75 53 (mj_iload 3 54) := ms_iload_n (mi_dec ib_75 dd_75_53) rfl
theorem ks_75_54 : mi_snd cs_G cs_cl cs_inf 75 54 (mj_cmp (fun x y => decide (¬ x = y)) 60 57) := ms_icmp_ne (mi_dec ib_75 dd_75_54) (by decide)
theorem ks_75_57 : mi_snd cs_G cs_cl cs_inf 75 57 (mj_goto 127) := ms_goto (mi_dec ib_75 dd_75_57) (by decide)
theorem ks_75_60 : mi_snd cs_G cs_cl cs_inf 75 60 (mj_iload 3 61) := ms_iload_n (mi_dec ib_75 dd_75_60) rfl
theorem ks_75_61 : mi_snd cs_G cs_cl cs_inf 75 61 (mj_iload 2 62) := ms_iload_n (mi_dec ib_75 dd_75_61) rfl
theorem ks_75_62 : mi_snd cs_G cs_cl cs_inf 75 62 (mj_cmp (fun x y => decide (x = y)) 81 65) := ms_icmp_eq (mi_dec ib_75 dd_75_62) (by decide)
theorem ks_75_65 : mi_snd cs_G cs_cl cs_inf 75 65 (mj_aload 0 66) := ms_aload_n (mi_dec ib_75 dd_75_65) rfl
theorem ks_75_66 : mi_snd cs_G cs_cl cs_inf 75 66 (mj_get 8 2 69) := ms_get (T := cs_T8) (k := 2) (mi_dec ib_75 dd_75_66) rfl cs_in8 (by decide) gw_211
theorem ks_75_69 : mi_snd cs_G cs_cl cs_inf 75 69 (mj_aload 0 70) := ms_aload_n (mi_dec ib_75 dd_75_69) rfl
theorem ks_75_70 : mi_snd cs_G cs_cl cs_inf 75 70 (mj_get 8 1 73) := ms_get (T := cs_T8) (k := 1) (mi_dec ib_75 dd_75_70) rfl cs_in8 (by decide) gw_210
theorem ks_75_73 : mi_snd cs_G cs_cl cs_inf 75 73 (mj_iload 3 74) := ms_iload_n (mi_dec ib_75 dd_75_73) rfl
theorem ks_75_74 : mi_snd cs_G cs_cl cs_inf 75 74 (mj_ald 0 75) := ms_ald0 (mi_dec ib_75 dd_75_74)
theorem ks_75_75 : mi_snd cs_G cs_cl cs_inf 75 75 (mj_callS 76 2 2 78) := ms_callS iw_c76 (mi_dec ib_75 dd_75_75) gw_599 iw_s76 iw_n76 (by decide +kernel) rfl (by decide)
theorem ks_75_78 : mi_snd cs_G cs_cl cs_inf 75 78 (mj_if (fun x => decide (x < 0)) 90 81) := ms_if_lt (mi_dec ib_75 dd_75_78) (by decide)
theorem ks_75_81 : mi_snd cs_G cs_cl cs_inf 75 81 (mj_aload 0 82) := ms_aload_n (mi_dec ib_75 dd_75_81) rfl
theorem ks_75_82 : mi_snd cs_G cs_cl cs_inf 75 82 (mj_iload 1 83) := ms_iload_n (mi_dec ib_75 dd_75_82) rfl
theorem ks_75_83 : mi_snd cs_G cs_cl cs_inf 75 83 (mj_iload 3 84) := ms_iload_n (mi_dec ib_75 dd_75_83) rfl
theorem ks_75_84 : mi_snd cs_G cs_cl cs_inf 75 84 (mj_callV 8 77 2 6 87) := ms_callV iw_c77 (mi_dec ib_75 dd_75_84) gw_602 iw_i77 rfl iw_v77 iw_n77 (by decide +kernel) rfl (by decide)
theorem ks_75_87 : mi_snd cs_G cs_cl cs_inf 75 87 (mj_goto 127) := ms_goto (mi_dec ib_75 dd_75_87) (by decide)
theorem ks_75_90 : mi_snd cs_G cs_cl cs_inf 75 90 (mj_aload 0 91) := ms_aload_n (mi_dec ib_75 dd_75_90) rfl
theorem ks_75_91 : mi_snd cs_G cs_cl cs_inf 75 91 (mj_get 8 2 94) := ms_get (T := cs_T8) (k := 2) (mi_dec ib_75 dd_75_91) rfl cs_in8 (by decide) gw_211
theorem ks_75_94 : mi_snd cs_G cs_cl cs_inf 75 94 (mj_iload 3 95) := ms_iload_n (mi_dec ib_75 dd_75_94) rfl
theorem ks_75_95 : mi_snd cs_G cs_cl cs_inf 75 95 (mj_ald 0 96) := ms_ald0 (mi_dec ib_75 dd_75_95)
theorem ks_75_96 : mi_snd cs_G cs_cl cs_inf 75 96 (mj_if (fun x => decide (0 ≤ x)) 127 99) := ms_if_ge (mi_dec ib_75 dd_75_96) (by decide)
theorem ks_75_99 : mi_snd cs_G cs_cl cs_inf 75 99 (mj_aload 0 100) := ms_aload_n (mi_dec ib_75 dd_75_99) rfl
theorem ks_75_100 : mi_snd cs_G cs_cl cs_inf 75 100 (mj_get 8 2 103) := ms_get (T := cs_T8) (k := 2) (mi_dec ib_75 dd_75_100) rfl cs_in8 (by decide) gw_211
theorem ks_75_103 : mi_snd cs_G cs_cl cs_inf 75 103 (mj_iload 3 104) := ms_iload_n (mi_dec ib_75 dd_75_103) rfl
theorem ks_75_104 : mi_snd cs_G cs_cl cs_inf 75 104 (mj_iload 1 105) := ms_iload_n (mi_dec ib_75 dd_75_104) rfl
theorem ks_75_105 : mi_snd cs_G cs_cl cs_inf 75 105 (mj_iast 106) := ms_iast (mi_dec ib_75 dd_75_105)
theorem ks_75_106 : mi_snd cs_G cs_cl cs_inf 75 106 (mj_aload 0 107) := ms_aload_n (mi_dec ib_75 dd_75_106) rfl
theorem ks_75_107 : mi_snd cs_G cs_cl cs_inf 75 107 (mj_get 8 1 110) := ms_get (T := cs_T8) (k := 1) (mi_dec ib_75 dd_75_107) rfl cs_in8 (by decide) gw_210
theorem ks_75_110 : mi_snd cs_G cs_cl cs_inf 75 110 (mj_iload 3 111) := ms_iload_n (mi_dec ib_75 dd_75_110) rfl
theorem ks_75_111 : mi_snd cs_G cs_cl cs_inf 75 111 (mj_ald 0 112) := ms_ald0 (mi_dec ib_75 dd_75_111)
theorem ks_75_112 : mi_snd cs_G cs_cl cs_inf 75 112 (mj_if (fun x => decide (0 ≤ x)) 117 115) := ms_if_ge (mi_dec ib_75 dd_75_112) (by decide)
theorem ks_75_115 : mi_snd cs_G cs_cl cs_inf 75 115 (mj_iload 3 116) := ms_iload_n (mi_dec ib_75 dd_75_115) rfl
theorem ks_75_116 : mi_snd cs_G cs_cl cs_inf 75 116 (mj_iret) := ms_iret (mi_dec ib_75 dd_75_116) rfl
theorem ks_75_117 : mi_snd cs_G cs_cl cs_inf 75 117 (mj_aload 0 118) := ms_aload_n (mi_dec ib_75 dd_75_117) rfl
theorem ks_75_118 : mi_snd cs_G cs_cl cs_inf 75 118 (mj_aload 0 119) := ms_aload_n (mi_dec ib_75 dd_75_118) rfl
theorem ks_75_119 : mi_snd cs_G cs_cl cs_inf 75 119 (mj_get 8 1 122) := ms_get (T := cs_T8) (k := 1) (mi_dec ib_75 dd_75_119) rfl cs_in8 (by decide) gw_210
theorem ks_75_122 : mi_snd cs_G cs_cl cs_inf 75 122 (mj_iload 3 123) := ms_iload_n (mi_dec ib_75 dd_75_122) rfl
theorem ks_75_123 : mi_snd cs_G cs_cl cs_inf 75 123 (mj_ald 0 124) := ms_ald0 (mi_dec ib_75 dd_75_123)
theorem ks_75_124 : mi_snd cs_G cs_cl cs_inf 75 124 (mj_callV 8 74 1 2 127) := ms_callV iw_c74 (mi_dec ib_75 dd_75_124) gw_589 iw_i74 rfl iw_v74 iw_n74 (by decide +kernel) rfl (by decide)
theorem ks_75_127 : mi_snd cs_G cs_cl cs_inf 75 127 (mj_iinc 3 1 130) := ms_iinc (mi_dec ib_75 dd_75_127) (by decide)
theorem ks_75_130 : mi_snd cs_G cs_cl cs_inf 75 130 (mj_goto 2) := ms_goto (mi_dec ib_75 dd_75_130) (by decide)
theorem ks_75_133 : mi_snd cs_G cs_cl cs_inf 75 133 (mj_push (.inl (-1)) 134) := ms_iconst (mi_dec ib_75 dd_75_133) (by decide)
theorem ks_75_134 : mi_snd cs_G cs_cl cs_inf 75 134 (mj_iret) := ms_iret (mi_dec ib_75 dd_75_134) rfl
def ct_75 : List (Nat × mi_I) := [
  (0, mj_push (.inl 0) 1),
  (1, mj_istore 3 2),
  (2, mj_iload 3 3),
  (3, mj_aload 0 4),
  (4, mj_get 8 0 7),
  (7, mj_get 1 0 10),
  (10, mj_cmp (fun x y => decide (y ≤ x)) 133 13),
  (13, mj_aload 0 14),
  (14, mj_get 8 0 17),
  (17, mj_iload 1 18),
  (18, mj_callV 1 6 1 2 21),
  (21, mj_iload 3 22),
  (22, mj_callS 7 2 2 25),
  (25, mj_if (fun x => decide (x = 0)) 127 28),
  (28, mj_aload 0 29),
  (29, mj_get 8 3 32),
  (32, mj_iload 1 33),
  (33, mj_callS 76 2 2 36),
  (36, mj_aload 0 37),
  (37, mj_get 8 3 40),
  (40, mj_iload 3 41),
  (41, mj_ald 0 42),
  (42, mj_cmp (fun x y => decide (x = y)) 127 45),
  (45, mj_aload 0 46),
  (46, mj_get 8 1 49),
  (49, mj_iload 1 50),
  (50, mj_callS 76 2 2 53),
  (53, mj_iload 3 54),
  (54, mj_cmp (fun x y => decide (¬ x = y)) 60 57),
  (57, mj_goto 127),
  (60, mj_iload 3 61),
  (61, mj_iload 2 62),
  (62, mj_cmp (fun x y => decide (x = y)) 81 65),
  (65, mj_aload 0 66),
  (66, mj_get 8 2 69),
  (69, mj_aload 0 70),
  (70, mj_get 8 1 73),
  (73, mj_iload 3 74),
  (74, mj_ald 0 75),
  (75, mj_callS 76 2 2 78),
  (78, mj_if (fun x => decide (x < 0)) 90 81),
  (81, mj_aload 0 82),
  (82, mj_iload 1 83),
  (83, mj_iload 3 84),
  (84, mj_callV 8 77 2 6 87),
  (87, mj_goto 127),
  (90, mj_aload 0 91),
  (91, mj_get 8 2 94),
  (94, mj_iload 3 95),
  (95, mj_ald 0 96),
  (96, mj_if (fun x => decide (0 ≤ x)) 127 99),
  (99, mj_aload 0 100),
  (100, mj_get 8 2 103),
  (103, mj_iload 3 104),
  (104, mj_iload 1 105),
  (105, mj_iast 106),
  (106, mj_aload 0 107),
  (107, mj_get 8 1 110),
  (110, mj_iload 3 111),
  (111, mj_ald 0 112),
  (112, mj_if (fun x => decide (0 ≤ x)) 117 115),
  (115, mj_iload 3 116),
  (116, mj_iret),
  (117, mj_aload 0 118),
  (118, mj_aload 0 119),
  (119, mj_get 8 1 122),
  (122, mj_iload 3 123),
  (123, mj_ald 0 124),
  (124, mj_callV 8 74 1 2 127),
  (127, mj_iinc 3 1 130),
  (130, mj_goto 2),
  (133, mj_push (.inl (-1)) 134),
  (134, mj_iret)]
theorem sd_75 : ∀ q ∈ ct_75, mi_snd cs_G cs_cl cs_inf 75 q.1 q.2 := mi_fc ks_75_0 (mi_fc ks_75_1 (mi_fc ks_75_2 (mi_fc ks_75_3 (mi_fc ks_75_4 (mi_fc ks_75_7 (mi_fc ks_75_10 (mi_fc ks_75_13 (mi_fc ks_75_14 (mi_fc ks_75_17 (mi_fc ks_75_18 (mi_fc ks_75_21 (mi_fc ks_75_22 (mi_fc ks_75_25 (mi_fc ks_75_28 (mi_fc ks_75_29 (mi_fc ks_75_32 (mi_fc ks_75_33 (mi_fc ks_75_36 (mi_fc ks_75_37 (mi_fc ks_75_40 (mi_fc ks_75_41 (mi_fc ks_75_42 (mi_fc ks_75_45 (mi_fc ks_75_46 (mi_fc ks_75_49 (mi_fc ks_75_50 (mi_fc ks_75_53 (mi_fc ks_75_54 (mi_fc ks_75_57 (mi_fc ks_75_60 (mi_fc ks_75_61 (mi_fc ks_75_62 (mi_fc ks_75_65 (mi_fc ks_75_66 (mi_fc ks_75_69 (mi_fc ks_75_70 (mi_fc ks_75_73 (mi_fc ks_75_74 (mi_fc ks_75_75 (mi_fc ks_75_78 (mi_fc ks_75_81 (mi_fc ks_75_82 (mi_fc ks_75_83 (mi_fc ks_75_84 (mi_fc ks_75_87 (mi_fc ks_75_90 (mi_fc ks_75_91 (mi_fc ks_75_94 (mi_fc ks_75_95 (mi_fc ks_75_96 (mi_fc ks_75_99 (mi_fc ks_75_100 (mi_fc ks_75_103 (mi_fc ks_75_104 (mi_fc ks_75_105 (mi_fc ks_75_106 (mi_fc ks_75_107 (mi_fc ks_75_110 (mi_fc ks_75_111 (mi_fc ks_75_112 (mi_fc ks_75_115 (mi_fc ks_75_116 (mi_fc ks_75_117 (mi_fc ks_75_118 (mi_fc ks_75_119 (mi_fc ks_75_122 (mi_fc ks_75_123 (mi_fc ks_75_124 (mi_fc ks_75_127 (mi_fc ks_75_130 (mi_fc ks_75_133 (mi_fc ks_75_134 mi_fn))))))))))))))))))))))))))))))))))))))))))))))))))))))))))))))))))))))))
theorem dd_76_0 : decode prog_2_method_10_code 0 = .ok (.iload_n 1, 1) := by decide +kernel
theorem dd_76_1 : decode prog_2_method_10_code 1 = .ok (.ifCond .lt 15, 3) := by decide +kernel
theorem dd_76_4 : decode prog_2_method_10_code 4 = .ok (.iload_n 1, 1) := by decide +kernel
theorem dd_76_5 : decode prog_2_method_10_code 5 = .ok (.aload_n 0, 1) := by decide +kernel
theorem dd_76_6 : decode prog_2_method_10_code 6 = .ok (.arraylength, 1) := by decide +kernel
theorem dd_76_7 : decode prog_2_method_10_code 7 = .ok (.if_icmp .ge 9, 3) := by decide +kernel
theorem dd_76_10 : decode prog_2_method_10_code 10 = .ok (.aload_n 0, 1) := by decide +kernel
theorem dd_76_11 : decode prog_2_method_10_code 11 = .ok (.iload_n 1, 1) := by decide +kernel
theorem dd_76_12 : decode prog_2_method_10_code 12 = .ok (.iaload, 1) := by decide +kernel
theorem dd_76_13 : decode prog_2_method_10_code 13 = .ok (.goto 4, 3) := by decide +kernel
theorem dd_76_16 : decode prog_2_method_10_code 16 = .ok (.iconst (-1), 1) := by decide +kernel
theorem dd_76_17 : decode prog_2_method_10_code 17 = .ok (.ireturn, 1) := by decide +kernel
theorem ks_76_0 : mi_snd cs_G cs_cl cs_inf 76 0 (mj_iload 1 1) := ms_iload_n (mi_dec ib_76 dd_76_0) rfl
theorem ks_76_1 : mi_snd cs_G cs_cl cs_inf 76 1 (mj_if (fun x => decide (x < 0)) 16 4) := ms_if_lt (mi_dec ib_76 dd_76_1) (by decide)
theorem ks_76_4 : mi_snd cs_G cs_cl cs_inf 76 4 (mj_iload 1 5) := ms_iload_n (mi_dec ib_76 dd_76_4) rfl
theorem ks_76_5 : mi_snd cs_G cs_cl cs_inf 76 5 (mj_aload 0 6) := ms_aload_n (mi_dec ib_76 dd_76_5) rfl
theorem ks_76_6 : mi_snd cs_G cs_cl cs_inf 76 6 (mj_alen 7) := ms_alen (mi_dec ib_76 dd_76_6)
theorem ks_76_7 : mi_snd cs_G cs_cl cs_inf 76 7 (mj_cmp (fun x y => decide (y ≤ x)) 16 10) := ms_icmp_ge (mi_dec ib_76 dd_76_7) (by decide)
theorem ks_76_10 : mi_snd cs_G cs_cl cs_inf 76 10 (mj_aload 0 11) := ms_aload_n (mi_dec ib_76 dd_76_10) rfl
theorem ks_76_11 : mi_snd cs_G cs_cl cs_inf 76 11 (mj_iload 1 12) := ms_iload_n (mi_dec ib_76 dd_76_11) rfl
theorem ks_76_12 : mi_snd cs_G cs_cl cs_inf 76 12 (mj_ald 0 13) := ms_ald0 (mi_dec ib_76 dd_76_12)
theorem ks_76_13 : mi_snd cs_G cs_cl cs_inf 76 13 (mj_goto 17) := ms_goto (mi_dec ib_76 dd_76_13) (by decide)
theorem ks_76_16 : mi_snd cs_G cs_cl cs_inf 76 16 (mj_push (.inl (-1)) 17) := ms_iconst (mi_dec ib_76 dd_76_16) (by decide)
theorem ks_76_17 : mi_snd cs_G cs_cl cs_inf 76 17 (mj_iret) := ms_iret (mi_dec ib_76 dd_76_17) rfl
def ct_76 : List (Nat × mi_I) := [
  (0, mj_iload 1 1),
  (1, mj_if (fun x => decide (x < 0)) 16 4),
  (4, mj_iload 1 5),
  (5, mj_aload 0 6),
  (6, mj_alen 7),
  (7, mj_cmp (fun x y => decide (y ≤ x)) 16 10),
  (10, mj_aload 0 11),
  (11, mj_iload 1 12),
  (12, mj_ald 0 13),
  (13, mj_goto 17),
  (16, mj_push (.inl (-1)) 17),
  (17, mj_iret)]
theorem sd_76 : ∀ q ∈ ct_76, mi_snd cs_G cs_cl cs_inf 76 q.1 q.2 := mi_fc ks_76_0 (mi_fc ks_76_1 (mi_fc ks_76_4 (mi_fc ks_76_5 (mi_fc ks_76_6 (mi_fc ks_76_7 (mi_fc ks_76_10 (mi_fc ks_76_11 (mi_fc ks_76_12 (mi_fc ks_76_13 (mi_fc ks_76_16 (mi_fc ks_76_17 mi_fn)))))))))))
theorem dd_77_0 : decode prog_2_method_6_code 0 = .ok (.aload_n 0, 1) := by decide +kernel
theorem dd_77_1 : decode prog_2_method_6_code 1 = .ok (.iload_n 1, 1) := by decide +kernel
theorem dd_77_2 : decode prog_2_method_6_code 2 = .ok (.iload_n 2, 1) := by decide +kernel
theorem dd_77_3 : decode prog_2_method_6_code 3 = .ok (.invokevirtual 76, 3) := by decide +kernel
theorem dd_77_6 : decode prog_2_method_6_code 6 = .ok (.istore_n 3, 1) := by decide +kernel
theorem dd_77_7 : decode prog_2_method_6_code 7 = .ok (.aload_n 0, 1) := by decide +kernel
theorem dd_77_8 : decode prog_2_method_6_code 8 = .ok (.iload_n 1, 1) := by decide +kernel
theorem dd_77_9 : decode prog_2_method_6_code 9 = .ok (.iload_n 3, 1) := by decide +kernel
theorem dd_77_10 : decode prog_2_method_6_code 10 = .ok (.iload_n 2, 1) := by decide +kernel
theorem dd_77_11 : decode prog_2_method_6_code 11 = .ok (.invokevirtual 79, 3) := by decide +kernel
theorem dd_77_14 : decode prog_2_method_6_code 14 = .ok (.aload_n 0, 1) := by decide +kernel
theorem dd_77_15 : decode prog_2_method_6_code 15 = .ok (.iload_n 2, 1) := by decide +kernel
theorem dd_77_16 : decode prog_2_method_6_code 16 = .ok (.iload_n 3, 1) := by decide +kernel
theorem dd_77_17 : decode prog_2_method_6_code 17 = .ok (.iload_n 1, 1) := by decide +kernel
theorem dd_77_18 : decode prog_2_method_6_code 18 = .ok (.invokevirtual 79, 3) := by decide +kernel
theorem dd_77_21 : decode prog_2_method_6_code 21 = .ok (.ior, 1) := by decide +kernel
theorem dd_77_22 : decode prog_2_method_6_code 22 = .ok (.istore 4, 2) := by decide +kernel
theorem dd_77_24 : decode prog_2_method_6_code 24 = .ok (.iconst 0, 1) := by decide +kernel
theorem dd_77_25 : decode prog_2_method_6_code 25 = .ok (.istore 5, 2) := by decide +kernel
theorem dd_77_27 : decode prog_2_method_6_code 27 = .ok (.iload 5, 2) := by decide +kernel
theorem dd_77_29 : decode prog_2_method_6_code 29 = .ok (.aload_n 0, 1) := by decide +kernel
theorem dd_77_30 : decode prog_2_method_6_code 30 = .ok (.getfield 24, 3) := by decide +kernel
theorem dd_77_33 : decode prog_2_method_6_code 33 = .ok (.getfield 34, 3) := by decide +kernel
theorem dd_77_36 : decode prog_2_method_6_code 36 = .ok (.if_icmp .ge 38, 3) := by decide +kernel
theorem dd_77_39 : decode prog_2_method_6_code 39 = .ok (.iload 4, 2) := by decide +kernel
theorem dd_77_41 : decode prog_2_method_6_code 41 = .ok (.aload_n 0, 1) := by decide +kernel
theorem dd_77_42 : decode prog_2_method_6_code 42 = .ok (.getfield 18, 3) := by decide +kernel
theorem dd_77_45 : decode prog_2_method_6_code 45 = .ok (.iload 5, 2) := by decide +kernel
theorem dd_77_47 : decode prog_2_method_6_code 47 = .ok (.iaload, 1) := by decide +kernel
theorem dd_77_48 : decode prog_2_method_6_code 48 = .ok (.invokestatic 64, 3) := by decide +kernel
theorem dd_77_51 : decode prog_2_method_6_code 51 = .ok (.ifCond .eq 17, 3) := by decide +kernel
theorem dd_77_54 : decode prog_2_method_6_code 54 = .ok (.aload_n 0, 1) := by decide +kernel
theorem dd_77_55 : decode prog_2_method_6_code 55 = .ok (.getfield 18, 3) := by decide +kernel
theorem dd_77_58 : decode prog_2_method_6_code 58 = .ok (.iload 5, 2) := by decide +kernel
theorem dd_77_60 : decode prog_2_method_6_code 60 = .ok (.iload_n 3, 1) := by decide +kernel
theorem dd_77_61 : decode prog_2_method_6_code 61 = .ok (.iastore, 1) := by decide +kernel
theorem dd_77_62 : decode prog_2_method_6_code 62 = .ok (.aload_n 0, 1) := by decide +kernel
theorem dd_77_63 : decode prog_2_method_6_code 63 = .ok (.iload 5, 2) := by decide +kernel
theorem dd_77_65 : decode prog_2_method_6_code 65 = .ok (.invokevirtual 54, 3) := by decide +kernel
theorem dd_77_68 : decode prog_2_method_6_code 68 = .ok (.iinc 5 1, 3) := by decide +kernel
theorem dd_77_71 : decode prog_2_method_6_code 71 = .ok (.goto (-44), 3) := by decide +kernel
theorem dd_77_74 : decode prog_2_method_6_code 74 = .ok (.return_, 1) := by decide +kernel
theorem ks_77_0 : mi_snd cs_G cs_cl cs_inf 77 0 (mj_aload 0 1) := ms_aload_n (mi_dec ib_77 dd_77_0) rfl
theorem ks_77_1 : mi_snd cs_G cs_cl cs_inf 77 1 (mj_iload 1 2) := ms_iload_n (mi_dec ib_77 dd_77_1) rfl
theorem ks_77_2 : mi_snd cs_G cs_cl cs_inf 77 2 (mj_iload 2 3) := ms_iload_n (mi_dec ib_77 dd_77_2) rfl
theorem ks_77_3 : mi_snd cs_G cs_cl cs_inf 77 3 (mj_callV 8 78 2 6 6) := ms_callV iw_c78 (mi_dec ib_77 dd_77_3) gw_606 iw_i78 rfl iw_v78 iw_n78 (by decide +kernel) rfl (by decide)
theorem ks_77_6 : mi_snd cs_G cs_cl cs_inf 77 6 (mj_istore 3 7) := ms_istore_n (mi_dec ib_77 dd_77_6) rfl
theorem ks_77_7 : mi_snd cs_G cs_cl cs_inf 77 7 (mj_aload 0 8) := ms_aload_n (mi_dec ib_77 dd_77_7) rfl
theorem ks_77_8 : mi_snd cs_G cs_cl cs_inf 77 8 (mj_iload 1 9) := ms_iload_n (mi_dec ib_77 dd_77_8) rfl
theorem ks_77_9 : mi_snd cs_G cs_cl cs_inf 77 9 (mj_iload 3 10) := ms_iload_n (mi_dec ib_77 dd_77_9) rfl
theorem ks_77_10 : mi_snd cs_G cs_cl cs_inf 77 10 (mj_iload 2 11) := ms_iload_n (mi_dec ib_77 dd_77_10) rfl
theorem ks_77_11 : mi_snd cs_G cs_cl cs_inf 77 11 (mj_callV 8 79 3 9 14) := ms_callV iw_c79 (mi_dec ib_77 dd_77_11) gw_610 iw_i79 rfl iw_v79 iw_n79 (by decide +kernel) rfl (by decide)
theorem ks_77_14 : mi_snd cs_G cs_cl cs_inf 77 14 (mj_aload 0 15) := ms_aload_n (mi_dec ib_77 dd_77_14) rfl
theorem ks_77_15 : mi_snd cs_G cs_cl cs_inf 77 15 (mj_iload 2 16) := ms_iload_n (mi_dec ib_77 dd_77_15) rfl
theorem ks_77_16 : mi_snd cs_G cs_cl cs_inf 77 16 (mj_iload 3 17) := ms_iload_n (mi_dec ib_77 dd_77_16) rfl
theorem ks_77_17 : mi_snd cs_G cs_cl cs_inf 77 17 (mj_iload 1 18) := ms_iload_n (mi_dec ib_77 dd_77_17) rfl
theorem ks_77_18 : mi_snd cs_G cs_cl cs_inf 77 18 (mj_callV 8 79 3 9 21) := ms_callV iw_c79 (mi_dec ib_77 dd_77_18) gw_610 iw_i79 rfl iw_v79 iw_n79 (by decide +kernel) rfl (by decide)
theorem ks_77_21 : mi_snd cs_G cs_cl cs_inf 77 21 (mj_bin (fun x y => x ||| y) 22) := ms_ior (mi_dec ib_77 dd_77_21)
theorem ks_77_22 : mi_snd cs_G cs_cl cs_inf 77 22 (mj_istore 4 24) := ms_istore (mi_dec ib_77 dd_77_22)
theorem ks_77_24 : mi_snd cs_G cs_cl cs_inf 77 24 (mj_push (.inl 0) 25) := ms_iconst (mi_dec ib_77 dd_77_24) (by decide)
theorem ks_77_25 : mi_snd cs_G cs_cl cs_inf 77 25 (mj_istore 5 27) := ms_istore (mi_dec ib_77 dd_77_25)
theorem ks_77_27 : mi_snd cs_G cs_cl cs_inf 77 27 (mj_iload 5 29) := ms_iload (mi_dec ib_77 dd_77_27)
theorem ks_77_29 : mi_snd cs_G cs_cl cs_inf 77 29 (mj_aload 0 30) := ms_aload_n (mi_dec ib_77 dd_77_29) rfl
theorem ks_77_30 : mi_snd cs_G cs_cl cs_inf 77 30 (mj_get 8 0 33) := ms_get (T := cs_T8) (k := 0) (mi_dec ib_77 dd_77_30) rfl cs_in8 (by decide) gw_209
theorem ks_77_33 : mi_snd cs_G cs_cl cs_inf 77 33 (mj_get 1 0 36) := ms_getN (T := cs_T1) (k := 0) (mi_dec ib_77 dd_77_33) rfl cs_in1 (by decide) gw_30
theorem ks_77_36 : mi_snd cs_G cs_cl cs_inf 77 36 (mj_cmp (fun x y => decide (y ≤ x)) 74 39) := ms_icmp_ge (mi_dec ib_77 dd_77_36) (by decide)
theorem ks_77_39 : mi_snd cs_G cs_cl cs_inf 77 39 (mj_iload 4 41) := ms_iload (mi_dec ib_77 dd_77_39)
theorem ks_77_41 : mi_snd cs_G cs_cl cs_inf 77 41 (mj_aload 0 42) := ms_aload_n (mi_dec ib_77 dd_77_41) rfl
theorem ks_77_42 : mi_snd cs_G cs_cl cs_inf 77 42 (mj_get 8 3 45) := ms_get (T := cs_T8) (k := 3) (mi_dec ib_77 dd_77_42) rfl cs_in8 (by decide) gw_212
theorem ks_77_45 : mi_snd cs_G cs_cl cs_inf 77 45 (mj_iload 5 47) := ms_iload (mi_dec ib_77 dd_77_45)
theorem ks_77_47 : mi_snd cs_G cs_cl cs_inf 77 47 (mj_ald 0 48) := ms_ald0 (mi_dec ib_77 dd_77_47)
theorem ks_77_48 : mi_snd cs_G cs_cl cs_inf 77 48 (mj_callS 7 2 2 51) := ms_callSN iw_c7 (mi_dec ib_77 dd_77_48) gw_593 iw_s7 iw_n7 (by decide +kernel) rfl (by decide)
theorem ks_77_51 : mi_snd cs_G cs_cl cs_inf 77 51 (mj_if (fun x => decide (x = 0)) 68 54) := ms_if_eq (mi_dec ib_77 dd_77_51) (by decide)
theorem ks_77_54 : mi_snd cs_G cs_cl cs_inf 77 54 (mj_aload 0 55) := ms_aload_n (mi_dec ib_77 dd_77_54) rfl
theorem ks_77_55 : mi_snd cs_G cs_cl cs_inf 77 55 (mj_get 8 3 58) := ms_get (T := cs_T8) (k := 3) (mi_dec ib_77 dd_77_55) rfl cs_in8 (by decide) gw_212
theorem ks_77_58 : mi_snd cs_G cs_cl cs_inf 77 58 (mj_iload 5 60) := ms_iload (mi_dec ib_77 dd_77_58)
theorem ks_77_60 : mi_snd cs_G cs_cl cs_inf 77 60 (mj_iload 3 61) := ms_iload_n (mi_dec ib_77 dd_77_60) rfl
theorem ks_77_61 : mi_snd cs_G cs_cl cs_inf 77 61 (mj_iast 62) := ms_iast (mi_dec ib_77 dd_77_61)
theorem ks_77_62 : mi_snd cs_G cs_cl cs_inf 77 62 (mj_aload 0 63) := ms_aload_n (mi_dec ib_77 dd_77_62) rfl
theorem ks_77_63 : mi_snd cs_G cs_cl cs_inf 77 63 (mj_iload 5 65) := ms_iload (mi_dec ib_77 dd_77_63)
theorem ks_77_65 : mi_snd cs_G cs_cl cs_inf 77 65 (mj_callV 8 74 1 2 68) := ms_callV iw_c74 (mi_dec ib_77 dd_77_65) gw_589 iw_i74 rfl iw_v74 iw_n74 (by decide +kernel) rfl (by decide)
theorem ks_77_68 : mi_snd cs_G cs_cl cs_inf 77 68 (mj_iinc 5 1 71) := ms_iinc (mi_dec ib_77 dd_77_68) (by decide)
theorem ks_77_71 : mi_snd cs_G cs_cl cs_inf 77 71 (mj_goto 27) := ms_goto (mi_dec ib_77 dd_77_71) (by decide)
theorem ks_77_74 : mi_snd cs_G cs_cl cs_inf 77 74 (mj_ret) := ms_ret (mi_dec ib_77 dd_77_74) rfl
def ct_77 : List (Nat × mi_I) := [
  (0, mj_aload 0 1),
  (1, mj_iload 1 2),
  (2, mj_iload 2 3),
  (3, mj_callV 8 78 2 6 6),
  (6, mj_istore 3 7),
  (7, mj_aload 0 8),
  (8, mj_iload 1 9),
  (9, mj_iload 3 10),
  (10, mj_iload 2 11),
  (11, mj_callV 8 79 3 9 14),
  (14, mj_aload 0 15),
  (15, mj_iload 2 16),
  (16, mj_iload 3 17),
  (17, mj_iload 1 18),
  (18, mj_callV 8 79 3 9 21),
  (21, mj_bin (fun x y => x ||| y) 22),
  (22, mj_istore 4 24),
  (24, mj_push (.inl 0) 25),
  (25, mj_istore 5 27),
  (27, mj_iload 5 29),
  (29, mj_aload 0 30),
  (30, mj_get 8 0 33),
  (33, mj_get 1 0 36),
  (36, mj_cmp (fun x y => decide (y ≤ x)) 74 39),
  (39, mj_iload 4 41),
  (41, mj_aload 0 42),
  (42, mj_get 8 3 45),
  (45, mj_iload 5 47),
  (47, mj_ald 0 48),
  (48, mj_callS 7 2 2 51),
  (51, mj_if (fun x => decide (x = 0)) 68 54),
  (54, mj_aload 0 55),
  (55, mj_get 8 3 58),
  (58, mj_iload 5 60),
  (60, mj_iload 3 61),
  (61, mj_iast 62),
  (62, mj_aload 0 63),
  (63, mj_iload 5 65),
  (65, mj_callV 8 74 1 2 68),
  (68, mj_iinc 5 1 71),
  (71, mj_goto 27),
  (74, mj_ret)]
theorem sd_77 : ∀ q ∈ ct_77, mi_snd cs_G cs_cl cs_inf 77 q.1 q.2 := mi_fc ks_77_0 (mi_fc ks_77_1 (mi_fc ks_77_2 (mi_fc ks_77_3 (mi_fc ks_77_6 (mi_fc ks_77_7 (mi_fc ks_77_8 (mi_fc ks_77_9 (mi_fc ks_77_10 (mi_fc ks_77_11 (mi_fc ks_77_14 (mi_fc ks_77_15 (mi_fc ks_77_16 (mi_fc ks_77_17 (mi_fc ks_77_18 (mi_fc ks_77_21 (mi_fc ks_77_22 (mi_fc ks_77_24 (mi_fc ks_77_25 (mi_fc ks_77_27 (mi_fc ks_77_29 (mi_fc ks_77_30 (mi_fc ks_77_33 (mi_fc ks_77_36 (mi_fc ks_77_39 (mi_fc ks_77_41 (mi_fc ks_77_42 (mi_fc ks_77_45 (mi_fc ks_77_47 (mi_fc ks_77_48 (mi_fc ks_77_51 (mi_fc ks_77_54 (mi_fc ks_77_55 (mi_fc ks_77_58 (mi_fc ks_77_60 (mi_fc ks_77_61 (mi_fc ks_77_62 (mi_fc ks_77_63 (mi_fc ks_77_65 (mi_fc ks_77_68 (mi_fc ks_77_71 (mi_fc ks_77_74 mi_fn)))))))))))))))))))))))))))))))))))))))))
theorem dd_78_0 : decode prog_2_method_7_code 0 = .ok (.iconst 0, 1) := by decide +kernel
theorem dd_78_1 : decode prog_2_method_7_code 1 = .ok (.istore_n 3, 1) := by decide +kernel
theorem dd_78_2 : decode prog_2_method_7_code 2 = .ok (.aload_n 0, 1) := by decide +kernel
theorem dd_78_3 : decode prog_2_method_7_code 3 = .ok (.getfield 18, 3) := by decide +kernel
theorem dd_78_6 : decode prog_2_method_7_code 6 = .ok (.iload_n 1, 1) := by decide +kernel
theorem dd_78_7 : decode prog_2_method_7_code 7 = .ok (.invokestatic 68, 3) := by decide +kernel
theorem dd_78_10 : decode prog_2_method_7_code 10 = .ok (.istore 4, 2) := by decide +kernel
theorem dd_78_12 : decode prog_2_method_7_code 12 = .ok (.iconst 0, 1) := by decide +kernel
theorem dd_78_13 : decode prog_2_method_7_code 13 = .ok (.istore 5, 2) := by decide +kernel
theorem dd_78_15 : decode prog_2_method_7_code 15 = .ok (.iload 5, 2) := by decide +kernel
theorem dd_78_17 : decode prog_2_method_7_code 17 = .ok (.bipush 16, 2) := by decide +kernel
theorem dd_78_19 : decode prog_2_method_7_code 19 = .ok (.if_icmp .ge 46, 3) := by decide +kernel
theorem dd_78_22 : decode prog_2_method_7_code 22 = .ok (.iload 4, 2) := by decide +kernel
theorem dd_78_24 : decode prog_2_method_7_code 24 = .ok (.ifCond .lt 41, 3) := by decide +kernel
theorem dd_78_27 : decode prog_2_method_7_code 27 = .ok (.iload_n 3, 1) := by decide +kernel
theorem dd_78_28 : decode prog_2_method_7_code 28 = .ok (.iconst 1, 1) := by decide +kernel
theorem dd_78_29 : decode prog_2_method_7_code 29 = .ok (.iload 4, 2) := by decide +kernel
theorem dd_78_31 : decode prog_2_method_7_code 31 = .ok (.ishl, 1) := by decide +kernel
theorem dd_78_32 : decode prog_2_method_7_code 32 = .ok (.ior, 1) := by decide +kernel
theorem dd_78_33 : decode prog_2_method_7_code 33 = .ok (.istore_n 3, 1) := by decide +kernel
theorem dd_78_34 : decode prog_2_method_7_code 34 = .ok (.aload_n 0, 1) := by decide +kernel
theorem dd_78_35 : decode prog_2_method_7_code 35 = .ok (.getfield 18, 3) := by decide +kernel
theorem dd_78_38 : decode prog_2_method_7_code 38 = .ok (.aload_n 0, 1) := by decide +kernel
theorem dd_78_39 : decode prog_2_method_7_code 39 = .ok (.getfield 15, 3) := by decide +kernel
theorem dd_78_42 : decode prog_2_method_7_code 42 = .ok (.aload_n 0, 1) := by decide +kernel
theorem dd_78_43 : decode prog_2_method_7_code 43 = .ok (.getfield 9, 3) := by decide +kernel
theorem dd_78_46 : decode prog_2_method_7_code 46 = .ok (.iload 4, 2) := by decide +kernel
theorem dd_78_48 : decode prog_2_method_7_code 48 = .ok (.invokestatic 68, 3) := by decide +kernel
theorem dd_78_51 : decode prog_2_method_7_code 51 = .ok (.invokestatic 68, 3) := by decide +kernel
theorem dd_78_54 : decode prog_2_method_7_code 54 = .ok (.invokestatic 68, 3) := by decide +kernel
theorem dd_78_57 : decode prog_2_method_7_code 57 = .ok (.istore 4, 2) := by decide +kernel
theorem dd_78_59 : decode prog_2_method_7_code 59 = .ok (.iinc 5 1, 3) := by decide +kernel
theorem dd_78_62 : decode prog_2_method_7_code 62 = .ok (.goto (-47), 3) := by decide +kernel
theorem dd_78_65 : decode prog_2_method_7_code 65 = .ok (.aload_n 0, 1) := by decide +kernel
theorem dd_78_66 : decode prog_2_method_7_code 66 = .ok (.getfield 18, 3) := by decide +kernel
theorem dd_78_69 : decode prog_2_method_7_code 69 = .ok (.iload_n 2, 1) := by decide +kernel
theorem dd_78_70 : decode prog_2_method_7_code 70 = .ok (.invokestatic 68, 3) := by decide +kernel
theorem dd_78_73 : decode prog_2_method_7_code 73 = .ok (.istore 4, 2) := by decide +kernel
theorem dd_78_75 : decode prog_2_method_7_code 75 = .ok (.iconst 0, 1) := by decide +kernel
theorem dd_78_76 : decode prog_2_method_7_code 76 = .ok (.istore 5, 2) := by decide +kernel
theorem dd_78_78 : decode prog_2_method_7_code 78 = .ok (.iload 5, 2) := by decide +kernel
theorem dd_78_80 : decode prog_2_method_7_code 80 = .ok (.bipush 16, 2) := by decide +kernel
theorem dd_78_82 : decode prog_2_method_7_code 82 = .ok (.if_icmp .ge 48, 3) := by decide +kernel
theorem dd_78_85 : decode prog_2_method_7_code 85 = .ok (.iload 4, 2) := by decide +kernel
theorem dd_78_87 : decode prog_2_method_7_code 87 = .ok (.ifCond .lt 43, 3) := by decide +kernel
theorem dd_78_90 : decode prog_2_method_7_code 90 = .ok (.iload_n 3, 1) := by decide +kernel
theorem dd_78_91 : decode prog_2_method_7_code 91 = .ok (.iload 4, 2) := by decide +kernel
theorem dd_78_93 : decode prog_2_method_7_code 93 = .ok (.invokestatic 64, 3) := by decide +kernel
theorem dd_78_96 : decode prog_2_method_7_code 96 = .ok (.ifCond .ne 34, 3) := by decide +kernel
theorem dd_78_99 : decode prog_2_method_7_code 99 = .ok (.aload_n 0, 1) := by decide +kernel
theorem dd_78_100 : decode prog_2_method_7_code 100 = .ok (.getfield 18, 3) := by decide +kernel
theorem dd_78_103 : decode prog_2_method_7_code 103 = .ok (.aload_n 0, 1) := by decide +kernel
theorem dd_78_104 : decode prog_2_method_7_code 104 = .ok (.getfield 15, 3) := by decide +kernel
theorem dd_78_107 : decode prog_2_method_7_code 107 = .ok (.aload_n 0, 1) := by decide +kernel
theorem dd_78_108 : decode prog_2_method_7_code 108 = .ok (.getfield 9, 3) := by decide +kernel
theorem dd_78_111 : decode prog_2_method_7_code 111 = .ok (.iload 4, 2) := by decide +kernel
theorem dd_78_113 : decode prog_2_method_7_code 113 = .ok (.invokestatic 68, 3) := by decide +kernel
theorem dd_78_116 : decode prog_2_method_7_code 116 = .ok (.invokestatic 68, 3) := by decide +kernel
theorem dd_78_119 : decode prog_2_method_7_code 119 = .ok (.invokestatic 68, 3) := by decide +kernel
theorem dd_78_122 : decode prog_2_method_7_code 122 = .ok (.istore 4, 2) := by decide +kernel
theorem dd_78_124 : decode prog_2_method_7_code 124 = .ok (.iinc 5 1, 3) := by decide +kernel
theorem dd_78_127 : decode prog_2_method_7_code 127 = .ok (.goto (-49), 3) := by decide +kernel
theorem dd_78_130 : decode prog_2_method_7_code 130 = .ok (.iload 4, 2) := by decide +kernel
theorem dd_78_132 : decode prog_2_method_7_code 132 = .ok (.ireturn, 1) := by decide +kernel
theorem ks_78_0 : mi_snd cs_G cs_cl cs_inf 78 0 (mj_push (.inl 0) 1) := ms_iconst (mi_dec ib_78 dd_78_0) (by decide)
theorem ks_78_1 : mi_snd cs_G cs_cl cs_inf 78 1 (mj_istore 3 2) := ms_istore_n (mi_dec ib_78 dd_78_1) rfl
theorem ks_78_2 : mi_snd cs_G cs_cl cs_inf 78 2 (mj_aload 0 3) := ms_aload_n (mi_dec ib_78 dd_78_2) rfl
theorem ks_78_3 : mi_snd cs_G cs_cl cs_inf 78 3 (mj_get 8 3 6) := ms_get (T := cs_T8) (k := 3) (mi_dec ib_78 dd_78_3) rfl cs_in8 (by decide) gw_212
theorem ks_78_6 : mi_snd cs_G cs_cl cs_inf 78 6 (mj_iload 1 7) := ms_iload_n (mi_dec ib_78 dd_78_6) rfl
theorem ks_78_7 : mi_snd cs_G cs_cl cs_inf 78 7 (mj_callS 76 2 2 10) := ms_callS iw_c76 (mi_dec ib_78 dd_78_7) gw_599 iw_s76 iw_n76 (by decide +kernel) rfl (by decide)
theorem ks_78_10 : mi_snd cs_G cs_cl cs_inf 78 10 (mj_istore 4 12) := ms_istore (mi_dec ib_78 dd_78_10)
theorem ks_78_12 : mi_snd cs_G cs_cl cs_inf 78 12 (mj_push (.inl 0) 13) := ms_iconst (mi_dec ib_78 dd_78_12) (by decide)
theorem ks_78_13 : mi_snd cs_G cs_cl cs_inf 78 13 (mj_istore 5 15) := ms_istore (mi_dec ib_78 dd_78_13)
theorem ks_78_15 : mi_snd cs_G cs_cl cs_inf 78 15 (mj_iload 5 17) := ms_iload (mi_dec ib_78 dd_78_15)
theorem ks_78_17 : mi_snd cs_G cs_cl cs_inf 78 17 (mj_push (.inl 16) 19) := ms_bipush (mi_dec ib_78 dd_78_17) (by decide)
theorem ks_78_19 : mi_snd cs_G cs_cl cs_inf 78 19 (mj_cmp (fun x y => decide (y ≤ x)) 65 22) := ms_icmp_ge (mi_dec ib_78 dd_78_19) (by decide)
theorem ks_78_22 : mi_snd cs_G cs_cl cs_inf 78 22 (mj_iload 4 24) := ms_iload (mi_dec ib_78 dd_78_22)
theorem ks_78_24 : mi_snd cs_G cs_cl cs_inf 78 24 (mj_if (fun x => decide (x < 0)) 65 27) := ms_if_lt (mi_dec ib_78 dd_78_24) (by decide)
theorem ks_78_27 : mi_snd cs_G cs_cl cs_inf 78 27 (mj_iload 3 28) := ms_iload_n (mi_dec ib_78 dd_78_27) rfl
theorem ks_78_28 : mi_snd cs_G cs_cl cs_inf 78 28 (mj_push (.inl 1) 29) := ms_iconst (mi_dec ib_78 dd_78_28) (by decide)
theorem ks_78_29 : mi_snd cs_G cs_cl cs_inf 78 29 (mj_iload 4 31) := ms_iload (mi_dec ib_78 dd_78_29)
theorem ks_78_31 : mi_snd cs_G cs_cl cs_inf 78 31 (mj_bin (fun x y => x <<< (y &&& 31)) 32) := ms_ishl (mi_dec ib_78 dd_78_31)
theorem ks_78_32 : mi_snd cs_G cs_cl cs_inf 78 32 (mj_bin (fun x y => x ||| y) 33) := ms_ior (mi_dec ib_78 dd_78_32)
theorem ks_78_33 : mi_snd cs_G cs_cl cs_inf 78 33 (mj_istore 3 34) := ms_istore_n (mi_dec ib_78 dd_78_33) rfl
theorem ks_78_34 : mi_snd cs_G cs_cl cs_inf 78 34 (mj_aload 0 35) := ms_aload_n (mi_dec ib_78 dd_78_34) rfl
theorem ks_78_35 : mi_snd cs_G cs_cl cs_inf 78 35 (mj_get 8 3 38) := ms_get (T := cs_T8) (k := 3) (mi_dec ib_78 dd_78_35) rfl cs_in8 (by decide) gw_212
theorem ks_78_38 : mi_snd cs_G cs_cl cs_inf 78 38 (mj_aload 0 39) := ms_aload_n (mi_dec ib_78 dd_78_38) rfl
theorem ks_78_39 : mi_snd cs_G cs_cl cs_inf 78 39 (mj_get 8 2 42) := ms_get (T := cs_T8) (k := 2) (mi_dec ib_78 dd_78_39) rfl cs_in8 (by decide) gw_211
theorem ks_78_42 : mi_snd cs_G cs_cl cs_inf 78 42 (mj_aload 0 43) := ms_aload_n (mi_dec ib_78 dd_78_42) rfl
theorem ks_78_43 : mi_snd cs_G cs_cl cs_inf 78 43 (mj_get 8 1 46) := ms_get (T := cs_T8) (k := 1) (mi_dec ib_78 dd_78_43) rfl cs_in8 (by decide) gw_210
theorem ks_78_46 : mi_snd cs_G cs_cl cs_inf 78 46 (mj_iload 4 48) := ms_iload (mi_dec ib_78 dd_78_46)
theorem ks_78_48 : mi_snd cs_G cs_cl cs_inf 78 48 (mj_callS 76 2 2 51) := ms_callS iw_c76 (mi_dec ib_78 dd_78_48) gw_599 iw_s76 iw_n76 (by decide +kernel) rfl (by decide)
theorem ks_78_51 : mi_snd cs_G cs_cl cs_inf 78 51 (mj_callS 76 2 2 54) := ms_callS iw_c76 (mi_dec ib_78 dd_78_51) gw_599 iw_s76 iw_n76 (by decide +kernel) rfl (by decide)
theorem ks_78_54 : mi_snd cs_G cs_cl cs_inf 78 54 (mj_callS 76 2 2 57) := ms_callS iw_c76 (mi_dec ib_78 dd_78_54) gw_599 iw_s76 iw_n76 (by decide +kernel) rfl (by decide)
theorem ks_78_57 : mi_snd cs_G cs_cl cs_inf 78 57 (mj_istore 4 59) := ms_istore (mi_dec ib_78 dd_78_57)
theorem ks_78_59 : mi_snd cs_G cs_cl cs_inf 78 59 (mj_iinc 5 1 62) := ms_iinc (mi_dec ib_78 dd_78_59) (by decide)
theorem ks_78_62 : mi_snd cs_G cs_cl cs_inf 78 62 (mj_goto 15) := ms_goto (mi_dec ib_78 dd_78_62) (by decide)
theorem ks_78_65 : mi_snd cs_G cs_cl cs_inf 78 65 (mj_aload 0 66) := ms_aload_n (mi_dec ib_78 dd_78_65) rfl
theorem ks_78_66 : mi_snd cs_G cs_cl cs_inf 78 66 (mj_get 8 3 69) := ms_get (T := cs_T8) (k := 3) (mi_dec ib_78 dd_78_66) rfl cs_in8 (by decide) gw_212
theorem ks_78_69 : mi_snd cs_G cs_cl cs_inf 78 69 (mj_iload 2 70) := ms_iload_n (mi_dec ib_78 dd_78_69) rfl
theorem ks_78_70 : mi_snd cs_G cs_cl cs_inf 78 70 (mj_callS 76 2 2 73) := ms_callS iw_c76 (mi_dec ib_78 dd_78_70) gw_599 iw_s76 iw_n76 (by decide +kernel) rfl (by decide)
theorem ks_78_73 : mi_snd cs_G cs_cl cs_inf 78 73 (mj_istore 4 75) := ms_istore (mi_dec ib_78 dd_78_73)
theorem ks_78_75 : mi_snd cs_G cs_cl cs_inf 78 75 (mj_push (.inl 0) 76) := ms_iconst (mi_dec ib_78 dd_78_75) (by decide)
theorem ks_78_76 : mi_snd cs_G cs_cl cs_inf 78 76 (mj_istore 5 78) := ms_istore (mi_dec ib_78 dd_78_76)
theorem ks_78_78 : mi_snd cs_G cs_cl cs_inf 78 78 (mj_iload 5 80) := ms_iload (mi_dec ib_78 dd_78_78)
theorem ks_78_80 : mi_snd cs_G cs_cl cs_inf 78 80 (mj_push (.inl 16) 82) := ms_bipush (mi_dec ib_78 dd_78_80) (by decide)
theorem ks_78_82 : mi_snd cs_G cs_cl cs_inf 78 82 (mj_cmp (fun x y => decide (y ≤ x)) 130 85) := ms_icmp_ge (mi_dec ib_78 dd_78_82) (by decide)
theorem ks_78_85 : mi_snd cs_G cs_cl cs_inf 78 85 (mj_iload 4 87) := ms_iload (mi_dec ib_78 dd_78_85)
theorem ks_78_87 : mi_snd cs_G cs_cl cs_inf 78 87 (mj_if (fun x => decide (x < 0)) 130 90) := ms_if_lt (mi_dec ib_78 dd_78_87) (by decide)
theorem ks_78_90 : mi_snd cs_G cs_cl cs_inf 78 90 (mj_iload 3 91) := ms_iload_n (mi_dec ib_78 dd_78_90) rfl
theorem ks_78_91 : mi_snd cs_G cs_cl cs_inf 78 91 (mj_iload 4 93) := ms_iload (mi_dec ib_78 dd_78_91)
theorem ks_78_93 : mi_snd cs_G cs_cl cs_inf 78 93 (mj_callS 7 2 2 96) := ms_callSN iw_c7 (mi_dec ib_78 dd_78_93) gw_593 iw_s7 iw_n7 (by decide +kernel) rfl (by decide)
theorem ks_78_96 : mi_snd cs_G cs_cl cs_inf 78 96 (mj_if (fun x => decide (¬ x = 0)) 130 99) := ms_if_ne (mi_dec ib_78 dd_78_96) (by decide)
theorem ks_78_99 : mi_snd cs_G cs_cl cs_inf 78 99 (mj_aload 0 100) := ms_aload_n (mi_dec ib_78 dd_78_99) rfl
theorem ks_78_100 : mi_snd cs_G cs_cl cs_inf 78 100 (mj_get 8 3 103) := ms_get (T := cs_T8) (k := 3) (mi_dec ib_78 dd_78_100) rfl cs_in8 (by decide) gw_212
theorem ks_78_103 : mi_snd cs_G cs_cl cs_inf 78 103 (mj_aload 0 104) := ms_aload_n (mi_dec ib_78 dd_78_103) rfl
theorem ks_78_104 : mi_snd cs_G cs_cl cs_inf 78 104 (mj_get 8 2 107) := ms_get (T := cs_T8) (k := 2) (mi_dec ib_78 dd_78_104) rfl cs_in8 (by decide) gw_211
theorem ks_78_107 : mi_snd cs_G cs_cl cs_inf 78 107 (mj_aload 0 108) := ms_aload_n (mi_dec ib_78 dd_78_107) rfl
theorem ks_78_108 : mi_snd cs_G cs_cl cs_inf 78 108 (mj_get 8 1 111) := ms_get (T := cs_T8) (k := 1) (mi_dec ib_78 dd_78_108) rfl cs_in8 (by decide) gw_210
theorem ks_78_111 : mi_snd cs_G cs_cl cs_inf 78 111 (mj_iload 4 113) := ms_iload (mi_dec ib_78 dd_78_111)
theorem ks_78_113 : mi_snd cs_G cs_cl cs_inf 78 113 (mj_callS 76 2 2 116) := ms_callS iw_c76 (mi_dec ib_78 dd_78_113) gw_599 iw_s76 iw_n76 (by decide +kernel) rfl (by decide)
theorem ks_78_116 : mi_snd cs_G cs_cl cs_inf 78 116 (mj_callS 76 2 2 119) := ms_callS iw_c76 (mi_dec ib_78 dd_78_116) gw_599 iw_s76 iw_n76 (by decide +kernel) rfl (by decide)
theorem ks_78_119 : mi_snd cs_G cs_cl cs_inf 78 119 (mj_callS 76 2 2 122) := ms_callS iw_c76 (mi_dec ib_78 dd_78_119) gw_599 iw_s76 iw_n76 (by decide +kernel) rfl (by decide)
theorem ks_78_122 : mi_snd cs_G cs_cl cs_inf 78 122 (mj_istore 4 124) := ms_istore (mi_dec ib_78 dd_78_122)
theorem ks_78_124 : mi_snd cs_G cs_cl cs_inf 78 124 (mj_iinc 5 1 127) := ms_iinc (mi_dec ib_78 dd_78_124) (by decide)
theorem ks_78_127 : mi_snd cs_G cs_cl cs_inf 78 127 (mj_goto 78) := ms_goto (mi_dec ib_78 dd_78_127) (by decide)
theorem ks_78_130 : mi_snd cs_G cs_cl cs_inf 78 130 (mj_iload 4 132) := ms_iload (mi_dec ib_78 dd_78_130)
theorem ks_78_132 : mi_snd cs_G cs_cl cs_inf 78 132 (mj_iret) := ms_iret (mi_dec ib_78 dd_78_132) rfl
def ct_78 : List (Nat × mi_I) := [
  (0, mj_push (.inl 0) 1),
  (1, mj_istore 3 2),
  (2, mj_aload 0 3),
  (3, mj_get 8 3 6),
  (6, mj_iload 1 7),
  (7, mj_callS 76 2 2 10),
  (10, mj_istore 4 12),
  (12, mj_push (.inl 0) 13),
  (13, mj_istore 5 15),
  (15, mj_iload 5 17),
  (17, mj_push (.inl 16) 19),
  (19, mj_cmp (fun x y => decide (y ≤ x)) 65 22),
  (22, mj_iload 4 24),
  (24, mj_if (fun x => decide (x < 0)) 65 27),
  (27, mj_iload 3 28),
  (28, mj_push (.inl 1) 29),
  (29, mj_iload 4 31),
  (31, mj_bin (fun x y => x <<< (y &&& 31)) 32),
  (32, mj_bin (fun x y => x ||| y) 33),
  (33, mj_istore 3 34),
  (34, mj_aload 0 35),
  (35, mj_get 8 3 38),
  (38, mj_aload 0 39),
  (39, mj_get 8 2 42),
  (42, mj_aload 0 43),
  (43, mj_get 8 1 46),
  (46, mj_iload 4 48),
  (48, mj_callS 76 2 2 51),
  (51, mj_callS 76 2 2 54),
  (54, mj_callS 76 2 2 57),
  (57, mj_istore 4 59),
  (59, mj_iinc 5 1 62),
  (62, mj_goto 15),
  (65, mj_aload 0 66),
  (66, mj_get 8 3 69),
  (69, mj_iload 2 70),
  (70, mj_callS 76 2 2 73),
  (73, mj_istore 4 75),
  (75, mj_push (.inl 0) 76),
  (76, mj_istore 5 78),
  (78, mj_iload 5 80),
  (80, mj_push (.inl 16) 82),
  (82, mj_cmp (fun x y => decide (y ≤ x)) 130 85),
  (85, mj_iload 4 87),
  (87, mj_if (fun x => decide (x < 0)) 130 90),
  (90, mj_iload 3 91),
  (91, mj_iload 4 93),
  (93, mj_callS 7 2 2 96),
  (96, mj_if (fun x => decide (¬ x = 0)) 130 99),
  (99, mj_aload 0 100),
  (100, mj_get 8 3 103),
  (103, mj_aload 0 104),
  (104, mj_get 8 2 107),
  (107, mj_aload 0 108),
  (108, mj_get 8 1 111),
  (111, mj_iload 4 113),
  (113, mj_callS 76 2 2 116),
  (116, mj_callS 76 2 2 119),
  (119, mj_callS 76 2 2 122),
  (122, mj_istore 4 124),
  (124, mj_iinc 5 1 127),
  (127, mj_goto 78),
  (130, mj_iload 4 132),
  (132, mj_iret)]
theorem sd_78 : ∀ q ∈ ct_78, mi_snd cs_G cs_cl cs_inf 78 q.1 q.2 := mi_fc ks_78_0 (mi_fc ks_78_1 (mi_fc ks_78_2 (mi_fc ks_78_3 (mi_fc ks_78_6 (mi_fc ks_78_7 (mi_fc ks_78_10 (mi_fc ks_78_12 (mi_fc ks_78_13 (mi_fc ks_78_15 (mi_fc ks_78_17 (mi_fc ks_78_19 (mi_fc ks_78_22 (mi_fc ks_78_24 (mi_fc ks_78_27 (mi_fc ks_78_28 (mi_fc ks_78_29 (mi_fc ks_78_31 (mi_fc ks_78_32 (mi_fc ks_78_33 (mi_fc ks_78_34 (mi_fc ks_78_35 (mi_fc ks_78_38 (mi_fc ks_78_39 (mi_fc ks_78_42 (mi_fc ks_78_43 (mi_fc ks_78_46 (mi_fc ks_78_48 (mi_fc ks_78_51 (mi_fc ks_78_54 (mi_fc ks_78_57 (mi_fc ks_78_59 (mi_fc ks_78_62 (mi_fc ks_78_65 (mi_fc ks_78_66 (mi_fc ks_78_69 (mi_fc ks_78_70 (mi_fc ks_78_73 (mi_fc ks_78_75 (mi_fc ks_78_76 (mi_fc ks_78_78 (mi_fc ks_78_80 (mi_fc ks_78_82 (mi_fc ks_78_85 (mi_fc ks_78_87 (mi_fc ks_78_90 (mi_fc ks_78_91 (mi_fc ks_78_93 (mi_fc ks_78_96 (mi_fc ks_78_99 (mi_fc ks_78_100 (mi_fc ks_78_103 (mi_fc ks_78_104 (mi_fc ks_78_107 (mi_fc ks_78_108 (mi_fc ks_78_111 (mi_fc ks_78_113 (mi_fc ks_78_116 (mi_fc ks_78_119 (mi_fc ks_78_122 (mi_fc ks_78_124 (mi_fc ks_78_127 (mi_fc ks_78_130 (mi_fc ks_78_132 mi_fn)))))))))))))))))))))))))))))))))))))))))))))))))))))))))))))))
theorem dd_79_0 : decode prog_2_method_8_code 0 = .ok (.iconst 0, 1) := by decide +kernel
theorem dd_79_1 : decode prog_2_method_8_code 1 = .ok (.istore 4, 2) := by decide +kernel
theorem dd_79_3 : decode prog_2_method_8_code 3 = .ok (.iload_n 1, 1) := by decide +kernel
theorem dd_79_4 : decode prog_2_method_8_code 4 = .ok (.istore 5, 2) := by decide +kernel
theorem dd_79_6 : decode prog_2_method_8_code 6 = .ok (.iload_n 3, 1) := by decide +kernel
theorem dd_79_7 : decode prog_2_method_8_code 7 = .ok (.istore 6, 2) := by decide +kernel
theorem dd_79_9 : decode prog_2_method_8_code 9 = .ok (.iconst 0, 1) := by decide +kernel
theorem dd_79_10 : decode prog_2_method_8_code 10 = .ok (.istore 7, 2) := by decide +kernel
theorem dd_79_12 : decode prog_2_method_8_code 12 = .ok (.iload 7, 2) := by decide +kernel
theorem dd_79_14 : decode prog_2_method_8_code 14 = .ok (.bipush 16, 2) := by decide +kernel
theorem dd_79_16 : decode prog_2_method_8_code 16 = .ok (.if_icmp .ge 95, 3) := by decide +kernel
theorem dd_79_19 : decode prog_2_method_8_code 19 = .ok (.iload 5, 2) := by decide +kernel
theorem dd_79_21 : decode prog_2_method_8_code 21 = .ok (.ifCond .lt 90, 3) := by decide +kernel
theorem dd_79_24 : decode prog_2_method_8_code 24 = .ok (.aload_n 0, 1) := by decide +kernel
theorem dd_79_25 : decode prog_2_method_8_code 25 = .ok (.getfield 18, 3) := by decide +kernel
theorem dd_79_28 : decode prog_2_method_8_code 28 = .ok (.iload 5, 2) := by decide +kernel
theorem dd_79_30 : decode prog_2_method_8_code 30 = .ok (.iaload, 1) := by decide +kernel
theorem dd_79_31 : decode prog_2_method_8_code 31 = .ok (.iload_n 2, 1) := by decide +kernel
theorem dd_79_32 : decode prog_2_method_8_code 32 = .ok (.if_icmp .eq 79, 3) := by decide +kernel
theorem dd_79_35 : decode prog_2_method_8_code 35 = .ok (.aload_n 0, 1) := by decide +kernel
theorem dd_79_36 : decode prog_2_method_8_code 36 = .ok (.getfield 9, 3) := by decide +kernel
theorem dd_79_39 : decode prog_2_method_8_code 39 = .ok (.iload 5, 2) := by decide +kernel
theorem dd_79_41 : decode prog_2_method_8_code 41 = .ok (.iaload, 1) := by decide +kernel
theorem dd_79_42 : decode prog_2_method_8_code 42 = .ok (.istore 8, 2) := by decide +kernel
theorem dd_79_44 : decode prog_2_method_8_code 44 = .ok (.iload 4, 2) := by decide +kernel
theorem dd_79_46 : decode prog_2_method_8_code 46 = .ok (.iconst 1, 1) := by decide +kernel
theorem dd_79_47 : decode prog_2_method_8_code 47 = .ok (.aload_n 0, 1) := by decide +kernel
theorem dd_79_48 : decode prog_2_method_8_code 48 = .ok (.getfield 18, 3) := by decide +kernel
theorem dd_79_51 : decode prog_2_method_8_code 51 = .ok (.iload 5, 2) := by decide +kernel
theorem dd_79_53 : decode prog_2_method_8_code 53 = .ok (.iaload, 1) := by decide +kernel
theorem dd_79_54 : decode prog_2_method_8_code 54 = .ok (.ishl, 1) := by decide +kernel
theorem dd_79_55 : decode prog_2_method_8_code 55 = .ok (.ior, 1) := by decide +kernel
theorem dd_79_56 : decode prog_2_method_8_code 56 = .ok (.istore 4, 2) := by decide +kernel
theorem dd_79_58 : decode prog_2_method_8_code 58 = .ok (.iload 4, 2) := by decide +kernel
theorem dd_79_60 : decode prog_2_method_8_code 60 = .ok (.iload 8, 2) := by decide +kernel
theorem dd_79_62 : decode prog_2_method_8_code 62 = .ok (.ifCond .lt 15, 3) := by decide +kernel
theorem dd_79_65 : decode prog_2_method_8_code 65 = .ok (.iconst 1, 1) := by decide +kernel
theorem dd_79_66 : decode prog_2_method_8_code 66 = .ok (.aload_n 0, 1) := by decide +kernel
theorem dd_79_67 : decode prog_2_method_8_code 67 = .ok (.getfield 18, 3) := by decide +kernel
theorem dd_79_70 : decode prog_2_method_8_code 70 = .ok (.iload 8, 2) := by decide +kernel
theorem dd_79_72 : decode prog_2_method_8_code 72 = .ok (.iaload, 1) := by decide +kernel
theorem dd_79_73 : decode prog_2_method_8_code 73 = .ok (.ishl, 1) := by decide +kernel
theorem dd_79_74 : decode prog_2_method_8_code 74 = .ok (.goto 4, 3) := by decide +kernel
theorem dd_79_77 : decode prog_2_method_8_code 77 = .ok (.iconst 0, 1) := by decide +kernel
theorem dd_79_78 : decode prog_2_method_8_code 78 = .ok (.ior, 1) := by decide +kernel
theorem dd_79_79 : decode prog_2_method_8_code 79 = .ok (.istore 4, 2) := by decide +kernel
theorem dd_79_81 : decode prog_2_method_8_code 81 = .ok (.aload_n 0, 1) := by decide +kernel
theorem dd_79_82 : decode prog_2_method_8_code 82 = .ok (.getfield 15, 3) := by decide +kernel
theorem dd_79_85 : decode prog_2_method_8_code 85 = .ok (.iload 5, 2) := by decide +kernel
theorem dd_79_87 : decode prog_2_method_8_code 87 = .ok (.iload 6, 2) := by decide +kernel
theorem dd_79_89 : decode prog_2_method_8_code 89 = .ok (.iastore, 1) := by decide +kernel
theorem dd_79_90 : decode prog_2_method_8_code 90 = .ok (.iload 8, 2) := by decide +kernel
theorem dd_79_92 : decode prog_2_method_8_code 92 = .ok (.istore 6, 2) := by decide +kernel
theorem dd_79_94 : decode prog_2_method_8_code 94 = .ok (.aload_n 0, 1) := by decide +kernel
theorem dd_79_95 : decode prog_2_method_8_code 95 = .ok (.getfield 15, 3) := by decide +kernel
theorem dd_79_98 : decode prog_2_method_8_code 98 = .ok (.iload 8, 2) := by decide +kernel
theorem dd_79_100 : decode prog_2_method_8_code 100 = .ok (.invokestatic 68, 3) := by decide +kernel
theorem dd_79_103 : decode prog_2_method_8_code 103 = .ok (.istore 5, 2) := by decide +kernel
theorem dd_79_105 : decode prog_2_method_8_code 105 = .ok (.iinc 7 1, 3) := by decide +kernel
theorem dd_79_108 : decode prog_2_method_8_code 108 = .ok (.goto (-96), 3) := by decide +kernel
theorem dd_79_111 : decode prog_2_method_8_code 111 = .ok (.iload 4, 2) := by decide +kernel
theorem dd_79_113 : decode prog_2_method_8_code 113 = .ok (.ireturn, 1) := by decide +kernel
theorem ks_79_0 : mi_snd cs_G cs_cl cs_inf 79 0 (mj_push (.inl 0) 1) := ms_iconst (mi_dec ib_79 dd_79_0) (by decide)
theorem ks_79_1 : mi_snd cs_G cs_cl cs_inf 79 1 (mj_istore 4 3) := ms_istore (mi_dec ib_79 dd_79_1)
theorem ks_79_3 : mi_snd cs_G cs_cl cs_inf 79 3 (mj_iload 1 4) := ms_iload_n (mi_dec ib_79 dd_79_3) rfl
theorem ks_79_4 : mi_snd cs_G cs_cl cs_inf 79 4 (mj_istore 5 6) := ms_istore (mi_dec ib_79 dd_79_4)
theorem ks_79_6 : mi_snd cs_G cs_cl cs_inf 79 6 (mj_iload 3 7) := ms_iload_n (mi_dec ib_79 dd_79_6) rfl
theorem ks_79_7 : mi_snd cs_G cs_cl cs_inf 79 7 (mj_istore 6 9) := ms_istore (mi_dec ib_79 dd_79_7)
theorem ks_79_9 : mi_snd cs_G cs_cl cs_inf 79 9 (mj_push (.inl 0) 10) := ms_iconst (mi_dec ib_79 dd_79_9) (by decide)
theorem ks_79_10 : mi_snd cs_G cs_cl cs_inf 79 10 (mj_istore 7 12) := ms_istore (mi_dec ib_79 dd_79_10)
theorem ks_79_12 : mi_snd cs_G cs_cl cs_inf 79 12 (mj_iload 7 14) := ms_iload (mi_dec ib_79 dd_79_12)
theorem ks_79_14 : mi_snd cs_G cs_cl cs_inf 79 14 (mj_push (.inl 16) 16) := ms_bipush (mi_dec ib_79 dd_79_14) (by decide)
theorem ks_79_16 : mi_snd cs_G cs_cl cs_inf 79 16 (mj_cmp (fun x y => decide (y ≤ x)) 111 19) := ms_icmp_ge (mi_dec ib_79 dd_79_16) (by decide)
theorem ks_79_19 : mi_snd cs_G cs_cl cs_inf 79 19 (mj_iload 5 21) := ms_iload (mi_dec ib_79 dd_79_19)
theorem ks_79_21 : mi_snd cs_G cs_cl cs_inf 79 21 (mj_if (fun x => decide (x < 0)) 111 24) := ms_if_lt (mi_dec ib_79 dd_79_21) (by decide)
theorem ks_79_24 : mi_snd cs_G cs_cl cs_inf 79 24 (mj_aload 0 25) := ms_aload_n (mi_dec ib_79 dd_79_24) rfl
theorem ks_79_25 : mi_snd cs_G cs_cl cs_inf 79 25 (mj_get 8 3 28) := ms_get (T := cs_T8) (k := 3) (mi_dec ib_79 dd_79_25) rfl cs_in8 (by decide) gw_212
theorem ks_79_28 : mi_snd cs_G cs_cl cs_inf 79 28 (mj_iload 5 30) := ms_iload (mi_dec ib_79 dd_79_28)
theorem ks_79_30 : mi_snd cs_G cs_cl cs_inf 79 30 (mj_ald 0 31) := ms_ald0 (mi_dec ib_79 dd_79_30)
theorem ks_79_31 : mi_snd cs_G cs_cl cs_inf 79 31 (mj_iload 2 32) := ms_iload_n (mi_dec ib_79 dd_79_31) rfl
theorem ks_79_32 : mi_snd cs_G cs_cl cs_inf 79 32 (mj_cmp (fun x y => decide (x = y)) 111 35) := ms_icmp_eq (mi_dec ib_79 dd_79_32) (by decide)
theorem ks_79_35 : mi_snd cs_G cs_cl cs_inf 79 35 (mj_aload 0 36) := ms_aload_n (mi_dec ib_79 dd_79_35) rfl
theorem ks_79_36 : mi_snd cs_G cs_cl cs_inf 79 36 (mj_get 8 1 39) := ms_get (T := cs_T8) (k := 1) (mi_dec ib_79 dd_79_36) rfl cs_in8 (by decide) gw_210
theorem ks_79_39 : mi_snd cs_G cs_cl cs_inf 79 39 (mj_iload 5 41) := ms_iload (mi_dec ib_79 dd_79_39)
theorem ks_79_41 : mi_snd cs_G cs_cl cs_inf 79 41 (mj_ald 0 42) := ms_ald0 (mi_dec ib_79 dd_79_41)
theorem ks_79_42 : mi_snd cs_G cs_cl cs_inf 79 42 (mj_istore 8 44) := ms_istore (mi_dec ib_79 dd_79_42)
theorem ks_79_44 : mi_snd cs_G cs_cl cs_inf 79 44 (mj_iload 4 46) := ms_iload (mi_dec ib_79 dd_79_44)
theorem ks_79_46 : mi_snd cs_G cs_cl cs_inf 79 46 (mj_push (.inl 1) 47) := ms_iconst (mi_dec ib_79 dd_79_46) (by decide)
theorem ks_79_47 : mi_snd cs_G cs_cl cs_inf 79 47 (mj_aload 0 48) := ms_aload_n (mi_dec ib_79 dd_79_47) rfl
theorem ks_79_48 : mi_snd cs_G cs_cl cs_inf 79 48 (mj_get 8 3 51) := ms_get (T := cs_T8) (k := 3) (mi_dec ib_79 dd_79_48) rfl cs_in8 (by decide) gw_212
theorem ks_79_51 : mi_snd cs_G cs_cl cs_inf 79 51 (mj_iload 5 53) := ms_iload (mi_dec ib_79 dd_79_51)
theorem ks_79_53 : mi_snd cs_G cs_cl cs_inf 79 53 (mj_ald 0 54) := ms_ald0 (mi_dec ib_79 dd_79_53)
theorem ks_79_54 : mi_snd cs_G cs_cl cs_inf 79 54 (mj_bin (fun x y => x <<< (y &&& 31)) 55) := ms_ishl (mi_dec ib_79 dd_79_54)
theorem ks_79_55 : mi_snd cs_G cs_cl cs_inf 79 55 (mj_bin (fun x y => x ||| y) 56) := ms_ior (mi_dec ib_79 dd_79_55)
theorem ks_79_56 : mi_snd cs_G cs_cl cs_inf 79 56 (mj_istore 4 58) := ms_istore (mi_dec ib_79 dd_79_56)
theorem ks_79_58 : mi_snd cs_G cs_cl cs_inf 79 58 (mj_iload 4 60) := ms_iload (mi_dec ib_79 dd_79_58)
theorem ks_79_60 : mi_snd cs_G cs_cl cs_inf 79 60 (mj_iload 8 62) := ms_iload (mi_dec ib_79 dd_79_60)
theorem ks_79_62 : mi_snd cs_G cs_cl cs_inf 79 62 (mj_if (fun x => decide (x < 0)) 77 65) := ms_if_lt (mi_dec ib_79 dd_79_62) (by decide)
theorem ks_79_65 : mi_snd cs_G cs_cl cs_inf 79 65 (mj_push (.inl 1) 66) := ms_iconst (mi_dec ib_79 dd_79_65) (by decide)
theorem ks_79_66 : mi_snd cs_G cs_cl cs_inf 79 66 (mj_aload 0 67) := ms_aload_n (mi_dec ib_79 dd_79_66) rfl
theorem ks_79_67 : mi_snd cs_G cs_cl cs_inf 79 67 (mj_get 8 3 70) := ms_get (T := cs_T8) (k := 3) (mi_dec ib_79 dd_79_67) rfl cs_in8 (by decide) gw_212
theorem ks_79_70 : mi_snd cs_G cs_cl cs_inf 79 70 (mj_iload 8 72) := ms_iload (mi_dec ib_79 dd_79_70)
theorem ks_79_72 : mi_snd cs_G cs_cl cs_inf 79 72 (mj_ald 0 73) := ms_ald0 (mi_dec ib_79 dd_79_72)
theorem ks_79_73 : mi_snd cs_G cs_cl cs_inf 79 73 (mj_bin (fun x y => x <<< (y &&& 31)) 74) := ms_ishl (mi_dec ib_79 dd_79_73)
theorem ks_79_74 : mi_snd cs_G cs_cl cs_inf 79 74 (mj_goto 78) := ms_goto (mi_dec ib_79 dd_79_74) (by decide)
theorem ks_79_77 : mi_snd cs_G cs_cl cs_inf 79 77 (mj_push (.inl 0) 78) := ms_iconst (mi_dec ib_79 dd_79_77) (by decide)
theorem ks_79_78 : mi_snd cs_G cs_cl cs_inf 79 78 (mj_bin (fun x y => x ||| y) 79) := ms_ior (mi_dec ib_79 dd_79_78)
theorem ks_79_79 : mi_snd cs_G cs_cl cs_inf 79 79 (mj_istore 4 81) := ms_istore (mi_dec ib_79 dd_79_79)
theorem ks_79_81 : mi_snd cs_G cs_cl cs_inf 79 81 (mj_aload 0 82) := ms_aload_n (mi_dec ib_79 dd_79_81) rfl
theorem ks_79_82 : mi_snd cs_G cs_cl cs_inf 79 82 (mj_get 8 2 85) := ms_get (T := cs_T8) (k := 2) (mi_dec ib_79 dd_79_82) rfl cs_in8 (by decide) gw_211
theorem ks_79_85 : mi_snd cs_G cs_cl cs_inf 79 85 (mj_iload 5 87) := ms_iload (mi_dec ib_79 dd_79_85)
theorem ks_79_87 : mi_snd cs_G cs_cl cs_inf 79 87 (mj_iload 6 89) := ms_iload (mi_dec ib_79 dd_79_87)
theorem ks_79_89 : mi_snd cs_G cs_cl cs_inf 79 89 (mj_iast 90) := ms_iast (mi_dec ib_79 dd_79_89)
theorem ks_79_90 : mi_snd cs_G cs_cl cs_inf 79 90 (mj_iload 8 92) := ms_iload (mi_dec ib_79 dd_79_90)
theorem ks_79_92 : mi_snd cs_G cs_cl cs_inf 79 92 (mj_istore 6 94) := ms_istore (mi_dec ib_79 dd_79_92)
theorem ks_79_94 : mi_snd cs_G cs_cl cs_inf 79 94 (mj_aload 0 95) := ms_aload_n (mi_dec ib_79 dd_79_94) rfl
theorem ks_79_95 : mi_snd cs_G cs_cl cs_inf 79 95 (mj_get 8 2 98) := ms_get (T := cs_T8) (k := 2) (mi_dec ib_79 dd_79_95) rfl cs_in8 (by decide) gw_211
theorem ks_79_98 : mi_snd cs_G cs_cl cs_inf 79 98 (mj_iload 8 100) := ms_iload (mi_dec ib_79 dd_79_98)
theorem ks_79_100 : mi_snd cs_G cs_cl cs_inf 79 100 (mj_callS 76 2 2 103) := ms_callS iw_c76 (mi_dec ib_79 dd_79_100) gw_599 iw_s76 iw_n76 (by decide +kernel) rfl (by decide)
theorem ks_79_103 : mi_snd cs_G cs_cl cs_inf 79 103 (mj_istore 5 105) := ms_istore (mi_dec ib_79 dd_79_103)
theorem ks_79_105 : mi_snd cs_G cs_cl cs_inf 79 105 (mj_iinc 7 1 108) := ms_iinc (mi_dec ib_79 dd_79_105) (by decide)
theorem ks_79_108 : mi_snd cs_G cs_cl cs_inf 79 108 (mj_goto 12) := ms_goto (mi_dec ib_79 dd_79_108) (by decide)
theorem ks_79_111 : mi_snd cs_G cs_cl cs_inf 79 111 (mj_iload 4 113) := ms_iload (mi_dec ib_79 dd_79_111)
theorem ks_79_113 : mi_snd cs_G cs_cl cs_inf 79 113 (mj_iret) := ms_iret (mi_dec ib_79 dd_79_113) rfl
def ct_79 : List (Nat × mi_I) := [
  (0, mj_push (.inl 0) 1),
  (1, mj_istore 4 3),
  (3, mj_iload 1 4),
  (4, mj_istore 5 6),
  (6, mj_iload 3 7),
  (7, mj_istore 6 9),
  (9, mj_push (.inl 0) 10),
  (10, mj_istore 7 12),
  (12, mj_iload 7 14),
  (14, mj_push (.inl 16) 16),
  (16, mj_cmp (fun x y => decide (y ≤ x)) 111 19),
  (19, mj_iload 5 21),
  (21, mj_if (fun x => decide (x < 0)) 111 24),
  (24, mj_aload 0 25),
  (25, mj_get 8 3 28),
  (28, mj_iload 5 30),
  (30, mj_ald 0 31),
  (31, mj_iload 2 32),
  (32, mj_cmp (fun x y => decide (x = y)) 111 35),
  (35, mj_aload 0 36),
  (36, mj_get 8 1 39),
  (39, mj_iload 5 41),
  (41, mj_ald 0 42),
  (42, mj_istore 8 44),
  (44, mj_iload 4 46),
  (46, mj_push (.inl 1) 47),
  (47, mj_aload 0 48),
  (48, mj_get 8 3 51),
  (51, mj_iload 5 53),
  (53, mj_ald 0 54),
  (54, mj_bin (fun x y => x <<< (y &&& 31)) 55),
  (55, mj_bin (fun x y => x ||| y) 56),
  (56, mj_istore 4 58),
  (58, mj_iload 4 60),
  (60, mj_iload 8 62),
  (62, mj_if (fun x => decide (x < 0)) 77 65),
  (65, mj_push (.inl 1) 66),
  (66, mj_aload 0 67),
  (67, mj_get 8 3 70),
  (70, mj_iload 8 72),
  (72, mj_ald 0 73),
  (73, mj_bin (fun x y => x <<< (y &&& 31)) 74),
  (74, mj_goto 78),
  (77, mj_push (.inl 0) 78),
  (78, mj_bin (fun x y => x ||| y) 79),
  (79, mj_istore 4 81),
  (81, mj_aload 0 82),
  (82, mj_get 8 2 85),
  (85, mj_iload 5 87),
  (87, mj_iload 6 89),
  (89, mj_iast 90),
  (90, mj_iload 8 92),
  (92, mj_istore 6 94),
  (94, mj_aload 0 95),
  (95, mj_get 8 2 98),
  (98, mj_iload 8 100),
  (100, mj_callS 76 2 2 103),
  (103, mj_istore 5 105),
  (105, mj_iinc 7 1 108),
  (108, mj_goto 12),
  (111, mj_iload 4 113),
  (113, mj_iret)]
theorem sd_79 : ∀ q ∈ ct_79, mi_snd cs_G cs_cl cs_inf 79 q.1 q.2 := mi_fc ks_79_0 (mi_fc ks_79_1 (mi_fc ks_79_3 (mi_fc ks_79_4 (mi_fc ks_79_6 (mi_fc ks_79_7 (mi_fc ks_79_9 (mi_fc ks_79_10 (mi_fc ks_79_12 (mi_fc ks_79_14 (mi_fc ks_79_16 (mi_fc ks_79_19 (mi_fc ks_79_21 (mi_fc ks_79_24 (mi_fc ks_79_25 (mi_fc ks_79_28 (mi_fc ks_79_30 (mi_fc ks_79_31 (mi_fc ks_79_32 (mi_fc ks_79_35 (mi_fc ks_79_36 (mi_fc ks_79_39 (mi_fc ks_79_41 (mi_fc ks_79_42 (mi_fc ks_79_44 (mi_fc ks_79_46 (mi_fc ks_79_47 (mi_fc ks_79_48 (mi_fc ks_79_51 (mi_fc ks_79_53 (mi_fc ks_79_54 (mi_fc ks_79_55 (mi_fc ks_79_56 (mi_fc ks_79_58 (mi_fc ks_79_60 (mi_fc ks_79_62 (mi_fc ks_79_65 (mi_fc ks_79_66 (mi_fc ks_79_67 (mi_fc ks_79_70 (mi_fc ks_79_72 (mi_fc ks_79_73 (mi_fc ks_79_74 (mi_fc ks_79_77 (mi_fc ks_79_78 (mi_fc ks_79_79 (mi_fc ks_79_81 (mi_fc ks_79_82 (mi_fc ks_79_85 (mi_fc ks_79_87 (mi_fc ks_79_89 (mi_fc ks_79_90 (mi_fc ks_79_92 (mi_fc ks_79_94 (mi_fc ks_79_95 (mi_fc ks_79_98 (mi_fc ks_79_100 (mi_fc ks_79_103 (mi_fc ks_79_105 (mi_fc ks_79_108 (mi_fc ks_79_111 (mi_fc ks_79_113 mi_fn)))))))))))))))))))))))))))))))))))))))))))))))))))))))))))))
theorem dd_80_0 : decode prog_2_method_9_code 0 = .ok (.iload_n 1, 1) := by decide +kernel
theorem dd_80_1 : decode prog_2_method_9_code 1 = .ok (.istore_n 2, 1) := by decide +kernel
theorem dd_80_2 : decode prog_2_method_9_code 2 = .ok (.iconst 0, 1) := by decide +kernel
theorem dd_80_3 : decode prog_2_method_9_code 3 = .ok (.istore_n 3, 1) := by decide +kernel
theorem dd_80_4 : decode prog_2_method_9_code 4 = .ok (.iload_n 3, 1) := by decide +kernel
theorem dd_80_5 : decode prog_2_method_9_code 5 = .ok (.bipush 16, 2) := by decide +kernel
theorem dd_80_7 : decode prog_2_method_9_code 7 = .ok (.if_icmp .ge 58, 3) := by decide +kernel
theorem dd_80_10 : decode prog_2_method_9_code 10 = .ok (.iload_n 2, 1) := by decide +kernel
theorem dd_80_11 : decode prog_2_method_9_code 11 = .ok (.ifCond .lt 54, 3) := by decide +kernel
theorem dd_80_14 : decode prog_2_method_9_code 14 = .ok (.aload_n 0, 1) := by decide +kernel
theorem dd_80_15 : decode prog_2_method_9_code 15 = .ok (.getfield 15, 3) := by decide +kernel
theorem dd_80_18 : decode prog_2_method_9_code 18 = .ok (.iload_n 2, 1) := by decide +kernel
theorem dd_80_19 : decode prog_2_method_9_code 19 = .ok (.iaload, 1) := by decide +kernel
theorem dd_80_20 : decode prog_2_method_9_code 20 = .ok (.ifCond .lt 45, 3) := by decide +kernel
theorem dd_80_23 : decode prog_2_method_9_code 23 = .ok (.aload_n 0, 1) := by decide +kernel
theorem dd_80_24 : decode prog_2_method_9_code 24 = .ok (.getfield 15, 3) := by decide +kernel
theorem dd_80_27 : decode prog_2_method_9_code 27 = .ok (.iload_n 2, 1) := by decide +kernel
theorem dd_80_28 : decode prog_2_method_9_code 28 = .ok (.iaload, 1) := by decide +kernel
theorem dd_80_29 : decode prog_2_method_9_code 29 = .ok (.istore 4, 2) := by decide +kernel
theorem dd_80_31 : decode prog_2_method_9_code 31 = .ok (.aload_n 0, 1) := by decide +kernel
theorem dd_80_32 : decode prog_2_method_9_code 32 = .ok (.getfield 9, 3) := by decide +kernel
theorem dd_80_35 : decode prog_2_method_9_code 35 = .ok (.iload 4, 2) := by decide +kernel
theorem dd_80_37 : decode prog_2_method_9_code 37 = .ok (.iaload, 1) := by decide +kernel
theorem dd_80_38 : decode prog_2_method_9_code 38 = .ok (.istore 5, 2) := by decide +kernel
theorem dd_80_40 : decode prog_2_method_9_code 40 = .ok (.aload_n 0, 1) := by decide +kernel
theorem dd_80_41 : decode prog_2_method_9_code 41 = .ok (.getfield 9, 3) := by decide +kernel
theorem dd_80_44 : decode prog_2_method_9_code 44 = .ok (.iload_n 2, 1) := by decide +kernel
theorem dd_80_45 : decode prog_2_method_9_code 45 = .ok (.iload 4, 2) := by decide +kernel
theorem dd_80_47 : decode prog_2_method_9_code 47 = .ok (.iastore, 1) := by decide +kernel
theorem dd_80_48 : decode prog_2_method_9_code 48 = .ok (.aload_n 0, 1) := by decide +kernel
theorem dd_80_49 : decode prog_2_method_9_code 49 = .ok (.getfield 9, 3) := by decide +kernel
theorem dd_80_52 : decode prog_2_method_9_code 52 = .ok (.iload 4, 2) := by decide +kernel
theorem dd_80_54 : decode prog_2_method_9_code 54 = .ok (.iload_n 2, 1) := by decide +kernel
theorem dd_80_55 : decode prog_2_method_9_code 55 = .ok (.iastore, 1) := by decide +kernel
theorem dd_80_56 : decode prog_2_method_9_code 56 = .ok (.iload 5, 2) := by decide +kernel
theorem dd_80_58 : decode prog_2_method_9_code 58 = .ok (.istore_n 2, 1) := by decide +kernel
theorem dd_80_59 : decode prog_2_method_9_code 59 = .ok (.iinc 3 1, 3) := by decide +kernel
theorem dd_80_62 : decode prog_2_method_9_code 62 = .ok (.goto (-58), 3) := by decide +kernel
theorem dd_80_65 : decode prog_2_method_9_code 65 = .ok (.return_, 1) := by decide +kernel
theorem ks_80_0 : mi_snd cs_G cs_cl cs_inf 80 0 (mj_iload 1 1) := ms_iload_n (mi_dec ib_80 dd_80_0) rfl
theorem ks_80_1 : mi_snd cs_G cs_cl cs_inf 80 1 (mj_istore 2 2) := ms_istore_n (mi_dec ib_80 dd_80_1) rfl
theorem ks_80_2 : mi_snd cs_G cs_cl cs_inf 80 2 (mj_push (.inl 0) 3) := ms_iconst (mi_dec ib_80 dd_80_2) (by decide)
theorem ks_80_3 : mi_snd cs_G cs_cl cs_inf 80 3 (mj_istore 3 4) := ms_istore_n (mi_dec ib_80 dd_80_3) rfl
theorem ks_80_4 : mi_snd cs_G cs_cl cs_inf 80 4 (mj_iload 3 5) := ms_iload_n (mi_dec ib_80 dd_80_4) rfl
theorem ks_80_5 : mi_snd cs_G cs_cl cs_inf 80 5 (mj_push (.inl 16) 7) := ms_bipush (mi_dec ib_80 dd_80_5) (by decide)
theorem ks_80_7 : mi_snd cs_G cs_cl cs_inf 80 7 (mj_cmp (fun x y => decide (y ≤ x)) 65 10) := ms_icmp_ge (mi_dec ib_80 dd_80_7) (by decide)
theorem ks_80_10 : mi_snd cs_G cs_cl cs_inf 80 10 (mj_iload 2 11) := ms_iload_n (mi_dec ib_80 dd_80_10) rfl
theorem ks_80_11 : mi_snd cs_G cs_cl cs_inf 80 11 (mj_if (fun x => decide (x < 0)) 65 14) := ms_if_lt (mi_dec ib_80 dd_80_11) (by decide)
theorem ks_80_14 : mi_snd cs_G cs_cl cs_inf 80 14 (mj_aload 0 15) := ms_aload_n (mi_dec ib_80 dd_80_14) rfl
theorem ks_80_15 : mi_snd cs_G cs_cl cs_inf 80 15 (mj_get 8 2 18) := ms_get (T := cs_T8) (k := 2) (mi_dec ib_80 dd_80_15) rfl cs_in8 (by decide) gw_211
theorem ks_80_18 : mi_snd cs_G cs_cl cs_inf 80 18 (mj_iload 2 19) := ms_iload_n (mi_dec ib_80 dd_80_18) rfl
theorem ks_80_19 : mi_snd cs_G cs_cl cs_inf 80 19 (mj_ald 0 20) := ms_ald0 (mi_dec ib_80 dd_80_19)
theorem ks_80_20 : mi_snd cs_G cs_cl cs_inf 80 20 (mj_if (fun x => decide (x < 0)) 65 23) := ms_if_lt (mi_dec ib_80 dd_80_20) (by decide)
theorem ks_80_23 : mi_snd cs_G cs_cl cs_inf 80 23 (mj_aload 0 24) := ms_aload_n (mi_dec ib_80 dd_80_23) rfl
theorem ks_80_24 : mi_snd cs_G cs_cl cs_inf 80 24 (mj_get 8 2 27) := ms_get (T := cs_T8) (k := 2) (mi_dec ib_80 dd_80_24) rfl cs_in8 (by decide) gw_211
theorem ks_80_27 : mi_snd cs_G cs_cl cs_inf 80 27 (mj_iload 2 28) := ms_iload_n (mi_dec ib_80 dd_80_27) rfl
theorem ks_80_28 : mi_snd cs_G cs_cl cs_inf 80 28 (mj_ald 0 29) := ms_ald0 (mi_dec ib_80 dd_80_28)
theorem ks_80_29 : mi_snd cs_G cs_cl cs_inf 80 29 (mj_istore 4 31) := ms_istore (mi_dec ib_80 dd_80_29)
theorem ks_80_31 : mi_snd cs_G cs_cl cs_inf 80 31 (mj_aload 0 32) := ms_aload_n (mi_dec ib_80 dd_80_31) rfl
theorem ks_80_32 : mi_snd cs_G cs_cl cs_inf 80 32 (mj_get 8 1 35) := ms_get (T := cs_T8) (k := 1) (mi_dec ib_80 dd_80_32) rfl cs_in8 (by decide) gw_210
theorem ks_80_35 : mi_snd cs_G cs_cl cs_inf 80 35 (mj_iload 4 37) := ms_iload (mi_dec ib_80 dd_80_35)
theorem ks_80_37 : mi_snd cs_G cs_cl cs_inf 80 37 (mj_ald 0 38) := ms_ald0 (mi_dec ib_80 dd_80_37)
theorem ks_80_38 : mi_snd cs_G cs_cl cs_inf 80 38 (mj_istore 5 40) := ms_istore (mi_dec ib_80 dd_80_38)
theorem ks_80_40 : mi_snd cs_G cs_cl cs_inf 80 40 (mj_aload 0 41) := ms_aload_n (mi_dec ib_80 dd_80_40) rfl
theorem ks_80_41 : mi_snd cs_G cs_cl cs_inf 80 41 (mj_get 8 1 44) := ms_get (T := cs_T8) (k := 1) (mi_dec ib_80 dd_80_41) rfl cs_in8 (by decide) gw_210
theorem ks_80_44 : mi_snd cs_G cs_cl cs_inf 80 44 (mj_iload 2 45) := ms_iload_n (mi_dec ib_80 dd_80_44) rfl
theorem ks_80_45 : mi_snd cs_G cs_cl cs_inf 80 45 (mj_iload 4 47) := ms_iload (mi_dec ib_80 dd_80_45)
theorem ks_80_47 : mi_snd cs_G cs_cl cs_inf 80 47 (mj_iast 48) := ms_iast (mi_dec ib_80 dd_80_47)
theorem ks_80_48 : mi_snd cs_G cs_cl cs_inf 80 48 (mj_aload 0 49) := ms_aload_n (mi_dec ib_80 dd_80_48) rfl
theorem ks_80_49 : mi_snd cs_G cs_cl cs_inf 80 49 (mj_get 8 1 52) := ms_get (T := cs_T8) (k := 1) (mi_dec ib_80 dd_80_49) rfl cs_in8 (by decide) gw_210
theorem ks_80_52 : mi_snd cs_G cs_cl cs_inf 80 52 (mj_iload 4 54) := ms_iload (mi_dec ib_80 dd_80_52)
theorem ks_80_54 : mi_snd cs_G cs_cl cs_inf 80 54 (mj_iload 2 55) := ms_iload_n (mi_dec ib_80 dd_80_54) rfl
theorem ks_80_55 : mi_snd cs_G cs_cl cs_inf 80 55 (mj_iast 56) := ms_iast (mi_dec ib_80 dd_80_55)
theorem ks_80_56 : mi_snd cs_G cs_cl cs_inf 80 56 (mj_iload 5 58) := ms_iload (mi_dec ib_80 dd_80_56)
theorem ks_80_58 : mi_snd cs_G cs_cl cs_inf 80 58 (mj_istore 2 59) := ms_istore_n (mi_dec ib_80 dd_80_58) rfl
theorem ks_80_59 : mi_snd cs_G cs_cl cs_inf 80 59 (mj_iinc 3 1 62) := ms_iinc (mi_dec ib_80 dd_80_59) (by decide)
theorem ks_80_62 : mi_snd cs_G cs_cl cs_inf 80 62 (mj_goto 4) := ms_goto (mi_dec ib_80 dd_80_62) (by decide)
theorem ks_80_65 : mi_snd cs_G cs_cl cs_inf 80 65 (mj_ret) := ms_ret (mi_dec ib_80 dd_80_65) rfl
def ct_80 : List (Nat × mi_I) := [
  (0, mj_iload 1 1),
  (1, mj_istore 2 2),
  (2, mj_push (.inl 0) 3),
  (3, mj_istore 3 4),
  (4, mj_iload 3 5),
  (5, mj_push (.inl 16) 7),
  (7, mj_cmp (fun x y => decide (y ≤ x)) 65 10),
  (10, mj_iload 2 11),
  (11, mj_if (fun x => decide (x < 0)) 65 14),
  (14, mj_aload 0 15),
  (15, mj_get 8 2 18),
  (18, mj_iload 2 19),
  (19, mj_ald 0 20),
  (20, mj_if (fun x => decide (x < 0)) 65 23),
  (23, mj_aload 0 24),
  (24, mj_get 8 2 27),
  (27, mj_iload 2 28),
  (28, mj_ald 0 29),
  (29, mj_istore 4 31),
  (31, mj_aload 0 32),
  (32, mj_get 8 1 35),
  (35, mj_iload 4 37),
  (37, mj_ald 0 38),
  (38, mj_istore 5 40),
  (40, mj_aload 0 41),
  (41, mj_get 8 1 44),
  (44, mj_iload 2 45),
  (45, mj_iload 4 47),
  (47, mj_iast 48),
  (48, mj_aload 0 49),
  (49, mj_get 8 1 52),
  (52, mj_iload 4 54),
  (54, mj_iload 2 55),
  (55, mj_iast 56),
  (56, mj_iload 5 58),
  (58, mj_istore 2 59),
  (59, mj_iinc 3 1 62),
  (62, mj_goto 4),
  (65, mj_ret)]
theorem sd_80 : ∀ q ∈ ct_80, mi_snd cs_G cs_cl cs_inf 80 q.1 q.2 := mi_fc ks_80_0 (mi_fc ks_80_1 (mi_fc ks_80_2 (mi_fc ks_80_3 (mi_fc ks_80_4 (mi_fc ks_80_5 (mi_fc ks_80_7 (mi_fc ks_80_10 (mi_fc ks_80_11 (mi_fc ks_80_14 (mi_fc ks_80_15 (mi_fc ks_80_18 (mi_fc ks_80_19 (mi_fc ks_80_20 (mi_fc ks_80_23 (mi_fc ks_80_24 (mi_fc ks_80_27 (mi_fc ks_80_28 (mi_fc ks_80_29 (mi_fc ks_80_31 (mi_fc ks_80_32 (mi_fc ks_80_35 (mi_fc ks_80_37 (mi_fc ks_80_38 (mi_fc ks_80_40 (mi_fc ks_80_41 (mi_fc ks_80_44 (mi_fc ks_80_45 (mi_fc ks_80_47 (mi_fc ks_80_48 (mi_fc ks_80_49 (mi_fc ks_80_52 (mi_fc ks_80_54 (mi_fc ks_80_55 (mi_fc ks_80_56 (mi_fc ks_80_58 (mi_fc ks_80_59 (mi_fc ks_80_62 (mi_fc ks_80_65 mi_fn))))))))))))))))))))))))))))))))))))))

theorem dd_81_0 : decode prog_1_method_24_code 0 = .ok (.iload_n 1, 1) := by decide +kernel
theorem dd_81_1 : decode prog_1_method_24_code 1 = .ok (.tableswitch 77 0 3 #[31, 39, 54, 69], 31) := by decide +kernel
theorem dd_81_32 : decode prog_1_method_24_code 32 = .ok (.aload_n 0, 1) := by decide +kernel
theorem dd_81_33 : decode prog_1_method_24_code 33 = .ok (.getfield 10, 3) := by decide +kernel
theorem dd_81_36 : decode prog_1_method_24_code 36 = .ok (.getfield 174, 3) := by decide +kernel
theorem dd_81_39 : decode prog_1_method_24_code 39 = .ok (.ireturn, 1) := by decide +kernel
theorem dd_81_40 : decode prog_1_method_24_code 40 = .ok (.aload_n 0, 1) := by decide +kernel
theorem dd_81_41 : decode prog_1_method_24_code 41 = .ok (.getfield 10, 3) := by decide +kernel
theorem dd_81_44 : decode prog_1_method_24_code 44 = .ok (.aload_n 0, 1) := by decide +kernel
theorem dd_81_45 : decode prog_1_method_24_code 45 = .ok (.getfield 10, 3) := by decide +kernel
theorem dd_81_48 : decode prog_1_method_24_code 48 = .ok (.invokevirtual 122, 3) := by decide +kernel
theorem dd_81_51 : decode prog_1_method_24_code 51 = .ok (.invokevirtual 184, 3) := by decide +kernel
theorem dd_81_54 : decode prog_1_method_24_code 54 = .ok (.ireturn, 1) := by decide +kernel
theorem dd_81_55 : decode prog_1_method_24_code 55 = .ok (.aload_n 0, 1) := by decide +kernel
theorem dd_81_56 : decode prog_1_method_24_code 56 = .ok (.getfield 10, 3) := by decide +kernel
theorem dd_81_59 : decode prog_1_method_24_code 59 = .ok (.aload_n 0, 1) := by decide +kernel
theorem dd_81_60 : decode prog_1_method_24_code 60 = .ok (.getfield 10, 3) := by decide +kernel
theorem dd_81_63 : decode prog_1_method_24_code 63 = .ok (.invokevirtual 122, 3) := by decide +kernel
theorem dd_81_66 : decode prog_1_method_24_code 66 = .ok (.invokevirtual 187, 3) := by decide +kernel
theorem dd_81_69 : decode prog_1_method_24_code 69 = .ok (.ireturn, 1) := by decide +kernel
theorem dd_81_70 : decode prog_1_method_24_code 70 = .ok (.aload_n 0, 1) := by decide +kernel
theorem dd_81_71 : decode prog_1_method_24_code 71 = .ok (.getfield 10, 3) := by decide +kernel
theorem dd_81_74 : decode prog_1_method_24_code 74 = .ok (.invokevirtual 190, 3) := by decide +kernel
theorem dd_81_77 : decode prog_1_method_24_code 77 = .ok (.ireturn, 1) := by decide +kernel
theorem dd_81_78 : decode prog_1_method_24_code 78 = .ok (.iconst (-1), 1) := by decide +kernel
theorem dd_81_79 : decode prog_1_method_24_code 79 = .ok (.ireturn, 1) := by decide +kernel
theorem ks_81_0 : mi_snd cs_G cs_cl cs_inf 81 0 (mj_iload 1 1) := ms_iload_n (mi_dec ib_81 dd_81_0) rfl
theorem ks_81_1 : mi_snd cs_G cs_cl cs_inf 81 1 (mj_sw (mi_tab 0 [32, 40, 55, 70] 78)) := ms_table (mi_dec ib_81 dd_81_1) (by decide) (by decide) (by decide)
theorem ks_81_32 : mi_snd cs_G cs_cl cs_inf 81 32 (mj_aload 0 33) := ms_aload_n (mi_dec ib_81 dd_81_32) rfl
theorem ks_81_33 : mi_snd cs_G cs_cl cs_inf 81 33 (mj_get 0 0 36) := ms_get (T := cs_T0) (k := 0) (mi_dec ib_81 dd_81_33) rfl cs_in0 (by decide) gw_231
theorem ks_81_36 : mi_snd cs_G cs_cl cs_inf 81 36 (mj_get 1 0 39) := ms_getN (T := cs_T1) (k := 0) (mi_dec ib_81 dd_81_36) rfl cs_in1 (by decide) gw_32
theorem ks_81_39 : mi_snd cs_G cs_cl cs_inf 81 39 (mj_iret) := ms_iret (mi_dec ib_81 dd_81_39) rfl
theorem ks_81_40 : mi_snd cs_G cs_cl cs_inf 81 40 (mj_aload 0 41) := ms_aload_n (mi_dec ib_81 dd_81_40) rfl
theorem ks_81_41 : mi_snd cs_G cs_cl cs_inf 81 41 (mj_get 0 0 44) := ms_get (T := cs_T0) (k := 0) (mi_dec ib_81 dd_81_41) rfl cs_in0 (by decide) gw_231
theorem ks_81_44 : mi_snd cs_G cs_cl cs_inf 81 44 (mj_aload 0 45) := ms_aload_n (mi_dec ib_81 dd_81_44) rfl
theorem ks_81_45 : mi_snd cs_G cs_cl cs_inf 81 45 (mj_get 0 0 48) := ms_get (T := cs_T0) (k := 0) (mi_dec ib_81 dd_81_45) rfl cs_in0 (by decide) gw_231
theorem ks_81_48 : mi_snd cs_G cs_cl cs_inf 81 48 (mj_callV 1 15 0 1 51) := ms_callVN iw_c15 (mi_dec ib_81 dd_81_48) gw_416 iw_i15 rfl iw_v15 iw_n15 (by decide +kernel) rfl (by decide)
theorem ks_81_51 : mi_snd cs_G cs_cl cs_inf 81 51 (mj_callV 1 66 1 4 54) := ms_callVN iw_c66 (mi_dec ib_81 dd_81_51) gw_622 iw_i66 rfl iw_v66 iw_n66 (by decide +kernel) rfl (by decide)
theorem ks_81_54 : mi_snd cs_G cs_cl cs_inf 81 54 (mj_iret) := ms_iret (mi_dec ib_81 dd_81_54) rfl
theorem ks_81_55 : mi_snd cs_G cs_cl cs_inf 81 55 (mj_aload 0 56) := ms_aload_n (mi_dec ib_81 dd_81_55) rfl
theorem ks_81_56 : mi_snd cs_G cs_cl cs_inf 81 56 (mj_get 0 0 59) := ms_get (T := cs_T0) (k := 0) (mi_dec ib_81 dd_81_56) rfl cs_in0 (by decide) gw_231
theorem ks_81_59 : mi_snd cs_G cs_cl cs_inf 81 59 (mj_aload 0 60) := ms_aload_n (mi_dec ib_81 dd_81_59) rfl
theorem ks_81_60 : mi_snd cs_G cs_cl cs_inf 81 60 (mj_get 0 0 63) := ms_get (T := cs_T0) (k := 0) (mi_dec ib_81 dd_81_60) rfl cs_in0 (by decide) gw_231
theorem ks_81_63 : mi_snd cs_G cs_cl cs_inf 81 63 (mj_callV 1 15 0 1 66) := ms_callVN iw_c15 (mi_dec ib_81 dd_81_63) gw_416 iw_i15 rfl iw_v15 iw_n15 (by decide +kernel) rfl (by decide)
theorem ks_81_66 : mi_snd cs_G cs_cl cs_inf 81 66 (mj_callV 1 23 1 4 69) := ms_callVN iw_c23 (mi_dec ib_81 dd_81_66) gw_623 iw_i23 rfl iw_v23 iw_n23 (by decide +kernel) rfl (by decide)
theorem ks_81_69 : mi_snd cs_G cs_cl cs_inf 81 69 (mj_iret) := ms_iret (mi_dec ib_81 dd_81_69) rfl
theorem ks_81_70 : mi_snd cs_G cs_cl cs_inf 81 70 (mj_aload 0 71) := ms_aload_n (mi_dec ib_81 dd_81_70) rfl
theorem ks_81_71 : mi_snd cs_G cs_cl cs_inf 81 71 (mj_get 0 0 74) := ms_get (T := cs_T0) (k := 0) (mi_dec ib_81 dd_81_71) rfl cs_in0 (by decide) gw_231
theorem ks_81_74 : mi_snd cs_G cs_cl cs_inf 81 74 (mj_callV 1 82 0 4 77) := ms_callVN iw_c82 (mi_dec ib_81 dd_81_74) gw_624 iw_i82 rfl iw_v82 iw_n82 (by decide +kernel) rfl (by decide)
theorem ks_81_77 : mi_snd cs_G cs_cl cs_inf 81 77 (mj_iret) := ms_iret (mi_dec ib_81 dd_81_77) rfl
theorem ks_81_78 : mi_snd cs_G cs_cl cs_inf 81 78 (mj_push (.inl (-1)) 79) := ms_iconst (mi_dec ib_81 dd_81_78) (by decide)
theorem ks_81_79 : mi_snd cs_G cs_cl cs_inf 81 79 (mj_iret) := ms_iret (mi_dec ib_81 dd_81_79) rfl
def ct_81 : List (Nat × mi_I) := [
  (0, mj_iload 1 1),
  (1, mj_sw (mi_tab 0 [32, 40, 55, 70] 78)),
  (32, mj_aload 0 33),
  (33, mj_get 0 0 36),
  (36, mj_get 1 0 39),
  (39, mj_iret),
  (40, mj_aload 0 41),
  (41, mj_get 0 0 44),
  (44, mj_aload 0 45),
  (45, mj_get 0 0 48),
  (48, mj_callV 1 15 0 1 51),
  (51, mj_callV 1 66 1 4 54),
  (54, mj_iret),
  (55, mj_aload 0 56),
  (56, mj_get 0 0 59),
  (59, mj_aload 0 60),
  (60, mj_get 0 0 63),
  (63, mj_callV 1 15 0 1 66),
  (66, mj_callV 1 23 1 4 69),
  (69, mj_iret),
  (70, mj_aload 0 71),
  (71, mj_get 0 0 74),
  (74, mj_callV 1 82 0 4 77),
  (77, mj_iret),
  (78, mj_push (.inl (-1)) 79),
  (79, mj_iret)]
theorem sd_81 : ∀ q ∈ ct_81, mi_snd cs_G cs_cl cs_inf 81 q.1 q.2 := mi_fc ks_81_0 (mi_fc ks_81_1 (mi_fc ks_81_32 (mi_fc ks_81_33 (mi_fc ks_81_36 (mi_fc ks_81_39 (mi_fc ks_81_40 (mi_fc ks_81_41 (mi_fc ks_81_44 (mi_fc ks_81_45 (mi_fc ks_81_48 (mi_fc ks_81_51 (mi_fc ks_81_54 (mi_fc ks_81_55 (mi_fc ks_81_56 (mi_fc ks_81_59 (mi_fc ks_81_60 (mi_fc ks_81_63 (mi_fc ks_81_66 (mi_fc ks_81_69 (mi_fc ks_81_70 (mi_fc ks_81_71 (mi_fc ks_81_74 (mi_fc ks_81_77 (mi_fc ks_81_78 (mi_fc ks_81_79 mi_fn)))))))))))))))))))))))))
theorem dd_82_0 : decode prog_5_method_16_code 0 = .ok (.iconst 0, 1) := by decide +kernel
theorem dd_82_1 : decode prog_5_method_16_code 1 = .ok (.istore_n 1, 1) := by decide +kernel
theorem dd_82_2 : decode prog_5_method_16_code 2 = .ok (.iconst 0, 1) := by decide +kernel
theorem dd_82_3 : decode prog_5_method_16_code 3 = .ok (.istore_n 2, 1) := by decide +kernel
theorem dd_82_4 : decode prog_5_method_16_code 4 = .ok (.iconst 0, 1) := by decide +kernel
theorem dd_82_5 : decode prog_5_method_16_code 5 = .ok (.istore_n 3, 1) := by decide +kernel
theorem dd_82_6 : decode prog_5_method_16_code 6 = .ok (.iload_n 3, 1) := by decide +kernel
theorem dd_82_7 : decode prog_5_method_16_code 7 = .ok (.aload_n 0, 1) := by decide +kernel
theorem dd_82_8 : decode prog_5_method_16_code 8 = .ok (.getfield 18, 3) := by decide +kernel
theorem dd_82_11 : decode prog_5_method_16_code 11 = .ok (.if_icmp .ge 36, 3) := by decide +kernel
theorem dd_82_14 : decode prog_5_method_16_code 14 = .ok (.iload_n 2, 1) := by decide +kernel
theorem dd_82_15 : decode prog_5_method_16_code 15 = .ok (.iload_n 3, 1) := by decide +kernel
theorem dd_82_16 : decode prog_5_method_16_code 16 = .ok (.invokestatic 46, 3) := by decide +kernel
theorem dd_82_19 : decode prog_5_method_16_code 19 = .ok (.ifCond .ne 22, 3) := by decide +kernel
theorem dd_82_22 : decode prog_5_method_16_code 22 = .ok (.iinc 1 1, 3) := by decide +kernel
theorem dd_82_25 : decode prog_5_method_16_code 25 = .ok (.iload_n 2, 1) := by decide +kernel
theorem dd_82_26 : decode prog_5_method_16_code 26 = .ok (.aload_n 0, 1) := by decide +kernel
theorem dd_82_27 : decode prog_5_method_16_code 27 = .ok (.iload_n 3, 1) := by decide +kernel
theorem dd_82_28 : decode prog_5_method_16_code 28 = .ok (.iconst 0, 1) := by decide +kernel
theorem dd_82_29 : decode prog_5_method_16_code 29 = .ok (.invokevirtual 57, 3) := by decide +kernel
theorem dd_82_32 : decode prog_5_method_16_code 32 = .ok (.aload_n 0, 1) := by decide +kernel
theorem dd_82_33 : decode prog_5_method_16_code 33 = .ok (.iload_n 3, 1) := by decide +kernel
theorem dd_82_34 : decode prog_5_method_16_code 34 = .ok (.iconst 1, 1) := by decide +kernel
theorem dd_82_35 : decode prog_5_method_16_code 35 = .ok (.invokevirtual 57, 3) := by decide +kernel
theorem dd_82_38 : decode prog_5_method_16_code 38 = .ok (.ior, 1) := by decide +kernel
theorem dd_82_39 : decode prog_5_method_16_code 39 = .ok (.ior, 1) := by decide +kernel
theorem dd_82_40 : decode prog_5_method_16_code 40 = .ok (.istore_n 2, 1) := by decide +kernel
theorem dd_82_41 : decode prog_5_method_16_code 41 = .ok (.iinc 3 1, 3) := by decide +kernel
theorem dd_82_44 : decode prog_5_method_16_code 44 = .ok (.goto (-38), 3) := by decide +kernel
theorem dd_82_47 : decode prog_5_method_16_code 47 = .ok (.iload_n 1, 1) := by decide +kernel
theorem dd_82_48 : decode prog_5_method_16_code 48 = .ok (.ireturn, 1) := by decide +kernel
theorem ks_82_0 : mi_snd cs_G cs_cl cs_inf 82 0 (mj_push (.inl 0) 1) := ms_iconst (mi_dec ib_82 dd_82_0) (by decide)
theorem ks_82_1 : mi_snd cs_G cs_cl cs_inf 82 1 (mj_istore 1 2) := ms_istore_n (mi_dec ib_82 dd_82_1) rfl
theorem ks_82_2 : mi_snd cs_G cs_cl cs_inf 82 2 (mj_push (.inl 0) 3) := ms_iconst (mi_dec ib_82 dd_82_2) (by decide)
theorem ks_82_3 : mi_snd cs_G cs_cl cs_inf 82 3 (mj_istore 2 4) := ms_istore_n (mi_dec ib_82 dd_82_3) rfl
theorem ks_82_4 : mi_snd cs_G cs_cl cs_inf 82 4 (mj_push (.inl 0) 5) := ms_iconst (mi_dec ib_82 dd_82_4) (by decide)
theorem ks_82_5 : mi_snd cs_G cs_cl cs_inf 82 5 (mj_istore 3 6) := ms_istore_n (mi_dec ib_82 dd_82_5) rfl
theorem ks_82_6 : mi_snd cs_G cs_cl cs_inf 82 6 (mj_iload 3 7) := ms_iload_n (mi_dec ib_82 dd_82_6) rfl
theorem ks_82_7 : mi_snd cs_G cs_cl cs_inf 82 7 (mj_aload 0 8) := ms_aload_n (mi_dec ib_82 dd_82_7) rfl
theorem ks_82_8 : mi_snd cs_G cs_cl cs_inf 82 8 (mj_get 1 0 11) := ms_get (T := cs_T1) (k := 0) (mi_dec ib_82 dd_82_8) rfl cs_in1 (by decide) gw_29
theorem ks_82_11 : mi_snd cs_G cs_cl cs_inf 82 11 (mj_cmp (fun x y => decide (y ≤ x)) 47 14) := ms_icmp_ge (mi_dec ib_82 dd_82_11) (by decide)
theorem ks_82_14 : mi_snd cs_G cs_cl cs_inf 82 14 (mj_iload 2 15) := ms_iload_n (mi_dec ib_82 dd_82_14) rfl
theorem ks_82_15 : mi_snd cs_G cs_cl cs_inf 82 15 (mj_iload 3 16) := ms_iload_n (mi_dec ib_82 dd_82_15) rfl
theorem ks_82_16 : mi_snd cs_G cs_cl cs_inf 82 16 (mj_callS 7 2 2 19) := ms_callSN iw_c7 (mi_dec ib_82 dd_82_16) gw_363 iw_s7 iw_n7 (by decide +kernel) rfl (by decide)
theorem ks_82_19 : mi_snd cs_G cs_cl cs_inf 82 19 (mj_if (fun x => decide (¬ x = 0)) 41 22) := ms_if_ne (mi_dec ib_82 dd_82_19) (by decide)
theorem ks_82_22 : mi_snd cs_G cs_cl cs_inf 82 22 (mj_iinc 1 1 25) := ms_iinc (mi_dec ib_82 dd_82_22) (by decide)
theorem ks_82_25 : mi_snd cs_G cs_cl cs_inf 82 25 (mj_iload 2 26) := ms_iload_n (mi_dec ib_82 dd_82_25) rfl
theorem ks_82_26 : mi_snd cs_G cs_cl cs_inf 82 26 (mj_aload 0 27) := ms_aload_n (mi_dec ib_82 dd_82_26) rfl
theorem ks_82_27 : mi_snd cs_G cs_cl cs_inf 82 27 (mj_iload 3 28) := ms_iload_n (mi_dec ib_82 dd_82_27) rfl
theorem ks_82_28 : mi_snd cs_G cs_cl cs_inf 82 28 (mj_push (.inl 0) 29) := ms_iconst (mi_dec ib_82 dd_82_28) (by decide)
theorem ks_82_29 : mi_snd cs_G cs_cl cs_inf 82 29 (mj_callV 1 69 2 6 32) := ms_callV iw_c69 (mi_dec ib_82 dd_82_29) gw_628 iw_i69 rfl iw_v69 iw_n69 (by decide +kernel) rfl (by decide)
theorem ks_82_32 : mi_snd cs_G cs_cl cs_inf 82 32 (mj_aload 0 33) := ms_aload_n (mi_dec ib_82 dd_82_32) rfl
theorem ks_82_33 : mi_snd cs_G cs_cl cs_inf 82 33 (mj_iload 3 34) := ms_iload_n (mi_dec ib_82 dd_82_33) rfl
theorem ks_82_34 : mi_snd cs_G cs_cl cs_inf 82 34 (mj_push (.inl 1) 35) := ms_iconst (mi_dec ib_82 dd_82_34) (by decide)
theorem ks_82_35 : mi_snd cs_G cs_cl cs_inf 82 35 (mj_callV 1 69 2 6 38) := ms_callV iw_c69 (mi_dec ib_82 dd_82_35) gw_628 iw_i69 rfl iw_v69 iw_n69 (by decide +kernel) rfl (by decide)
theorem ks_82_38 : mi_snd cs_G cs_cl cs_inf 82 38 (mj_bin (fun x y => x ||| y) 39) := ms_ior (mi_dec ib_82 dd_82_38)
theorem ks_82_39 : mi_snd cs_G cs_cl cs_inf 82 39 (mj_bin (fun x y => x ||| y) 40) := ms_ior (mi_dec ib_82 dd_82_39)
theorem ks_82_40 : mi_snd cs_G cs_cl cs_inf 82 40 (mj_istore 2 41) := ms_istore_n (mi_dec ib_82 dd_82_40) rfl
theorem ks_82_41 : mi_snd cs_G cs_cl cs_inf 82 41 (mj_iinc 3 1 44) := ms_iinc (mi_dec ib_82 dd_82_41) (by decide)
theorem ks_82_44 : mi_snd cs_G cs_cl cs_inf 82 44 (mj_goto 6) := ms_goto (mi_dec ib_82 dd_82_44) (by decide)
theorem ks_82_47 : mi_snd cs_G cs_cl cs_inf 82 47 (mj_iload 1 48) := ms_iload_n (mi_dec ib_82 dd_82_47) rfl
theorem ks_82_48 : mi_snd cs_G cs_cl cs_inf 82 48 (mj_iret) := ms_iret (mi_dec ib_82 dd_82_48) rfl
def ct_82 : List (Nat × mi_I) := [
  (0, mj_push (.inl 0) 1),
  (1, mj_istore 1 2),
  (2, mj_push (.inl 0) 3),
  (3, mj_istore 2 4),
  (4, mj_push (.inl 0) 5),
  (5, mj_istore 3 6),
  (6, mj_iload 3 7),
  (7, mj_aload 0 8),
  (8, mj_get 1 0 11),
  (11, mj_cmp (fun x y => decide (y ≤ x)) 47 14),
  (14, mj_iload 2 15),
  (15, mj_iload 3 16),
  (16, mj_callS 7 2 2 19),
  (19, mj_if (fun x => decide (¬ x = 0)) 41 22),
  (22, mj_iinc 1 1 25),
  (25, mj_iload 2 26),
  (26, mj_aload 0 27),
  (27, mj_iload 3 28),
  (28, mj_push (.inl 0) 29),
  (29, mj_callV 1 69 2 6 32),
  (32, mj_aload 0 33),
  (33, mj_iload 3 34),
  (34, mj_push (.inl 1) 35),
  (35, mj_callV 1 69 2 6 38),
  (38, mj_bin (fun x y => x ||| y) 39),
  (39, mj_bin (fun x y => x ||| y) 40),
  (40, mj_istore 2 41),
  (41, mj_iinc 3 1 44),
  (44, mj_goto 6),
  (47, mj_iload 1 48),
  (48, mj_iret)]
theorem sd_82 : ∀ q ∈ ct_82, mi_snd cs_G cs_cl cs_inf 82 q.1 q.2 := mi_fc ks_82_0 (mi_fc ks_82_1 (mi_fc ks_82_2 (mi_fc ks_82_3 (mi_fc ks_82_4 (mi_fc ks_82_5 (mi_fc ks_82_6 (mi_fc ks_82_7 (mi_fc ks_82_8 (mi_fc ks_82_11 (mi_fc ks_82_14 (mi_fc ks_82_15 (mi_fc ks_82_16 (mi_fc ks_82_19 (mi_fc ks_82_22 (mi_fc ks_82_25 (mi_fc ks_82_26 (mi_fc ks_82_27 (mi_fc ks_82_28 (mi_fc ks_82_29 (mi_fc ks_82_32 (mi_fc ks_82_33 (mi_fc ks_82_34 (mi_fc ks_82_35 (mi_fc ks_82_38 (mi_fc ks_82_39 (mi_fc ks_82_40 (mi_fc ks_82_41 (mi_fc ks_82_44 (mi_fc ks_82_47 (mi_fc ks_82_48 mi_fn))))))))))))))))))))))))))))))
theorem dd_83_0 : decode prog_11_method_7_code 0 = .ok (.aload_n 0, 1) := by decide +kernel
theorem dd_83_1 : decode prog_11_method_7_code 1 = .ok (.iconst 0, 1) := by decide +kernel
theorem dd_83_2 : decode prog_11_method_7_code 2 = .ok (.putfield 1, 3) := by decide +kernel
theorem dd_83_5 : decode prog_11_method_7_code 5 = .ok (.iload_n 1, 1) := by decide +kernel
theorem dd_83_6 : decode prog_11_method_7_code 6 = .ok (.iconst 1, 1) := by decide +kernel
theorem dd_83_7 : decode prog_11_method_7_code 7 = .ok (.sipush 1000, 3) := by decide +kernel
theorem dd_83_10 : decode prog_11_method_7_code 10 = .ok (.invokestatic 40, 3) := by decide +kernel
theorem dd_83_13 : decode prog_11_method_7_code 13 = .ok (.ifCond .ne 5, 3) := by decide +kernel
theorem dd_83_16 : decode prog_11_method_7_code 16 = .ok (.iconst (-1), 1) := by decide +kernel
theorem dd_83_17 : decode prog_11_method_7_code 17 = .ok (.ireturn, 1) := by decide +kernel
theorem dd_83_18 : decode prog_11_method_7_code 18 = .ok (.aload_n 0, 1) := by decide +kernel
theorem dd_83_19 : decode prog_11_method_7_code 19 = .ok (.getfield 37, 3) := by decide +kernel
theorem dd_83_22 : decode prog_11_method_7_code 22 = .ok (.bipush 16, 2) := by decide +kernel
theorem dd_83_24 : decode prog_11_method_7_code 24 = .ok (.if_icmp .ne 6, 3) := by decide +kernel
theorem dd_83_27 : decode prog_11_method_7_code 27 = .ok (.bipush (-3), 2) := by decide +kernel
theorem dd_83_29 : decode prog_11_method_7_code 29 = .ok (.ireturn, 1) := by decide +kernel
theorem dd_83_30 : decode prog_11_method_7_code 30 = .ok (.aload_n 0, 1) := by decide +kernel
theorem dd_83_31 : decode prog_11_method_7_code 31 = .ok (.getfield 13, 3) := by decide +kernel
theorem dd_83_34 : decode prog_11_method_7_code 34 = .ok (.aload_n 0, 1) := by decide +kernel
theorem dd_83_35 : decode prog_11_method_7_code 35 = .ok (.getfield 37, 3) := by decide +kernel
theorem dd_83_38 : decode prog_11_method_7_code 38 = .ok (.iload_n 1, 1) := by decide +kernel
theorem dd_83_39 : decode prog_11_method_7_code 39 = .ok (.iastore, 1) := by decide +kernel
theorem dd_83_40 : decode prog_11_method_7_code 40 = .ok (.aload_n 0, 1) := by decide +kernel
theorem dd_83_41 : decode prog_11_method_7_code 41 = .ok (.dup, 1) := by decide +kernel
theorem dd_83_42 : decode prog_11_method_7_code 42 = .ok (.getfield 37, 3) := by decide +kernel
theorem dd_83_45 : decode prog_11_method_7_code 45 = .ok (.iconst 1, 1) := by decide +kernel
theorem dd_83_46 : decode prog_11_method_7_code 46 = .ok (.iadd, 1) := by decide +kernel
theorem dd_83_47 : decode prog_11_method_7_code 47 = .ok (.putfield 37, 3) := by decide +kernel
theorem dd_83_50 : decode prog_11_method_7_code 50 = .ok (.aload_n 0, 1) := by decide +kernel
theorem dd_83_51 : decode prog_11_method_7_code 51 = .ok (.getfield 37, 3) := by decide +kernel
theorem dd_83_54 : decode prog_11_method_7_code 54 = .ok (.iconst 1, 1) := by decide +kernel
theorem dd_83_55 : decode prog_11_method_7_code 55 = .ok (.isub, 1) := by decide +kernel
theorem dd_83_56 : decode prog_11_method_7_code 56 = .ok (.ireturn, 1) := by decide +kernel
theorem ks_83_0 : mi_snd cs_G cs_cl cs_inf 83 0 (mj_aload 0 1) := ms_aload_n (mi_dec ib_83 dd_83_0) rfl
theorem ks_83_1 : mi_snd cs_G cs_cl cs_inf 83 1 (mj_push (.inl 0) 2) := ms_iconst (mi_dec ib_83 dd_83_1) (by decide)
theorem ks_83_2 : mi_snd cs_G cs_cl cs_inf 83 2 (mj_putI 9 0 5) := ms_putI (T := cs_T9) (k := 0) (mi_dec ib_83 dd_83_2) rfl cs_in9 cs_ty9_ok cs_nm9 (by decide) gw_636 (by decide) (by decide +kernel)
theorem ks_83_5 : mi_snd cs_G cs_cl cs_inf 83 5 (mj_iload 1 6) := ms_iload_n (mi_dec ib_83 dd_83_5) rfl
theorem ks_83_6 : mi_snd cs_G cs_cl cs_inf 83 6 (mj_push (.inl 1) 7) := ms_iconst (mi_dec ib_83 dd_83_6) (by decide)
theorem ks_83_7 : mi_snd cs_G cs_cl cs_inf 83 7 (mj_push (.inl 1000) 10) := ms_sipush (mi_dec ib_83 dd_83_7) (by decide)
theorem ks_83_10 : mi_snd cs_G cs_cl cs_inf 83 10 (mj_callS 84 3 3 13) := ms_callS iw_c84 (mi_dec ib_83 dd_83_10) gw_696 iw_s84 iw_n84 (by decide +kernel) rfl (by decide)
theorem ks_83_13 : mi_snd cs_G cs_cl cs_inf 83 13 (mj_if (fun x => decide (¬ x = 0)) 18 16) := ms_if_ne (mi_dec ib_83 dd_83_13) (by decide)
theorem ks_83_16 : mi_snd cs_G cs_cl cs_inf 83 16 (mj_push (.inl (-1)) 17) := ms_iconst (mi_dec ib_83 dd_83_16) (by decide)
theorem ks_83_17 : mi_snd cs_G cs_cl cs_inf 83 17 (mj_iret) := ms_iret (mi_dec ib_83 dd_83_17) rfl
theorem ks_83_18 : mi_snd cs_G cs_cl cs_inf 83 18 (mj_aload 0 19) := ms_aload_n (mi_dec ib_83 dd_83_18) rfl
theorem ks_83_19 : mi_snd cs_G cs_cl cs_inf 83 19 (mj_get 9 1 22) := ms_get (T := cs_T9) (k := 1) (mi_dec ib_83 dd_83_19) rfl cs_in9 (by decide) gw_637
theorem ks_83_22 : mi_snd cs_G cs_cl cs_inf 83 22 (mj_push (.inl 16) 24) := ms_bipush (mi_dec ib_83 dd_83_22) (by decide)
theorem ks_83_24 : mi_snd cs_G cs_cl cs_inf 83 24 (mj_cmp (fun x y => decide (¬ x = y)) 30 27) := ms_icmp_ne (mi_dec ib_83 dd_83_24) (by decide)
theorem ks_83_27 : mi_snd cs_G cs_cl cs_inf 83 27 (mj_push (.inl (-3)) 29) := ms_bipush (mi_dec ib_83 dd_83_27) (by decide)
theorem ks_83_29 : mi_snd cs_G cs_cl cs_inf 83 29 (mj_iret) := ms_iret (mi_dec ib_83 dd_83_29) rfl
theorem ks_83_30 : mi_snd cs_G cs_cl cs_inf 83 30 (mj_aload 0 31) := ms_aload_n (mi_dec ib_83 dd_83_30) rfl
theorem ks_83_31 : mi_snd cs_G cs_cl cs_inf 83 31 (mj_get 9 2 34) := ms_get (T := cs_T9) (k := 2) (mi_dec ib_83 dd_83_31) rfl cs_in9 (by decide) gw_638
theorem ks_83_34 : mi_snd cs_G cs_cl cs_inf 83 34 (mj_aload 0 35) := ms_aload_n (mi_dec ib_83 dd_83_34) rfl
theorem ks_83_35 : mi_snd cs_G cs_cl cs_inf 83 35 (mj_get 9 1 38) := ms_get (T := cs_T9) (k := 1) (mi_dec ib_83 dd_83_35) rfl cs_in9 (by decide) gw_637
theorem ks_83_38 : mi_snd cs_G cs_cl cs_inf 83 38 (mj_iload 1 39) := ms_iload_n (mi_dec ib_83 dd_83_38) rfl
theorem ks_83_39 : mi_snd cs_G cs_cl cs_inf 83 39 (mj_iast 40) := ms_iast (mi_dec ib_83 dd_83_39)
theorem ks_83_40 : mi_snd cs_G cs_cl cs_inf 83 40 (mj_aload 0 41) := ms_aload_n (mi_dec ib_83 dd_83_40) rfl
theorem ks_83_41 : mi_snd cs_G cs_cl cs_inf 83 41 (mj_dup 42) := ms_dup (mi_dec ib_83 dd_83_41)
theorem ks_83_42 : mi_snd cs_G cs_cl cs_inf 83 42 (mj_get 9 1 45) := ms_get (T := cs_T9) (k := 1) (mi_dec ib_83 dd_83_42) rfl cs_in9 (by decide) gw_637
theorem ks_83_45 : mi_snd cs_G cs_cl cs_inf 83 45 (mj_push (.inl 1) 46) := ms_iconst (mi_dec ib_83 dd_83_45) (by decide)
theorem ks_83_46 : mi_snd cs_G cs_cl cs_inf 83 46 (mj_bin (fun x y => x + y) 47) := ms_iadd (mi_dec ib_83 dd_83_46)
theorem ks_83_47 : mi_snd cs_G cs_cl cs_inf 83 47 (mj_putI 9 1 50) := ms_putI (T := cs_T9) (k := 1) (mi_dec ib_83 dd_83_47) rfl cs_in9 cs_ty9_ok cs_nm9 (by decide) gw_637 (by decide) (by decide +kernel)
theorem ks_83_50 : mi_snd cs_G cs_cl cs_inf 83 50 (mj_aload 0 51) := ms_aload_n (mi_dec ib_83 dd_83_50) rfl
theorem ks_83_51 : mi_snd cs_G cs_cl cs_inf 83 51 (mj_get 9 1 54) := ms_get (T := cs_T9) (k := 1) (mi_dec ib_83 dd_83_51) rfl cs_in9 (by decide) gw_637
theorem ks_83_54 : mi_snd cs_G cs_cl cs_inf 83 54 (mj_push (.inl 1) 55) := ms_iconst (mi_dec ib_83 dd_83_54) (by decide)
theorem ks_83_55 : mi_snd cs_G cs_cl cs_inf 83 55 (mj_bin (fun x y => x - y) 56) := ms_isub (mi_dec ib_83 dd_83_55)
theorem ks_83_56 : mi_snd cs_G cs_cl cs_inf 83 56 (mj_iret) := ms_iret (mi_dec ib_83 dd_83_56) rfl
def ct_83 : List (Nat × mi_I) := [
  (0, mj_aload 0 1),
  (1, mj_push (.inl 0) 2),
  (2, mj_putI 9 0 5),
  (5, mj_iload 1 6),
  (6, mj_push (.inl 1) 7),
  (7, mj_push (.inl 1000) 10),
  (10, mj_callS 84 3 3 13),
  (13, mj_if (fun x => decide (¬ x = 0)) 18 16),
  (16, mj_push (.inl (-1)) 17),
  (17, mj_iret),
  (18, mj_aload 0 19),
  (19, mj_get 9 1 22),
  (22, mj_push (.inl 16) 24),
  (24, mj_cmp (fun x y => decide (¬ x = y)) 30 27),
  (27, mj_push (.inl (-3)) 29),
  (29, mj_iret),
  (30, mj_aload 0 31),
  (31, mj_get 9 2 34),
  (34, mj_aload 0 35),
  (35, mj_get 9 1 38),
  (38, mj_iload 1 39),
  (39, mj_iast 40),
  (40, mj_aload 0 41),
  (41, mj_dup 42),
  (42, mj_get 9 1 45),
  (45, mj_push (.inl 1) 46),
  (46, mj_bin (fun x y => x + y) 47),
  (47, mj_putI 9 1 50),
  (50, mj_aload 0 51),
  (51, mj_get 9 1 54),
  (54, mj_push (.inl 1) 55),
  (55, mj_bin (fun x y => x - y) 56),
  (56, mj_iret)]
theorem sd_83 : ∀ q ∈ ct_83, mi_snd cs_G cs_cl cs_inf 83 q.1 q.2 := mi_fc ks_83_0 (mi_fc ks_83_1 (mi_fc ks_83_2 (mi_fc ks_83_5 (mi_fc ks_83_6 (mi_fc ks_83_7 (mi_fc ks_83_10 (mi_fc ks_83_13 (mi_fc ks_83_16 (mi_fc ks_83_17 (mi_fc ks_83_18 (mi_fc ks_83_19 (mi_fc ks_83_22 (mi_fc ks_83_24 (mi_fc ks_83_27 (mi_fc ks_83_29 (mi_fc ks_83_30 (mi_fc ks_83_31 (mi_fc ks_83_34 (mi_fc ks_83_35 (mi_fc ks_83_38 (mi_fc ks_83_39 (mi_fc ks_83_40 (mi_fc ks_83_41 (mi_fc ks_83_42 (mi_fc ks_83_45 (mi_fc ks_83_46 (mi_fc ks_83_47 (mi_fc ks_83_50 (mi_fc ks_83_51 (mi_fc ks_83_54 (mi_fc ks_83_55 (mi_fc ks_83_56 mi_fn))))))))))))))))))))))))))))))))
theorem dd_84_0 : decode prog_11_method_2_code 0 = .ok (.iload_n 0, 1) := by decide +kernel
theorem dd_84_1 : decode prog_11_method_2_code 1 = .ok (.iload_n 1, 1) := by decide +kernel
theorem dd_84_2 : decode prog_11_method_2_code 2 = .ok (.if_icmp .lt 12, 3) := by decide +kernel
theorem dd_84_5 : decode prog_11_method_2_code 5 = .ok (.iload_n 0, 1) := by decide +kernel
theorem dd_84_6 : decode prog_11_method_2_code 6 = .ok (.iload_n 2, 1) := by decide +kernel
theorem dd_84_7 : decode prog_11_method_2_code 7 = .ok (.if_icmp .gt 7, 3) := by decide +kernel
theorem dd_84_10 : decode prog_11_method_2_code 10 = .ok (.iconst 1, 1) := by decide +kernel
theorem dd_84_11 : decode prog_11_method_2_code 11 = .ok (.goto 4, 3) := by decide +kernel
theorem dd_84_14 : decode prog_11_method_2_code 14 = .ok (.iconst 0, 1) := by decide +kernel
theorem dd_84_15 : decode prog_11_method_2_code 15 = .ok (.ireturn, 1) := by decide +kernel
theorem ks_84_0 : mi_snd cs_G cs_cl cs_inf 84 0 (mj_iload 0 1) := ms_iload_n (mi_dec ib_84 dd_84_0) rfl
theorem ks_84_1 : mi_snd cs_G cs_cl cs_inf 84 1 (mj_iload 1 2) := ms_iload_n (mi_dec ib_84 dd_84_1) rfl
theorem ks_84_2 : mi_snd cs_G cs_cl cs_inf 84 2 (mj_cmp (fun x y => decide (x < y)) 14 5) := ms_icmp_lt (mi_dec ib_84 dd_84_2) (by decide)
theorem ks_84_5 : mi_snd cs_G cs_cl cs_inf 84 5 (mj_iload 0 6) := ms_iload_n (mi_dec ib_84 dd_84_5) rfl
theorem ks_84_6 : mi_snd cs_G cs_cl cs_inf 84 6 (mj_iload 2 7) := ms_iload_n (mi_dec ib_84 dd_84_6) rfl
theorem ks_84_7 : mi_snd cs_G cs_cl cs_inf 84 7 (mj_cmp (fun x y => decide (y < x)) 14 10) := ms_icmp_gt (mi_dec ib_84 dd_84_7) (by decide)
theorem ks_84_10 : mi_snd cs_G cs_cl cs_inf 84 10 (mj_push (.inl 1) 11) := ms_iconst (mi_dec ib_84 dd_84_10) (by decide)
theorem ks_84_11 : mi_snd cs_G cs_cl cs_inf 84 11 (mj_goto 15) := ms_goto (mi_dec ib_84 dd_84_11) (by decide)
theorem ks_84_14 : mi_snd cs_G cs_cl cs_inf 84 14 (mj_push (.inl 0) 15) := ms_iconst (mi_dec ib_84 dd_84_14) (by decide)
theorem ks_84_15 : mi_snd cs_G cs_cl cs_inf 84 15 (mj_zret) := ms_zret (mi_dec ib_84 dd_84_15) rfl
def ct_84 : List (Nat × mi_I) := [
  (0, mj_iload 0 1),
  (1, mj_iload 1 2),
  (2, mj_cmp (fun x y => decide (x < y)) 14 5),
  (5, mj_iload 0 6),
  (6, mj_iload 2 7),
  (7, mj_cmp (fun x y => decide (y < x)) 14 10),
  (10, mj_push (.inl 1) 11),
  (11, mj_goto 15),
  (14, mj_push (.inl 0) 15),
  (15, mj_zret)]
theorem sd_84 : ∀ q ∈ ct_84, mi_snd cs_G cs_cl cs_inf 84 q.1 q.2 := mi_fc ks_84_0 (mi_fc ks_84_1 (mi_fc ks_84_2 (mi_fc ks_84_5 (mi_fc ks_84_6 (mi_fc ks_84_7 (mi_fc ks_84_10 (mi_fc ks_84_11 (mi_fc ks_84_14 (mi_fc ks_84_15 mi_fn)))))))))
theorem dd_85_0 : decode prog_11_method_8_code 0 = .ok (.aload_n 0, 1) := by decide +kernel
theorem dd_85_1 : decode prog_11_method_8_code 1 = .ok (.iconst 0, 1) := by decide +kernel
theorem dd_85_2 : decode prog_11_method_8_code 2 = .ok (.putfield 1, 3) := by decide +kernel
theorem dd_85_5 : decode prog_11_method_8_code 5 = .ok (.aload_n 0, 1) := by decide +kernel
theorem dd_85_6 : decode prog_11_method_8_code 6 = .ok (.iload_n 1, 1) := by decide +kernel
theorem dd_85_7 : decode prog_11_method_8_code 7 = .ok (.invokevirtual 44, 3) := by decide +kernel
theorem dd_85_10 : decode prog_11_method_8_code 10 = .ok (.ifCond .ne 16, 3) := by decide +kernel
theorem dd_85_13 : decode prog_11_method_8_code 13 = .ok (.aload_n 0, 1) := by decide +kernel
theorem dd_85_14 : decode prog_11_method_8_code 14 = .ok (.iload_n 2, 1) := by decide +kernel
theorem dd_85_15 : decode prog_11_method_8_code 15 = .ok (.invokevirtual 44, 3) := by decide +kernel
theorem dd_85_18 : decode prog_11_method_8_code 18 = .ok (.ifCond .ne 8, 3) := by decide +kernel
theorem dd_85_21 : decode prog_11_method_8_code 21 = .ok (.iload_n 1, 1) := by decide +kernel
theorem dd_85_22 : decode prog_11_method_8_code 22 = .ok (.iload_n 2, 1) := by decide +kernel
theorem dd_85_23 : decode prog_11_method_8_code 23 = .ok (.if_icmp .ne 5, 3) := by decide +kernel
theorem dd_85_26 : decode prog_11_method_8_code 26 = .ok (.iconst (-1), 1) := by decide +kernel
theorem dd_85_27 : decode prog_11_method_8_code 27 = .ok (.ireturn, 1) := by decide +kernel
theorem dd_85_28 : decode prog_11_method_8_code 28 = .ok (.aload_n 0, 1) := by decide +kernel
theorem dd_85_29 : decode prog_11_method_8_code 29 = .ok (.getfield 17, 3) := by decide +kernel
theorem dd_85_32 : decode prog_11_method_8_code 32 = .ok (.iload_n 1, 1) := by decide +kernel
theorem dd_85_33 : decode prog_11_method_8_code 33 = .ok (.iaload, 1) := by decide +kernel
theorem dd_85_34 : decode prog_11_method_8_code 34 = .ok (.iload_n 2, 1) := by decide +kernel
theorem dd_85_35 : decode prog_11_method_8_code 35 = .ok (.ishr, 1) := by decide +kernel
theorem dd_85_36 : decode prog_11_method_8_code 36 = .ok (.iconst 1, 1) := by decide +kernel
theorem dd_85_37 : decode prog_11_method_8_code 37 = .ok (.iand, 1) := by decide +kernel
theorem dd_85_38 : decode prog_11_method_8_code 38 = .ok (.istore 4, 2) := by decide +kernel
theorem dd_85_40 : decode prog_11_method_8_code 40 = .ok (.aload_n 0, 1) := by decide +kernel
theorem dd_85_41 : decode prog_11_method_8_code 41 = .ok (.getfield 17, 3) := by decide +kernel
theorem dd_85_44 : decode prog_11_method_8_code 44 = .ok (.iload_n 1, 1) := by decide +kernel
theorem dd_85_45 : decode prog_11_method_8_code 45 = .ok (.iload_n 3, 1) := by decide +kernel
theorem dd_85_46 : decode prog_11_method_8_code 46 = .ok (.ifCond .eq 16, 3) := by decide +kernel
theorem dd_85_49 : decode prog_11_method_8_code 49 = .ok (.aload_n 0, 1) := by decide +kernel
theorem dd_85_50 : decode prog_11_method_8_code 50 = .ok (.getfield 17, 3) := by decide +kernel
theorem dd_85_53 : decode prog_11_method_8_code 53 = .ok (.iload_n 1, 1) := by decide +kernel
theorem dd_85_54 : decode prog_11_method_8_code 54 = .ok (.iaload, 1) := by decide +kernel
theorem dd_85_55 : decode prog_11_method_8_code 55 = .ok (.iconst 1, 1) := by decide +kernel
theorem dd_85_56 : decode prog_11_method_8_code 56 = .ok (.iload_n 2, 1) := by decide +kernel
theorem dd_85_57 : decode prog_11_method_8_code 57 = .ok (.ishl, 1) := by decide +kernel
theorem dd_85_58 : decode prog_11_method_8_code 58 = .ok (.ior, 1) := by decide +kernel
theorem dd_85_59 : decode prog_11_method_8_code 59 = .ok (.goto 15, 3) := by decide +kernel
theorem dd_85_62 : decode prog_11_method_8_code 62 = .ok (.aload_n 0, 1) := by decide +kernel
theorem dd_85_63 : decode prog_11_method_8_code 63 = .ok (.getfield 17, 3) := by decide +kernel
theorem dd_85_66 : decode prog_11_method_8_code 66 = .ok (.iload_n 1, 1) := by decide +kernel
theorem dd_85_67 : decode prog_11_method_8_code 67 = .ok (.iaload, 1) := by decide +kernel
theorem dd_85_68 : decode prog_11_method_8_code 68 = .ok (.iconst 1, 1) := by decide +kernel
theorem dd_85_69 : decode prog_11_method_8_code 69 = .ok (.iload_n 2, 1) := by decide +kernel
theorem dd_85_70 : decode prog_11_method_8_code 70 = .ok (.ishl, 1) := by decide +kernel
theorem dd_85_71 : decode prog_11_method_8_code 71 = .ok (.iconst (-1), 1) := by decide +kernel
theorem dd_85_72 : decode prog_11_method_8_code 72 = .ok (.ixor, 1) := by decide +kernel
theorem dd_85_73 : decode prog_11_method_8_code 73 = .ok (.iand, 1) := by decide +kernel
theorem dd_85_74 : decode prog_11_method_8_code 74 = .ok (.iastore, 1) := by decide +kernel
theorem dd_85_75 : decode prog_11_method_8_code 75 = .ok (.aload_n 0, 1) := by decide +kernel
theorem dd_85_76 : decode prog_11_method_8_code 76 = .ok (.getfield 17, 3) := by decide +kernel
theorem dd_85_79 : decode prog_11_method_8_code 79 = .ok (.iload_n 2, 1) := by decide +kernel
theorem dd_85_80 : decode prog_11_method_8_code 80 = .ok (.iload_n 3, 1) := by decide +kernel
theorem dd_85_81 : decode prog_11_method_8_code 81 = .ok (.ifCond .eq 16, 3) := by decide +kernel
theorem dd_85_84 : decode prog_11_method_8_code 84 = .ok (.aload_n 0, 1) := by decide +kernel
theorem dd_85_85 : decode prog_11_method_8_code 85 = .ok (.getfield 17, 3) := by decide +kernel
theorem dd_85_88 : decode prog_11_method_8_code 88 = .ok (.iload_n 2, 1) := by decide +kernel
theorem dd_85_89 : decode prog_11_method_8_code 89 = .ok (.iaload, 1) := by decide +kernel
theorem dd_85_90 : decode prog_11_method_8_code 90 = .ok (.iconst 1, 1) := by decide +kernel
theorem dd_85_91 : decode prog_11_method_8_code 91 = .ok (.iload_n 1, 1) := by decide +kernel
theorem dd_85_92 : decode prog_11_method_8_code 92 = .ok (.ishl, 1) := by decide +kernel
theorem dd_85_93 : decode prog_11_method_8_code 93 = .ok (.ior, 1) := by decide +kernel
theorem dd_85_94 : decode prog_11_method_8_code 94 = .ok (.goto 15, 3) := by decide +kernel
theorem dd_85_97 : decode prog_11_method_8_code 97 = .ok (.aload_n 0, 1) := by decide +kernel
theorem dd_85_98 : decode prog_11_method_8_code 98 = .ok (.getfield 17, 3) := by decide +kernel
theorem dd_85_101 : decode prog_11_method_8_code 101 = .ok (.iload_n 2, 1) := by decide +kernel
theorem dd_85_102 : decode prog_11_method_8_code 102 = .ok (.iaload, 1) := by decide +kernel
theorem dd_85_103 : decode prog_11_method_8_code 103 = .ok (.iconst 1, 1) := by decide +kernel
theorem dd_85_104 : decode prog_11_method_8_code 104 = .ok (.iload_n 1, 1) := by decide +kernel
theorem dd_85_105 : decode prog_11_method_8_code 105 = .ok (.ishl, 1) := by decide +kernel
theorem dd_85_106 : decode prog_11_method_8_code 106 = .ok (.iconst (-1), 1) := by decide +kernel
theorem dd_85_107 : decode prog_11_method_8_code 107 = .ok (.ixor, 1) := by decide +kernel
theorem dd_85_108 : decode prog_11_method_8_code 108 = .ok (.iand, 1) := by decide +kernel
theorem dd_85_109 : decode prog_11_method_8_code 109 = .ok (.iastore, 1) := by decide +kernel
theorem dd_85_110 : decode prog_11_method_8_code 110 = .ok (.iload 4, 2) := by decide +kernel
theorem dd_85_112 : decode prog_11_method_8_code 112 = .ok (.ireturn, 1) := by decide +kernel
theorem ks_85_0 : mi_snd cs_G cs_cl cs_inf 85 0 (mj_aload 0 1) := ms_aload_n (mi_dec ib_85 dd_85_0) rfl
theorem ks_85_1 : mi_snd cs_G cs_cl cs_inf 85 1 (mj_push (.inl 0) 2) := ms_iconst (mi_dec ib_85 dd_85_1) (by decide)
theorem ks_85_2 : mi_snd cs_G cs_cl cs_inf 85 2 (mj_putI 9 0 5) := ms_putI (T := cs_T9) (k := 0) (mi_dec ib_85 dd_85_2) rfl cs_in9 cs_ty9_ok cs_nm9 (by decide) gw_636 (by decide) (by decide +kernel)
theorem ks_85_5 : mi_snd cs_G cs_cl cs_inf 85 5 (mj_aload 0 6) := ms_aload_n (mi_dec ib_85 dd_85_5) rfl
theorem ks_85_6 : mi_snd cs_G cs_cl cs_inf 85 6 (mj_iload 1 7) := ms_iload_n (mi_dec ib_85 dd_85_6) rfl
theorem ks_85_7 : mi_snd cs_G cs_cl cs_inf 85 7 (mj_callV 9 86 1 2 10) := ms_callV iw_c86 (mi_dec ib_85 dd_85_7) gw_703 iw_i86 rfl iw_v86 iw_n86 (by decide +kernel) rfl (by decide)
theorem ks_85_10 : mi_snd cs_G cs_cl cs_inf 85 10 (mj_if (fun x => decide (¬ x = 0)) 26 13) := ms_if_ne (mi_dec ib_85 dd_85_10) (by decide)
theorem ks_85_13 : mi_snd cs_G cs_cl cs_inf 85 13 (mj_aload 0 14) := ms_aload_n (mi_dec ib_85 dd_85_13) rfl
theorem ks_85_14 : mi_snd cs_G cs_cl cs_inf 85 14 (mj_iload 2 15) := ms_iload_n (mi_dec ib_85 dd_85_14) rfl
theorem ks_85_15 : mi_snd cs_G cs_cl cs_inf 85 15 (mj_callV 9 86 1 2 18) := ms_callV iw_c86 (mi_dec ib_85 dd_85_15) gw_703 iw_i86 rfl iw_v86 iw_n86 (by decide +kernel) rfl (by decide)
theorem ks_85_18 : mi_snd cs_G cs_cl cs_inf 85 18 (mj_if (fun x => decide (¬ x = 0)) 26 21) := ms_if_ne (mi_dec ib_85 dd_85_18) (by decide)
theorem ks_85_21 : mi_snd cs_G cs_cl cs_inf 85 21 (mj_iload 1 22) := ms_iload_n (mi_dec ib_85 dd_85_21) rfl
theorem ks_85_22 : mi_snd cs_G cs_cl cs_inf 85 22 (mj_iload 2 23) := ms_iload_n (mi_dec ib_85 dd_85_22) rfl
theorem ks_85_23 : mi_snd cs_G cs_cl cs_inf 85 23 (mj_cmp (fun x y => decide (¬ x = y)) 28 26) := ms_icmp_ne (mi_dec ib_85 dd_85_23) (by decide)
theorem ks_85_26 : mi_snd cs_G cs_cl cs_inf 85 26 (mj_push (.inl (-1)) 27) := ms_iconst (mi_dec ib_85 dd_85_26) (by decide)
theorem ks_85_27 : mi_snd cs_G cs_cl cs_inf 85 27 (mj_iret) := ms_iret (mi_dec ib_85 dd_85_27) rfl
theorem ks_85_28 : mi_snd cs_G cs_cl cs_inf 85 28 (mj_aload 0 29) := ms_aload_n (mi_dec ib_85 dd_85_28) rfl
theorem ks_85_29 : mi_snd cs_G cs_cl cs_inf 85 29 (mj_get 9 3 32) := ms_get (T := cs_T9) (k := 3) (mi_dec ib_85 dd_85_29) rfl cs_in9 (by decide) gw_639
theorem ks_85_32 : mi_snd cs_G cs_cl cs_inf 85 32 (mj_iload 1 33) := ms_iload_n (mi_dec ib_85 dd_85_32) rfl
theorem ks_85_33 : mi_snd cs_G cs_cl cs_inf 85 33 (mj_ald 0 34) := ms_ald0 (mi_dec ib_85 dd_85_33)
theorem ks_85_34 : mi_snd cs_G cs_cl cs_inf 85 34 (mj_iload 2 35) := ms_iload_n (mi_dec ib_85 dd_85_34) rfl
theorem ks_85_35 : mi_snd cs_G cs_cl cs_inf 85 35 (mj_bin (fun x y => x >>> (y &&& 31)) 36) := ms_ishr (mi_dec ib_85 dd_85_35)
theorem ks_85_36 : mi_snd cs_G cs_cl cs_inf 85 36 (mj_push (.inl 1) 37) := ms_iconst (mi_dec ib_85 dd_85_36) (by decide)
theorem ks_85_37 : mi_snd cs_G cs_cl cs_inf 85 37 (mj_bin (fun x y => x &&& y) 38) := ms_iand (mi_dec ib_85 dd_85_37)
theorem ks_85_38 : mi_snd cs_G cs_cl cs_inf 85 38 (mj_istore 4 40) := ms_istore (mi_dec ib_85 dd_85_38)
theorem ks_85_40 : mi_snd cs_G cs_cl cs_inf 85 40 (mj_aload 0 41) := ms_aload_n (mi_dec ib_85 dd_85_40) rfl
theorem ks_85_41 : mi_snd cs_G cs_cl cs_inf 85 41 (mj_get 9 3 44) := ms_get (T := cs_T9) (k := 3) (mi_dec ib_85 dd_85_41) rfl cs_in9 (by decide) gw_639
theorem ks_85_44 : mi_snd cs_G cs_cl cs_inf 85 44 (mj_iload 1 45) := ms_iload_n (mi_dec ib_85 dd_85_44) rfl
theorem ks_85_45 : mi_snd cs_G cs_cl cs_inf 85 45 (mj_iload 3 46) := ms_iload_n (mi_dec ib_85 dd_85_45) rfl
theorem ks_85_46 : mi_snd cs_G cs_cl cs_inf 85 46 (mj_if (fun x => decide (x = 0)) 62 49) := ms_if_eq (mi_dec ib_85 dd_85_46) (by decide)
theorem ks_85_49 : mi_snd cs_G cs_cl cs_inf 85 49 (mj_aload 0 50) := ms_aload_n (mi_dec ib_85 dd_85_49) rfl
theorem ks_85_50 : mi_snd cs_G cs_cl cs_inf 85 50 (mj_get 9 3 53) := ms_get (T := cs_T9) (k := 3) (mi_dec ib_85 dd_85_50) rfl cs_in9 (by decide) gw_639
theorem ks_85_53 : mi_snd cs_G cs_cl cs_inf 85 53 (mj_iload 1 54) := ms_iload_n (mi_dec ib_85 dd_85_53) rfl
theorem ks_85_54 : mi_snd cs_G cs_cl cs_inf 85 54 (mj_ald 0 55) := ms_ald0 (mi_dec ib_85 dd_85_54)
theorem ks_85_55 : mi_snd cs_G cs_cl cs_inf 85 55 (mj_push (.inl 1) 56) := ms_iconst (mi_dec ib_85 dd_85_55) (by decide)
theorem ks_85_56 : mi_snd cs_G cs_cl cs_inf 85 56 (mj_iload 2 57) := ms_iload_n (mi_dec ib_85 dd_85_56) rfl
theorem ks_85_57 : mi_snd cs_G cs_cl cs_inf 85 57 (mj_bin (fun x y => x <<< (y &&& 31)) 58) := ms_ishl (mi_dec ib_85 dd_85_57)
theorem ks_85_58 : mi_snd cs_G cs_cl cs_inf 85 58 (mj_bin (fun x y => x ||| y) 59) := ms_ior (mi_dec ib_85 dd_85_58)
theorem ks_85_59 : mi_snd cs_G cs_cl cs_inf 85 59 (mj_goto 74) := ms_goto (mi_dec ib_85 dd_85_59) (by decide)
theorem ks_85_62 : mi_snd cs_G cs_cl cs_inf 85 62 (mj_aload 0 63) := ms_aload_n (mi_dec ib_85 dd_85_62) rfl
theorem ks_85_63 : mi_snd cs_G cs_cl cs_inf 85 63 (mj_get 9 3 66) := ms_get (T := cs_T9) (k := 3) (mi_dec ib_85 dd_85_63) rfl cs_in9 (by decide) gw_639
theorem ks_85_66 : mi_snd cs_G cs_cl cs_inf 85 66 (mj_iload 1 67) := ms_iload_n (mi_dec ib_85 dd_85_66) rfl
theorem ks_85_67 : mi_snd cs_G cs_cl cs_inf 85 67 (mj_ald 0 68) := ms_ald0 (mi_dec ib_85 dd_85_67)
theorem ks_85_68 : mi_snd cs_G cs_cl cs_inf 85 68 (mj_push (.inl 1) 69) := ms_iconst (mi_dec ib_85 dd_85_68) (by decide)
theorem ks_85_69 : mi_snd cs_G cs_cl cs_inf 85 69 (mj_iload 2 70) := ms_iload_n (mi_dec ib_85 dd_85_69) rfl
theorem ks_85_70 : mi_snd cs_G cs_cl cs_inf 85 70 (mj_bin (fun x y => x <<< (y &&& 31)) 71) := ms_ishl (mi_dec ib_85 dd_85_70)
theorem ks_85_71 : mi_snd cs_G cs_cl cs_inf 85 71 (mj_push (.inl (-1)) 72) := ms_iconst (mi_dec ib_85 dd_85_71) (by decide)
theorem ks_85_72 : mi_snd cs_G cs_cl cs_inf 85 72 (mj_bin (fun x y => x ^^^ y) 73) := ms_ixor (mi_dec ib_85 dd_85_72)
theorem ks_85_73 : mi_snd cs_G cs_cl cs_inf 85 73 (mj_bin (fun x y => x &&& y) 74) := ms_iand (mi_dec ib_85 dd_85_73)
theorem ks_85_74 : mi_snd cs_G cs_cl cs_inf 85 74 (mj_iast 75) := ms_iast (mi_dec ib_85 dd_85_74)
theorem ks_85_75 : mi_snd cs_G cs_cl cs_inf 85 75 (mj_aload 0 76) := ms_aload_n (mi_dec ib_85 dd_85_75) rfl
theorem ks_85_76 : mi_snd cs_G cs_cl cs_inf 85 76 (mj_get 9 3 79) := ms_get (T := cs_T9) (k := 3) (mi_dec ib_85 dd_85_76) rfl cs_in9 (by decide) gw_639
theorem ks_85_79 : mi_snd cs_G cs_cl cs_inf 85 79 (mj_iload 2 80) := ms_iload_n (mi_dec ib_85 dd_85_79) rfl
theorem ks_85_80 : mi_snd cs_G cs_cl cs_inf 85 80 (mj_iload 3 81) := ms_iload_n (mi_dec ib_85 dd_85_80) rfl
theorem ks_85_81 : mi_snd cs_G cs_cl cs_inf 85 81 (mj_if (fun x => decide (x = 0)) 97 84) := ms_if_eq (mi_dec ib_85 dd_85_81) (by decide)
theorem ks_85_84 : mi_snd cs_G cs_cl cs_inf 85 84 (mj_aload 0 85) := ms_aload_n (mi_dec ib_85 dd_85_84) rfl
theorem ks_85_85 : mi_snd cs_G cs_cl cs_inf 85 85 (mj_get 9 3 88) := ms_get (T := cs_T9) (k := 3) (mi_dec ib_85 dd_85_85) rfl cs_in9 (by decide) gw_639
theorem ks_85_88 : mi_snd cs_G cs_cl cs_inf 85 88 (mj_iload 2 89) := ms_iload_n (mi_dec ib_85 dd_85_88) rfl
theorem ks_85_89 : mi_snd cs_G cs_cl cs_inf 85 89 (mj_ald 0 90) := ms_ald0 (mi_dec ib_85 dd_85_89)
theorem ks_85_90 : mi_snd cs_G cs_cl cs_inf 85 90 (mj_push (.inl 1) 91) := ms_iconst (mi_dec ib_85 dd_85_90) (by decide)
theorem ks_85_91 : mi_snd cs_G cs_cl cs_inf 85 91 (mj_iload 1 92) := ms_iload_n (mi_dec ib_85 dd_85_91) rfl
theorem ks_85_92 : mi_snd cs_G cs_cl cs_inf 85 92 (mj_bin (fun x y => x <<< (y &&& 31)) 93) := ms_ishl (mi_dec ib_85 dd_85_92)
theorem ks_85_93 : mi_snd cs_G cs_cl cs_inf 85 93 (mj_bin (fun x y => x ||| y) 94) := ms_ior (mi_dec ib_85 dd_85_93)
theorem ks_85_94 : mi_snd cs_G cs_cl cs_inf 85 94 (mj_goto 109) := ms_goto (mi_dec ib_85 dd_85_94) (by decide)
theorem ks_85_97 : mi_snd cs_G cs_cl cs_inf 85 97 (mj_aload 0 98) := ms_aload_n (mi_dec ib_85 dd_85_97) rfl
theorem ks_85_98 : mi_snd cs_G cs_cl cs_inf 85 98 (mj_get 9 3 101) := ms_get (T := cs_T9) (k := 3) (mi_dec ib_85 dd_85_98) rfl cs_in9 (by decide) gw_639
theorem ks_85_101 : mi_snd cs_G cs_cl cs_inf 85 101 (mj_iload 2 102) := ms_iload_n (mi_dec ib_85 dd_85_101) rfl
theorem ks_85_102 : mi_snd cs_G cs_cl cs_inf 85 102 (mj_ald 0 103) := ms_ald0 (mi_dec ib_85 dd_85_102)
theorem ks_85_103 : mi_snd cs_G cs_cl cs_inf 85 103 (mj_push (.inl 1) 104) := ms_iconst (mi_dec ib_85 dd_85_103) (by decide)
theorem ks_85_104 : mi_snd cs_G cs_cl cs_inf 85 104 (mj_iload 1 105) := ms_iload_n (mi_dec ib_85 dd_85_104) rfl
theorem ks_85_105 : mi_snd cs_G cs_cl cs_inf 85 105 (mj_bin (fun x y => x <<< (y &&& 31)) 106) := ms_ishl (mi_dec ib_85 dd_85_105)
theorem ks_85_106 : mi_snd cs_G cs_cl cs_inf 85 106 (mj_push (.inl (-1)) 107) := ms_iconst (mi_dec ib_85 dd_85_106) (by decide)
theorem ks_85_107 : mi_snd cs_G cs_cl cs_inf 85 107 (mj_bin (fun x y => x ^^^ y) 108) := ms_ixor (mi_dec ib_85 dd_85_107)
theorem ks_85_108 : mi_snd cs_G cs_cl cs_inf 85 108 (mj_bin (fun x y => x &&& y) 109) := ms_iand (mi_dec ib_85 dd_85_108)
theorem ks_85_109 : mi_snd cs_G cs_cl cs_inf 85 109 (mj_iast 110) := ms_iast (mi_dec ib_85 dd_85_109)
theorem ks_85_110 : mi_snd cs_G cs_cl cs_inf 85 110 (mj_iload 4 112) := ms_iload (mi_dec ib_85 dd_85_110)
theorem ks_85_112 : mi_snd cs_G cs_cl cs_inf 85 112 (mj_iret) := ms_iret (mi_dec ib_85 dd_85_112) rfl
def ct_85 : List (Nat × mi_I) := [
  (0, mj_aload 0 1),
  (1, mj_push (.inl 0) 2),
  (2, mj_putI 9 0 5),
  (5, mj_aload 0 6),
  (6, mj_iload 1 7),
  (7, mj_callV 9 86 1 2 10),
  (10, mj_if (fun x => decide (¬ x = 0)) 26 13),
  (13, mj_aload 0 14),
  (14, mj_iload 2 15),
  (15, mj_callV 9 86 1 2 18),
  (18, mj_if (fun x => decide (¬ x = 0)) 26 21),
  (21, mj_iload 1 22),
  (22, mj_iload 2 23),
  (23, mj_cmp (fun x y => decide (¬ x = y)) 28 26),
  (26, mj_push (.inl (-1)) 27),
  (27, mj_iret),
  (28, mj_aload 0 29),
  (29, mj_get 9 3 32),
  (32, mj_iload 1 33),
  (33, mj_ald 0 34),
  (34, mj_iload 2 35),
  (35, mj_bin (fun x y => x >>> (y &&& 31)) 36),
  (36, mj_push (.inl 1) 37),
  (37, mj_bin (fun x y => x &&& y) 38),
  (38, mj_istore 4 40),
  (40, mj_aload 0 41),
  (41, mj_get 9 3 44),
  (44, mj_iload 1 45),
  (45, mj_iload 3 46),
  (46, mj_if (fun x => decide (x = 0)) 62 49),
  (49, mj_aload 0 50),
  (50, mj_get 9 3 53),
  (53, mj_iload 1 54),
  (54, mj_ald 0 55),
  (55, mj_push (.inl 1) 56),
  (56, mj_iload 2 57),
  (57, mj_bin (fun x y => x <<< (y &&& 31)) 58),
  (58, mj_bin (fun x y => x ||| y) 59),
  (59, mj_goto 74),
  (62, mj_aload 0 63),
  (63, mj_get 9 3 66),
  (66, mj_iload 1 67),
  (67, mj_ald 0 68),
  (68, mj_push (.inl 1) 69),
  (69, mj_iload 2 70),
  (70, mj_bin (fun x y => x <<< (y &&& 31)) 71),
  (71, mj_push (.inl (-1)) 72),
  (72, mj_bin (fun x y => x ^^^ y) 73),
  (73, mj_bin (fun x y => x &&& y) 74),
  (74, mj_iast 75),
  (75, mj_aload 0 76),
  (76, mj_get 9 3 79),
  (79, mj_iload 2 80),
  (80, mj_iload 3 81),
  (81, mj_if (fun x => decide (x = 0)) 97 84),
  (84, mj_aload 0 85),
  (85, mj_get 9 3 88),
  (88, mj_iload 2 89),
  (89, mj_ald 0 90),
  (90, mj_push (.inl 1) 91),
  (91, mj_iload 1 92),
  (92, mj_bin (fun x y => x <<< (y &&& 31)) 93),
  (93, mj_bin (fun x y => x ||| y) 94),
  (94, mj_goto 109),
  (97, mj_aload 0 98),
  (98, mj_get 9 3 101),
  (101, mj_iload 2 102),
  (102, mj_ald 0 103),
  (103, mj_push (.inl 1) 104),
  (104, mj_iload 1 105),
  (105, mj_bin (fun x y => x <<< (y &&& 31)) 106),
  (106, mj_push (.inl (-1)) 107),
  (107, mj_bin (fun x y => x ^^^ y) 108),
  (108, mj_bin (fun x y => x &&& y) 109),
  (109, mj_iast 110),
  (110, mj_iload 4 112),
  (112, mj_iret)]
theorem sd_85 : ∀ q ∈ ct_85, mi_snd cs_G cs_cl cs_inf 85 q.1 q.2 := mi_fc ks_85_0 (mi_fc ks_85_1 (mi_fc ks_85_2 (mi_fc ks_85_5 (mi_fc ks_85_6 (mi_fc ks_85_7 (mi_fc ks_85_10 (mi_fc ks_85_13 (mi_fc ks_85_14 (mi_fc ks_85_15 (mi_fc ks_85_18 (mi_fc ks_85_21 (mi_fc ks_85_22 (mi_fc ks_85_23 (mi_fc ks_85_26 (mi_fc ks_85_27 (mi_fc ks_85_28 (mi_fc ks_85_29 (mi_fc ks_85_32 (mi_fc ks_85_33 (mi_fc ks_85_34 (mi_fc ks_85_35 (mi_fc ks_85_36 (mi_fc ks_85_37 (mi_fc ks_85_38 (mi_fc ks_85_40 (mi_fc ks_85_41 (mi_fc ks_85_44 (mi_fc ks_85_45 (mi_fc ks_85_46 (mi_fc ks_85_49 (mi_fc ks_85_50 (mi_fc ks_85_53 (mi_fc ks_85_54 (mi_fc ks_85_55 (mi_fc ks_85_56 (mi_fc ks_85_57 (mi_fc ks_85_58 (mi_fc ks_85_59 (mi_fc ks_85_62 (mi_fc ks_85_63 (mi_fc ks_85_66 (mi_fc ks_85_67 (mi_fc ks_85_68 (mi_fc ks_85_69 (mi_fc ks_85_70 (mi_fc ks_85_71 (mi_fc ks_85_72 (mi_fc ks_85_73 (mi_fc ks_85_74 (mi_fc ks_85_75 (mi_fc ks_85_76 (mi_fc ks_85_79 (mi_fc ks_85_80 (mi_fc ks_85_81 (mi_fc ks_85_84 (mi_fc ks_85_85 (mi_fc ks_85_88 (mi_fc ks_85_89 (mi_fc ks_85_90 (mi_fc ks_85_91 (mi_fc ks_85_92 (mi_fc ks_85_93 (mi_fc ks_85_94 (mi_fc ks_85_97 (mi_fc ks_85_98 (mi_fc ks_85_101 (mi_fc ks_85_102 (mi_fc ks_85_103 (mi_fc ks_85_104 (mi_fc ks_85_105 (mi_fc ks_85_106 (mi_fc ks_85_107 (mi_fc ks_85_108 (mi_fc ks_85_109 (mi_fc ks_85_110 (mi_fc ks_85_112 mi_fn))))))))))))))))))))))))))))))))))))))))))))))))))))))))))))))))))))))))))))
theorem dd_86_0 : decode prog_11_method_4_code 0 = .ok (.iload_n 1, 1) := by decide +kernel
theorem dd_86_1 : decode prog_11_method_4_code 1 = .ok (.iconst 0, 1) := by decide +kernel
theorem dd_86_2 : decode prog_11_method_4_code 2 = .ok (.aload_n 0, 1) := by decide +kernel
theorem dd_86_3 : decode prog_11_method_4_code 3 = .ok (.getfield 37, 3) := by decide +kernel
theorem dd_86_6 : decode prog_11_method_4_code 6 = .ok (.iconst 1, 1) := by decide +kernel
theorem dd_86_7 : decode prog_11_method_4_code 7 = .ok (.isub, 1) := by decide +kernel
theorem dd_86_8 : decode prog_11_method_4_code 8 = .ok (.invokestatic 40, 3) := by decide +kernel
theorem dd_86_11 : decode prog_11_method_4_code 11 = .ok (.ifCond .ne 7, 3) := by decide +kernel
theorem dd_86_14 : decode prog_11_method_4_code 14 = .ok (.iconst 1, 1) := by decide +kernel
theorem dd_86_15 : decode prog_11_method_4_code 15 = .ok (.goto 4, 3) := by decide +kernel
theorem dd_86_18 : decode prog_11_method_4_code 18 = .ok (.iconst 0, 1) := by decide +kernel
theorem dd_86_19 : decode prog_11_method_4_code 19 = .ok (.ireturn, 1) := by decide +kernel
theorem ks_86_0 : mi_snd cs_G cs_cl cs_inf 86 0 (mj_iload 1 1) := ms_iload_n (mi_dec ib_86 dd_86_0) rfl
theorem ks_86_1 : mi_snd cs_G cs_cl cs_inf 86 1 (mj_push (.inl 0) 2) := ms_iconst (mi_dec ib_86 dd_86_1) (by decide)
theorem ks_86_2 : mi_snd cs_G cs_cl cs_inf 86 2 (mj_aload 0 3) := ms_aload_n (mi_dec ib_86 dd_86_2) rfl
theorem ks_86_3 : mi_snd cs_G cs_cl cs_inf 86 3 (mj_get 9 1 6) := ms_get (T := cs_T9) (k := 1) (mi_dec ib_86 dd_86_3) rfl cs_in9 (by decide) gw_637
theorem ks_86_6 : mi_snd cs_G cs_cl cs_inf 86 6 (mj_push (.inl 1) 7) := ms_iconst (mi_dec ib_86 dd_86_6) (by decide)
theorem ks_86_7 : mi_snd cs_G cs_cl cs_inf 86 7 (mj_bin (fun x y => x - y) 8) := ms_isub (mi_dec ib_86 dd_86_7)
theorem ks_86_8 : mi_snd cs_G cs_cl cs_inf 86 8 (mj_callS 84 3 3 11) := ms_callS iw_c84 (mi_dec ib_86 dd_86_8) gw_696 iw_s84 iw_n84 (by decide +kernel) rfl (by decide)
theorem ks_86_11 : mi_snd cs_G cs_cl cs_inf 86 11 (mj_if (fun x => decide (¬ x = 0)) 18 14) := ms_if_ne (mi_dec ib_86 dd_86_11) (by decide)
theorem ks_86_14 : mi_snd cs_G cs_cl cs_inf 86 14 (mj_push (.inl 1) 15) := ms_iconst (mi_dec ib_86 dd_86_14) (by decide)
theorem ks_86_15 : mi_snd cs_G cs_cl cs_inf 86 15 (mj_goto 19) := ms_goto (mi_dec ib_86 dd_86_15) (by decide)
theorem ks_86_18 : mi_snd cs_G cs_cl cs_inf 86 18 (mj_push (.inl 0) 19) := ms_iconst (mi_dec ib_86 dd_86_18) (by decide)
theorem ks_86_19 : mi_snd cs_G cs_cl cs_inf 86 19 (mj_zret) := ms_zret (mi_dec ib_86 dd_86_19) rfl
def ct_86 : List (Nat × mi_I) := [
  (0, mj_iload 1 1),
  (1, mj_push (.inl 0) 2),
  (2, mj_aload 0 3),
  (3, mj_get 9 1 6),
  (6, mj_push (.inl 1) 7),
  (7, mj_bin (fun x y => x - y) 8),
  (8, mj_callS 84 3 3 11),
  (11, mj_if (fun x => decide (¬ x = 0)) 18 14),
  (14, mj_push (.inl 1) 15),
  (15, mj_goto 19),
  (18, mj_push (.inl 0) 19),
  (19, mj_zret)]
theorem sd_86 : ∀ q ∈ ct_86, mi_snd cs_G cs_cl cs_inf 86 q.1 q.2 := mi_fc ks_86_0 (mi_fc ks_86_1 (mi_fc ks_86_2 (mi_fc ks_86_3 (mi_fc ks_86_6 (mi_fc ks_86_7 (mi_fc ks_86_8 (mi_fc ks_86_11 (mi_fc ks_86_14 (mi_fc ks_86_15 (mi_fc ks_86_18 (mi_fc ks_86_19 mi_fn)))))))))))
theorem dd_87_0 : decode prog_11_method_9_code 0 = .ok (.aload_n 0, 1) := by decide +kernel
theorem dd_87_1 : decode prog_11_method_9_code 1 = .ok (.iconst 0, 1) := by decide +kernel
theorem dd_87_2 : decode prog_11_method_9_code 2 = .ok (.putfield 1, 3) := by decide +kernel
theorem dd_87_5 : decode prog_11_method_9_code 5 = .ok (.aload_n 0, 1) := by decide +kernel
theorem dd_87_6 : decode prog_11_method_9_code 6 = .ok (.iload_n 1, 1) := by decide +kernel
theorem dd_87_7 : decode prog_11_method_9_code 7 = .ok (.invokevirtual 44, 3) := by decide +kernel
theorem dd_87_10 : decode prog_11_method_9_code 10 = .ok (.ifCond .ne 14, 3) := by decide +kernel
theorem dd_87_13 : decode prog_11_method_9_code 13 = .ok (.iload_n 2, 1) := by decide +kernel
theorem dd_87_14 : decode prog_11_method_9_code 14 = .ok (.iconst 1, 1) := by decide +kernel
theorem dd_87_15 : decode prog_11_method_9_code 15 = .ok (.sipush 1000, 3) := by decide +kernel
theorem dd_87_18 : decode prog_11_method_9_code 18 = .ok (.invokestatic 40, 3) := by decide +kernel
theorem dd_87_21 : decode prog_11_method_9_code 21 = .ok (.ifCond .ne 5, 3) := by decide +kernel
theorem dd_87_24 : decode prog_11_method_9_code 24 = .ok (.iconst (-1), 1) := by decide +kernel
theorem dd_87_25 : decode prog_11_method_9_code 25 = .ok (.ireturn, 1) := by decide +kernel
theorem dd_87_26 : decode prog_11_method_9_code 26 = .ok (.aload_n 0, 1) := by decide +kernel
theorem dd_87_27 : decode prog_11_method_9_code 27 = .ok (.getfield 13, 3) := by decide +kernel
theorem dd_87_30 : decode prog_11_method_9_code 30 = .ok (.iload_n 1, 1) := by decide +kernel
theorem dd_87_31 : decode prog_11_method_9_code 31 = .ok (.iaload, 1) := by decide +kernel
theorem dd_87_32 : decode prog_11_method_9_code 32 = .ok (.istore_n 3, 1) := by decide +kernel
theorem dd_87_33 : decode prog_11_method_9_code 33 = .ok (.aload_n 0, 1) := by decide +kernel
theorem dd_87_34 : decode prog_11_method_9_code 34 = .ok (.getfield 13, 3) := by decide +kernel
theorem dd_87_37 : decode prog_11_method_9_code 37 = .ok (.iload_n 1, 1) := by decide +kernel
theorem dd_87_38 : decode prog_11_method_9_code 38 = .ok (.iload_n 2, 1) := by decide +kernel
theorem dd_87_39 : decode prog_11_method_9_code 39 = .ok (.iastore, 1) := by decide +kernel
theorem dd_87_40 : decode prog_11_method_9_code 40 = .ok (.iload_n 3, 1) := by decide +kernel
theorem dd_87_41 : decode prog_11_method_9_code 41 = .ok (.ireturn, 1) := by decide +kernel
theorem ks_87_0 : mi_snd cs_G cs_cl cs_inf 87 0 (mj_aload 0 1) := ms_aload_n (mi_dec ib_87 dd_87_0) rfl
theorem ks_87_1 : mi_snd cs_G cs_cl cs_inf 87 1 (mj_push (.inl 0) 2) := ms_iconst (mi_dec ib_87 dd_87_1) (by decide)
theorem ks_87_2 : mi_snd cs_G cs_cl cs_inf 87 2 (mj_putI 9 0 5) := ms_putI (T := cs_T9) (k := 0) (mi_dec ib_87 dd_87_2) rfl cs_in9 cs_ty9_ok cs_nm9 (by decide) gw_636 (by decide) (by decide +kernel)
theorem ks_87_5 : mi_snd cs_G cs_cl cs_inf 87 5 (mj_aload 0 6) := ms_aload_n (mi_dec ib_87 dd_87_5) rfl
theorem ks_87_6 : mi_snd cs_G cs_cl cs_inf 87 6 (mj_iload 1 7) := ms_iload_n (mi_dec ib_87 dd_87_6) rfl
theorem ks_87_7 : mi_snd cs_G cs_cl cs_inf 87 7 (mj_callV 9 86 1 2 10) := ms_callV iw_c86 (mi_dec ib_87 dd_87_7) gw_703 iw_i86 rfl iw_v86 iw_n86 (by decide +kernel) rfl (by decide)
theorem ks_87_10 : mi_snd cs_G cs_cl cs_inf 87 10 (mj_if (fun x => decide (¬ x = 0)) 24 13) := ms_if_ne (mi_dec ib_87 dd_87_10) (by decide)
theorem ks_87_13 : mi_snd cs_G cs_cl cs_inf 87 13 (mj_iload 2 14) := ms_iload_n (mi_dec ib_87 dd_87_13) rfl
theorem ks_87_14 : mi_snd cs_G cs_cl cs_inf 87 14 (mj_push (.inl 1) 15) := ms_iconst (mi_dec ib_87 dd_87_14) (by decide)
theorem ks_87_15 : mi_snd cs_G cs_cl cs_inf 87 15 (mj_push (.inl 1000) 18) := ms_sipush (mi_dec ib_87 dd_87_15) (by decide)
theorem ks_87_18 : mi_snd cs_G cs_cl cs_inf 87 18 (mj_callS 84 3 3 21) := ms_callS iw_c84 (mi_dec ib_87 dd_87_18) gw_696 iw_s84 iw_n84 (by decide +kernel) rfl (by decide)
theorem ks_87_21 : mi_snd cs_G cs_cl cs_inf 87 21 (mj_if (fun x => decide (¬ x = 0)) 26 24) := ms_if_ne (mi_dec ib_87 dd_87_21) (by decide)
theorem ks_87_24 : mi_snd cs_G cs_cl cs_inf 87 24 (mj_push (.inl (-1)) 25) := ms_iconst (mi_dec ib_87 dd_87_24) (by decide)
theorem ks_87_25 : mi_snd cs_G cs_cl cs_inf 87 25 (mj_iret) := ms_iret (mi_dec ib_87 dd_87_25) rfl
theorem ks_87_26 : mi_snd cs_G cs_cl cs_inf 87 26 (mj_aload 0 27) := ms_aload_n (mi_dec ib_87 dd_87_26) rfl
theorem ks_87_27 : mi_snd cs_G cs_cl cs_inf 87 27 (mj_get 9 2 30) := ms_get (T := cs_T9) (k := 2) (mi_dec ib_87 dd_87_27) rfl cs_in9 (by decide) gw_638
theorem ks_87_30 : mi_snd cs_G cs_cl cs_inf 87 30 (mj_iload 1 31) := ms_iload_n (mi_dec ib_87 dd_87_30) rfl
theorem ks_87_31 : mi_snd cs_G cs_cl cs_inf 87 31 (mj_ald 0 32) := ms_ald0 (mi_dec ib_87 dd_87_31)
theorem ks_87_32 : mi_snd cs_G cs_cl cs_inf 87 32 (mj_istore 3 33) := ms_istore_n (mi_dec ib_87 dd_87_32) rfl
theorem ks_87_33 : mi_snd cs_G cs_cl cs_inf 87 33 (mj_aload 0 34) := ms_aload_n (mi_dec ib_87 dd_87_33) rfl
theorem ks_87_34 : mi_snd cs_G cs_cl cs_inf 87 34 (mj_get 9 2 37) := ms_get (T := cs_T9) (k := 2) (mi_dec ib_87 dd_87_34) rfl cs_in9 (by decide) gw_638
theorem ks_87_37 : mi_snd cs_G cs_cl cs_inf 87 37 (mj_iload 1 38) := ms_iload_n (mi_dec ib_87 dd_87_37) rfl
theorem ks_87_38 : mi_snd cs_G cs_cl cs_inf 87 38 (mj_iload 2 39) := ms_iload_n (mi_dec ib_87 dd_87_38) rfl
theorem ks_87_39 : mi_snd cs_G cs_cl cs_inf 87 39 (mj_iast 40) := ms_iast (mi_dec ib_87 dd_87_39)
theorem ks_87_40 : mi_snd cs_G cs_cl cs_inf 87 40 (mj_iload 3 41) := ms_iload_n (mi_dec ib_87 dd_87_40) rfl
theorem ks_87_41 : mi_snd cs_G cs_cl cs_inf 87 41 (mj_iret) := ms_iret (mi_dec ib_87 dd_87_41) rfl
def ct_87 : List (Nat × mi_I) := [
  (0, mj_aload 0 1),
  (1, mj_push (.inl 0) 2),
  (2, mj_putI 9 0 5),
  (5, mj_aload 0 6),
  (6, mj_iload 1 7),
  (7, mj_callV 9 86 1 2 10),
  (10, mj_if (fun x => decide (¬ x = 0)) 24 13),
  (13, mj_iload 2 14),
  (14, mj_push (.inl 1) 15),
  (15, mj_push (.inl 1000) 18),
  (18, mj_callS 84 3 3 21),
  (21, mj_if (fun x => decide (¬ x = 0)) 26 24),
  (24, mj_push (.inl (-1)) 25),
  (25, mj_iret),
  (26, mj_aload 0 27),
  (27, mj_get 9 2 30),
  (30, mj_iload 1 31),
  (31, mj_ald 0 32),
  (32, mj_istore 3 33),
  (33, mj_aload 0 34),
  (34, mj_get 9 2 37),
  (37, mj_iload 1 38),
  (38, mj_iload 2 39),
  (39, mj_iast 40),
  (40, mj_iload 3 41),
  (41, mj_iret)]
theorem sd_87 : ∀ q ∈ ct_87, mi_snd cs_G cs_cl cs_inf 87 q.1 q.2 := mi_fc ks_87_0 (mi_fc ks_87_1 (mi_fc ks_87_2 (mi_fc ks_87_5 (mi_fc ks_87_6 (mi_fc ks_87_7 (mi_fc ks_87_10 (mi_fc ks_87_13 (mi_fc ks_87_14 (mi_fc ks_87_15 (mi_fc ks_87_18 (mi_fc ks_87_21 (mi_fc ks_87_24 (mi_fc ks_87_25 (mi_fc ks_87_26 (mi_fc ks_87_27 (mi_fc ks_87_30 (mi_fc ks_87_31 (mi_fc ks_87_32 (mi_fc ks_87_33 (mi_fc ks_87_34 (mi_fc ks_87_37 (mi_fc ks_87_38 (mi_fc ks_87_39 (mi_fc ks_87_40 (mi_fc ks_87_41 mi_fn)))))))))))))))))))))))))
theorem dd_88_0 : decode prog_11_method_10_code 0 = .ok (.aload_n 0, 1) := by decide +kernel
theorem dd_88_1 : decode prog_11_method_10_code 1 = .ok (.iconst 0, 1) := by decide +kernel
theorem dd_88_2 : decode prog_11_method_10_code 2 = .ok (.putfield 1, 3) := by decide +kernel
theorem dd_88_5 : decode prog_11_method_10_code 5 = .ok (.aload_n 0, 1) := by decide +kernel
theorem dd_88_6 : decode prog_11_method_10_code 6 = .ok (.iload_n 1, 1) := by decide +kernel
theorem dd_88_7 : decode prog_11_method_10_code 7 = .ok (.invokevirtual 44, 3) := by decide +kernel
theorem dd_88_10 : decode prog_11_method_10_code 10 = .ok (.ifCond .eq 7, 3) := by decide +kernel
theorem dd_88_13 : decode prog_11_method_10_code 13 = .ok (.iconst (-1), 1) := by decide +kernel
theorem dd_88_14 : decode prog_11_method_10_code 14 = .ok (.goto 9, 3) := by decide +kernel
theorem dd_88_17 : decode prog_11_method_10_code 17 = .ok (.aload_n 0, 1) := by decide +kernel
theorem dd_88_18 : decode prog_11_method_10_code 18 = .ok (.getfield 17, 3) := by decide +kernel
theorem dd_88_21 : decode prog_11_method_10_code 21 = .ok (.iload_n 1, 1) := by decide +kernel
theorem dd_88_22 : decode prog_11_method_10_code 22 = .ok (.iaload, 1) := by decide +kernel
theorem dd_88_23 : decode prog_11_method_10_code 23 = .ok (.ireturn, 1) := by decide +kernel
theorem ks_88_0 : mi_snd cs_G cs_cl cs_inf 88 0 (mj_aload 0 1) := ms_aload_n (mi_dec ib_88 dd_88_0) rfl
theorem ks_88_1 : mi_snd cs_G cs_cl cs_inf 88 1 (mj_push (.inl 0) 2) := ms_iconst (mi_dec ib_88 dd_88_1) (by decide)
theorem ks_88_2 : mi_snd cs_G cs_cl cs_inf 88 2 (mj_putI 9 0 5) := ms_putI (T := cs_T9) (k := 0) (mi_dec ib_88 dd_88_2) rfl cs_in9 cs_ty9_ok cs_nm9 (by decide) gw_636 (by decide) (by decide +kernel)
theorem ks_88_5 : mi_snd cs_G cs_cl cs_inf 88 5 (mj_aload 0 6) := ms_aload_n (mi_dec ib_88 dd_88_5) rfl
theorem ks_88_6 : mi_snd cs_G cs_cl cs_inf 88 6 (mj_iload 1 7) := ms_iload_n (mi_dec ib_88 dd_88_6) rfl
theorem ks_88_7 : mi_snd cs_G cs_cl cs_inf 88 7 (mj_callV 9 86 1 2 10) := ms_callV iw_c86 (mi_dec ib_88 dd_88_7) gw_703 iw_i86 rfl iw_v86 iw_n86 (by decide +kernel) rfl (by decide)
theorem ks_88_10 : mi_snd cs_G cs_cl cs_inf 88 10 (mj_if (fun x => decide (x = 0)) 17 13) := ms_if_eq (mi_dec ib_88 dd_88_10) (by decide)
theorem ks_88_13 : mi_snd cs_G cs_cl cs_inf 88 13 (mj_push (.inl (-1)) 14) := ms_iconst (mi_dec ib_88 dd_88_13) (by decide)
theorem ks_88_14 : mi_snd cs_G cs_cl cs_inf 88 14 (mj_goto 23) := ms_goto (mi_dec ib_88 dd_88_14) (by decide)
theorem ks_88_17 : mi_snd cs_G cs_cl cs_inf 88 17 (mj_aload 0 18) := ms_aload_n (mi_dec ib_88 dd_88_17) rfl
theorem ks_88_18 : mi_snd cs_G cs_cl cs_inf 88 18 (mj_get 9 3 21) := ms_get (T := cs_T9) (k := 3) (mi_dec ib_88 dd_88_18) rfl cs_in9 (by decide) gw_639
theorem ks_88_21 : mi_snd cs_G cs_cl cs_inf 88 21 (mj_iload 1 22) := ms_iload_n (mi_dec ib_88 dd_88_21) rfl
theorem ks_88_22 : mi_snd cs_G cs_cl cs_inf 88 22 (mj_ald 0 23) := ms_ald0 (mi_dec ib_88 dd_88_22)
theorem ks_88_23 : mi_snd cs_G cs_cl cs_inf 88 23 (mj_iret) := ms_iret (mi_dec ib_88 dd_88_23) rfl
def ct_88 : List (Nat × mi_I) := [
  (0, mj_aload 0 1),
  (1, mj_push (.inl 0) 2),
  (2, mj_putI 9 0 5),
  (5, mj_aload 0 6),
  (6, mj_iload 1 7),
  (7, mj_callV 9 86 1 2 10),
  (10, mj_if (fun x => decide (x = 0)) 17 13),
  (13, mj_push (.inl (-1)) 14),
  (14, mj_goto 23),
  (17, mj_aload 0 18),
  (18, mj_get 9 3 21),
  (21, mj_iload 1 22),
  (22, mj_ald 0 23),
  (23, mj_iret)]
theorem sd_88 : ∀ q ∈ ct_88, mi_snd cs_G cs_cl cs_inf 88 q.1 q.2 := mi_fc ks_88_0 (mi_fc ks_88_1 (mi_fc ks_88_2 (mi_fc ks_88_5 (mi_fc ks_88_6 (mi_fc ks_88_7 (mi_fc ks_88_10 (mi_fc ks_88_13 (mi_fc ks_88_14 (mi_fc ks_88_17 (mi_fc ks_88_18 (mi_fc ks_88_21 (mi_fc ks_88_22 (mi_fc ks_88_23 mi_fn)))))))))))))
theorem dd_89_0 : decode prog_11_method_17_code 0 = .ok (.aload_n 0, 1) := by decide +kernel
theorem dd_89_1 : decode prog_11_method_17_code 1 = .ok (.iconst 0, 1) := by decide +kernel
theorem dd_89_2 : decode prog_11_method_17_code 2 = .ok (.putfield 1, 3) := by decide +kernel
theorem dd_89_5 : decode prog_11_method_17_code 5 = .ok (.aload_n 0, 1) := by decide +kernel
theorem dd_89_6 : decode prog_11_method_17_code 6 = .ok (.iconst 0, 1) := by decide +kernel
theorem dd_89_7 : decode prog_11_method_17_code 7 = .ok (.invokevirtual 77, 3) := by decide +kernel
theorem dd_89_10 : decode prog_11_method_17_code 10 = .ok (.ireturn, 1) := by decide +kernel
theorem ks_89_0 : mi_snd cs_G cs_cl cs_inf 89 0 (mj_aload 0 1) := ms_aload_n (mi_dec ib_89 dd_89_0) rfl
theorem ks_89_1 : mi_snd cs_G cs_cl cs_inf 89 1 (mj_push (.inl 0) 2) := ms_iconst (mi_dec ib_89 dd_89_1) (by decide)
theorem ks_89_2 : mi_snd cs_G cs_cl cs_inf 89 2 (mj_putI 9 0 5) := ms_putI (T := cs_T9) (k := 0) (mi_dec ib_89 dd_89_2) rfl cs_in9 cs_ty9_ok cs_nm9 (by decide) gw_636 (by decide) (by decide +kernel)
theorem ks_89_5 : mi_snd cs_G cs_cl cs_inf 89 5 (mj_aload 0 6) := ms_aload_n (mi_dec ib_89 dd_89_5) rfl
theorem ks_89_6 : mi_snd cs_G cs_cl cs_inf 89 6 (mj_push (.inl 0) 7) := ms_iconst (mi_dec ib_89 dd_89_6) (by decide)
theorem ks_89_7 : mi_snd cs_G cs_cl cs_inf 89 7 (mj_callV 9 90 1 7 10) := ms_callV iw_c90 (mi_dec ib_89 dd_89_7) gw_719 iw_i90 rfl iw_v90 iw_n90 (by decide +kernel) rfl (by decide)
theorem ks_89_10 : mi_snd cs_G cs_cl cs_inf 89 10 (mj_iret) := ms_iret (mi_dec ib_89 dd_89_10) rfl
def ct_89 : List (Nat × mi_I) := [
  (0, mj_aload 0 1),
  (1, mj_push (.inl 0) 2),
  (2, mj_putI 9 0 5),
  (5, mj_aload 0 6),
  (6, mj_push (.inl 0) 7),
  (7, mj_callV 9 90 1 7 10),
  (10, mj_iret)]
theorem sd_89 : ∀ q ∈ ct_89, mi_snd cs_G cs_cl cs_inf 89 q.1 q.2 := mi_fc ks_89_0 (mi_fc ks_89_1 (mi_fc ks_89_2 (mi_fc ks_89_5 (mi_fc ks_89_6 (mi_fc ks_89_7 (mi_fc ks_89_10 mi_fn))))))
theorem dd_90_0 : decode prog_11_method_16_code 0 = .ok (.iconst (-1), 1) := by decide +kernel
theorem dd_90_1 : decode prog_11_method_16_code 1 = .ok (.istore_n 2, 1) := by decide +kernel
theorem dd_90_2 : decode prog_11_method_16_code 2 = .ok (.iconst (-1), 1) := by decide +kernel
theorem dd_90_3 : decode prog_11_method_16_code 3 = .ok (.istore_n 3, 1) := by decide +kernel
theorem dd_90_4 : decode prog_11_method_16_code 4 = .ok (.iconst 0, 1) := by decide +kernel
theorem dd_90_5 : decode prog_11_method_16_code 5 = .ok (.istore 4, 2) := by decide +kernel
theorem dd_90_7 : decode prog_11_method_16_code 7 = .ok (.iload 4, 2) := by decide +kernel
theorem dd_90_9 : decode prog_11_method_16_code 9 = .ok (.aload_n 0, 1) := by decide +kernel
theorem dd_90_10 : decode prog_11_method_16_code 10 = .ok (.invokevirtual 58, 3) := by decide +kernel
theorem dd_90_13 : decode prog_11_method_16_code 13 = .ok (.if_icmp .gt 140, 3) := by decide +kernel
theorem dd_90_16 : decode prog_11_method_16_code 16 = .ok (.iload_n 1, 1) := by decide +kernel
theorem dd_90_17 : decode prog_11_method_16_code 17 = .ok (.iconst 1, 1) := by decide +kernel
theorem dd_90_18 : decode prog_11_method_16_code 18 = .ok (.if_icmp .ne 12, 3) := by decide +kernel
theorem dd_90_21 : decode prog_11_method_16_code 21 = .ok (.aload_n 0, 1) := by decide +kernel
theorem dd_90_22 : decode prog_11_method_16_code 22 = .ok (.iload 4, 2) := by decide +kernel
theorem dd_90_24 : decode prog_11_method_16_code 24 = .ok (.invokevirtual 62, 3) := by decide +kernel
theorem dd_90_27 : decode prog_11_method_16_code 27 = .ok (.goto 26, 3) := by decide +kernel
theorem dd_90_30 : decode prog_11_method_16_code 30 = .ok (.iload_n 1, 1) := by decide +kernel
theorem dd_90_31 : decode prog_11_method_16_code 31 = .ok (.iconst 3, 1) := by decide +kernel
theorem dd_90_32 : decode prog_11_method_16_code 32 = .ok (.if_icmp .ne 16, 3) := by decide +kernel
theorem dd_90_35 : decode prog_11_method_16_code 35 = .ok (.aload_n 0, 1) := by decide +kernel
theorem dd_90_36 : decode prog_11_method_16_code 36 = .ok (.getfield 37, 3) := by decide +kernel
theorem dd_90_39 : decode prog_11_method_16_code 39 = .ok (.iload 4, 2) := by decide +kernel
theorem dd_90_41 : decode prog_11_method_16_code 41 = .ok (.invokestatic 52, 3) := by decide +kernel
theorem dd_90_44 : decode prog_11_method_16_code 44 = .ok (.isub, 1) := by decide +kernel
theorem dd_90_45 : decode prog_11_method_16_code 45 = .ok (.goto 8, 3) := by decide +kernel
theorem dd_90_48 : decode prog_11_method_16_code 48 = .ok (.iload 4, 2) := by decide +kernel
theorem dd_90_50 : decode prog_11_method_16_code 50 = .ok (.invokestatic 52, 3) := by decide +kernel
theorem dd_90_53 : decode prog_11_method_16_code 53 = .ok (.istore 5, 2) := by decide +kernel
theorem dd_90_55 : decode prog_11_method_16_code 55 = .ok (.iload 5, 2) := by decide +kernel
theorem dd_90_57 : decode prog_11_method_16_code 57 = .ok (.iload_n 3, 1) := by decide +kernel
theorem dd_90_58 : decode prog_11_method_16_code 58 = .ok (.if_icmp .gt 18, 3) := by decide +kernel
theorem dd_90_61 : decode prog_11_method_16_code 61 = .ok (.iload 5, 2) := by decide +kernel
theorem dd_90_63 : decode prog_11_method_16_code 63 = .ok (.iload_n 3, 1) := by decide +kernel
theorem dd_90_64 : decode prog_11_method_16_code 64 = .ok (.if_icmp .ne 83, 3) := by decide +kernel
theorem dd_90_67 : decode prog_11_method_16_code 67 = .ok (.iload 4, 2) := by decide +kernel
theorem dd_90_69 : decode prog_11_method_16_code 69 = .ok (.iload_n 2, 1) := by decide +kernel
theorem dd_90_70 : decode prog_11_method_16_code 70 = .ok (.invokestatic 65, 3) := by decide +kernel
theorem dd_90_73 : decode prog_11_method_16_code 73 = .ok (.ifCond .eq 74, 3) := by decide +kernel
theorem dd_90_76 : decode prog_11_method_16_code 76 = .ok (.iload_n 1, 1) := by decide +kernel
theorem dd_90_77 : decode prog_11_method_16_code 77 = .ok (.iconst 1, 1) := by decide +kernel
theorem dd_90_78 : decode prog_11_method_16_code 78 = .ok (.if_icmp .gt 12, 3) := by decide +kernel
theorem dd_90_81 : decode prog_11_method_16_code 81 = .ok (.aload_n 0, 1) := by decide +kernel
theorem dd_90_82 : decode prog_11_method_16_code 82 = .ok (.iload 4, 2) := by decide +kernel
theorem dd_90_84 : decode prog_11_method_16_code 84 = .ok (.invokevirtual 68, 3) := by decide +kernel
theorem dd_90_87 : decode prog_11_method_16_code 87 = .ok (.goto 47, 3) := by decide +kernel
theorem dd_90_90 : decode prog_11_method_16_code 90 = .ok (.iload_n 1, 1) := by decide +kernel
theorem dd_90_91 : decode prog_11_method_16_code 91 = .ok (.iconst 2, 1) := by decide +kernel
theorem dd_90_92 : decode prog_11_method_16_code 92 = .ok (.if_icmp .ne 12, 3) := by decide +kernel
theorem dd_90_95 : decode prog_11_method_16_code 95 = .ok (.aload_n 0, 1) := by decide +kernel
theorem dd_90_96 : decode prog_11_method_16_code 96 = .ok (.iload 4, 2) := by decide +kernel
theorem dd_90_98 : decode prog_11_method_16_code 98 = .ok (.invokevirtual 71, 3) := by decide +kernel
theorem dd_90_101 : decode prog_11_method_16_code 101 = .ok (.goto 33, 3) := by decide +kernel
theorem dd_90_104 : decode prog_11_method_16_code 104 = .ok (.iload_n 1, 1) := by decide +kernel
theorem dd_90_105 : decode prog_11_method_16_code 105 = .ok (.iconst 3, 1) := by decide +kernel
theorem dd_90_106 : decode prog_11_method_16_code 106 = .ok (.if_icmp .ne 19, 3) := by decide +kernel
theorem dd_90_109 : decode prog_11_method_16_code 109 = .ok (.aload_n 0, 1) := by decide +kernel
theorem dd_90_110 : decode prog_11_method_16_code 110 = .ok (.aload_n 0, 1) := by decide +kernel
theorem dd_90_111 : decode prog_11_method_16_code 111 = .ok (.invokevirtual 58, 3) := by decide +kernel
theorem dd_90_114 : decode prog_11_method_16_code 114 = .ok (.iload 4, 2) := by decide +kernel
theorem dd_90_116 : decode prog_11_method_16_code 116 = .ok (.iconst (-1), 1) := by decide +kernel
theorem dd_90_117 : decode prog_11_method_16_code 117 = .ok (.ixor, 1) := by decide +kernel
theorem dd_90_118 : decode prog_11_method_16_code 118 = .ok (.iand, 1) := by decide +kernel
theorem dd_90_119 : decode prog_11_method_16_code 119 = .ok (.invokevirtual 71, 3) := by decide +kernel
theorem dd_90_122 : decode prog_11_method_16_code 122 = .ok (.goto 12, 3) := by decide +kernel
theorem dd_90_125 : decode prog_11_method_16_code 125 = .ok (.aload_n 0, 1) := by decide +kernel
theorem dd_90_126 : decode prog_11_method_16_code 126 = .ok (.iload 4, 2) := by decide +kernel
theorem dd_90_128 : decode prog_11_method_16_code 128 = .ok (.iload_n 1, 1) := by decide +kernel
theorem dd_90_129 : decode prog_11_method_16_code 129 = .ok (.iconst 3, 1) := by decide +kernel
theorem dd_90_130 : decode prog_11_method_16_code 130 = .ok (.isub, 1) := by decide +kernel
theorem dd_90_131 : decode prog_11_method_16_code 131 = .ok (.invokevirtual 74, 3) := by decide +kernel
theorem dd_90_134 : decode prog_11_method_16_code 134 = .ok (.istore 6, 2) := by decide +kernel
theorem dd_90_136 : decode prog_11_method_16_code 136 = .ok (.iload 6, 2) := by decide +kernel
theorem dd_90_138 : decode prog_11_method_16_code 138 = .ok (.ifCond .eq 9, 3) := by decide +kernel
theorem dd_90_141 : decode prog_11_method_16_code 141 = .ok (.iload 4, 2) := by decide +kernel
theorem dd_90_143 : decode prog_11_method_16_code 143 = .ok (.istore_n 2, 1) := by decide +kernel
theorem dd_90_144 : decode prog_11_method_16_code 144 = .ok (.iload 5, 2) := by decide +kernel
theorem dd_90_146 : decode prog_11_method_16_code 146 = .ok (.istore_n 3, 1) := by decide +kernel
theorem dd_90_147 : decode prog_11_method_16_code 147 = .ok (.iinc 4 1, 3) := by decide +kernel
theorem dd_90_150 : decode prog_11_method_16_code 150 = .ok (.goto (-143), 3) := by decide +kernel
theorem dd_90_153 : decode prog_11_method_16_code 153 = .ok (.iload_n 2, 1) := by decide +kernel
theorem dd_90_154 : decode prog_11_method_16_code 154 = .ok (.ireturn, 1) := by decide +kernel
theorem ks_90_0 : mi_snd cs_G cs_cl cs_inf 90 0 (mj_push (.inl (-1)) 1) := ms_iconst (mi_dec ib_90 dd_90_0) (by decide)
theorem ks_90_1 : mi_snd cs_G cs_cl cs_inf 90 1 (mj_istore 2 2) := ms_istore_n (mi_dec ib_90 dd_90_1) rfl
theorem ks_90_2 : mi_snd cs_G cs_cl cs_inf 90 2 (mj_push (.inl (-1)) 3) := ms_iconst (mi_dec ib_90 dd_90_2) (by decide)
theorem ks_90_3 : mi_snd cs_G cs_cl cs_inf 90 3 (mj_istore 3 4) := ms_istore_n (mi_dec ib_90 dd_90_3) rfl
theorem ks_90_4 : mi_snd cs_G cs_cl cs_inf 90 4 (mj_push (.inl 0) 5) := ms_iconst (mi_dec ib_90 dd_90_4) (by decide)
theorem ks_90_5 : mi_snd cs_G cs_cl cs_inf 90 5 (mj_istore 4 7) := ms_istore (mi_dec ib_90 dd_90_5)
theorem ks_90_7 : mi_snd cs_G cs_cl cs_inf 90 7 (mj_iload 4 9) := ms_iload (mi_dec ib_90 dd_90_7)
theorem ks_90_9 : mi_snd cs_G cs_cl cs_inf 90 9 (mj_aload 0 10) := ms_aload_n (mi_dec ib_90 dd_90_9) rfl
theorem ks_90_10 : mi_snd cs_G cs_cl cs_inf 90 10 (mj_callV 9 91 0 1 13) := ms_callV iw_c91 (mi_dec ib_90 dd_90_10) gw_723 iw_i91 rfl iw_v91 iw_n91 (by decide +kernel) rfl (by decide)
theorem ks_90_13 : mi_snd cs_G cs_cl cs_inf 90 13 (mj_cmp (fun x y => decide (y < x)) 153 16) := ms_icmp_gt (mi_dec ib_90 dd_90_13) (by decide)
theorem ks_90_16 : mi_snd cs_G cs_cl cs_inf 90 16 (mj_iload 1 17) := ms_iload_n (mi_dec ib_90 dd_90_16) rfl
theorem ks_90_17 : mi_snd cs_G cs_cl cs_inf 90 17 (mj_push (.inl 1) 18) := ms_iconst (mi_dec ib_90 dd_90_17) (by decide)
theorem ks_90_18 : mi_snd cs_G cs_cl cs_inf 90 18 (mj_cmp (fun x y => decide (¬ x = y)) 30 21) := ms_icmp_ne (mi_dec ib_90 dd_90_18) (by decide)
theorem ks_90_21 : mi_snd cs_G cs_cl cs_inf 90 21 (mj_aload 0 22) := ms_aload_n (mi_dec ib_90 dd_90_21) rfl
theorem ks_90_22 : mi_snd cs_G cs_cl cs_inf 90 22 (mj_iload 4 24) := ms_iload (mi_dec ib_90 dd_90_22)
theorem ks_90_24 : mi_snd cs_G cs_cl cs_inf 90 24 (mj_callV 9 92 1 4 27) := ms_callV iw_c92 (mi_dec ib_90 dd_90_24) gw_727 iw_i92 rfl iw_v92 iw_n92 (by decide +kernel) rfl (by decide)
theorem ks_90_27 : mi_snd cs_G cs_cl cs_inf 90 27 (mj_goto 53) := ms_goto (mi_dec ib_90 dd_90_27) (by decide)
theorem ks_90_30 : mi_snd cs_G cs_cl cs_inf 90 30 (mj_iload 1 31) := ms_iload_n (mi_dec ib_90 dd_90_30) rfl
theorem ks_90_31 : mi_snd cs_G cs_cl cs_inf 90 31 (mj_push (.inl 3) 32) := ms_iconst (mi_dec ib_90 dd_90_31) (by decide)
theorem ks_90_32 : mi_snd cs_G cs_cl cs_inf 90 32 (mj_cmp (fun x y => decide (¬ x = y)) 48 35) := ms_icmp_ne (mi_dec ib_90 dd_90_32) (by decide)
theorem ks_90_35 : mi_snd cs_G cs_cl cs_inf 90 35 (mj_aload 0 36) := ms_aload_n (mi_dec ib_90 dd_90_35) rfl
theorem ks_90_36 : mi_snd cs_G cs_cl cs_inf 90 36 (mj_get 9 1 39) := ms_get (T := cs_T9) (k := 1) (mi_dec ib_90 dd_90_36) rfl cs_in9 (by decide) gw_637
theorem ks_90_39 : mi_snd cs_G cs_cl cs_inf 90 39 (mj_iload 4 41) := ms_iload (mi_dec ib_90 dd_90_39)
theorem ks_90_41 : mi_snd cs_G cs_cl cs_inf 90 41 (mj_callS 20 1 1 44) := ms_callS iw_c20 (mi_dec ib_90 dd_90_41) gw_734 iw_s20 iw_n20 (by decide +kernel) rfl (by decide)
theorem ks_90_44 : mi_snd cs_G cs_cl cs_inf 90 44 (mj_bin (fun x y => x - y) 45) := ms_isub (mi_dec ib_90 dd_90_44)
theorem ks_90_45 : mi_snd cs_G cs_cl cs_inf 90 45 (mj_goto 53) := ms_goto (mi_dec ib_90 dd_90_45) (by decide)
theorem ks_90_48 : mi_snd cs_G cs_cl cs_inf 90 48 (mj_iload 4 50) := ms_iload (mi_dec ib_90 dd_90_48)
theorem ks_90_50 : mi_snd cs_G cs_cl cs_inf 90 50 (mj_callS 20 1 1 53) := ms_callS iw_c20 (mi_dec ib_90 dd_90_50) gw_734 iw_s20 iw_n20 (by decide +kernel) rfl (by decide)
theorem ks_90_53 : mi_snd cs_G cs_cl cs_inf 90 53 (mj_istore 5 55) := ms_istore (mi_dec ib_90 dd_90_53)
theorem ks_90_55 : mi_snd cs_G cs_cl cs_inf 90 55 (mj_iload 5 57) := ms_iload (mi_dec ib_90 dd_90_55)
theorem ks_90_57 : mi_snd cs_G cs_cl cs_inf 90 57 (mj_iload 3 58) := ms_iload_n (mi_dec ib_90 dd_90_57) rfl
theorem ks_90_58 : mi_snd cs_G cs_cl cs_inf 90 58 (mj_cmp (fun x y => decide (y < x)) 76 61) := ms_icmp_gt (mi_dec ib_90 dd_90_58) (by decide)
theorem ks_90_61 : mi_snd cs_G cs_cl cs_inf 90 61 (mj_iload 5 63) := ms_iload (mi_dec ib_90 dd_90_61)
theorem ks_90_63 : mi_snd cs_G cs_cl cs_inf 90 63 (mj_iload 3 64) := ms_iload_n (mi_dec ib_90 dd_90_63) rfl
theorem ks_90_64 : mi_snd cs_G cs_cl cs_inf 90 64 (mj_cmp (fun x y => decide (¬ x = y)) 147 67) := ms_icmp_ne (mi_dec ib_90 dd_90_64) (by decide)
theorem ks_90_67 : mi_snd cs_G cs_cl cs_inf 90 67 (mj_iload 4 69) := ms_iload (mi_dec ib_90 dd_90_67)
theorem ks_90_69 : mi_snd cs_G cs_cl cs_inf 90 69 (mj_iload 2 70) := ms_iload_n (mi_dec ib_90 dd_90_69) rfl
theorem ks_90_70 : mi_snd cs_G cs_cl cs_inf 90 70 (mj_callS 94 2 3 73) := ms_callS iw_c94 (mi_dec ib_90 dd_90_70) gw_735 iw_s94 iw_n94 (by decide +kernel) rfl (by decide)
theorem ks_90_73 : mi_snd cs_G cs_cl cs_inf 90 73 (mj_if (fun x => decide (x = 0)) 147 76) := ms_if_eq (mi_dec ib_90 dd_90_73) (by decide)
theorem ks_90_76 : mi_snd cs_G cs_cl cs_inf 90 76 (mj_iload 1 77) := ms_iload_n (mi_dec ib_90 dd_90_76) rfl
theorem ks_90_77 : mi_snd cs_G cs_cl cs_inf 90 77 (mj_push (.inl 1) 78) := ms_iconst (mi_dec ib_90 dd_90_77) (by decide)
theorem ks_90_78 : mi_snd cs_G cs_cl cs_inf 90 78 (mj_cmp (fun x y => decide (y < x)) 90 81) := ms_icmp_gt (mi_dec ib_90 dd_90_78) (by decide)
theorem ks_90_81 : mi_snd cs_G cs_cl cs_inf 90 81 (mj_aload 0 82) := ms_aload_n (mi_dec ib_90 dd_90_81) rfl
theorem ks_90_82 : mi_snd cs_G cs_cl cs_inf 90 82 (mj_iload 4 84) := ms_iload (mi_dec ib_90 dd_90_82)
theorem ks_90_84 : mi_snd cs_G cs_cl cs_inf 90 84 (mj_callV 9 95 1 3 87) := ms_callV iw_c95 (mi_dec ib_90 dd_90_84) gw_738 iw_i95 rfl iw_v95 iw_n95 (by decide +kernel) rfl (by decide)
theorem ks_90_87 : mi_snd cs_G cs_cl cs_inf 90 87 (mj_goto 134) := ms_goto (mi_dec ib_90 dd_90_87) (by decide)
theorem ks_90_90 : mi_snd cs_G cs_cl cs_inf 90 90 (mj_iload 1 91) := ms_iload_n (mi_dec ib_90 dd_90_90) rfl
theorem ks_90_91 : mi_snd cs_G cs_cl cs_inf 90 91 (mj_push (.inl 2) 92) := ms_iconst (mi_dec ib_90 dd_90_91) (by decide)
theorem ks_90_92 : mi_snd cs_G cs_cl cs_inf 90 92 (mj_cmp (fun x y => decide (¬ x = y)) 104 95) := ms_icmp_ne (mi_dec ib_90 dd_90_92) (by decide)
theorem ks_90_95 : mi_snd cs_G cs_cl cs_inf 90 95 (mj_aload 0 96) := ms_aload_n (mi_dec ib_90 dd_90_95) rfl
theorem ks_90_96 : mi_snd cs_G cs_cl cs_inf 90 96 (mj_iload 4 98) := ms_iload (mi_dec ib_90 dd_90_96)
theorem ks_90_98 : mi_snd cs_G cs_cl cs_inf 90 98 (mj_callV 9 96 1 3 101) := ms_callV iw_c96 (mi_dec ib_90 dd_90_98) gw_742 iw_i96 rfl iw_v96 iw_n96 (by decide +kernel) rfl (by decide)
theorem ks_90_101 : mi_snd cs_G cs_cl cs_inf 90 101 (mj_goto 134) := ms_goto (mi_dec ib_90 dd_90_101) (by decide)
theorem ks_90_104 : mi_snd cs_G cs_cl cs_inf 90 104 (mj_iload 1 105) := ms_iload_n (mi_dec ib_90 dd_90_104) rfl
theorem ks_90_105 : mi_snd cs_G cs_cl cs_inf 90 105 (mj_push (.inl 3) 106) := ms_iconst (mi_dec ib_90 dd_90_105) (by decide)
theorem ks_90_106 : mi_snd cs_G cs_cl cs_inf 90 106 (mj_cmp (fun x y => decide (¬ x = y)) 125 109) := ms_icmp_ne (mi_dec ib_90 dd_90_106) (by decide)
theorem ks_90_109 : mi_snd cs_G cs_cl cs_inf 90 109 (mj_aload 0 110) := ms_aload_n (mi_dec ib_90 dd_90_109) rfl
theorem ks_90_110 : mi_snd cs_G cs_cl cs_inf 90 110 (mj_aload 0 111) := ms_aload_n (mi_dec ib_90 dd_90_110) rfl
theorem ks_90_111 : mi_snd cs_G cs_cl cs_inf 90 111 (mj_callV 9 91 0 1 114) := ms_callV iw_c91 (mi_dec ib_90 dd_90_111) gw_723 iw_i91 rfl iw_v91 iw_n91 (by decide +kernel) rfl (by decide)
theorem ks_90_114 : mi_snd cs_G cs_cl cs_inf 90 114 (mj_iload 4 116) := ms_iload (mi_dec ib_90 dd_90_114)
theorem ks_90_116 : mi_snd cs_G cs_cl cs_inf 90 116 (mj_push (.inl (-1)) 117) := ms_iconst (mi_dec ib_90 dd_90_116) (by decide)
theorem ks_90_117 : mi_snd cs_G cs_cl cs_inf 90 117 (mj_bin (fun x y => x ^^^ y) 118) := ms_ixor (mi_dec ib_90 dd_90_117)
theorem ks_90_118 : mi_snd cs_G cs_cl cs_inf 90 118 (mj_bin (fun x y => x &&& y) 119) := ms_iand (mi_dec ib_90 dd_90_118)
theorem ks_90_119 : mi_snd cs_G cs_cl cs_inf 90 119 (mj_callV 9 96 1 3 122) := ms_callV iw_c96 (mi_dec ib_90 dd_90_119) gw_742 iw_i96 rfl iw_v96 iw_n96 (by decide +kernel) rfl (by decide)
theorem ks_90_122 : mi_snd cs_G cs_cl cs_inf 90 122 (mj_goto 134) := ms_goto (mi_dec ib_90 dd_90_122) (by decide)
theorem ks_90_125 : mi_snd cs_G cs_cl cs_inf 90 125 (mj_aload 0 126) := ms_aload_n (mi_dec ib_90 dd_90_125) rfl
theorem ks_90_126 : mi_snd cs_G cs_cl cs_inf 90 126 (mj_iload 4 128) := ms_iload (mi_dec ib_90 dd_90_126)
theorem ks_90_128 : mi_snd cs_G cs_cl cs_inf 90 128 (mj_iload 1 129) := ms_iload_n (mi_dec ib_90 dd_90_128) rfl
theorem ks_90_129 : mi_snd cs_G cs_cl cs_inf 90 129 (mj_push (.inl 3) 130) := ms_iconst (mi_dec ib_90 dd_90_129) (by decide)
theorem ks_90_130 : mi_snd cs_G cs_cl cs_inf 90 130 (mj_bin (fun x y => x - y) 131) := ms_isub (mi_dec ib_90 dd_90_130)
theorem ks_90_131 : mi_snd cs_G cs_cl cs_inf 90 131 (mj_callV 9 97 2 4 134) := ms_callV iw_c97 (mi_dec ib_90 dd_90_131) gw_746 iw_i97 rfl iw_v97 iw_n97 (by decide +kernel) rfl (by decide)
theorem ks_90_134 : mi_snd cs_G cs_cl cs_inf 90 134 (mj_istore 6 136) := ms_istore (mi_dec ib_90 dd_90_134)
theorem ks_90_136 : mi_snd cs_G cs_cl cs_inf 90 136 (mj_iload 6 138) := ms_iload (mi_dec ib_90 dd_90_136)
theorem ks_90_138 : mi_snd cs_G cs_cl cs_inf 90 138 (mj_if (fun x => decide (x = 0)) 147 141) := ms_if_eq (mi_dec ib_90 dd_90_138) (by decide)
theorem ks_90_141 : mi_snd cs_G cs_cl cs_inf 90 141 (mj_iload 4 143) := ms_iload (mi_dec ib_90 dd_90_141)
theorem ks_90_143 : mi_snd cs_G cs_cl cs_inf 90 143 (mj_istore 2 144) := ms_istore_n (mi_dec ib_90 dd_90_143) rfl
theorem ks_90_144 : mi_snd cs_G cs_cl cs_inf 90 144 (mj_iload 5 146) := ms_iload (mi_dec ib_90 dd_90_144)
theorem ks_90_146 : mi_snd cs_G cs_cl cs_inf 90 146 (mj_istore 3 147) := ms_istore_n (mi_dec ib_90 dd_90_146) rfl
theorem ks_90_147 : mi_snd cs_G cs_cl cs_inf 90 147 (mj_iinc 4 1 150) := ms_iinc (mi_dec ib_90 dd_90_147) (by decide)
theorem ks_90_150 : mi_snd cs_G cs_cl cs_inf 90 150 (mj_goto 7) := ms_goto (mi_dec ib_90 dd_90_150) (by decide)
theorem ks_90_153 : mi_snd cs_G cs_cl cs_inf 90 153 (mj_iload 2 154) := ms_iload_n (mi_dec ib_90 dd_90_153) rfl
theorem ks_90_154 : mi_snd cs_G cs_cl cs_inf 90 154 (mj_iret) := ms_iret (mi_dec ib_90 dd_90_154) rfl
def ct_90 : List (Nat × mi_I) := [
  (0, mj_push (.inl (-1)) 1),
  (1, mj_istore 2 2),
  (2, mj_push (.inl (-1)) 3),
  (3, mj_istore 3 4),
  (4, mj_push (.inl 0) 5),
  (5, mj_istore 4 7),
  (7, mj_iload 4 9),
  (9, mj_aload 0 10),
  (10, mj_callV 9 91 0 1 13),
  (13, mj_cmp (fun x y => decide (y < x)) 153 16),
  (16, mj_iload 1 17),
  (17, mj_push (.inl 1) 18),
  (18, mj_cmp (fun x y => decide (¬ x = y)) 30 21),
  (21, mj_aload 0 22),
  (22, mj_iload 4 24),
  (24, mj_callV 9 92 1 4 27),
  (27, mj_goto 53),
  (30, mj_iload 1 31),
  (31, mj_push (.inl 3) 32),
  (32, mj_cmp (fun x y => decide (¬ x = y)) 48 35),
  (35, mj_aload 0 36),
  (36, mj_get 9 1 39),
  (39, mj_iload 4 41),
  (41, mj_callS 20 1 1 44),
  (44, mj_bin (fun x y => x - y) 45),
  (45, mj_goto 53),
  (48, mj_iload 4 50),
  (50, mj_callS 20 1 1 53),
  (53, mj_istore 5 55),
  (55, mj_iload 5 57),
  (57, mj_iload 3 58),
  (58, mj_cmp (fun x y => decide (y < x)) 76 61),
  (61, mj_iload 5 63),
  (63, mj_iload 3 64),
  (64, mj_cmp (fun x y => decide (¬ x = y)) 147 67),
  (67, mj_iload 4 69),
  (69, mj_iload 2 70),
  (70, mj_callS 94 2 3 73),
  (73, mj_if (fun x => decide (x = 0)) 147 76),
  (76, mj_iload 1 77),
  (77, mj_push (.inl 1) 78),
  (78, mj_cmp (fun x y => decide (y < x)) 90 81),
  (81, mj_aload 0 82),
  (82, mj_iload 4 84),
  (84, mj_callV 9 95 1 3 87),
  (87, mj_goto 134),
  (90, mj_iload 1 91),
  (91, mj_push (.inl 2) 92),
  (92, mj_cmp (fun x y => decide (¬ x = y)) 104 95),
  (95, mj_aload 0 96),
  (96, mj_iload 4 98),
  (98, mj_callV 9 96 1 3 101),
  (101, mj_goto 134),
  (104, mj_iload 1 105),
  (105, mj_push (.inl 3) 106),
  (106, mj_cmp (fun x y => decide (¬ x = y)) 125 109),
  (109, mj_aload 0 110),
  (110, mj_aload 0 111),
  (111, mj_callV 9 91 0 1 114),
  (114, mj_iload 4 116),
  (116, mj_push (.inl (-1)) 117),
  (117, mj_bin (fun x y => x ^^^ y) 118),
  (118, mj_bin (fun x y => x &&& y) 119),
  (119, mj_callV 9 96 1 3 122),
  (122, mj_goto 134),
  (125, mj_aload 0 126),
  (126, mj_iload 4 128),
  (128, mj_iload 1 129),
  (129, mj_push (.inl 3) 130),
  (130, mj_bin (fun x y => x - y) 131),
  (131, mj_callV 9 97 2 4 134),
  (134, mj_istore 6 136),
  (136, mj_iload 6 138),
  (138, mj_if (fun x => decide (x = 0)) 147 141),
  (141, mj_iload 4 143),
  (143, mj_istore 2 144),
  (144, mj_iload 5 146),
  (146, mj_istore 3 147),
  (147, mj_iinc 4 1 150),
  (150, mj_goto 7),
  (153, mj_iload 2 154),
  (154, mj_iret)]
theorem sd_90 : ∀ q ∈ ct_90, mi_snd cs_G cs_cl cs_inf 90 q.1 q.2 := mi_fc ks_90_0 (mi_fc ks_90_1 (mi_fc ks_90_2 (mi_fc ks_90_3 (mi_fc ks_90_4 (mi_fc ks_90_5 (mi_fc ks_90_7 (mi_fc ks_90_9 (mi_fc ks_90_10 (mi_fc ks_90_13 (mi_fc ks_90_16 (mi_fc ks_90_17 (mi_fc ks_90_18 (mi_fc ks_90_21 (mi_fc ks_90_22 (mi_fc ks_90_24 (mi_fc ks_90_27 (mi_fc ks_90_30 (mi_fc ks_90_31 (mi_fc ks_90_32 (mi_fc ks_90_35 (mi_fc ks_90_36 (mi_fc ks_90_39 (mi_fc ks_90_41 (mi_fc ks_90_44 (mi_fc ks_90_45 (mi_fc ks_90_48 (mi_fc ks_90_50 (mi_fc ks_90_53 (mi_fc ks_90_55 (mi_fc ks_90_57 (mi_fc ks_90_58 (mi_fc ks_90_61 (mi_fc ks_90_63 (mi_fc ks_90_64 (mi_fc ks_90_67 (mi_fc ks_90_69 (mi_fc ks_90_70 (mi_fc ks_90_73 (mi_fc ks_90_76 (mi_fc ks_90_77 (mi_fc ks_90_78 (mi_fc ks_90_81 (mi_fc ks_90_82 (mi_fc ks_90_84 (mi_fc ks_90_87 (mi_fc ks_90_90 (mi_fc ks_90_91 (mi_fc ks_90_92 (mi_fc ks_90_95 (mi_fc ks_90_96 (mi_fc ks_90_98 (mi_fc ks_90_101 (mi_fc ks_90_104 (mi_fc ks_90_105 (mi_fc ks_90_106 (mi_fc ks_90_109 (mi_fc ks_90_110 (mi_fc ks_90_111 (mi_fc ks_90_114 (mi_fc ks_90_116 (mi_fc ks_90_117 (mi_fc ks_90_118 (mi_fc ks_90_119 (mi_fc ks_90_122 (mi_fc ks_90_125 (mi_fc ks_90_126 (mi_fc ks_90_128 (mi_fc ks_90_129 (mi_fc ks_90_130 (mi_fc ks_90_131 (mi_fc ks_90_134 (mi_fc ks_90_136 (mi_fc ks_90_138 (mi_fc ks_90_141 (mi_fc ks_90_143 (mi_fc ks_90_144 (mi_fc ks_90_146 (mi_fc ks_90_147 (mi_fc ks_90_150 (mi_fc ks_90_153 (mi_fc ks_90_154 mi_fn)))))))))))))))))))))))))))))))))))))))))))))))))))))))))))))))))))))))))))))))))
theorem dd_91_0 : decode prog_11_method_5_code 0 = .ok (.iconst 1, 1) := by decide +kernel
theorem dd_91_1 : decode prog_11_method_5_code 1 = .ok (.aload_n 0, 1) := by decide +kernel
theorem dd_91_2 : decode prog_11_method_5_code 2 = .ok (.getfield 37, 3) := by decide +kernel
theorem dd_91_5 : decode prog_11_method_5_code 5 = .ok (.ishl, 1) := by decide +kernel
theorem dd_91_6 : decode prog_11_method_5_code 6 = .ok (.iconst 1, 1) := by decide +kernel
theorem dd_91_7 : decode prog_11_method_5_code 7 = .ok (.isub, 1) := by decide +kernel
theorem dd_91_8 : decode prog_11_method_5_code 8 = .ok (.ireturn, 1) := by decide +kernel
theorem ks_91_0 : mi_snd cs_G cs_cl cs_inf 91 0 (mj_push (.inl 1) 1) := ms_iconst (mi_dec ib_91 dd_91_0) (by decide)
theorem ks_91_1 : mi_snd cs_G cs_cl cs_inf 91 1 (mj_aload 0 2) := ms_aload_n (mi_dec ib_91 dd_91_1) rfl
theorem ks_91_2 : mi_snd cs_G cs_cl cs_inf 91 2 (mj_get 9 1 5) := ms_get (T := cs_T9) (k := 1) (mi_dec ib_91 dd_91_2) rfl cs_in9 (by decide) gw_637
theorem ks_91_5 : mi_snd cs_G cs_cl cs_inf 91 5 (mj_bin (fun x y => x <<< (y &&& 31)) 6) := ms_ishl (mi_dec ib_91 dd_91_5)
theorem ks_91_6 : mi_snd cs_G cs_cl cs_inf 91 6 (mj_push (.inl 1) 7) := ms_iconst (mi_dec ib_91 dd_91_6) (by decide)
theorem ks_91_7 : mi_snd cs_G cs_cl cs_inf 91 7 (mj_bin (fun x y => x - y) 8) := ms_isub (mi_dec ib_91 dd_91_7)
theorem ks_91_8 : mi_snd cs_G cs_cl cs_inf 91 8 (mj_iret) := ms_iret (mi_dec ib_91 dd_91_8) rfl
def ct_91 : List (Nat × mi_I) := [
  (0, mj_push (.inl 1) 1),
  (1, mj_aload 0 2),
  (2, mj_get 9 1 5),
  (5, mj_bin (fun x y => x <<< (y &&& 31)) 6),
  (6, mj_push (.inl 1) 7),
  (7, mj_bin (fun x y => x - y) 8),
  (8, mj_iret)]
theorem sd_91 : ∀ q ∈ ct_91, mi_snd cs_G cs_cl cs_inf 91 q.1 q.2 := mi_fc ks_91_0 (mi_fc ks_91_1 (mi_fc ks_91_2 (mi_fc ks_91_5 (mi_fc ks_91_6 (mi_fc ks_91_7 (mi_fc ks_91_8 mi_fn))))))
theorem dd_92_0 : decode prog_11_method_15_code 0 = .ok (.iconst 0, 1) := by decide +kernel
theorem dd_92_1 : decode prog_11_method_15_code 1 = .ok (.istore_n 2, 1) := by decide +kernel
theorem dd_92_2 : decode prog_11_method_15_code 2 = .ok (.iconst 0, 1) := by decide +kernel
theorem dd_92_3 : decode prog_11_method_15_code 3 = .ok (.istore_n 3, 1) := by decide +kernel
theorem dd_92_4 : decode prog_11_method_15_code 4 = .ok (.iload_n 3, 1) := by decide +kernel
theorem dd_92_5 : decode prog_11_method_15_code 5 = .ok (.aload_n 0, 1) := by decide +kernel
theorem dd_92_6 : decode prog_11_method_15_code 6 = .ok (.getfield 37, 3) := by decide +kernel
theorem dd_92_9 : decode prog_11_method_15_code 9 = .ok (.if_icmp .ge 30, 3) := by decide +kernel
theorem dd_92_12 : decode prog_11_method_15_code 12 = .ok (.iload_n 1, 1) := by decide +kernel
theorem dd_92_13 : decode prog_11_method_15_code 13 = .ok (.iload_n 3, 1) := by decide +kernel
theorem dd_92_14 : decode prog_11_method_15_code 14 = .ok (.invokestatic 48, 3) := by decide +kernel
theorem dd_92_17 : decode prog_11_method_15_code 17 = .ok (.ifCond .eq 14, 3) := by decide +kernel
theorem dd_92_20 : decode prog_11_method_15_code 20 = .ok (.iload_n 2, 1) := by decide +kernel
theorem dd_92_21 : decode prog_11_method_15_code 21 = .ok (.aload_n 0, 1) := by decide +kernel
theorem dd_92_22 : decode prog_11_method_15_code 22 = .ok (.getfield 13, 3) := by decide +kernel
theorem dd_92_25 : decode prog_11_method_15_code 25 = .ok (.iload_n 3, 1) := by decide +kernel
theorem dd_92_26 : decode prog_11_method_15_code 26 = .ok (.iaload, 1) := by decide +kernel
theorem dd_92_27 : decode prog_11_method_15_code 27 = .ok (.iadd, 1) := by decide +kernel
theorem dd_92_28 : decode prog_11_method_15_code 28 = .ok (.goto 4, 3) := by decide +kernel
theorem dd_92_31 : decode prog_11_method_15_code 31 = .ok (.iload_n 2, 1) := by decide +kernel
theorem dd_92_32 : decode prog_11_method_15_code 32 = .ok (.istore_n 2, 1) := by decide +kernel
theorem dd_92_33 : decode prog_11_method_15_code 33 = .ok (.iinc 3 1, 3) := by decide +kernel
theorem dd_92_36 : decode prog_11_method_15_code 36 = .ok (.goto (-32), 3) := by decide +kernel
theorem dd_92_39 : decode prog_11_method_15_code 39 = .ok (.iload_n 2, 1) := by decide +kernel
theorem dd_92_40 : decode prog_11_method_15_code 40 = .ok (.ireturn, 1) := by decide +kernel
theorem ks_92_0 : mi_snd cs_G cs_cl cs_inf 92 0 (mj_push (.inl 0) 1) := ms_iconst (mi_dec ib_92 dd_92_0) (by decide)
theorem ks_92_1 : mi_snd cs_G cs_cl cs_inf 92 1 (mj_istore 2 2) := ms_istore_n (mi_dec ib_92 dd_92_1) rfl
theorem ks_92_2 : mi_snd cs_G cs_cl cs_inf 92 2 (mj_push (.inl 0) 3) := ms_iconst (mi_dec ib_92 dd_92_2) (by decide)
theorem ks_92_3 : mi_snd cs_G cs_cl cs_inf 92 3 (mj_istore 3 4) := ms_istore_n (mi_dec ib_92 dd_92_3) rfl
theorem ks_92_4 : mi_snd cs_G cs_cl cs_inf 92 4 (mj_iload 3 5) := ms_iload_n (mi_dec ib_92 dd_92_4) rfl
theorem ks_92_5 : mi_snd cs_G cs_cl cs_inf 92 5 (mj_aload 0 6) := ms_aload_n (mi_dec ib_92 dd_92_5) rfl
theorem ks_92_6 : mi_snd cs_G cs_cl cs_inf 92 6 (mj_get 9 1 9) := ms_get (T := cs_T9) (k := 1) (mi_dec ib_92 dd_92_6) rfl cs_in9 (by decide) gw_637
theorem ks_92_9 : mi_snd cs_G cs_cl cs_inf 92 9 (mj_cmp (fun x y => decide (y ≤ x)) 39 12) := ms_icmp_ge (mi_dec ib_92 dd_92_9) (by decide)
theorem ks_92_12 : mi_snd cs_G cs_cl cs_inf 92 12 (mj_iload 1 13) := ms_iload_n (mi_dec ib_92 dd_92_12) rfl
theorem ks_92_13 : mi_snd cs_G cs_cl cs_inf 92 13 (mj_iload 3 14) := ms_iload_n (mi_dec ib_92 dd_92_13) rfl
theorem ks_92_14 : mi_snd cs_G cs_cl cs_inf 92 14 (mj_callS 93 2 2 17) := ms_callS iw_c93 (mi_dec ib_92 dd_92_14) gw_731 iw_s93 iw_n93 (by decide +kernel) rfl (by decide)
theorem ks_92_17 : mi_snd cs_G cs_cl cs_inf 92 17 (mj_if (fun x => decide (x = 0)) 31 20) := ms_if_eq (mi_dec ib_92 dd_92_17) (by decide)
theorem ks_92_20 : mi_snd cs_G cs_cl cs_inf 92 20 (mj_iload 2 21) := ms_iload_n (mi_dec ib_92 dd_92_20) rfl
theorem ks_92_21 : mi_snd cs_G cs_cl cs_inf 92 21 (mj_aload 0 22) := ms_aload_n (mi_dec ib_92 dd_92_21) rfl
theorem ks_92_22 : mi_snd cs_G cs_cl cs_inf 92 22 (mj_get 9 2 25) := ms_get (T := cs_T9) (k := 2) (mi_dec ib_92 dd_92_22) rfl cs_in9 (by decide) gw_638
theorem ks_92_25 : mi_snd cs_G cs_cl cs_inf 92 25 (mj_iload 3 26) := ms_iload_n (mi_dec ib_92 dd_92_25) rfl
theorem ks_92_26 : mi_snd cs_G cs_cl cs_inf 92 26 (mj_ald 0 27) := ms_ald0 (mi_dec ib_92 dd_92_26)
theorem ks_92_27 : mi_snd cs_G cs_cl cs_inf 92 27 (mj_bin (fun x y => x + y) 28) := ms_iadd (mi_dec ib_92 dd_92_27)
theorem ks_92_28 : mi_snd cs_G cs_cl cs_inf 92 28 (mj_goto 32) := ms_goto (mi_dec ib_92 dd_92_28) (by decide)
theorem ks_92_31 : mi_snd cs_G cs_cl cs_inf 92 31 (mj_iload 2 32) := ms_iload_n (mi_dec ib_92 dd_92_31) rfl
theorem ks_92_32 : mi_snd cs_G cs_cl cs_inf 92 32 (mj_istore 2 33) := ms_istore_n (mi_dec ib_92 dd_92_32) rfl
theorem ks_92_33 : mi_snd cs_G cs_cl cs_inf 92 33 (mj_iinc 3 1 36) := ms_iinc (mi_dec ib_92 dd_92_33) (by decide)
theorem ks_92_36 : mi_snd cs_G cs_cl cs_inf 92 36 (mj_goto 4) := ms_goto (mi_dec ib_92 dd_92_36) (by decide)
theorem ks_92_39 : mi_snd cs_G cs_cl cs_inf 92 39 (mj_iload 2 40) := ms_iload_n (mi_dec ib_92 dd_92_39) rfl
theorem ks_92_40 : mi_snd cs_G cs_cl cs_inf 92 40 (mj_iret) := ms_iret (mi_dec ib_92 dd_92_40) rfl
def ct_92 : List (Nat × mi_I) := [
  (0, mj_push (.inl 0) 1),
  (1, mj_istore 2 2),
  (2, mj_push (.inl 0) 3),
  (3, mj_istore 3 4),
  (4, mj_iload 3 5),
  (5, mj_aload 0 6),
  (6, mj_get 9 1 9),
  (9, mj_cmp (fun x y => decide (y ≤ x)) 39 12),
  (12, mj_iload 1 13),
  (13, mj_iload 3 14),
  (14, mj_callS 93 2 2 17),
  (17, mj_if (fun x => decide (x = 0)) 31 20),
  (20, mj_iload 2 21),
  (21, mj_aload 0 22),
  (22, mj_get 9 2 25),
  (25, mj_iload 3 26),
  (26, mj_ald 0 27),
  (27, mj_bin (fun x y => x + y) 28),
  (28, mj_goto 32),
  (31, mj_iload 2 32),
  (32, mj_istore 2 33),
  (33, mj_iinc 3 1 36),
  (36, mj_goto 4),
  (39, mj_iload 2 40),
  (40, mj_iret)]
theorem sd_92 : ∀ q ∈ ct_92, mi_snd cs_G cs_cl cs_inf 92 q.1 q.2 := mi_fc ks_92_0 (mi_fc ks_92_1 (mi_fc ks_92_2 (mi_fc ks_92_3 (mi_fc ks_92_4 (mi_fc ks_92_5 (mi_fc ks_92_6 (mi_fc ks_92_9 (mi_fc ks_92_12 (mi_fc ks_92_13 (mi_fc ks_92_14 (mi_fc ks_92_17 (mi_fc ks_92_20 (mi_fc ks_92_21 (mi_fc ks_92_22 (mi_fc ks_92_25 (mi_fc ks_92_26 (mi_fc ks_92_27 (mi_fc ks_92_28 (mi_fc ks_92_31 (mi_fc ks_92_32 (mi_fc ks_92_33 (mi_fc ks_92_36 (mi_fc ks_92_39 (mi_fc ks_92_40 mi_fn))))))))))))))))))))))))
theorem dd_93_0 : decode prog_11_method_6_code 0 = .ok (.iload_n 0, 1) := by decide +kernel
theorem dd_93_1 : decode prog_11_method_6_code 1 = .ok (.iload_n 1, 1) := by decide +kernel
theorem dd_93_2 : decode prog_11_method_6_code 2 = .ok (.ishr, 1) := by decide +kernel
theorem dd_93_3 : decode prog_11_method_6_code 3 = .ok (.iconst 1, 1) := by decide +kernel
theorem dd_93_4 : decode prog_11_method_6_code 4 = .ok (.iand, 1) := by decide +kernel
theorem dd_93_5 : decode prog_11_method_6_code 5 = .ok (.iconst 1, 1) := by decide +kernel
theorem dd_93_6 : decode prog_11_method_6_code 6 = .ok (.if_icmp .ne 7, 3) := by decide +kernel
theorem dd_93_9 : decode prog_11_method_6_code 9 = .ok (.iconst 1, 1) := by decide +kernel
theorem dd_93_10 : decode prog_11_method_6_code 10 = .ok (.goto 4, 3) := by decide +kernel
theorem dd_93_13 : decode prog_11_method_6_code 13 = .ok (.iconst 0, 1) := by decide +kernel
theorem dd_93_14 : decode prog_11_method_6_code 14 = .ok (.ireturn, 1) := by decide +kernel
theorem ks_93_0 : mi_snd cs_G cs_cl cs_inf 93 0 (mj_iload 0 1) := ms_iload_n (mi_dec ib_93 dd_93_0) rfl
theorem ks_93_1 : mi_snd cs_G cs_cl cs_inf 93 1 (mj_iload 1 2) := ms_iload_n (mi_dec ib_93 dd_93_1) rfl
theorem ks_93_2 : mi_snd cs_G cs_cl cs_inf 93 2 (mj_bin (fun x y => x >>> (y &&& 31)) 3) := ms_ishr (mi_dec ib_93 dd_93_2)
theorem ks_93_3 : mi_snd cs_G cs_cl cs_inf 93 3 (mj_push (.inl 1) 4) := ms_iconst (mi_dec ib_93 dd_93_3) (by decide)
theorem ks_93_4 : mi_snd cs_G cs_cl cs_inf 93 4 (mj_bin (fun x y => x &&& y) 5) := ms_iand (mi_dec ib_93 dd_93_4)
theorem ks_93_5 : mi_snd cs_G cs_cl cs_inf 93 5 (mj_push (.inl 1) 6) := ms_iconst (mi_dec ib_93 dd_93_5) (by decide)
theorem ks_93_6 : mi_snd cs_G cs_cl cs_inf 93 6 (mj_cmp (fun x y => decide (¬ x = y)) 13 9) := ms_icmp_ne (mi_dec ib_93 dd_93_6) (by decide)
theorem ks_93_9 : mi_snd cs_G cs_cl cs_inf 93 9 (mj_push (.inl 1) 10) := ms_iconst (mi_dec ib_93 dd_93_9) (by decide)
theorem ks_93_10 : mi_snd cs_G cs_cl cs_inf 93 10 (mj_goto 14) := ms_goto (mi_dec ib_93 dd_93_10) (by decide)
theorem ks_93_13 : mi_snd cs_G cs_cl cs_inf 93 13 (mj_push (.inl 0) 14) := ms_iconst (mi_dec ib_93 dd_93_13) (by decide)
theorem ks_93_14 : mi_snd cs_G cs_cl cs_inf 93 14 (mj_zret) := ms_zret (mi_dec ib_93 dd_93_14) rfl
def ct_93 : List (Nat × mi_I) := [
  (0, mj_iload 0 1),
  (1, mj_iload 1 2),
  (2, mj_bin (fun x y => x >>> (y &&& 31)) 3),
  (3, mj_push (.inl 1) 4),
  (4, mj_bin (fun x y => x &&& y) 5),
  (5, mj_push (.inl 1) 6),
  (6, mj_cmp (fun x y => decide (¬ x = y)) 13 9),
  (9, mj_push (.inl 1) 10),
  (10, mj_goto 14),
  (13, mj_push (.inl 0) 14),
  (14, mj_zret)]
theorem sd_93 : ∀ q ∈ ct_93, mi_snd cs_G cs_cl cs_inf 93 q.1 q.2 := mi_fc ks_93_0 (mi_fc ks_93_1 (mi_fc ks_93_2 (mi_fc ks_93_3 (mi_fc ks_93_4 (mi_fc ks_93_5 (mi_fc ks_93_6 (mi_fc ks_93_9 (mi_fc ks_93_10 (mi_fc ks_93_13 (mi_fc ks_93_14 mi_fn))))))))))
theorem dd_94_0 : decode prog_11_method_11_code 0 = .ok (.iconst 0, 1) := by decide +kernel
theorem dd_94_1 : decode prog_11_method_11_code 1 = .ok (.istore_n 2, 1) := by decide +kernel
theorem dd_94_2 : decode prog_11_method_11_code 2 = .ok (.iload_n 2, 1) := by decide +kernel
theorem dd_94_3 : decode prog_11_method_11_code 3 = .ok (.bipush 16, 2) := by decide +kernel
theorem dd_94_5 : decode prog_11_method_11_code 5 = .ok (.if_icmp .ge 22, 3) := by decide +kernel
theorem dd_94_8 : decode prog_11_method_11_code 8 = .ok (.iload_n 0, 1) := by decide +kernel
theorem dd_94_9 : decode prog_11_method_11_code 9 = .ok (.iload_n 2, 1) := by decide +kernel
theorem dd_94_10 : decode prog_11_method_11_code 10 = .ok (.invokestatic 48, 3) := by decide +kernel
theorem dd_94_13 : decode prog_11_method_11_code 13 = .ok (.iload_n 1, 1) := by decide +kernel
theorem dd_94_14 : decode prog_11_method_11_code 14 = .ok (.iload_n 2, 1) := by decide +kernel
theorem dd_94_15 : decode prog_11_method_11_code 15 = .ok (.invokestatic 48, 3) := by decide +kernel
theorem dd_94_18 : decode prog_11_method_11_code 18 = .ok (.if_icmp .ne 9, 3) := by decide +kernel
theorem dd_94_21 : decode prog_11_method_11_code 21 = .ok (.iinc 2 1, 3) := by decide +kernel
theorem dd_94_24 : decode prog_11_method_11_code 24 = .ok (.goto (-22), 3) := by decide +kernel
theorem dd_94_27 : decode prog_11_method_11_code 27 = .ok (.iload_n 2, 1) := by decide +kernel
theorem dd_94_28 : decode prog_11_method_11_code 28 = .ok (.bipush 16, 2) := by decide +kernel
theorem dd_94_30 : decode prog_11_method_11_code 30 = .ok (.if_icmp .ne 5, 3) := by decide +kernel
theorem dd_94_33 : decode prog_11_method_11_code 33 = .ok (.iconst 0, 1) := by decide +kernel
theorem dd_94_34 : decode prog_11_method_11_code 34 = .ok (.ireturn, 1) := by decide +kernel
theorem dd_94_35 : decode prog_11_method_11_code 35 = .ok (.iload_n 0, 1) := by decide +kernel
theorem dd_94_36 : decode prog_11_method_11_code 36 = .ok (.iload_n 2, 1) := by decide +kernel
theorem dd_94_37 : decode prog_11_method_11_code 37 = .ok (.invokestatic 48, 3) := by decide +kernel
theorem dd_94_40 : decode prog_11_method_11_code 40 = .ok (.ifCond .eq 17, 3) := by decide +kernel
theorem dd_94_43 : decode prog_11_method_11_code 43 = .ok (.iload_n 1, 1) := by decide +kernel
theorem dd_94_44 : decode prog_11_method_11_code 44 = .ok (.iload_n 2, 1) := by decide +kernel
theorem dd_94_45 : decode prog_11_method_11_code 45 = .ok (.ishr, 1) := by decide +kernel
theorem dd_94_46 : decode prog_11_method_11_code 46 = .ok (.ifCond .eq 7, 3) := by decide +kernel
theorem dd_94_49 : decode prog_11_method_11_code 49 = .ok (.iconst 1, 1) := by decide +kernel
theorem dd_94_50 : decode prog_11_method_11_code 50 = .ok (.goto 18, 3) := by decide +kernel
theorem dd_94_53 : decode prog_11_method_11_code 53 = .ok (.iconst 0, 1) := by decide +kernel
theorem dd_94_54 : decode prog_11_method_11_code 54 = .ok (.goto 14, 3) := by decide +kernel
theorem dd_94_57 : decode prog_11_method_11_code 57 = .ok (.iload_n 0, 1) := by decide +kernel
theorem dd_94_58 : decode prog_11_method_11_code 58 = .ok (.iload_n 2, 1) := by decide +kernel
theorem dd_94_59 : decode prog_11_method_11_code 59 = .ok (.ishr, 1) := by decide +kernel
theorem dd_94_60 : decode prog_11_method_11_code 60 = .ok (.ifCond .ne 7, 3) := by decide +kernel
theorem dd_94_63 : decode prog_11_method_11_code 63 = .ok (.iconst 1, 1) := by decide +kernel
theorem dd_94_64 : decode prog_11_method_11_code 64 = .ok (.goto 4, 3) := by decide +kernel
theorem dd_94_67 : decode prog_11_method_11_code 67 = .ok (.iconst 0, 1) := by decide +kernel
theorem dd_94_68 : decode prog_11_method_11_code 68 = .ok (.ireturn, 1) := by decide +kernel
theorem ks_94_0 : mi_snd cs_G cs_cl cs_inf 94 0 (mj_push (.inl 0) 1) := ms_iconst (mi_dec ib_94 dd_94_0) (by decide)
theorem ks_94_1 : mi_snd cs_G cs_cl cs_inf 94 1 (mj_istore 2 2) := ms_istore_n (mi_dec ib_94 dd_94_1) rfl
theorem ks_94_2 : mi_snd cs_G cs_cl cs_inf 94 2 (mj_iload 2 3) := ms_iload_n (mi_dec ib_94 dd_94_2) rfl
theorem ks_94_3 : mi_snd cs_G cs_cl cs_inf 94 3 (mj_push (.inl 16) 5) := ms_bipush (mi_dec ib_94 dd_94_3) (by decide)
theorem ks_94_5 : mi_snd cs_G cs_cl cs_inf 94 5 (mj_cmp (fun x y => decide (y ≤ x)) 27 8) := ms_icmp_ge (mi_dec ib_94 dd_94_5) (by decide)
theorem ks_94_8 : mi_snd cs_G cs_cl cs_inf 94 8 (mj_iload 0 9) := ms_iload_n (mi_dec ib_94 dd_94_8) rfl
theorem ks_94_9 : mi_snd cs_G cs_cl cs_inf 94 9 (mj_iload 2 10) := ms_iload_n (mi_dec ib_94 dd_94_9) rfl
theorem ks_94_10 : mi_snd cs_G cs_cl cs_inf 94 10 (mj_callS 93 2 2 13) := ms_callS iw_c93 (mi_dec ib_94 dd_94_10) gw_731 iw_s93 iw_n93 (by decide +kernel) rfl (by decide)
theorem ks_94_13 : mi_snd cs_G cs_cl cs_inf 94 13 (mj_iload 1 14) := ms_iload_n (mi_dec ib_94 dd_94_13) rfl
theorem ks_94_14 : mi_snd cs_G cs_cl cs_inf 94 14 (mj_iload 2 15) := ms_iload_n (mi_dec ib_94 dd_94_14) rfl
theorem ks_94_15 : mi_snd cs_G cs_cl cs_inf 94 15 (mj_callS 93 2 2 18) := ms_callS iw_c93 (mi_dec ib_94 dd_94_15) gw_731 iw_s93 iw_n93 (by decide +kernel) rfl (by decide)
theorem ks_94_18 : mi_snd cs_G cs_cl cs_inf 94 18 (mj_cmp (fun x y => decide (¬ x = y)) 27 21) := ms_icmp_ne (mi_dec ib_94 dd_94_18) (by decide)
theorem ks_94_21 : mi_snd cs_G cs_cl cs_inf 94 21 (mj_iinc 2 1 24) := ms_iinc (mi_dec ib_94 dd_94_21) (by decide)
theorem ks_94_24 : mi_snd cs_G cs_cl cs_inf 94 24 (mj_goto 2) := ms_goto (mi_dec ib_94 dd_94_24) (by decide)
theorem ks_94_27 : mi_snd cs_G cs_cl cs_inf 94 27 (mj_iload 2 28) := ms_iload_n (mi_dec ib_94 dd_94_27) rfl
theorem ks_94_28 : mi_snd cs_G cs_cl cs_inf 94 28 (mj_push (.inl 16) 30) := ms_bipush (mi_dec ib_94 dd_94_28) (by decide)
theorem ks_94_30 : mi_snd cs_G cs_cl cs_inf 94 30 (mj_cmp (fun x y => decide (¬ x = y)) 35 33) := ms_icmp_ne (mi_dec ib_94 dd_94_30) (by decide)
theorem ks_94_33 : mi_snd cs_G cs_cl cs_inf 94 33 (mj_push (.inl 0) 34) := ms_iconst (mi_dec ib_94 dd_94_33) (by decide)
theorem ks_94_34 : mi_snd cs_G cs_cl cs_inf 94 34 (mj_zret) := ms_zret (mi_dec ib_94 dd_94_34) rfl
theorem ks_94_35 : mi_snd cs_G cs_cl cs_inf 94 35 (mj_iload 0 36) := ms_iload_n (mi_dec ib_94 dd_94_35) rfl
theorem ks_94_36 : mi_snd cs_G cs_cl cs_inf 94 36 (mj_iload 2 37) := ms_iload_n (mi_dec ib_94 dd_94_36) rfl
theorem ks_94_37 : mi_snd cs_G cs_cl cs_inf 94 37 (mj_callS 93 2 2 40) := ms_callS iw_c93 (mi_dec ib_94 dd_94_37) gw_731 iw_s93 iw_n93 (by decide +kernel) rfl (by decide)
theorem ks_94_40 : mi_snd cs_G cs_cl cs_inf 94 40 (mj_if (fun x => decide (x = 0)) 57 43) := ms_if_eq (mi_dec ib_94 dd_94_40) (by decide)
theorem ks_94_43 : mi_snd cs_G cs_cl cs_inf 94 43 (mj_iload 1 44) := ms_iload_n (mi_dec ib_94 dd_94_43) rfl
theorem ks_94_44 : mi_snd cs_G cs_cl cs_inf 94 44 (mj_iload 2 45) := ms_iload_n (mi_dec ib_94 dd_94_44) rfl
theorem ks_94_45 : mi_snd cs_G cs_cl cs_inf 94 45 (mj_bin (fun x y => x >>> (y &&& 31)) 46) := ms_ishr (mi_dec ib_94 dd_94_45)
theorem ks_94_46 : mi_snd cs_G cs_cl cs_inf 94 46 (mj_if (fun x => decide (x = 0)) 53 49) := ms_if_eq (mi_dec ib_94 dd_94_46) (by decide)
theorem ks_94_49 : mi_snd cs_G cs_cl cs_inf 94 49 (mj_push (.inl 1) 50) := ms_iconst (mi_dec ib_94 dd_94_49) (by decide)
theorem ks_94_50 : mi_snd cs_G cs_cl cs_inf 94 50 (mj_goto 68) := ms_goto (mi_dec ib_94 dd_94_50) (by decide)
theorem ks_94_53 : mi_snd cs_G cs_cl cs_inf 94 53 (mj_push (.inl 0) 54) := ms_iconst (mi_dec ib_94 dd_94_53) (by decide)
theorem ks_94_54 : mi_snd cs_G cs_cl cs_inf 94 54 (mj_goto 68) := ms_goto (mi_dec ib_94 dd_94_54) (by decide)
theorem ks_94_57 : mi_snd cs_G cs_cl cs_inf 94 57 (mj_iload 0 58) := ms_iload_n (mi_dec ib_94 dd_94_57) rfl
theorem ks_94_58 : mi_snd cs_G cs_cl cs_inf 94 58 (mj_iload 2 59) := ms_iload_n (mi_dec ib_94 dd_94_58) rfl
theorem ks_94_59 : mi_snd cs_G cs_cl cs_inf 94 59 (mj_bin (fun x y => x >>> (y &&& 31)) 60) := ms_ishr (mi_dec ib_94 dd_94_59)
theorem ks_94_60 : mi_snd cs_G cs_cl cs_inf 94 60 (mj_if (fun x => decide (¬ x = 0)) 67 63) := ms_if_ne (mi_dec ib_94 dd_94_60) (by decide)
theorem ks_94_63 : mi_snd cs_G cs_cl cs_inf 94 63 (mj_push (.inl 1) 64) := ms_iconst (mi_dec ib_94 dd_94_63) (by decide)
theorem ks_94_64 : mi_snd cs_G cs_cl cs_inf 94 64 (mj_goto 68) := ms_goto (mi_dec ib_94 dd_94_64) (by decide)
theorem ks_94_67 : mi_snd cs_G cs_cl cs_inf 94 67 (mj_push (.inl 0) 68) := ms_iconst (mi_dec ib_94 dd_94_67) (by decide)
theorem ks_94_68 : mi_snd cs_G cs_cl cs_inf 94 68 (mj_zret) := ms_zret (mi_dec ib_94 dd_94_68) rfl
def ct_94 : List (Nat × mi_I) := [
  (0, mj_push (.inl 0) 1),
  (1, mj_istore 2 2),
  (2, mj_iload 2 3),
  (3, mj_push (.inl 16) 5),
  (5, mj_cmp (fun x y => decide (y ≤ x)) 27 8),
  (8, mj_iload 0 9),
  (9, mj_iload 2 10),
  (10, mj_callS 93 2 2 13),
  (13, mj_iload 1 14),
  (14, mj_iload 2 15),
  (15, mj_callS 93 2 2 18),
  (18, mj_cmp (fun x y => decide (¬ x = y)) 27 21),
  (21, mj_iinc 2 1 24),
  (24, mj_goto 2),
  (27, mj_iload 2 28),
  (28, mj_push (.inl 16) 30),
  (30, mj_cmp (fun x y => decide (¬ x = y)) 35 33),
  (33, mj_push (.inl 0) 34),
  (34, mj_zret),
  (35, mj_iload 0 36),
  (36, mj_iload 2 37),
  (37, mj_callS 93 2 2 40),
  (40, mj_if (fun x => decide (x = 0)) 57 43),
  (43, mj_iload 1 44),
  (44, mj_iload 2 45),
  (45, mj_bin (fun x y => x >>> (y &&& 31)) 46),
  (46, mj_if (fun x => decide (x = 0)) 53 49),
  (49, mj_push (.inl 1) 50),
  (50, mj_goto 68),
  (53, mj_push (.inl 0) 54),
  (54, mj_goto 68),
  (57, mj_iload 0 58),
  (58, mj_iload 2 59),
  (59, mj_bin (fun x y => x >>> (y &&& 31)) 60),
  (60, mj_if (fun x => decide (¬ x = 0)) 67 63),
  (63, mj_push (.inl 1) 64),
  (64, mj_goto 68),
  (67, mj_push (.inl 0) 68),
  (68, mj_zret)]
theorem sd_94 : ∀ q ∈ ct_94, mi_snd cs_G cs_cl cs_inf 94 q.1 q.2 := mi_fc ks_94_0 (mi_fc ks_94_1 (mi_fc ks_94_2 (mi_fc ks_94_3 (mi_fc ks_94_5 (mi_fc ks_94_8 (mi_fc ks_94_9 (mi_fc ks_94_10 (mi_fc ks_94_13 (mi_fc ks_94_14 (mi_fc ks_94_15 (mi_fc ks_94_18 (mi_fc ks_94_21 (mi_fc ks_94_24 (mi_fc ks_94_27 (mi_fc ks_94_28 (mi_fc ks_94_30 (mi_fc ks_94_33 (mi_fc ks_94_34 (mi_fc ks_94_35 (mi_fc ks_94_36 (mi_fc ks_94_37 (mi_fc ks_94_40 (mi_fc ks_94_43 (mi_fc ks_94_44 (mi_fc ks_94_45 (mi_fc ks_94_46 (mi_fc ks_94_49 (mi_fc ks_94_50 (mi_fc ks_94_53 (mi_fc ks_94_54 (mi_fc ks_94_57 (mi_fc ks_94_58 (mi_fc ks_94_59 (mi_fc ks_94_60 (mi_fc ks_94_63 (mi_fc ks_94_64 (mi_fc ks_94_67 (mi_fc ks_94_68 mi_fn))))))))))))))))))))))))))))))))))))))
theorem dd_95_0 : decode prog_11_method_12_code 0 = .ok (.iconst 0, 1) := by decide +kernel
theorem dd_95_1 : decode prog_11_method_12_code 1 = .ok (.istore_n 2, 1) := by decide +kernel
theorem dd_95_2 : decode prog_11_method_12_code 2 = .ok (.iload_n 2, 1) := by decide +kernel
theorem dd_95_3 : decode prog_11_method_12_code 3 = .ok (.aload_n 0, 1) := by decide +kernel
theorem dd_95_4 : decode prog_11_method_12_code 4 = .ok (.getfield 37, 3) := by decide +kernel
theorem dd_95_7 : decode prog_11_method_12_code 7 = .ok (.if_icmp .ge 35, 3) := by decide +kernel
theorem dd_95_10 : decode prog_11_method_12_code 10 = .ok (.iload_n 1, 1) := by decide +kernel
theorem dd_95_11 : decode prog_11_method_12_code 11 = .ok (.iload_n 2, 1) := by decide +kernel
theorem dd_95_12 : decode prog_11_method_12_code 12 = .ok (.invokestatic 48, 3) := by decide +kernel
theorem dd_95_15 : decode prog_11_method_12_code 15 = .ok (.ifCond .eq 21, 3) := by decide +kernel
theorem dd_95_18 : decode prog_11_method_12_code 18 = .ok (.iload_n 1, 1) := by decide +kernel
theorem dd_95_19 : decode prog_11_method_12_code 19 = .ok (.aload_n 0, 1) := by decide +kernel
theorem dd_95_20 : decode prog_11_method_12_code 20 = .ok (.getfield 17, 3) := by decide +kernel
theorem dd_95_23 : decode prog_11_method_12_code 23 = .ok (.iload_n 2, 1) := by decide +kernel
theorem dd_95_24 : decode prog_11_method_12_code 24 = .ok (.iaload, 1) := by decide +kernel
theorem dd_95_25 : decode prog_11_method_12_code 25 = .ok (.iconst (-1), 1) := by decide +kernel
theorem dd_95_26 : decode prog_11_method_12_code 26 = .ok (.ixor, 1) := by decide +kernel
theorem dd_95_27 : decode prog_11_method_12_code 27 = .ok (.iand, 1) := by decide +kernel
theorem dd_95_28 : decode prog_11_method_12_code 28 = .ok (.iconst 1, 1) := by decide +kernel
theorem dd_95_29 : decode prog_11_method_12_code 29 = .ok (.iload_n 2, 1) := by decide +kernel
theorem dd_95_30 : decode prog_11_method_12_code 30 = .ok (.ishl, 1) := by decide +kernel
theorem dd_95_31 : decode prog_11_method_12_code 31 = .ok (.if_icmp .eq 5, 3) := by decide +kernel
theorem dd_95_34 : decode prog_11_method_12_code 34 = .ok (.iconst 0, 1) := by decide +kernel
theorem dd_95_35 : decode prog_11_method_12_code 35 = .ok (.ireturn, 1) := by decide +kernel
theorem dd_95_36 : decode prog_11_method_12_code 36 = .ok (.iinc 2 1, 3) := by decide +kernel
theorem dd_95_39 : decode prog_11_method_12_code 39 = .ok (.goto (-37), 3) := by decide +kernel
theorem dd_95_42 : decode prog_11_method_12_code 42 = .ok (.iconst 1, 1) := by decide +kernel
theorem dd_95_43 : decode prog_11_method_12_code 43 = .ok (.ireturn, 1) := by decide +kernel
theorem ks_95_0 : mi_snd cs_G cs_cl cs_inf 95 0 (mj_push (.inl 0) 1) := ms_iconst (mi_dec ib_95 dd_95_0) (by decide)
theorem ks_95_1 : mi_snd cs_G cs_cl cs_inf 95 1 (mj_istore 2 2) := ms_istore_n (mi_dec ib_95 dd_95_1) rfl
theorem ks_95_2 : mi_snd cs_G cs_cl cs_inf 95 2 (mj_iload 2 3) := ms_iload_n (mi_dec ib_95 dd_95_2) rfl
theorem ks_95_3 : mi_snd cs_G cs_cl cs_inf 95 3 (mj_aload 0 4) := ms_aload_n (mi_dec ib_95 dd_95_3) rfl
theorem ks_95_4 : mi_snd cs_G cs_cl cs_inf 95 4 (mj_get 9 1 7) := ms_get (T := cs_T9) (k := 1) (mi_dec ib_95 dd_95_4) rfl cs_in9 (by decide) gw_637
theorem ks_95_7 : mi_snd cs_G cs_cl cs_inf 95 7 (mj_cmp (fun x y => decide (y ≤ x)) 42 10) := ms_icmp_ge (mi_dec ib_95 dd_95_7) (by decide)
theorem ks_95_10 : mi_snd cs_G cs_cl cs_inf 95 10 (mj_iload 1 11) := ms_iload_n (mi_dec ib_95 dd_95_10) rfl
theorem ks_95_11 : mi_snd cs_G cs_cl cs_inf 95 11 (mj_iload 2 12) := ms_iload_n (mi_dec ib_95 dd_95_11) rfl
theorem ks_95_12 : mi_snd cs_G cs_cl cs_inf 95 12 (mj_callS 93 2 2 15) := ms_callS iw_c93 (mi_dec ib_95 dd_95_12) gw_731 iw_s93 iw_n93 (by decide +kernel) rfl (by decide)
theorem ks_95_15 : mi_snd cs_G cs_cl cs_inf 95 15 (mj_if (fun x => decide (x = 0)) 36 18) := ms_if_eq (mi_dec ib_95 dd_95_15) (by decide)
theorem ks_95_18 : mi_snd cs_G cs_cl cs_inf 95 18 (mj_iload 1 19) := ms_iload_n (mi_dec ib_95 dd_95_18) rfl
theorem ks_95_19 : mi_snd cs_G cs_cl cs_inf 95 19 (mj_aload 0 20) := ms_aload_n (mi_dec ib_95 dd_95_19) rfl
theorem ks_95_20 : mi_snd cs_G cs_cl cs_inf 95 20 (mj_get 9 3 23) := ms_get (T := cs_T9) (k := 3) (mi_dec ib_95 dd_95_20) rfl cs_in9 (by decide) gw_639
theorem ks_95_23 : mi_snd cs_G cs_cl cs_inf 95 23 (mj_iload 2 24) := ms_iload_n (mi_dec ib_95 dd_95_23) rfl
theorem ks_95_24 : mi_snd cs_G cs_cl cs_inf 95 24 (mj_ald 0 25) := ms_ald0 (mi_dec ib_95 dd_95_24)
theorem ks_95_25 : mi_snd cs_G cs_cl cs_inf 95 25 (mj_push (.inl (-1)) 26) := ms_iconst (mi_dec ib_95 dd_95_25) (by decide)
theorem ks_95_26 : mi_snd cs_G cs_cl cs_inf 95 26 (mj_bin (fun x y => x ^^^ y) 27) := ms_ixor (mi_dec ib_95 dd_95_26)
theorem ks_95_27 : mi_snd cs_G cs_cl cs_inf 95 27 (mj_bin (fun x y => x &&& y) 28) := ms_iand (mi_dec ib_95 dd_95_27)
theorem ks_95_28 : mi_snd cs_G cs_cl cs_inf 95 28 (mj_push (.inl 1) 29) := ms_iconst (mi_dec ib_95 dd_95_28) (by decide)
theorem ks_95_29 : mi_snd cs_G cs_cl cs_inf 95 29 (mj_iload 2 30) := ms_iload_n (mi_dec ib_95 dd_95_29) rfl
theorem ks_95_30 : mi_snd cs_G cs_cl cs_inf 95 30 (mj_bin (fun x y => x <<< (y &&& 31)) 31) := ms_ishl (mi_dec ib_95 dd_95_30)
theorem ks_95_31 : mi_snd cs_G cs_cl cs_inf 95 31 (mj_cmp (fun x y => decide (x = y)) 36 34) := ms_icmp_eq (mi_dec ib_95 dd_95_31) (by decide)
theorem ks_95_34 : mi_snd cs_G cs_cl cs_inf 95 34 (mj_push (.inl 0) 35) := ms_iconst (mi_dec ib_95 dd_95_34) (by decide)
theorem ks_95_35 : mi_snd cs_G cs_cl cs_inf 95 35 (mj_zret) := ms_zret (mi_dec ib_95 dd_95_35) rfl
theorem ks_95_36 : mi_snd cs_G cs_cl cs_inf 95 36 (mj_iinc 2 1 39) := ms_iinc (mi_dec ib_95 dd_95_36) (by decide)
theorem ks_95_39 : mi_snd cs_G cs_cl cs_inf 95 39 (mj_goto 2) := ms_goto (mi_dec ib_95 dd_95_39) (by decide)
theorem ks_95_42 : mi_snd cs_G cs_cl cs_inf 95 42 (mj_push (.inl 1) 43) := ms_iconst (mi_dec ib_95 dd_95_42) (by decide)
theorem ks_95_43 : mi_snd cs_G cs_cl cs_inf 95 43 (mj_zret) := ms_zret (mi_dec ib_95 dd_95_43) rfl
def ct_95 : List (Nat × mi_I) := [
  (0, mj_push (.inl 0) 1),
  (1, mj_istore 2 2),
  (2, mj_iload 2 3),
  (3, mj_aload 0 4),
  (4, mj_get 9 1 7),
  (7, mj_cmp (fun x y => decide (y ≤ x)) 42 10),
  (10, mj_iload 1 11),
  (11, mj_iload 2 12),
  (12, mj_callS 93 2 2 15),
  (15, mj_if (fun x => decide (x = 0)) 36 18),
  (18, mj_iload 1 19),
  (19, mj_aload 0 20),
  (20, mj_get 9 3 23),
  (23, mj_iload 2 24),
  (24, mj_ald 0 25),
  (25, mj_push (.inl (-1)) 26),
  (26, mj_bin (fun x y => x ^^^ y) 27),
  (27, mj_bin (fun x y => x &&& y) 28),
  (28, mj_push (.inl 1) 29),
  (29, mj_iload 2 30),
  (30, mj_bin (fun x y => x <<< (y &&& 31)) 31),
  (31, mj_cmp (fun x y => decide (x = y)) 36 34),
  (34, mj_push (.inl 0) 35),
  (35, mj_zret),
  (36, mj_iinc 2 1 39),
  (39, mj_goto 2),
  (42, mj_push (.inl 1) 43),
  (43, mj_zret)]
theorem sd_95 : ∀ q ∈ ct_95, mi_snd cs_G cs_cl cs_inf 95 q.1 q.2 := mi_fc ks_95_0 (mi_fc ks_95_1 (mi_fc ks_95_2 (mi_fc ks_95_3 (mi_fc ks_95_4 (mi_fc ks_95_7 (mi_fc ks_95_10 (mi_fc ks_95_11 (mi_fc ks_95_12 (mi_fc ks_95_15 (mi_fc ks_95_18 (mi_fc ks_95_19 (mi_fc ks_95_20 (mi_fc ks_95_23 (mi_fc ks_95_24 (mi_fc ks_95_25 (mi_fc ks_95_26 (mi_fc ks_95_27 (mi_fc ks_95_28 (mi_fc ks_95_29 (mi_fc ks_95_30 (mi_fc ks_95_31 (mi_fc ks_95_34 (mi_fc ks_95_35 (mi_fc ks_95_36 (mi_fc ks_95_39 (mi_fc ks_95_42 (mi_fc ks_95_43 mi_fn)))))))))))))))))))))))))))
theorem dd_96_0 : decode prog_11_method_13_code 0 = .ok (.iconst 0, 1) := by decide +kernel
theorem dd_96_1 : decode prog_11_method_13_code 1 = .ok (.istore_n 2, 1) := by decide +kernel
theorem dd_96_2 : decode prog_11_method_13_code 2 = .ok (.iload_n 2, 1) := by decide +kernel
theorem dd_96_3 : decode prog_11_method_13_code 3 = .ok (.aload_n 0, 1) := by decide +kernel
theorem dd_96_4 : decode prog_11_method_13_code 4 = .ok (.getfield 37, 3) := by decide +kernel
theorem dd_96_7 : decode prog_11_method_13_code 7 = .ok (.if_icmp .ge 30, 3) := by decide +kernel
theorem dd_96_10 : decode prog_11_method_13_code 10 = .ok (.iload_n 1, 1) := by decide +kernel
theorem dd_96_11 : decode prog_11_method_13_code 11 = .ok (.iload_n 2, 1) := by decide +kernel
theorem dd_96_12 : decode prog_11_method_13_code 12 = .ok (.invokestatic 48, 3) := by decide +kernel
theorem dd_96_15 : decode prog_11_method_13_code 15 = .ok (.ifCond .eq 16, 3) := by decide +kernel
theorem dd_96_18 : decode prog_11_method_13_code 18 = .ok (.iload_n 1, 1) := by decide +kernel
theorem dd_96_19 : decode prog_11_method_13_code 19 = .ok (.aload_n 0, 1) := by decide +kernel
theorem dd_96_20 : decode prog_11_method_13_code 20 = .ok (.getfield 17, 3) := by decide +kernel
theorem dd_96_23 : decode prog_11_method_13_code 23 = .ok (.iload_n 2, 1) := by decide +kernel
theorem dd_96_24 : decode prog_11_method_13_code 24 = .ok (.iaload, 1) := by decide +kernel
theorem dd_96_25 : decode prog_11_method_13_code 25 = .ok (.iand, 1) := by decide +kernel
theorem dd_96_26 : decode prog_11_method_13_code 26 = .ok (.ifCond .eq 5, 3) := by decide +kernel
theorem dd_96_29 : decode prog_11_method_13_code 29 = .ok (.iconst 0, 1) := by decide +kernel
theorem dd_96_30 : decode prog_11_method_13_code 30 = .ok (.ireturn, 1) := by decide +kernel
theorem dd_96_31 : decode prog_11_method_13_code 31 = .ok (.iinc 2 1, 3) := by decide +kernel
theorem dd_96_34 : decode prog_11_method_13_code 34 = .ok (.goto (-32), 3) := by decide +kernel
theorem dd_96_37 : decode prog_11_method_13_code 37 = .ok (.iconst 1, 1) := by decide +kernel
theorem dd_96_38 : decode prog_11_method_13_code 38 = .ok (.ireturn, 1) := by decide +kernel
theorem ks_96_0 : mi_snd cs_G cs_cl cs_inf 96 0 (mj_push (.inl 0) 1) := ms_iconst (mi_dec ib_96 dd_96_0) (by decide)
theorem ks_96_1 : mi_snd cs_G cs_cl cs_inf 96 1 (mj_istore 2 2) := ms_istore_n (mi_dec ib_96 dd_96_1) rfl
theorem ks_96_2 : mi_snd cs_G cs_cl cs_inf 96 2 (mj_iload 2 3) := ms_iload_n (mi_dec ib_96 dd_96_2) rfl
theorem ks_96_3 : mi_snd cs_G cs_cl cs_inf 96 3 (mj_aload 0 4) := ms_aload_n (mi_dec ib_96 dd_96_3) rfl
theorem ks_96_4 : mi_snd cs_G cs_cl cs_inf 96 4 (mj_get 9 1 7) := ms_get (T := cs_T9) (k := 1) (mi_dec ib_96 dd_96_4) rfl cs_in9 (by decide) gw_637
theorem ks_96_7 : mi_snd cs_G cs_cl cs_inf 96 7 (mj_cmp (fun x y => decide (y ≤ x)) 37 10) := ms_icmp_ge (mi_dec ib_96 dd_96_7) (by decide)
theorem ks_96_10 : mi_snd cs_G cs_cl cs_inf 96 10 (mj_iload 1 11) := ms_iload_n (mi_dec ib_96 dd_96_10) rfl
theorem ks_96_11 : mi_snd cs_G cs_cl cs_inf 96 11 (mj_iload 2 12) := ms_iload_n (mi_dec ib_96 dd_96_11) rfl
theorem ks_96_12 : mi_snd cs_G cs_cl cs_inf 96 12 (mj_callS 93 2 2 15) := ms_callS iw_c93 (mi_dec ib_96 dd_96_12) gw_731 iw_s93 iw_n93 (by decide +kernel) rfl (by decide)
theorem ks_96_15 : mi_snd cs_G cs_cl cs_inf 96 15 (mj_if (fun x => decide (x = 0)) 31 18) := ms_if_eq (mi_dec ib_96 dd_96_15) (by decide)
theorem ks_96_18 : mi_snd cs_G cs_cl cs_inf 96 18 (mj_iload 1 19) := ms_iload_n (mi_dec ib_96 dd_96_18) rfl
theorem ks_96_19 : mi_snd cs_G cs_cl cs_inf 96 19 (mj_aload 0 20) := ms_aload_n (mi_dec ib_96 dd_96_19) rfl
theorem ks_96_20 : mi_snd cs_G cs_cl cs_inf 96 20 (mj_get 9 3 23) := ms_get (T := cs_T9) (k := 3) (mi_dec ib_96 dd_96_20) rfl cs_in9 (by decide) gw_639
theorem ks_96_23 : mi_snd cs_G cs_cl cs_inf 96 23 (mj_iload 2 24) := ms_iload_n (mi_dec ib_96 dd_96_23) rfl
theorem ks_96_24 : mi_snd cs_G cs_cl cs_inf 96 24 (mj_ald 0 25) := ms_ald0 (mi_dec ib_96 dd_96_24)
theorem ks_96_25 : mi_snd cs_G cs_cl cs_inf 96 25 (mj_bin (fun x y => x &&& y) 26) := ms_iand (mi_dec ib_96 dd_96_25)
theorem ks_96_26 : mi_snd cs_G cs_cl cs_inf 96 26 (mj_if (fun x => decide (x = 0)) 31 29) := ms_if_eq (mi_dec ib_96 dd_96_26) (by decide)
theorem ks_96_29 : mi_snd cs_G cs_cl cs_inf 96 29 (mj_push (.inl 0) 30) := ms_iconst (mi_dec ib_96 dd_96_29) (by decide)
theorem ks_96_30 : mi_snd cs_G cs_cl cs_inf 96 30 (mj_zret) := ms_zret (mi_dec ib_96 dd_96_30) rfl
theorem ks_96_31 : mi_snd cs_G cs_cl cs_inf 96 31 (mj_iinc 2 1 34) := ms_iinc (mi_dec ib_96 dd_96_31) (by decide)
theorem ks_96_34 : mi_snd cs_G cs_cl cs_inf 96 34 (mj_goto 2) := ms_goto (mi_dec ib_96 dd_96_34) (by decide)
theorem ks_96_37 : mi_snd cs_G cs_cl cs_inf 96 37 (mj_push (.inl 1) 38) := ms_iconst (mi_dec ib_96 dd_96_37) (by decide)
theorem ks_96_38 : mi_snd cs_G cs_cl cs_inf 96 38 (mj_zret) := ms_zret (mi_dec ib_96 dd_96_38) rfl
def ct_96 : List (Nat × mi_I) := [
  (0, mj_push (.inl 0) 1),
  (1, mj_istore 2 2),
  (2, mj_iload 2 3),
  (3, mj_aload 0 4),
  (4, mj_get 9 1 7),
  (7, mj_cmp (fun x y => decide (y ≤ x)) 37 10),
  (10, mj_iload 1 11),
  (11, mj_iload 2 12),
  (12, mj_callS 93 2 2 15),
  (15, mj_if (fun x => decide (x = 0)) 31 18),
  (18, mj_iload 1 19),
  (19, mj_aload 0 20),
  (20, mj_get 9 3 23),
  (23, mj_iload 2 24),
  (24, mj_ald 0 25),
  (25, mj_bin (fun x y => x &&& y) 26),
  (26, mj_if (fun x => decide (x = 0)) 31 29),
  (29, mj_push (.inl 0) 30),
  (30, mj_zret),
  (31, mj_iinc 2 1 34),
  (34, mj_goto 2),
  (37, mj_push (.inl 1) 38),
  (38, mj_zret)]
theorem sd_96 : ∀ q ∈ ct_96, mi_snd cs_G cs_cl cs_inf 96 q.1 q.2 := mi_fc ks_96_0 (mi_fc ks_96_1 (mi_fc ks_96_2 (mi_fc ks_96_3 (mi_fc ks_96_4 (mi_fc ks_96_7 (mi_fc ks_96_10 (mi_fc ks_96_11 (mi_fc ks_96_12 (mi_fc ks_96_15 (mi_fc ks_96_18 (mi_fc ks_96_19 (mi_fc ks_96_20 (mi_fc ks_96_23 (mi_fc ks_96_24 (mi_fc ks_96_25 (mi_fc ks_96_26 (mi_fc ks_96_29 (mi_fc ks_96_30 (mi_fc ks_96_31 (mi_fc ks_96_34 (mi_fc ks_96_37 (mi_fc ks_96_38 mi_fn))))))))))))))))))))))

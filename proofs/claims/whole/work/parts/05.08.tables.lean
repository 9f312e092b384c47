theorem dd_121_0 : decode prog_11_method_39_code 0 = .ok (.iconst 1, 1) := by decide +kernel
theorem dd_121_1 : decode prog_11_method_39_code 1 = .ok (.iload_n 1, 1) := by decide +kernel
theorem dd_121_2 : decode prog_11_method_39_code 2 = .ok (.ishl, 1) := by decide +kernel
theorem dd_121_3 : decode prog_11_method_39_code 3 = .ok (.istore_n 2, 1) := by decide +kernel
theorem dd_121_4 : decode prog_11_method_39_code 4 = .ok (.iconst 0, 1) := by decide +kernel
theorem dd_121_5 : decode prog_11_method_39_code 5 = .ok (.istore_n 3, 1) := by decide +kernel
theorem dd_121_6 : decode prog_11_method_39_code 6 = .ok (.iload_n 2, 1) := by decide +kernel
theorem dd_121_7 : decode prog_11_method_39_code 7 = .ok (.iload_n 3, 1) := by decide +kernel
theorem dd_121_8 : decode prog_11_method_39_code 8 = .ok (.if_icmp .eq 49, 3) := by decide +kernel
theorem dd_121_11 : decode prog_11_method_39_code 11 = .ok (.iload_n 2, 1) := by decide +kernel
theorem dd_121_12 : decode prog_11_method_39_code 12 = .ok (.istore_n 3, 1) := by decide +kernel
theorem dd_121_13 : decode prog_11_method_39_code 13 = .ok (.iconst 0, 1) := by decide +kernel
theorem dd_121_14 : decode prog_11_method_39_code 14 = .ok (.istore 4, 2) := by decide +kernel
theorem dd_121_16 : decode prog_11_method_39_code 16 = .ok (.iload 4, 2) := by decide +kernel
theorem dd_121_18 : decode prog_11_method_39_code 18 = .ok (.aload_n 0, 1) := by decide +kernel
theorem dd_121_19 : decode prog_11_method_39_code 19 = .ok (.getfield 37, 3) := by decide +kernel
theorem dd_121_22 : decode prog_11_method_39_code 22 = .ok (.if_icmp .ge 32, 3) := by decide +kernel
theorem dd_121_25 : decode prog_11_method_39_code 25 = .ok (.iload_n 3, 1) := by decide +kernel
theorem dd_121_26 : decode prog_11_method_39_code 26 = .ok (.iload 4, 2) := by decide +kernel
theorem dd_121_28 : decode prog_11_method_39_code 28 = .ok (.invokestatic 48, 3) := by decide +kernel
theorem dd_121_31 : decode prog_11_method_39_code 31 = .ok (.ifCond .eq 15, 3) := by decide +kernel
theorem dd_121_34 : decode prog_11_method_39_code 34 = .ok (.iload_n 2, 1) := by decide +kernel
theorem dd_121_35 : decode prog_11_method_39_code 35 = .ok (.aload_n 0, 1) := by decide +kernel
theorem dd_121_36 : decode prog_11_method_39_code 36 = .ok (.getfield 17, 3) := by decide +kernel
theorem dd_121_39 : decode prog_11_method_39_code 39 = .ok (.iload 4, 2) := by decide +kernel
theorem dd_121_41 : decode prog_11_method_39_code 41 = .ok (.iaload, 1) := by decide +kernel
theorem dd_121_42 : decode prog_11_method_39_code 42 = .ok (.ior, 1) := by decide +kernel
theorem dd_121_43 : decode prog_11_method_39_code 43 = .ok (.goto 4, 3) := by decide +kernel
theorem dd_121_46 : decode prog_11_method_39_code 46 = .ok (.iload_n 2, 1) := by decide +kernel
theorem dd_121_47 : decode prog_11_method_39_code 47 = .ok (.istore_n 2, 1) := by decide +kernel
theorem dd_121_48 : decode prog_11_method_39_code 48 = .ok (.iinc 4 1, 3) := by decide +kernel
theorem dd_121_51 : decode prog_11_method_39_code 51 = .ok (.goto (-35), 3) := by decide +kernel
theorem dd_121_54 : decode prog_11_method_39_code 54 = .ok (.goto (-48), 3) := by decide +kernel
theorem dd_121_57 : decode prog_11_method_39_code 57 = .ok (.iload_n 2, 1) := by decide +kernel
theorem dd_121_58 : decode prog_11_method_39_code 58 = .ok (.ireturn, 1) := by decide +kernel
theorem ks_121_0 : mi_snd cs_G cs_cl cs_inf 121 0 (mj_push (.inl 1) 1) := ms_iconst (mi_dec ib_121 dd_121_0) (by decide)
theorem ks_121_1 : mi_snd cs_G cs_cl cs_inf 121 1 (mj_iload 1 2) := ms_iload_n (mi_dec ib_121 dd_121_1) rfl
theorem ks_121_2 : mi_snd cs_G cs_cl cs_inf 121 2 (mj_bin (fun x y => x <<< (y &&& 31)) 3) := ms_ishl (mi_dec ib_121 dd_121_2)
theorem ks_121_3 : mi_snd cs_G cs_cl cs_inf 121 3 (mj_istore 2 4) := ms_istore_n (mi_dec ib_121 dd_121_3) rfl
theorem ks_121_4 : mi_snd cs_G cs_cl cs_inf 121 4 (mj_push (.inl 0) 5) := ms_iconst (mi_dec ib_121 dd_121_4) (by decide)
theorem ks_121_5 : mi_snd cs_G cs_cl cs_inf 121 5 (mj_istore 3 6) := ms_istore_n (mi_dec ib_121 dd_121_5) rfl
theorem ks_121_6 : mi_snd cs_G cs_cl cs_inf 121 6 (mj_iload 2 7) := ms_iload_n (mi_dec ib_121 dd_121_6) rfl
theorem ks_121_7 : mi_snd cs_G cs_cl cs_inf 121 7 (mj_iload 3 8) := ms_iload_n (mi_dec ib_121 dd_121_7) rfl
theorem ks_121_8 : mi_snd cs_G cs_cl cs_inf 121 8 (mj_cmp (fun x y => decide (x = y)) 57 11) := ms_icmp_eq (mi_dec ib_121 dd_121_8) (by decide)
theorem ks_121_11 : mi_snd cs_G cs_cl cs_inf 121 11 (mj_iload 2 12) := ms_iload_n (mi_dec ib_121 dd_121_11) rfl
theorem ks_121_12 : mi_snd cs_G cs_cl cs_inf 121 12 (mj_istore 3 13) := ms_istore_n (mi_dec ib_121 dd_121_12) rfl
theorem ks_121_13 : mi_snd cs_G cs_cl cs_inf 121 13 (mj_push (.inl 0) 14) := ms_iconst (mi_dec ib_121 dd_121_13) (by decide)
theorem ks_121_14 : mi_snd cs_G cs_cl cs_inf 121 14 (mj_istore 4 16) := ms_istore (mi_dec ib_121 dd_121_14)
theorem ks_121_16 : mi_snd cs_G cs_cl cs_inf 121 16 (mj_iload 4 18) := ms_iload (mi_dec ib_121 dd_121_16)
theorem ks_121_18 : mi_snd cs_G cs_cl cs_inf 121 18 (mj_aload 0 19) := ms_aload_n (mi_dec ib_121 dd_121_18) rfl
theorem ks_121_19 : mi_snd cs_G cs_cl cs_inf 121 19 (mj_get 9 1 22) := ms_get (T := cs_T9) (k := 1) (mi_dec ib_121 dd_121_19) rfl cs_in9 (by decide) gw_637
theorem ks_121_22 : mi_snd cs_G cs_cl cs_inf 121 22 (mj_cmp (fun x y => decide (y ≤ x)) 54 25) := ms_icmp_ge (mi_dec ib_121 dd_121_22) (by decide)
theorem ks_121_25 : mi_snd cs_G cs_cl cs_inf 121 25 (mj_iload 3 26) := ms_iload_n (mi_dec ib_121 dd_121_25) rfl
theorem ks_121_26 : mi_snd cs_G cs_cl cs_inf 121 26 (mj_iload 4 28) := ms_iload (mi_dec ib_121 dd_121_26)
theorem ks_121_28 : mi_snd cs_G cs_cl cs_inf 121 28 (mj_callS 93 2 2 31) := ms_callS iw_c93 (mi_dec ib_121 dd_121_28) gw_731 iw_s93 iw_n93 (by decide +kernel) rfl (by decide)
theorem ks_121_31 : mi_snd cs_G cs_cl cs_inf 121 31 (mj_if (fun x => decide (x = 0)) 46 34) := ms_if_eq (mi_dec ib_121 dd_121_31) (by decide)
theorem ks_121_34 : mi_snd cs_G cs_cl cs_inf 121 34 (mj_iload 2 35) := ms_iload_n (mi_dec ib_121 dd_121_34) rfl
theorem ks_121_35 : mi_snd cs_G cs_cl cs_inf 121 35 (mj_aload 0 36) := ms_aload_n (mi_dec ib_121 dd_121_35) rfl
theorem ks_121_36 : mi_snd cs_G cs_cl cs_inf 121 36 (mj_get 9 3 39) := ms_get (T := cs_T9) (k := 3) (mi_dec ib_121 dd_121_36) rfl cs_in9 (by decide) gw_639
theorem ks_121_39 : mi_snd cs_G cs_cl cs_inf 121 39 (mj_iload 4 41) := ms_iload (mi_dec ib_121 dd_121_39)
theorem ks_121_41 : mi_snd cs_G cs_cl cs_inf 121 41 (mj_ald 0 42) := ms_ald0 (mi_dec ib_121 dd_121_41)
theorem ks_121_42 : mi_snd cs_G cs_cl cs_inf 121 42 (mj_bin (fun x y => x ||| y) 43) := ms_ior (mi_dec ib_121 dd_121_42)
theorem ks_121_43 : mi_snd cs_G cs_cl cs_inf 121 43 (mj_goto 47) := ms_goto (mi_dec ib_121 dd_121_43) (by decide)
theorem ks_121_46 : mi_snd cs_G cs_cl cs_inf 121 46 (mj_iload 2 47) := ms_iload_n (mi_dec ib_121 dd_121_46) rfl
theorem ks_121_47 : mi_snd cs_G cs_cl cs_inf 121 47 (mj_istore 2 48) := ms_istore_n (mi_dec ib_121 dd_121_47) rfl
theorem ks_121_48 : mi_snd cs_G cs_cl cs_inf 121 48 (mj_iinc 4 1 51) := ms_iinc (mi_dec ib_121 dd_121_48) (by decide)
theorem ks_121_51 : mi_snd cs_G cs_cl cs_inf 121 51 (mj_goto 16) := ms_goto (mi_dec ib_121 dd_121_51) (by decide)
theorem ks_121_54 : mi_snd cs_G cs_cl cs_inf 121 54 (mj_goto 6) := ms_goto (mi_dec ib_121 dd_121_54) (by decide)
theorem ks_121_57 : mi_snd cs_G cs_cl cs_inf 121 57 (mj_iload 2 58) := ms_iload_n (mi_dec ib_121 dd_121_57) rfl
theorem ks_121_58 : mi_snd cs_G cs_cl cs_inf 121 58 (mj_iret) := ms_iret (mi_dec ib_121 dd_121_58) rfl
def ct_121 : List (Nat × mi_I) := [
  (0, mj_push (.inl 1) 1),
  (1, mj_iload 1 2),
  (2, mj_bin (fun x y => x <<< (y &&& 31)) 3),
  (3, mj_istore 2 4),
  (4, mj_push (.inl 0) 5),
  (5, mj_istore 3 6),
  (6, mj_iload 2 7),
  (7, mj_iload 3 8),
  (8, mj_cmp (fun x y => decide (x = y)) 57 11),
  (11, mj_iload 2 12),
  (12, mj_istore 3 13),
  (13, mj_push (.inl 0) 14),
  (14, mj_istore 4 16),
  (16, mj_iload 4 18),
  (18, mj_aload 0 19),
  (19, mj_get 9 1 22),
  (22, mj_cmp (fun x y => decide (y ≤ x)) 54 25),
  (25, mj_iload 3 26),
  (26, mj_iload 4 28),
  (28, mj_callS 93 2 2 31),
  (31, mj_if (fun x => decide (x = 0)) 46 34),
  (34, mj_iload 2 35),
  (35, mj_aload 0 36),
  (36, mj_get 9 3 39),
  (39, mj_iload 4 41),
  (41, mj_ald 0 42),
  (42, mj_bin (fun x y => x ||| y) 43),
  (43, mj_goto 47),
  (46, mj_iload 2 47),
  (47, mj_istore 2 48),
  (48, mj_iinc 4 1 51),
  (51, mj_goto 16),
  (54, mj_goto 6),
  (57, mj_iload 2 58),
  (58, mj_iret)]
theorem sd_121 : ∀ q ∈ ct_121, mi_snd cs_G cs_cl cs_inf 121 q.1 q.2 := mi_fc ks_121_0 (mi_fc ks_121_1 (mi_fc ks_121_2 (mi_fc ks_121_3 (mi_fc ks_121_4 (mi_fc ks_121_5 (mi_fc ks_121_6 (mi_fc ks_121_7 (mi_fc ks_121_8 (mi_fc ks_121_11 (mi_fc ks_121_12 (mi_fc ks_121_13 (mi_fc ks_121_14 (mi_fc ks_121_16 (mi_fc ks_121_18 (mi_fc ks_121_19 (mi_fc ks_121_22 (mi_fc ks_121_25 (mi_fc ks_121_26 (mi_fc ks_121_28 (mi_fc ks_121_31 (mi_fc ks_121_34 (mi_fc ks_121_35 (mi_fc ks_121_36 (mi_fc ks_121_39 (mi_fc ks_121_41 (mi_fc ks_121_42 (mi_fc ks_121_43 (mi_fc ks_121_46 (mi_fc ks_121_47 (mi_fc ks_121_48 (mi_fc ks_121_51 (mi_fc ks_121_54 (mi_fc ks_121_57 (mi_fc ks_121_58 mi_fn))))))))))))))))))))))))))))))))))
theorem dd_122_0 : decode prog_11_method_41_code 0 = .ok (.aload_n 0, 1) := by decide +kernel
theorem dd_122_1 : decode prog_11_method_41_code 1 = .ok (.iconst 0, 1) := by decide +kernel
theorem dd_122_2 : decode prog_11_method_41_code 2 = .ok (.putfield 1, 3) := by decide +kernel
theorem dd_122_5 : decode prog_11_method_41_code 5 = .ok (.aload_n 0, 1) := by decide +kernel
theorem dd_122_6 : decode prog_11_method_41_code 6 = .ok (.getfield 33, 3) := by decide +kernel
theorem dd_122_9 : decode prog_11_method_41_code 9 = .ok (.iconst 0, 1) := by decide +kernel
theorem dd_122_10 : decode prog_11_method_41_code 10 = .ok (.iconst 0, 1) := by decide +kernel
theorem dd_122_11 : decode prog_11_method_41_code 11 = .ok (.bastore, 1) := by decide +kernel
theorem dd_122_12 : decode prog_11_method_41_code 12 = .ok (.iconst 1, 1) := by decide +kernel
theorem dd_122_13 : decode prog_11_method_41_code 13 = .ok (.istore_n 1, 1) := by decide +kernel
theorem dd_122_14 : decode prog_11_method_41_code 14 = .ok (.iload_n 1, 1) := by decide +kernel
theorem dd_122_15 : decode prog_11_method_41_code 15 = .ok (.aload_n 0, 1) := by decide +kernel
theorem dd_122_16 : decode prog_11_method_41_code 16 = .ok (.invokevirtual 58, 3) := by decide +kernel
theorem dd_122_19 : decode prog_11_method_41_code 19 = .ok (.if_icmp .gt 119, 3) := by decide +kernel
theorem dd_122_22 : decode prog_11_method_41_code 22 = .ok (.iload_n 1, 1) := by decide +kernel
theorem dd_122_23 : decode prog_11_method_41_code 23 = .ok (.invokestatic 122, 3) := by decide +kernel
theorem dd_122_26 : decode prog_11_method_41_code 26 = .ok (.istore_n 2, 1) := by decide +kernel
theorem dd_122_27 : decode prog_11_method_41_code 27 = .ok (.iload_n 1, 1) := by decide +kernel
theorem dd_122_28 : decode prog_11_method_41_code 28 = .ok (.iconst 1, 1) := by decide +kernel
theorem dd_122_29 : decode prog_11_method_41_code 29 = .ok (.iload_n 2, 1) := by decide +kernel
theorem dd_122_30 : decode prog_11_method_41_code 30 = .ok (.ishl, 1) := by decide +kernel
theorem dd_122_31 : decode prog_11_method_41_code 31 = .ok (.iconst (-1), 1) := by decide +kernel
theorem dd_122_32 : decode prog_11_method_41_code 32 = .ok (.ixor, 1) := by decide +kernel
theorem dd_122_33 : decode prog_11_method_41_code 33 = .ok (.iand, 1) := by decide +kernel
theorem dd_122_34 : decode prog_11_method_41_code 34 = .ok (.istore_n 3, 1) := by decide +kernel
theorem dd_122_35 : decode prog_11_method_41_code 35 = .ok (.aload_n 0, 1) := by decide +kernel
theorem dd_122_36 : decode prog_11_method_41_code 36 = .ok (.getfield 33, 3) := by decide +kernel
theorem dd_122_39 : decode prog_11_method_41_code 39 = .ok (.iload_n 3, 1) := by decide +kernel
theorem dd_122_40 : decode prog_11_method_41_code 40 = .ok (.baload, 1) := by decide +kernel
theorem dd_122_41 : decode prog_11_method_41_code 41 = .ok (.istore 4, 2) := by decide +kernel
theorem dd_122_43 : decode prog_11_method_41_code 43 = .ok (.iload_n 2, 1) := by decide +kernel
theorem dd_122_44 : decode prog_11_method_41_code 44 = .ok (.iconst 1, 1) := by decide +kernel
theorem dd_122_45 : decode prog_11_method_41_code 45 = .ok (.iadd, 1) := by decide +kernel
theorem dd_122_46 : decode prog_11_method_41_code 46 = .ok (.istore 5, 2) := by decide +kernel
theorem dd_122_48 : decode prog_11_method_41_code 48 = .ok (.iload 5, 2) := by decide +kernel
theorem dd_122_50 : decode prog_11_method_41_code 50 = .ok (.aload_n 0, 1) := by decide +kernel
theorem dd_122_51 : decode prog_11_method_41_code 51 = .ok (.getfield 37, 3) := by decide +kernel
theorem dd_122_54 : decode prog_11_method_41_code 54 = .ok (.if_icmp .ge 69, 3) := by decide +kernel
theorem dd_122_57 : decode prog_11_method_41_code 57 = .ok (.iload_n 3, 1) := by decide +kernel
theorem dd_122_58 : decode prog_11_method_41_code 58 = .ok (.iload 5, 2) := by decide +kernel
theorem dd_122_60 : decode prog_11_method_41_code 60 = .ok (.invokestatic 48, 3) := by decide +kernel
theorem dd_122_63 : decode prog_11_method_41_code 63 = .ok (.ifCond .eq 35, 3) := by decide +kernel
theorem dd_122_66 : decode prog_11_method_41_code 66 = .ok (.aload_n 0, 1) := by decide +kernel
theorem dd_122_67 : decode prog_11_method_41_code 67 = .ok (.getfield 17, 3) := by decide +kernel
theorem dd_122_70 : decode prog_11_method_41_code 70 = .ok (.iload_n 2, 1) := by decide +kernel
theorem dd_122_71 : decode prog_11_method_41_code 71 = .ok (.iaload, 1) := by decide +kernel
theorem dd_122_72 : decode prog_11_method_41_code 72 = .ok (.iload 5, 2) := by decide +kernel
theorem dd_122_74 : decode prog_11_method_41_code 74 = .ok (.invokestatic 48, 3) := by decide +kernel
theorem dd_122_77 : decode prog_11_method_41_code 77 = .ok (.ifCond .eq 21, 3) := by decide +kernel
theorem dd_122_80 : decode prog_11_method_41_code 80 = .ok (.iconst 1, 1) := by decide +kernel
theorem dd_122_81 : decode prog_11_method_41_code 81 = .ok (.aload_n 0, 1) := by decide +kernel
theorem dd_122_82 : decode prog_11_method_41_code 82 = .ok (.getfield 33, 3) := by decide +kernel
theorem dd_122_85 : decode prog_11_method_41_code 85 = .ok (.iload_n 3, 1) := by decide +kernel
theorem dd_122_86 : decode prog_11_method_41_code 86 = .ok (.iconst 1, 1) := by decide +kernel
theorem dd_122_87 : decode prog_11_method_41_code 87 = .ok (.iload 5, 2) := by decide +kernel
theorem dd_122_89 : decode prog_11_method_41_code 89 = .ok (.ishl, 1) := by decide +kernel
theorem dd_122_90 : decode prog_11_method_41_code 90 = .ok (.iconst (-1), 1) := by decide +kernel
theorem dd_122_91 : decode prog_11_method_41_code 91 = .ok (.ixor, 1) := by decide +kernel
theorem dd_122_92 : decode prog_11_method_41_code 92 = .ok (.iand, 1) := by decide +kernel
theorem dd_122_93 : decode prog_11_method_41_code 93 = .ok (.baload, 1) := by decide +kernel
theorem dd_122_94 : decode prog_11_method_41_code 94 = .ok (.iadd, 1) := by decide +kernel
theorem dd_122_95 : decode prog_11_method_41_code 95 = .ok (.goto 4, 3) := by decide +kernel
theorem dd_122_98 : decode prog_11_method_41_code 98 = .ok (.iconst 0, 1) := by decide +kernel
theorem dd_122_99 : decode prog_11_method_41_code 99 = .ok (.istore 6, 2) := by decide +kernel
theorem dd_122_101 : decode prog_11_method_41_code 101 = .ok (.iload 6, 2) := by decide +kernel
theorem dd_122_103 : decode prog_11_method_41_code 103 = .ok (.iload 4, 2) := by decide +kernel
theorem dd_122_105 : decode prog_11_method_41_code 105 = .ok (.if_icmp .le 8, 3) := by decide +kernel
theorem dd_122_108 : decode prog_11_method_41_code 108 = .ok (.iload 6, 2) := by decide +kernel
theorem dd_122_110 : decode prog_11_method_41_code 110 = .ok (.goto 5, 3) := by decide +kernel
theorem dd_122_113 : decode prog_11_method_41_code 113 = .ok (.iload 4, 2) := by decide +kernel
theorem dd_122_115 : decode prog_11_method_41_code 115 = .ok (.istore 4, 2) := by decide +kernel
theorem dd_122_117 : decode prog_11_method_41_code 117 = .ok (.iinc 5 1, 3) := by decide +kernel
theorem dd_122_120 : decode prog_11_method_41_code 120 = .ok (.goto (-72), 3) := by decide +kernel
theorem dd_122_123 : decode prog_11_method_41_code 123 = .ok (.aload_n 0, 1) := by decide +kernel
theorem dd_122_124 : decode prog_11_method_41_code 124 = .ok (.getfield 33, 3) := by decide +kernel
theorem dd_122_127 : decode prog_11_method_41_code 127 = .ok (.iload_n 1, 1) := by decide +kernel
theorem dd_122_128 : decode prog_11_method_41_code 128 = .ok (.iload 4, 2) := by decide +kernel
theorem dd_122_130 : decode prog_11_method_41_code 130 = .ok (.i2b, 1) := by decide +kernel
theorem dd_122_131 : decode prog_11_method_41_code 131 = .ok (.bastore, 1) := by decide +kernel
theorem dd_122_132 : decode prog_11_method_41_code 132 = .ok (.iinc 1 1, 3) := by decide +kernel
theorem dd_122_135 : decode prog_11_method_41_code 135 = .ok (.goto (-121), 3) := by decide +kernel
theorem dd_122_138 : decode prog_11_method_41_code 138 = .ok (.aload_n 0, 1) := by decide +kernel
theorem dd_122_139 : decode prog_11_method_41_code 139 = .ok (.getfield 33, 3) := by decide +kernel
theorem dd_122_142 : decode prog_11_method_41_code 142 = .ok (.aload_n 0, 1) := by decide +kernel
theorem dd_122_143 : decode prog_11_method_41_code 143 = .ok (.invokevirtual 58, 3) := by decide +kernel
theorem dd_122_146 : decode prog_11_method_41_code 146 = .ok (.baload, 1) := by decide +kernel
theorem dd_122_147 : decode prog_11_method_41_code 147 = .ok (.ireturn, 1) := by decide +kernel
theorem ks_122_0 : mi_snd cs_G cs_cl cs_inf 122 0 (mj_aload 0 1) := ms_aload_n (mi_dec ib_122 dd_122_0) rfl
theorem ks_122_1 : mi_snd cs_G cs_cl cs_inf 122 1 (mj_push (.inl 0) 2) := ms_iconst (mi_dec ib_122 dd_122_1) (by decide)
theorem ks_122_2 : mi_snd cs_G cs_cl cs_inf 122 2 (mj_putI 9 0 5) := ms_putI (T := cs_T9) (k := 0) (mi_dec ib_122 dd_122_2) rfl cs_in9 cs_ty9_ok cs_nm9 (by decide) gw_636 (by decide) (by decide +kernel)
theorem ks_122_5 : mi_snd cs_G cs_cl cs_inf 122 5 (mj_aload 0 6) := ms_aload_n (mi_dec ib_122 dd_122_5) rfl
theorem ks_122_6 : mi_snd cs_G cs_cl cs_inf 122 6 (mj_get 9 17 9) := ms_get (T := cs_T9) (k := 17) (mi_dec ib_122 dd_122_6) rfl cs_in9 (by decide) gw_653
theorem ks_122_9 : mi_snd cs_G cs_cl cs_inf 122 9 (mj_push (.inl 0) 10) := ms_iconst (mi_dec ib_122 dd_122_9) (by decide)
theorem ks_122_10 : mi_snd cs_G cs_cl cs_inf 122 10 (mj_push (.inl 0) 11) := ms_iconst (mi_dec ib_122 dd_122_10) (by decide)
theorem ks_122_11 : mi_snd cs_G cs_cl cs_inf 122 11 (mj_bast 12) := ms_bast (mi_dec ib_122 dd_122_11)
theorem ks_122_12 : mi_snd cs_G cs_cl cs_inf 122 12 (mj_push (.inl 1) 13) := ms_iconst (mi_dec ib_122 dd_122_12) (by decide)
theorem ks_122_13 : mi_snd cs_G cs_cl cs_inf 122 13 (mj_istore 1 14) := ms_istore_n (mi_dec ib_122 dd_122_13) rfl
theorem ks_122_14 : mi_snd cs_G cs_cl cs_inf 122 14 (mj_iload 1 15) := ms_iload_n (mi_dec ib_122 dd_122_14) rfl
theorem ks_122_15 : mi_snd cs_G cs_cl cs_inf 122 15 (mj_aload 0 16) := ms_aload_n (mi_dec ib_122 dd_122_15) rfl
theorem ks_122_16 : mi_snd cs_G cs_cl cs_inf 122 16 (mj_callV 9 91 0 1 19) := ms_callV iw_c91 (mi_dec ib_122 dd_122_16) gw_723 iw_i91 rfl iw_v91 iw_n91 (by decide +kernel) rfl (by decide)
theorem ks_122_19 : mi_snd cs_G cs_cl cs_inf 122 19 (mj_cmp (fun x y => decide (y < x)) 138 22) := ms_icmp_gt (mi_dec ib_122 dd_122_19) (by decide)
theorem ks_122_22 : mi_snd cs_G cs_cl cs_inf 122 22 (mj_iload 1 23) := ms_iload_n (mi_dec ib_122 dd_122_22) rfl
theorem ks_122_23 : mi_snd cs_G cs_cl cs_inf 122 23 (mj_callS 117 1 2 26) := ms_callS iw_c117 (mi_dec ib_122 dd_122_23) gw_827 iw_s117 iw_n117 (by decide +kernel) rfl (by decide)
theorem ks_122_26 : mi_snd cs_G cs_cl cs_inf 122 26 (mj_istore 2 27) := ms_istore_n (mi_dec ib_122 dd_122_26) rfl
theorem ks_122_27 : mi_snd cs_G cs_cl cs_inf 122 27 (mj_iload 1 28) := ms_iload_n (mi_dec ib_122 dd_122_27) rfl
theorem ks_122_28 : mi_snd cs_G cs_cl cs_inf 122 28 (mj_push (.inl 1) 29) := ms_iconst (mi_dec ib_122 dd_122_28) (by decide)
theorem ks_122_29 : mi_snd cs_G cs_cl cs_inf 122 29 (mj_iload 2 30) := ms_iload_n (mi_dec ib_122 dd_122_29) rfl
theorem ks_122_30 : mi_snd cs_G cs_cl cs_inf 122 30 (mj_bin (fun x y => x <<< (y &&& 31)) 31) := ms_ishl (mi_dec ib_122 dd_122_30)
theorem ks_122_31 : mi_snd cs_G cs_cl cs_inf 122 31 (mj_push (.inl (-1)) 32) := ms_iconst (mi_dec ib_122 dd_122_31) (by decide)
theorem ks_122_32 : mi_snd cs_G cs_cl cs_inf 122 32 (mj_bin (fun x y => x ^^^ y) 33) := ms_ixor (mi_dec ib_122 dd_122_32)
theorem ks_122_33 : mi_snd cs_G cs_cl cs_inf 122 33 (mj_bin (fun x y => x &&& y) 34) := ms_iand (mi_dec ib_122 dd_122_33)
theorem ks_122_34 : mi_snd cs_G cs_cl cs_inf 122 34 (mj_istore 3 35) := ms_istore_n (mi_dec ib_122 dd_122_34) rfl
theorem ks_122_35 : mi_snd cs_G cs_cl cs_inf 122 35 (mj_aload 0 36) := ms_aload_n (mi_dec ib_122 dd_122_35) rfl
theorem ks_122_36 : mi_snd cs_G cs_cl cs_inf 122 36 (mj_get 9 17 39) := ms_get (T := cs_T9) (k := 17) (mi_dec ib_122 dd_122_36) rfl cs_in9 (by decide) gw_653
theorem ks_122_39 : mi_snd cs_G cs_cl cs_inf 122 39 (mj_iload 3 40) := ms_iload_n (mi_dec ib_122 dd_122_39) rfl
theorem ks_122_40 : mi_snd cs_G cs_cl cs_inf 122 40 (mj_ald 1 41) := ms_ald1 (mi_dec ib_122 dd_122_40)
theorem ks_122_41 : mi_snd cs_G cs_cl cs_inf 122 41 (mj_istore 4 43) := ms_istore (mi_dec ib_122 dd_122_41)
theorem ks_122_43 : mi_snd cs_G cs_cl cs_inf 122 43 (mj_iload 2 44) := ms_iload_n (mi_dec ib_122 dd_122_43) rfl
theorem ks_122_44 : mi_snd cs_G cs_cl cs_inf 122 44 (mj_push (.inl 1) 45) := ms_iconst (mi_dec ib_122 dd_122_44) (by decide)
theorem ks_122_45 : mi_snd cs_G cs_cl cs_inf 122 45 (mj_bin (fun x y => x + y) 46) := ms_iadd (mi_dec ib_122 dd_122_45)
theorem ks_122_46 : mi_snd cs_G cs_cl cs_inf 122 46 (mj_istore 5 48) := ms_istore (mi_dec ib_122 dd_122_46)
theorem ks_122_48 : mi_snd cs_G cs_cl cs_inf 122 48 (mj_iload 5 50) := ms_iload (mi_dec ib_122 dd_122_48)
theorem ks_122_50 : mi_snd cs_G cs_cl cs_inf 122 50 (mj_aload 0 51) := ms_aload_n (mi_dec ib_122 dd_122_50) rfl
theorem ks_122_51 : mi_snd cs_G cs_cl cs_inf 122 51 (mj_get 9 1 54) := ms_get (T := cs_T9) (k := 1) (mi_dec ib_122 dd_122_51) rfl cs_in9 (by decide) gw_637
theorem ks_122_54 : mi_snd cs_G cs_cl cs_inf 122 54 (mj_cmp (fun x y => decide (y ≤ x)) 123 57) := ms_icmp_ge (mi_dec ib_122 dd_122_54) (by decide)
theorem ks_122_57 : mi_snd cs_G cs_cl cs_inf 122 57 (mj_iload 3 58) := ms_iload_n (mi_dec ib_122 dd_122_57) rfl
theorem ks_122_58 : mi_snd cs_G cs_cl cs_inf 122 58 (mj_iload 5 60) := ms_iload (mi_dec ib_122 dd_122_58)
theorem ks_122_60 : mi_snd cs_G cs_cl cs_inf 122 60 (mj_callS 93 2 2 63) := ms_callS iw_c93 (mi_dec ib_122 dd_122_60) gw_731 iw_s93 iw_n93 (by decide +kernel) rfl (by decide)
theorem ks_122_63 : mi_snd cs_G cs_cl cs_inf 122 63 (mj_if (fun x => decide (x = 0)) 98 66) := ms_if_eq (mi_dec ib_122 dd_122_63) (by decide)
theorem ks_122_66 : mi_snd cs_G cs_cl cs_inf 122 66 (mj_aload 0 67) := ms_aload_n (mi_dec ib_122 dd_122_66) rfl
theorem ks_122_67 : mi_snd cs_G cs_cl cs_inf 122 67 (mj_get 9 3 70) := ms_get (T := cs_T9) (k := 3) (mi_dec ib_122 dd_122_67) rfl cs_in9 (by decide) gw_639
theorem ks_122_70 : mi_snd cs_G cs_cl cs_inf 122 70 (mj_iload 2 71) := ms_iload_n (mi_dec ib_122 dd_122_70) rfl
theorem ks_122_71 : mi_snd cs_G cs_cl cs_inf 122 71 (mj_ald 0 72) := ms_ald0 (mi_dec ib_122 dd_122_71)
theorem ks_122_72 : mi_snd cs_G cs_cl cs_inf 122 72 (mj_iload 5 74) := ms_iload (mi_dec ib_122 dd_122_72)
theorem ks_122_74 : mi_snd cs_G cs_cl cs_inf 122 74 (mj_callS 93 2 2 77) := ms_callS iw_c93 (mi_dec ib_122 dd_122_74) gw_731 iw_s93 iw_n93 (by decide +kernel) rfl (by decide)
theorem ks_122_77 : mi_snd cs_G cs_cl cs_inf 122 77 (mj_if (fun x => decide (x = 0)) 98 80) := ms_if_eq (mi_dec ib_122 dd_122_77) (by decide)
theorem ks_122_80 : mi_snd cs_G cs_cl cs_inf 122 80 (mj_push (.inl 1) 81) := ms_iconst (mi_dec ib_122 dd_122_80) (by decide)
theorem ks_122_81 : mi_snd cs_G cs_cl cs_inf 122 81 (mj_aload 0 82) := ms_aload_n (mi_dec ib_122 dd_122_81) rfl
theorem ks_122_82 : mi_snd cs_G cs_cl cs_inf 122 82 (mj_get 9 17 85) := ms_get (T := cs_T9) (k := 17) (mi_dec ib_122 dd_122_82) rfl cs_in9 (by decide) gw_653
theorem ks_122_85 : mi_snd cs_G cs_cl cs_inf 122 85 (mj_iload 3 86) := ms_iload_n (mi_dec ib_122 dd_122_85) rfl
theorem ks_122_86 : mi_snd cs_G cs_cl cs_inf 122 86 (mj_push (.inl 1) 87) := ms_iconst (mi_dec ib_122 dd_122_86) (by decide)
theorem ks_122_87 : mi_snd cs_G cs_cl cs_inf 122 87 (mj_iload 5 89) := ms_iload (mi_dec ib_122 dd_122_87)
theorem ks_122_89 : mi_snd cs_G cs_cl cs_inf 122 89 (mj_bin (fun x y => x <<< (y &&& 31)) 90) := ms_ishl (mi_dec ib_122 dd_122_89)
theorem ks_122_90 : mi_snd cs_G cs_cl cs_inf 122 90 (mj_push (.inl (-1)) 91) := ms_iconst (mi_dec ib_122 dd_122_90) (by decide)
theorem ks_122_91 : mi_snd cs_G cs_cl cs_inf 122 91 (mj_bin (fun x y => x ^^^ y) 92) := ms_ixor (mi_dec ib_122 dd_122_91)
theorem ks_122_92 : mi_snd cs_G cs_cl cs_inf 122 92 (mj_bin (fun x y => x &&& y) 93) := ms_iand (mi_dec ib_122 dd_122_92)
theorem ks_122_93 : mi_snd cs_G cs_cl cs_inf 122 93 (mj_ald 1 94) := ms_ald1 (mi_dec ib_122 dd_122_93)
theorem ks_122_94 : mi_snd cs_G cs_cl cs_inf 122 94 (mj_bin (fun x y => x + y) 95) := ms_iadd (mi_dec ib_122 dd_122_94)
theorem ks_122_95 : mi_snd cs_G cs_cl cs_inf 122 95 (mj_goto 99) := ms_goto (mi_dec ib_122 dd_122_95) (by decide)
theorem ks_122_98 : mi_snd cs_G cs_cl cs_inf 122 98 (mj_push (.inl 0) 99) := ms_iconst (mi_dec ib_122 dd_122_98) (by decide)
theorem ks_122_99 : mi_snd cs_G cs_cl cs_inf 122 99 (mj_istore 6 101) := ms_istore (mi_dec ib_122 dd_122_99)
theorem ks_122_101 : mi_snd cs_G cs_cl cs_inf 122 101 (mj_iload 6 103) := ms_iload (mi_dec ib_122 dd_122_101)
theorem ks_122_103 : mi_snd cs_G cs_cl cs_inf 122 103 (mj_iload 4 105) := ms_iload (mi_dec ib_122 dd_122_103)
theorem ks_122_105 : mi_snd cs_G cs_cl cs_inf 122 105 (mj_cmp (fun x y => decide (x ≤ y)) 113 108) := ms_icmp_le (mi_dec ib_122 dd_122_105) (by decide)
theorem ks_122_108 : mi_snd cs_G cs_cl cs_inf 122 108 (mj_iload 6 110) := ms_iload (mi_dec ib_122 dd_122_108)
theorem ks_122_110 : mi_snd cs_G cs_cl cs_inf 122 110 (mj_goto 115) := ms_goto (mi_dec ib_122 dd_122_110) (by decide)
theorem ks_122_113 : mi_snd cs_G cs_cl cs_inf 122 113 (mj_iload 4 115) := ms_iload (mi_dec ib_122 dd_122_113)
theorem ks_122_115 : mi_snd cs_G cs_cl cs_inf 122 115 (mj_istore 4 117) := ms_istore (mi_dec ib_122 dd_122_115)
theorem ks_122_117 : mi_snd cs_G cs_cl cs_inf 122 117 (mj_iinc 5 1 120) := ms_iinc (mi_dec ib_122 dd_122_117) (by decide)
theorem ks_122_120 : mi_snd cs_G cs_cl cs_inf 122 120 (mj_goto 48) := ms_goto (mi_dec ib_122 dd_122_120) (by decide)
theorem ks_122_123 : mi_snd cs_G cs_cl cs_inf 122 123 (mj_aload 0 124) := ms_aload_n (mi_dec ib_122 dd_122_123) rfl
theorem ks_122_124 : mi_snd cs_G cs_cl cs_inf 122 124 (mj_get 9 17 127) := ms_get (T := cs_T9) (k := 17) (mi_dec ib_122 dd_122_124) rfl cs_in9 (by decide) gw_653
theorem ks_122_127 : mi_snd cs_G cs_cl cs_inf 122 127 (mj_iload 1 128) := ms_iload_n (mi_dec ib_122 dd_122_127) rfl
theorem ks_122_128 : mi_snd cs_G cs_cl cs_inf 122 128 (mj_iload 4 130) := ms_iload (mi_dec ib_122 dd_122_128)
theorem ks_122_130 : mi_snd cs_G cs_cl cs_inf 122 130 (mj_un (fun x => x.toInt8.toInt32) 131) := ms_i2b (mi_dec ib_122 dd_122_130)
theorem ks_122_131 : mi_snd cs_G cs_cl cs_inf 122 131 (mj_bast 132) := ms_bast (mi_dec ib_122 dd_122_131)
theorem ks_122_132 : mi_snd cs_G cs_cl cs_inf 122 132 (mj_iinc 1 1 135) := ms_iinc (mi_dec ib_122 dd_122_132) (by decide)
theorem ks_122_135 : mi_snd cs_G cs_cl cs_inf 122 135 (mj_goto 14) := ms_goto (mi_dec ib_122 dd_122_135) (by decide)
theorem ks_122_138 : mi_snd cs_G cs_cl cs_inf 122 138 (mj_aload 0 139) := ms_aload_n (mi_dec ib_122 dd_122_138) rfl
theorem ks_122_139 : mi_snd cs_G cs_cl cs_inf 122 139 (mj_get 9 17 142) := ms_get (T := cs_T9) (k := 17) (mi_dec ib_122 dd_122_139) rfl cs_in9 (by decide) gw_653
theorem ks_122_142 : mi_snd cs_G cs_cl cs_inf 122 142 (mj_aload 0 143) := ms_aload_n (mi_dec ib_122 dd_122_142) rfl
theorem ks_122_143 : mi_snd cs_G cs_cl cs_inf 122 143 (mj_callV 9 91 0 1 146) := ms_callV iw_c91 (mi_dec ib_122 dd_122_143) gw_723 iw_i91 rfl iw_v91 iw_n91 (by decide +kernel) rfl (by decide)
theorem ks_122_146 : mi_snd cs_G cs_cl cs_inf 122 146 (mj_ald 1 147) := ms_ald1 (mi_dec ib_122 dd_122_146)
theorem ks_122_147 : mi_snd cs_G cs_cl cs_inf 122 147 (mj_iret) := ms_iret (mi_dec ib_122 dd_122_147) rfl
def ct_122 : List (Nat × mi_I) := [
  (0, mj_aload 0 1),
  (1, mj_push (.inl 0) 2),
  (2, mj_putI 9 0 5),
  (5, mj_aload 0 6),
  (6, mj_get 9 17 9),
  (9, mj_push (.inl 0) 10),
  (10, mj_push (.inl 0) 11),
  (11, mj_bast 12),
  (12, mj_push (.inl 1) 13),
  (13, mj_istore 1 14),
  (14, mj_iload 1 15),
  (15, mj_aload 0 16),
  (16, mj_callV 9 91 0 1 19),
  (19, mj_cmp (fun x y => decide (y < x)) 138 22),
  (22, mj_iload 1 23),
  (23, mj_callS 117 1 2 26),
  (26, mj_istore 2 27),
  (27, mj_iload 1 28),
  (28, mj_push (.inl 1) 29),
  (29, mj_iload 2 30),
  (30, mj_bin (fun x y => x <<< (y &&& 31)) 31),
  (31, mj_push (.inl (-1)) 32),
  (32, mj_bin (fun x y => x ^^^ y) 33),
  (33, mj_bin (fun x y => x &&& y) 34),
  (34, mj_istore 3 35),
  (35, mj_aload 0 36),
  (36, mj_get 9 17 39),
  (39, mj_iload 3 40),
  (40, mj_ald 1 41),
  (41, mj_istore 4 43),
  (43, mj_iload 2 44),
  (44, mj_push (.inl 1) 45),
  (45, mj_bin (fun x y => x + y) 46),
  (46, mj_istore 5 48),
  (48, mj_iload 5 50),
  (50, mj_aload 0 51),
  (51, mj_get 9 1 54),
  (54, mj_cmp (fun x y => decide (y ≤ x)) 123 57),
  (57, mj_iload 3 58),
  (58, mj_iload 5 60),
  (60, mj_callS 93 2 2 63),
  (63, mj_if (fun x => decide (x = 0)) 98 66),
  (66, mj_aload 0 67),
  (67, mj_get 9 3 70),
  (70, mj_iload 2 71),
  (71, mj_ald 0 72),
  (72, mj_iload 5 74),
  (74, mj_callS 93 2 2 77),
  (77, mj_if (fun x => decide (x = 0)) 98 80),
  (80, mj_push (.inl 1) 81),
  (81, mj_aload 0 82),
  (82, mj_get 9 17 85),
  (85, mj_iload 3 86),
  (86, mj_push (.inl 1) 87),
  (87, mj_iload 5 89),
  (89, mj_bin (fun x y => x <<< (y &&& 31)) 90),
  (90, mj_push (.inl (-1)) 91),
  (91, mj_bin (fun x y => x ^^^ y) 92),
  (92, mj_bin (fun x y => x &&& y) 93),
  (93, mj_ald 1 94),
  (94, mj_bin (fun x y => x + y) 95),
  (95, mj_goto 99),
  (98, mj_push (.inl 0) 99),
  (99, mj_istore 6 101),
  (101, mj_iload 6 103),
  (103, mj_iload 4 105),
  (105, mj_cmp (fun x y => decide (x ≤ y)) 113 108),
  (108, mj_iload 6 110),
  (110, mj_goto 115),
  (113, mj_iload 4 115),
  (115, mj_istore 4 117),
  (117, mj_iinc 5 1 120),
  (120, mj_goto 48),
  (123, mj_aload 0 124),
  (124, mj_get 9 17 127),
  (127, mj_iload 1 128),
  (128, mj_iload 4 130),
  (130, mj_un (fun x => x.toInt8.toInt32) 131),
  (131, mj_bast 132),
  (132, mj_iinc 1 1 135),
  (135, mj_goto 14),
  (138, mj_aload 0 139),
  (139, mj_get 9 17 142),
  (142, mj_aload 0 143),
  (143, mj_callV 9 91 0 1 146),
  (146, mj_ald 1 147),
  (147, mj_iret)]
theorem sd_122 : ∀ q ∈ ct_122, mi_snd cs_G cs_cl cs_inf 122 q.1 q.2 := mi_fc ks_122_0 (mi_fc ks_122_1 (mi_fc ks_122_2 (mi_fc ks_122_5 (mi_fc ks_122_6 (mi_fc ks_122_9 (mi_fc ks_122_10 (mi_fc ks_122_11 (mi_fc ks_122_12 (mi_fc ks_122_13 (mi_fc ks_122_14 (mi_fc ks_122_15 (mi_fc ks_122_16 (mi_fc ks_122_19 (mi_fc ks_122_22 (mi_fc ks_122_23 (mi_fc ks_122_26 (mi_fc ks_122_27 (mi_fc ks_122_28 (mi_fc ks_122_29 (mi_fc ks_122_30 (mi_fc ks_122_31 (mi_fc ks_122_32 (mi_fc ks_122_33 (mi_fc ks_122_34 (mi_fc ks_122_35 (mi_fc ks_122_36 (mi_fc ks_122_39 (mi_fc ks_122_40 (mi_fc ks_122_41 (mi_fc ks_122_43 (mi_fc ks_122_44 (mi_fc ks_122_45 (mi_fc ks_122_46 (mi_fc ks_122_48 (mi_fc ks_122_50 (mi_fc ks_122_51 (mi_fc ks_122_54 (mi_fc ks_122_57 (mi_fc ks_122_58 (mi_fc ks_122_60 (mi_fc ks_122_63 (mi_fc ks_122_66 (mi_fc ks_122_67 (mi_fc ks_122_70 (mi_fc ks_122_71 (mi_fc ks_122_72 (mi_fc ks_122_74 (mi_fc ks_122_77 (mi_fc ks_122_80 (mi_fc ks_122_81 (mi_fc ks_122_82 (mi_fc ks_122_85 (mi_fc ks_122_86 (mi_fc ks_122_87 (mi_fc ks_122_89 (mi_fc ks_122_90 (mi_fc ks_122_91 (mi_fc ks_122_92 (mi_fc ks_122_93 (mi_fc ks_122_94 (mi_fc ks_122_95 (mi_fc ks_122_98 (mi_fc ks_122_99 (mi_fc ks_122_101 (mi_fc ks_122_103 (mi_fc ks_122_105 (mi_fc ks_122_108 (mi_fc ks_122_110 (mi_fc ks_122_113 (mi_fc ks_122_115 (mi_fc ks_122_117 (mi_fc ks_122_120 (mi_fc ks_122_123 (mi_fc ks_122_124 (mi_fc ks_122_127 (mi_fc ks_122_128 (mi_fc ks_122_130 (mi_fc ks_122_131 (mi_fc ks_122_132 (mi_fc ks_122_135 (mi_fc ks_122_138 (mi_fc ks_122_139 (mi_fc ks_122_142 (mi_fc ks_122_143 (mi_fc ks_122_146 (mi_fc ks_122_147 mi_fn))))))))))))))))))))))))))))))))))))))))))))))))))))))))))))))))))))))))))))))))))))))
theorem dd_123_0 : decode prog_11_method_42_code 0 = .ok (.aload_n 0, 1) := by decide +kernel
theorem dd_123_1 : decode prog_11_method_42_code 1 = .ok (.iconst 0, 1) := by decide +kernel
theorem dd_123_2 : decode prog_11_method_42_code 2 = .ok (.putfield 1, 3) := by decide +kernel
theorem dd_123_5 : decode prog_11_method_42_code 5 = .ok (.iconst 0, 1) := by decide +kernel
theorem dd_123_6 : decode prog_11_method_42_code 6 = .ok (.istore_n 2, 1) := by decide +kernel
theorem dd_123_7 : decode prog_11_method_42_code 7 = .ok (.iload_n 1, 1) := by decide +kernel
theorem dd_123_8 : decode prog_11_method_42_code 8 = .ok (.tableswitch 95 0 3 #[32, 37, 46, 55], 32) := by decide +kernel
theorem dd_123_40 : decode prog_11_method_42_code 40 = .ok (.aload_n 0, 1) := by decide +kernel
theorem dd_123_41 : decode prog_11_method_42_code 41 = .ok (.getfield 37, 3) := by decide +kernel
theorem dd_123_44 : decode prog_11_method_42_code 44 = .ok (.ireturn, 1) := by decide +kernel
theorem dd_123_45 : decode prog_11_method_42_code 45 = .ok (.aload_n 0, 1) := by decide +kernel
theorem dd_123_46 : decode prog_11_method_42_code 46 = .ok (.aload_n 0, 1) := by decide +kernel
theorem dd_123_47 : decode prog_11_method_42_code 47 = .ok (.invokevirtual 58, 3) := by decide +kernel
theorem dd_123_50 : decode prog_11_method_42_code 50 = .ok (.invokevirtual 125, 3) := by decide +kernel
theorem dd_123_53 : decode prog_11_method_42_code 53 = .ok (.ireturn, 1) := by decide +kernel
theorem dd_123_54 : decode prog_11_method_42_code 54 = .ok (.aload_n 0, 1) := by decide +kernel
theorem dd_123_55 : decode prog_11_method_42_code 55 = .ok (.aload_n 0, 1) := by decide +kernel
theorem dd_123_56 : decode prog_11_method_42_code 56 = .ok (.invokevirtual 58, 3) := by decide +kernel
theorem dd_123_59 : decode prog_11_method_42_code 59 = .ok (.invokevirtual 62, 3) := by decide +kernel
theorem dd_123_62 : decode prog_11_method_42_code 62 = .ok (.ireturn, 1) := by decide +kernel
theorem dd_123_63 : decode prog_11_method_42_code 63 = .ok (.iconst 0, 1) := by decide +kernel
theorem dd_123_64 : decode prog_11_method_42_code 64 = .ok (.istore_n 3, 1) := by decide +kernel
theorem dd_123_65 : decode prog_11_method_42_code 65 = .ok (.iload_n 3, 1) := by decide +kernel
theorem dd_123_66 : decode prog_11_method_42_code 66 = .ok (.aload_n 0, 1) := by decide +kernel
theorem dd_123_67 : decode prog_11_method_42_code 67 = .ok (.getfield 37, 3) := by decide +kernel
theorem dd_123_70 : decode prog_11_method_42_code 70 = .ok (.if_icmp .ge 31, 3) := by decide +kernel
theorem dd_123_73 : decode prog_11_method_42_code 73 = .ok (.aload_n 0, 1) := by decide +kernel
theorem dd_123_74 : decode prog_11_method_42_code 74 = .ok (.iload_n 3, 1) := by decide +kernel
theorem dd_123_75 : decode prog_11_method_42_code 75 = .ok (.invokevirtual 134, 3) := by decide +kernel
theorem dd_123_78 : decode prog_11_method_42_code 78 = .ok (.iconst 1, 1) := by decide +kernel
theorem dd_123_79 : decode prog_11_method_42_code 79 = .ok (.iload_n 3, 1) := by decide +kernel
theorem dd_123_80 : decode prog_11_method_42_code 80 = .ok (.ishl, 1) := by decide +kernel
theorem dd_123_81 : decode prog_11_method_42_code 81 = .ok (.iconst 1, 1) := by decide +kernel
theorem dd_123_82 : decode prog_11_method_42_code 82 = .ok (.isub, 1) := by decide +kernel
theorem dd_123_83 : decode prog_11_method_42_code 83 = .ok (.iand, 1) := by decide +kernel
theorem dd_123_84 : decode prog_11_method_42_code 84 = .ok (.ifCond .ne 9, 3) := by decide +kernel
theorem dd_123_87 : decode prog_11_method_42_code 87 = .ok (.iload_n 2, 1) := by decide +kernel
theorem dd_123_88 : decode prog_11_method_42_code 88 = .ok (.iconst 1, 1) := by decide +kernel
theorem dd_123_89 : decode prog_11_method_42_code 89 = .ok (.iadd, 1) := by decide +kernel
theorem dd_123_90 : decode prog_11_method_42_code 90 = .ok (.goto 4, 3) := by decide +kernel
theorem dd_123_93 : decode prog_11_method_42_code 93 = .ok (.iload_n 2, 1) := by decide +kernel
theorem dd_123_94 : decode prog_11_method_42_code 94 = .ok (.istore_n 2, 1) := by decide +kernel
theorem dd_123_95 : decode prog_11_method_42_code 95 = .ok (.iinc 3 1, 3) := by decide +kernel
theorem dd_123_98 : decode prog_11_method_42_code 98 = .ok (.goto (-33), 3) := by decide +kernel
theorem dd_123_101 : decode prog_11_method_42_code 101 = .ok (.iload_n 2, 1) := by decide +kernel
theorem dd_123_102 : decode prog_11_method_42_code 102 = .ok (.ireturn, 1) := by decide +kernel
theorem dd_123_103 : decode prog_11_method_42_code 103 = .ok (.iconst (-1), 1) := by decide +kernel
theorem dd_123_104 : decode prog_11_method_42_code 104 = .ok (.ireturn, 1) := by decide +kernel
theorem ks_123_0 : mi_snd cs_G cs_cl cs_inf 123 0 (mj_aload 0 1) := ms_aload_n (mi_dec ib_123 dd_123_0) rfl
theorem ks_123_1 : mi_snd cs_G cs_cl cs_inf 123 1 (mj_push (.inl 0) 2) := ms_iconst (mi_dec ib_123 dd_123_1) (by decide)
theorem ks_123_2 : mi_snd cs_G cs_cl cs_inf 123 2 (mj_putI 9 0 5) := ms_putI (T := cs_T9) (k := 0) (mi_dec ib_123 dd_123_2) rfl cs_in9 cs_ty9_ok cs_nm9 (by decide) gw_636 (by decide) (by decide +kernel)
theorem ks_123_5 : mi_snd cs_G cs_cl cs_inf 123 5 (mj_push (.inl 0) 6) := ms_iconst (mi_dec ib_123 dd_123_5) (by decide)
theorem ks_123_6 : mi_snd cs_G cs_cl cs_inf 123 6 (mj_istore 2 7) := ms_istore_n (mi_dec ib_123 dd_123_6) rfl
theorem ks_123_7 : mi_snd cs_G cs_cl cs_inf 123 7 (mj_iload 1 8) := ms_iload_n (mi_dec ib_123 dd_123_7) rfl
theorem ks_123_8 : mi_snd cs_G cs_cl cs_inf 123 8 (mj_sw (mi_tab 0 [40, 45, 54, 63] 103)) := ms_table (mi_dec ib_123 dd_123_8) (by decide) (by decide) (by decide)
theorem ks_123_40 : mi_snd cs_G cs_cl cs_inf 123 40 (mj_aload 0 41) := ms_aload_n (mi_dec ib_123 dd_123_40) rfl
theorem ks_123_41 : mi_snd cs_G cs_cl cs_inf 123 41 (mj_get 9 1 44) := ms_get (T := cs_T9) (k := 1) (mi_dec ib_123 dd_123_41) rfl cs_in9 (by decide) gw_637
theorem ks_123_44 : mi_snd cs_G cs_cl cs_inf 123 44 (mj_iret) := ms_iret (mi_dec ib_123 dd_123_44) rfl
theorem ks_123_45 : mi_snd cs_G cs_cl cs_inf 123 45 (mj_aload 0 46) := ms_aload_n (mi_dec ib_123 dd_123_45) rfl
theorem ks_123_46 : mi_snd cs_G cs_cl cs_inf 123 46 (mj_aload 0 47) := ms_aload_n (mi_dec ib_123 dd_123_46) rfl
theorem ks_123_47 : mi_snd cs_G cs_cl cs_inf 123 47 (mj_callV 9 91 0 1 50) := ms_callV iw_c91 (mi_dec ib_123 dd_123_47) gw_723 iw_i91 rfl iw_v91 iw_n91 (by decide +kernel) rfl (by decide)
theorem ks_123_50 : mi_snd cs_G cs_cl cs_inf 123 50 (mj_callV 9 118 1 4 53) := ms_callV iw_c118 (mi_dec ib_123 dd_123_50) gw_831 iw_i118 rfl iw_v118 iw_n118 (by decide +kernel) rfl (by decide)
theorem ks_123_53 : mi_snd cs_G cs_cl cs_inf 123 53 (mj_iret) := ms_iret (mi_dec ib_123 dd_123_53) rfl
theorem ks_123_54 : mi_snd cs_G cs_cl cs_inf 123 54 (mj_aload 0 55) := ms_aload_n (mi_dec ib_123 dd_123_54) rfl
theorem ks_123_55 : mi_snd cs_G cs_cl cs_inf 123 55 (mj_aload 0 56) := ms_aload_n (mi_dec ib_123 dd_123_55) rfl
theorem ks_123_56 : mi_snd cs_G cs_cl cs_inf 123 56 (mj_callV 9 91 0 1 59) := ms_callV iw_c91 (mi_dec ib_123 dd_123_56) gw_723 iw_i91 rfl iw_v91 iw_n91 (by decide +kernel) rfl (by decide)
theorem ks_123_59 : mi_snd cs_G cs_cl cs_inf 123 59 (mj_callV 9 92 1 4 62) := ms_callV iw_c92 (mi_dec ib_123 dd_123_59) gw_727 iw_i92 rfl iw_v92 iw_n92 (by decide +kernel) rfl (by decide)
theorem ks_123_62 : mi_snd cs_G cs_cl cs_inf 123 62 (mj_iret) := ms_iret (mi_dec ib_123 dd_123_62) rfl
theorem ks_123_63 : mi_snd cs_G cs_cl cs_inf 123 63 (mj_push (.inl 0) 64) := ms_iconst (mi_dec ib_123 dd_123_63) (by decide)
theorem ks_123_64 : mi_snd cs_G cs_cl cs_inf 123 64 (mj_istore 3 65) := ms_istore_n (mi_dec ib_123 dd_123_64) rfl
theorem ks_123_65 : mi_snd cs_G cs_cl cs_inf 123 65 (mj_iload 3 66) := ms_iload_n (mi_dec ib_123 dd_123_65) rfl
theorem ks_123_66 : mi_snd cs_G cs_cl cs_inf 123 66 (mj_aload 0 67) := ms_aload_n (mi_dec ib_123 dd_123_66) rfl
theorem ks_123_67 : mi_snd cs_G cs_cl cs_inf 123 67 (mj_get 9 1 70) := ms_get (T := cs_T9) (k := 1) (mi_dec ib_123 dd_123_67) rfl cs_in9 (by decide) gw_637
theorem ks_123_70 : mi_snd cs_G cs_cl cs_inf 123 70 (mj_cmp (fun x y => decide (y ≤ x)) 101 73) := ms_icmp_ge (mi_dec ib_123 dd_123_70) (by decide)
theorem ks_123_73 : mi_snd cs_G cs_cl cs_inf 123 73 (mj_aload 0 74) := ms_aload_n (mi_dec ib_123 dd_123_73) rfl
theorem ks_123_74 : mi_snd cs_G cs_cl cs_inf 123 74 (mj_iload 3 75) := ms_iload_n (mi_dec ib_123 dd_123_74) rfl
theorem ks_123_75 : mi_snd cs_G cs_cl cs_inf 123 75 (mj_callV 9 121 1 5 78) := ms_callV iw_c121 (mi_dec ib_123 dd_123_75) gw_843 iw_i121 rfl iw_v121 iw_n121 (by decide +kernel) rfl (by decide)
theorem ks_123_78 : mi_snd cs_G cs_cl cs_inf 123 78 (mj_push (.inl 1) 79) := ms_iconst (mi_dec ib_123 dd_123_78) (by decide)
theorem ks_123_79 : mi_snd cs_G cs_cl cs_inf 123 79 (mj_iload 3 80) := ms_iload_n (mi_dec ib_123 dd_123_79) rfl
theorem ks_123_80 : mi_snd cs_G cs_cl cs_inf 123 80 (mj_bin (fun x y => x <<< (y &&& 31)) 81) := ms_ishl (mi_dec ib_123 dd_123_80)
theorem ks_123_81 : mi_snd cs_G cs_cl cs_inf 123 81 (mj_push (.inl 1) 82) := ms_iconst (mi_dec ib_123 dd_123_81) (by decide)
theorem ks_123_82 : mi_snd cs_G cs_cl cs_inf 123 82 (mj_bin (fun x y => x - y) 83) := ms_isub (mi_dec ib_123 dd_123_82)
theorem ks_123_83 : mi_snd cs_G cs_cl cs_inf 123 83 (mj_bin (fun x y => x &&& y) 84) := ms_iand (mi_dec ib_123 dd_123_83)
theorem ks_123_84 : mi_snd cs_G cs_cl cs_inf 123 84 (mj_if (fun x => decide (¬ x = 0)) 93 87) := ms_if_ne (mi_dec ib_123 dd_123_84) (by decide)
theorem ks_123_87 : mi_snd cs_G cs_cl cs_inf 123 87 (mj_iload 2 88) := ms_iload_n (mi_dec ib_123 dd_123_87) rfl
theorem ks_123_88 : mi_snd cs_G cs_cl cs_inf 123 88 (mj_push (.inl 1) 89) := ms_iconst (mi_dec ib_123 dd_123_88) (by decide)
theorem ks_123_89 : mi_snd cs_G cs_cl cs_inf 123 89 (mj_bin (fun x y => x + y) 90) := ms_iadd (mi_dec ib_123 dd_123_89)
theorem ks_123_90 : mi_snd cs_G cs_cl cs_inf 123 90 (mj_goto 94) := ms_goto (mi_dec ib_123 dd_123_90) (by decide)
theorem ks_123_93 : mi_snd cs_G cs_cl cs_inf 123 93 (mj_iload 2 94) := ms_iload_n (mi_dec ib_123 dd_123_93) rfl
theorem ks_123_94 : mi_snd cs_G cs_cl cs_inf 123 94 (mj_istore 2 95) := ms_istore_n (mi_dec ib_123 dd_123_94) rfl
theorem ks_123_95 : mi_snd cs_G cs_cl cs_inf 123 95 (mj_iinc 3 1 98) := ms_iinc (mi_dec ib_123 dd_123_95) (by decide)
theorem ks_123_98 : mi_snd cs_G cs_cl cs_inf 123 98 (mj_goto 65) := ms_goto (mi_dec ib_123 dd_123_98) (by decide)
theorem ks_123_101 : mi_snd cs_G cs_cl cs_inf 123 101 (mj_iload 2 102) := ms_iload_n (mi_dec ib_123 dd_123_101) rfl
theorem ks_123_102 : mi_snd cs_G cs_cl cs_inf 123 102 (mj_iret) := ms_iret (mi_dec ib_123 dd_123_102) rfl
theorem ks_123_103 : mi_snd cs_G cs_cl cs_inf 123 103 (mj_push (.inl (-1)) 104) := ms_iconst (mi_dec ib_123 dd_123_103) (by decide)
theorem ks_123_104 : mi_snd cs_G cs_cl cs_inf 123 104 (mj_iret) := ms_iret (mi_dec ib_123 dd_123_104) rfl
def ct_123 : List (Nat × mi_I) := [
  (0, mj_aload 0 1),
  (1, mj_push (.inl 0) 2),
  (2, mj_putI 9 0 5),
  (5, mj_push (.inl 0) 6),
  (6, mj_istore 2 7),
  (7, mj_iload 1 8),
  (8, mj_sw (mi_tab 0 [40, 45, 54, 63] 103)),
  (40, mj_aload 0 41),
  (41, mj_get 9 1 44),
  (44, mj_iret),
  (45, mj_aload 0 46),
  (46, mj_aload 0 47),
  (47, mj_callV 9 91 0 1 50),
  (50, mj_callV 9 118 1 4 53),
  (53, mj_iret),
  (54, mj_aload 0 55),
  (55, mj_aload 0 56),
  (56, mj_callV 9 91 0 1 59),
  (59, mj_callV 9 92 1 4 62),
  (62, mj_iret),
  (63, mj_push (.inl 0) 64),
  (64, mj_istore 3 65),
  (65, mj_iload 3 66),
  (66, mj_aload 0 67),
  (67, mj_get 9 1 70),
  (70, mj_cmp (fun x y => decide (y ≤ x)) 101 73),
  (73, mj_aload 0 74),
  (74, mj_iload 3 75),
  (75, mj_callV 9 121 1 5 78),
  (78, mj_push (.inl 1) 79),
  (79, mj_iload 3 80),
  (80, mj_bin (fun x y => x <<< (y &&& 31)) 81),
  (81, mj_push (.inl 1) 82),
  (82, mj_bin (fun x y => x - y) 83),
  (83, mj_bin (fun x y => x &&& y) 84),
  (84, mj_if (fun x => decide (¬ x = 0)) 93 87),
  (87, mj_iload 2 88),
  (88, mj_push (.inl 1) 89),
  (89, mj_bin (fun x y => x + y) 90),
  (90, mj_goto 94),
  (93, mj_iload 2 94),
  (94, mj_istore 2 95),
  (95, mj_iinc 3 1 98),
  (98, mj_goto 65),
  (101, mj_iload 2 102),
  (102, mj_iret),
  (103, mj_push (.inl (-1)) 104),
  (104, mj_iret)]
theorem sd_123 : ∀ q ∈ ct_123, mi_snd cs_G cs_cl cs_inf 123 q.1 q.2 := mi_fc ks_123_0 (mi_fc ks_123_1 (mi_fc ks_123_2 (mi_fc ks_123_5 (mi_fc ks_123_6 (mi_fc ks_123_7 (mi_fc ks_123_8 (mi_fc ks_123_40 (mi_fc ks_123_41 (mi_fc ks_123_44 (mi_fc ks_123_45 (mi_fc ks_123_46 (mi_fc ks_123_47 (mi_fc ks_123_50 (mi_fc ks_123_53 (mi_fc ks_123_54 (mi_fc ks_123_55 (mi_fc ks_123_56 (mi_fc ks_123_59 (mi_fc ks_123_62 (mi_fc ks_123_63 (mi_fc ks_123_64 (mi_fc ks_123_65 (mi_fc ks_123_66 (mi_fc ks_123_67 (mi_fc ks_123_70 (mi_fc ks_123_73 (mi_fc ks_123_74 (mi_fc ks_123_75 (mi_fc ks_123_78 (mi_fc ks_123_79 (mi_fc ks_123_80 (mi_fc ks_123_81 (mi_fc ks_123_82 (mi_fc ks_123_83 (mi_fc ks_123_84 (mi_fc ks_123_87 (mi_fc ks_123_88 (mi_fc ks_123_89 (mi_fc ks_123_90 (mi_fc ks_123_93 (mi_fc ks_123_94 (mi_fc ks_123_95 (mi_fc ks_123_98 (mi_fc ks_123_101 (mi_fc ks_123_102 (mi_fc ks_123_103 (mi_fc ks_123_104 mi_fn)))))))))))))))))))))))))))))))))))))))))))))))

theorem dd_113_0 : decode prog_11_method_32_code 0 = .ok (.aload_n 0, 1) := by decide +kernel
theorem dd_113_1 : decode prog_11_method_32_code 1 = .ok (.getfield 89, 3) := by decide +kernel
theorem dd_113_4 : decode prog_11_method_32_code 4 = .ok (.aload_n 0, 1) := by decide +kernel
theorem dd_113_5 : decode prog_11_method_32_code 5 = .ok (.getfield 92, 3) := by decide +kernel
theorem dd_113_8 : decode prog_11_method_32_code 8 = .ok (.if_icmp .ne 9, 3) := by decide +kernel
theorem dd_113_11 : decode prog_11_method_32_code 11 = .ok (.aload_n 0, 1) := by decide +kernel
theorem dd_113_12 : decode prog_11_method_32_code 12 = .ok (.iconst 1, 1) := by decide +kernel
theorem dd_113_13 : decode prog_11_method_32_code 13 = .ok (.putfield 95, 3) := by decide +kernel
theorem dd_113_16 : decode prog_11_method_32_code 16 = .ok (.return_, 1) := by decide +kernel
theorem dd_113_17 : decode prog_11_method_32_code 17 = .ok (.aload_n 0, 1) := by decide +kernel
theorem dd_113_18 : decode prog_11_method_32_code 18 = .ok (.dup, 1) := by decide +kernel
theorem dd_113_19 : decode prog_11_method_32_code 19 = .ok (.getfield 89, 3) := by decide +kernel
theorem dd_113_22 : decode prog_11_method_32_code 22 = .ok (.iconst 1, 1) := by decide +kernel
theorem dd_113_23 : decode prog_11_method_32_code 23 = .ok (.iadd, 1) := by decide +kernel
theorem dd_113_24 : decode prog_11_method_32_code 24 = .ok (.putfield 89, 3) := by decide +kernel
theorem dd_113_27 : decode prog_11_method_32_code 27 = .ok (.iload_n 1, 1) := by decide +kernel
theorem dd_113_28 : decode prog_11_method_32_code 28 = .ok (.invokestatic 52, 3) := by decide +kernel
theorem dd_113_31 : decode prog_11_method_32_code 31 = .ok (.istore_n 3, 1) := by decide +kernel
theorem dd_113_32 : decode prog_11_method_32_code 32 = .ok (.iload_n 2, 1) := by decide +kernel
theorem dd_113_33 : decode prog_11_method_32_code 33 = .ok (.ifCond .ne 27, 3) := by decide +kernel
theorem dd_113_36 : decode prog_11_method_32_code 36 = .ok (.aload_n 0, 1) := by decide +kernel
theorem dd_113_37 : decode prog_11_method_32_code 37 = .ok (.iload_n 3, 1) := by decide +kernel
theorem dd_113_38 : decode prog_11_method_32_code 38 = .ok (.aload_n 0, 1) := by decide +kernel
theorem dd_113_39 : decode prog_11_method_32_code 39 = .ok (.getfield 99, 3) := by decide +kernel
theorem dd_113_42 : decode prog_11_method_32_code 42 = .ok (.invokestatic 52, 3) := by decide +kernel
theorem dd_113_45 : decode prog_11_method_32_code 45 = .ok (.if_icmp .le 7, 3) := by decide +kernel
theorem dd_113_48 : decode prog_11_method_32_code 48 = .ok (.iload_n 1, 1) := by decide +kernel
theorem dd_113_49 : decode prog_11_method_32_code 49 = .ok (.goto 7, 3) := by decide +kernel
theorem dd_113_52 : decode prog_11_method_32_code 52 = .ok (.aload_n 0, 1) := by decide +kernel
theorem dd_113_53 : decode prog_11_method_32_code 53 = .ok (.getfield 99, 3) := by decide +kernel
theorem dd_113_56 : decode prog_11_method_32_code 56 = .ok (.putfield 99, 3) := by decide +kernel
theorem dd_113_59 : decode prog_11_method_32_code 59 = .ok (.return_, 1) := by decide +kernel
theorem dd_113_60 : decode prog_11_method_32_code 60 = .ok (.iload_n 2, 1) := by decide +kernel
theorem dd_113_61 : decode prog_11_method_32_code 61 = .ok (.istore 4, 2) := by decide +kernel
theorem dd_113_63 : decode prog_11_method_32_code 63 = .ok (.aload_n 0, 1) := by decide +kernel
theorem dd_113_64 : decode prog_11_method_32_code 64 = .ok (.iload_n 2, 1) := by decide +kernel
theorem dd_113_65 : decode prog_11_method_32_code 65 = .ok (.invokevirtual 83, 3) := by decide +kernel
theorem dd_113_68 : decode prog_11_method_32_code 68 = .ok (.istore 5, 2) := by decide +kernel
theorem dd_113_70 : decode prog_11_method_32_code 70 = .ok (.lconst 0, 1) := by decide +kernel
theorem dd_113_71 : decode prog_11_method_32_code 71 = .ok (.lstore 6, 2) := by decide +kernel
theorem dd_113_73 : decode prog_11_method_32_code 73 = .ok (.iconst 0, 1) := by decide +kernel
theorem dd_113_74 : decode prog_11_method_32_code 74 = .ok (.istore 8, 2) := by decide +kernel
theorem dd_113_76 : decode prog_11_method_32_code 76 = .ok (.iload 8, 2) := by decide +kernel
theorem dd_113_78 : decode prog_11_method_32_code 78 = .ok (.aload_n 0, 1) := by decide +kernel
theorem dd_113_79 : decode prog_11_method_32_code 79 = .ok (.getfield 37, 3) := by decide +kernel
theorem dd_113_82 : decode prog_11_method_32_code 82 = .ok (.if_icmp .ge 43, 3) := by decide +kernel
theorem dd_113_85 : decode prog_11_method_32_code 85 = .ok (.iload_n 2, 1) := by decide +kernel
theorem dd_113_86 : decode prog_11_method_32_code 86 = .ok (.iload 8, 2) := by decide +kernel
theorem dd_113_88 : decode prog_11_method_32_code 88 = .ok (.invokestatic 48, 3) := by decide +kernel
theorem dd_113_91 : decode prog_11_method_32_code 91 = .ok (.ifCond .eq 24, 3) := by decide +kernel
theorem dd_113_94 : decode prog_11_method_32_code 94 = .ok (.lload 6, 2) := by decide +kernel
theorem dd_113_96 : decode prog_11_method_32_code 96 = .ok (.aload_n 0, 1) := by decide +kernel
theorem dd_113_97 : decode prog_11_method_32_code 97 = .ok (.getfield 23, 3) := by decide +kernel
theorem dd_113_100 : decode prog_11_method_32_code 100 = .ok (.iload 8, 2) := by decide +kernel
theorem dd_113_102 : decode prog_11_method_32_code 102 = .ok (.iaload, 1) := by decide +kernel
theorem dd_113_103 : decode prog_11_method_32_code 103 = .ok (.iconst 1, 1) := by decide +kernel
theorem dd_113_104 : decode prog_11_method_32_code 104 = .ok (.isub, 1) := by decide +kernel
theorem dd_113_105 : decode prog_11_method_32_code 105 = .ok (.i2l, 1) := by decide +kernel
theorem dd_113_106 : decode prog_11_method_32_code 106 = .ok (.iconst 4, 1) := by decide +kernel
theorem dd_113_107 : decode prog_11_method_32_code 107 = .ok (.iload 8, 2) := by decide +kernel
theorem dd_113_109 : decode prog_11_method_32_code 109 = .ok (.imul, 1) := by decide +kernel
theorem dd_113_110 : decode prog_11_method_32_code 110 = .ok (.lshl, 1) := by decide +kernel
theorem dd_113_111 : decode prog_11_method_32_code 111 = .ok (.lor, 1) := by decide +kernel
theorem dd_113_112 : decode prog_11_method_32_code 112 = .ok (.goto 5, 3) := by decide +kernel
theorem dd_113_115 : decode prog_11_method_32_code 115 = .ok (.lload 6, 2) := by decide +kernel
theorem dd_113_117 : decode prog_11_method_32_code 117 = .ok (.lstore 6, 2) := by decide +kernel
theorem dd_113_119 : decode prog_11_method_32_code 119 = .ok (.iinc 8 1, 3) := by decide +kernel
theorem dd_113_122 : decode prog_11_method_32_code 122 = .ok (.goto (-46), 3) := by decide +kernel
theorem dd_113_125 : decode prog_11_method_32_code 125 = .ok (.iload 5, 2) := by decide +kernel
theorem dd_113_127 : decode prog_11_method_32_code 127 = .ok (.istore 8, 2) := by decide +kernel
theorem dd_113_129 : decode prog_11_method_32_code 129 = .ok (.iload 8, 2) := by decide +kernel
theorem dd_113_131 : decode prog_11_method_32_code 131 = .ok (.ifCond .le 121, 3) := by decide +kernel
theorem dd_113_134 : decode prog_11_method_32_code 134 = .ok (.aload_n 0, 1) := by decide +kernel
theorem dd_113_135 : decode prog_11_method_32_code 135 = .ok (.getfield 37, 3) := by decide +kernel
theorem dd_113_138 : decode prog_11_method_32_code 138 = .ok (.iconst 1, 1) := by decide +kernel
theorem dd_113_139 : decode prog_11_method_32_code 139 = .ok (.isub, 1) := by decide +kernel
theorem dd_113_140 : decode prog_11_method_32_code 140 = .ok (.istore 9, 2) := by decide +kernel
theorem dd_113_142 : decode prog_11_method_32_code 142 = .ok (.iload 9, 2) := by decide +kernel
theorem dd_113_144 : decode prog_11_method_32_code 144 = .ok (.ifCond .lt 102, 3) := by decide +kernel
theorem dd_113_147 : decode prog_11_method_32_code 147 = .ok (.iload_n 2, 1) := by decide +kernel
theorem dd_113_148 : decode prog_11_method_32_code 148 = .ok (.iload 9, 2) := by decide +kernel
theorem dd_113_150 : decode prog_11_method_32_code 150 = .ok (.invokestatic 48, 3) := by decide +kernel
theorem dd_113_153 : decode prog_11_method_32_code 153 = .ok (.ifCond .eq 87, 3) := by decide +kernel
theorem dd_113_156 : decode prog_11_method_32_code 156 = .ok (.lload 6, 2) := by decide +kernel
theorem dd_113_158 : decode prog_11_method_32_code 158 = .ok (.iconst 4, 1) := by decide +kernel
theorem dd_113_159 : decode prog_11_method_32_code 159 = .ok (.iload 9, 2) := by decide +kernel
theorem dd_113_161 : decode prog_11_method_32_code 161 = .ok (.imul, 1) := by decide +kernel
theorem dd_113_162 : decode prog_11_method_32_code 162 = .ok (.lshr, 1) := by decide +kernel
theorem dd_113_163 : decode prog_11_method_32_code 163 = .ok (.ldc2_w 102, 3) := by decide +kernel
theorem dd_113_166 : decode prog_11_method_32_code 166 = .ok (.land, 1) := by decide +kernel
theorem dd_113_167 : decode prog_11_method_32_code 167 = .ok (.iload 8, 2) := by decide +kernel
theorem dd_113_169 : decode prog_11_method_32_code 169 = .ok (.iconst 1, 1) := by decide +kernel
theorem dd_113_170 : decode prog_11_method_32_code 170 = .ok (.isub, 1) := by decide +kernel
theorem dd_113_171 : decode prog_11_method_32_code 171 = .ok (.i2l, 1) := by decide +kernel
theorem dd_113_172 : decode prog_11_method_32_code 172 = .ok (.lcmp, 1) := by decide +kernel
theorem dd_113_173 : decode prog_11_method_32_code 173 = .ok (.ifCond .ne 67, 3) := by decide +kernel
theorem dd_113_176 : decode prog_11_method_32_code 176 = .ok (.iload_n 3, 1) := by decide +kernel
theorem dd_113_177 : decode prog_11_method_32_code 177 = .ok (.iload 8, 2) := by decide +kernel
theorem dd_113_179 : decode prog_11_method_32_code 179 = .ok (.iadd, 1) := by decide +kernel
theorem dd_113_180 : decode prog_11_method_32_code 180 = .ok (.aload_n 0, 1) := by decide +kernel
theorem dd_113_181 : decode prog_11_method_32_code 181 = .ok (.getfield 99, 3) := by decide +kernel
theorem dd_113_184 : decode prog_11_method_32_code 184 = .ok (.invokestatic 52, 3) := by decide +kernel
theorem dd_113_187 : decode prog_11_method_32_code 187 = .ok (.if_icmp .gt 14, 3) := by decide +kernel
theorem dd_113_190 : decode prog_11_method_32_code 190 = .ok (.aload_n 0, 1) := by decide +kernel
theorem dd_113_191 : decode prog_11_method_32_code 191 = .ok (.dup, 1) := by decide +kernel
theorem dd_113_192 : decode prog_11_method_32_code 192 = .ok (.getfield 104, 3) := by decide +kernel
theorem dd_113_195 : decode prog_11_method_32_code 195 = .ok (.iconst 1, 1) := by decide +kernel
theorem dd_113_196 : decode prog_11_method_32_code 196 = .ok (.iadd, 1) := by decide +kernel
theorem dd_113_197 : decode prog_11_method_32_code 197 = .ok (.putfield 104, 3) := by decide +kernel
theorem dd_113_200 : decode prog_11_method_32_code 200 = .ok (.return_, 1) := by decide +kernel
theorem dd_113_201 : decode prog_11_method_32_code 201 = .ok (.aload_n 0, 1) := by decide +kernel
theorem dd_113_202 : decode prog_11_method_32_code 202 = .ok (.iload_n 1, 1) := by decide +kernel
theorem dd_113_203 : decode prog_11_method_32_code 203 = .ok (.iconst 1, 1) := by decide +kernel
theorem dd_113_204 : decode prog_11_method_32_code 204 = .ok (.iload 9, 2) := by decide +kernel
theorem dd_113_206 : decode prog_11_method_32_code 206 = .ok (.ishl, 1) := by decide +kernel
theorem dd_113_207 : decode prog_11_method_32_code 207 = .ok (.ior, 1) := by decide +kernel
theorem dd_113_208 : decode prog_11_method_32_code 208 = .ok (.iload 4, 2) := by decide +kernel
theorem dd_113_210 : decode prog_11_method_32_code 210 = .ok (.aload_n 0, 1) := by decide +kernel
theorem dd_113_211 : decode prog_11_method_32_code 211 = .ok (.getfield 17, 3) := by decide +kernel
theorem dd_113_214 : decode prog_11_method_32_code 214 = .ok (.iload 9, 2) := by decide +kernel
theorem dd_113_216 : decode prog_11_method_32_code 216 = .ok (.iaload, 1) := by decide +kernel
theorem dd_113_217 : decode prog_11_method_32_code 217 = .ok (.iand, 1) := by decide +kernel
theorem dd_113_218 : decode prog_11_method_32_code 218 = .ok (.invokestatic 107, 3) := by decide +kernel
theorem dd_113_221 : decode prog_11_method_32_code 221 = .ok (.aload_n 0, 1) := by decide +kernel
theorem dd_113_222 : decode prog_11_method_32_code 222 = .ok (.getfield 95, 3) := by decide +kernel
theorem dd_113_225 : decode prog_11_method_32_code 225 = .ok (.ifCond .eq 4, 3) := by decide +kernel
theorem dd_113_228 : decode prog_11_method_32_code 228 = .ok (.return_, 1) := by decide +kernel
theorem dd_113_229 : decode prog_11_method_32_code 229 = .ok (.iload 4, 2) := by decide +kernel
theorem dd_113_231 : decode prog_11_method_32_code 231 = .ok (.iconst 1, 1) := by decide +kernel
theorem dd_113_232 : decode prog_11_method_32_code 232 = .ok (.iload 9, 2) := by decide +kernel
theorem dd_113_234 : decode prog_11_method_32_code 234 = .ok (.ishl, 1) := by decide +kernel
theorem dd_113_235 : decode prog_11_method_32_code 235 = .ok (.iconst (-1), 1) := by decide +kernel
theorem dd_113_236 : decode prog_11_method_32_code 236 = .ok (.ixor, 1) := by decide +kernel
theorem dd_113_237 : decode prog_11_method_32_code 237 = .ok (.iand, 1) := by decide +kernel
theorem dd_113_238 : decode prog_11_method_32_code 238 = .ok (.istore 4, 2) := by decide +kernel
theorem dd_113_240 : decode prog_11_method_32_code 240 = .ok (.iinc 9 (-1), 3) := by decide +kernel
theorem dd_113_243 : decode prog_11_method_32_code 243 = .ok (.goto (-101), 3) := by decide +kernel
theorem dd_113_246 : decode prog_11_method_32_code 246 = .ok (.iinc 8 (-1), 3) := by decide +kernel
theorem dd_113_249 : decode prog_11_method_32_code 249 = .ok (.goto (-120), 3) := by decide +kernel
theorem dd_113_252 : decode prog_11_method_32_code 252 = .ok (.return_, 1) := by decide +kernel
theorem ks_113_0 : mi_snd cs_G cs_cl cs_inf 113 0 (mj_aload 0 1) := ms_aload_n (mi_dec ib_113 dd_113_0) rfl
theorem ks_113_1 : mi_snd cs_G cs_cl cs_inf 113 1 (mj_get 9 10 4) := ms_get (T := cs_T9) (k := 10) (mi_dec ib_113 dd_113_1) rfl cs_in9 (by decide) gw_646
theorem ks_113_4 : mi_snd cs_G cs_cl cs_inf 113 4 (mj_aload 0 5) := ms_aload_n (mi_dec ib_113 dd_113_4) rfl
theorem ks_113_5 : mi_snd cs_G cs_cl cs_inf 113 5 (mj_get 9 9 8) := ms_get (T := cs_T9) (k := 9) (mi_dec ib_113 dd_113_5) rfl cs_in9 (by decide) gw_645
theorem ks_113_8 : mi_snd cs_G cs_cl cs_inf 113 8 (mj_cmp (fun x y => decide (¬ x = y)) 17 11) := ms_icmp_ne (mi_dec ib_113 dd_113_8) (by decide)
theorem ks_113_11 : mi_snd cs_G cs_cl cs_inf 113 11 (mj_aload 0 12) := ms_aload_n (mi_dec ib_113 dd_113_11) rfl
theorem ks_113_12 : mi_snd cs_G cs_cl cs_inf 113 12 (mj_push (.inl 1) 13) := ms_iconst (mi_dec ib_113 dd_113_12) (by decide)
theorem ks_113_13 : mi_snd cs_G cs_cl cs_inf 113 13 (mj_putZ 9 12 16) := ms_putZ (T := cs_T9) (k := 12) (mi_dec ib_113 dd_113_13) rfl cs_in9 cs_ty9_ok cs_nm9 (by decide) gw_648 (by decide) (by decide +kernel)
theorem ks_113_16 : mi_snd cs_G cs_cl cs_inf 113 16 (mj_ret) := ms_ret (mi_dec ib_113 dd_113_16) rfl
theorem ks_113_17 : mi_snd cs_G cs_cl cs_inf 113 17 (mj_aload 0 18) := ms_aload_n (mi_dec ib_113 dd_113_17) rfl
theorem ks_113_18 : mi_snd cs_G cs_cl cs_inf 113 18 (mj_dup 19) := ms_dup (mi_dec ib_113 dd_113_18)
theorem ks_113_19 : mi_snd cs_G cs_cl cs_inf 113 19 (mj_get 9 10 22) := ms_get (T := cs_T9) (k := 10) (mi_dec ib_113 dd_113_19) rfl cs_in9 (by decide) gw_646
theorem ks_113_22 : mi_snd cs_G cs_cl cs_inf 113 22 (mj_push (.inl 1) 23) := ms_iconst (mi_dec ib_113 dd_113_22) (by decide)
theorem ks_113_23 : mi_snd cs_G cs_cl cs_inf 113 23 (mj_bin (fun x y => x + y) 24) := ms_iadd (mi_dec ib_113 dd_113_23)
theorem ks_113_24 : mi_snd cs_G cs_cl cs_inf 113 24 (mj_putI 9 10 27) := ms_putI (T := cs_T9) (k := 10) (mi_dec ib_113 dd_113_24) rfl cs_in9 cs_ty9_ok cs_nm9 (by decide) gw_646 (by decide) (by decide +kernel)
theorem ks_113_27 : mi_snd cs_G cs_cl cs_inf 113 27 (mj_iload 1 28) := ms_iload_n (mi_dec ib_113 dd_113_27) rfl
theorem ks_113_28 : mi_snd cs_G cs_cl cs_inf 113 28 (mj_callS 20 1 1 31) := ms_callS iw_c20 (mi_dec ib_113 dd_113_28) gw_734 iw_s20 iw_n20 (by decide +kernel) rfl (by decide)
theorem ks_113_31 : mi_snd cs_G cs_cl cs_inf 113 31 (mj_istore 3 32) := ms_istore_n (mi_dec ib_113 dd_113_31) rfl
theorem ks_113_32 : mi_snd cs_G cs_cl cs_inf 113 32 (mj_iload 2 33) := ms_iload_n (mi_dec ib_113 dd_113_32) rfl
theorem ks_113_33 : mi_snd cs_G cs_cl cs_inf 113 33 (mj_if (fun x => decide (¬ x = 0)) 60 36) := ms_if_ne (mi_dec ib_113 dd_113_33) (by decide)
theorem ks_113_36 : mi_snd cs_G cs_cl cs_inf 113 36 (mj_aload 0 37) := ms_aload_n (mi_dec ib_113 dd_113_36) rfl
theorem ks_113_37 : mi_snd cs_G cs_cl cs_inf 113 37 (mj_iload 3 38) := ms_iload_n (mi_dec ib_113 dd_113_37) rfl
theorem ks_113_38 : mi_snd cs_G cs_cl cs_inf 113 38 (mj_aload 0 39) := ms_aload_n (mi_dec ib_113 dd_113_38) rfl
theorem ks_113_39 : mi_snd cs_G cs_cl cs_inf 113 39 (mj_get 9 8 42) := ms_get (T := cs_T9) (k := 8) (mi_dec ib_113 dd_113_39) rfl cs_in9 (by decide) gw_644
theorem ks_113_42 : mi_snd cs_G cs_cl cs_inf 113 42 (mj_callS 20 1 1 45) := ms_callS iw_c20 (mi_dec ib_113 dd_113_42) gw_734 iw_s20 iw_n20 (by decide +kernel) rfl (by decide)
theorem ks_113_45 : mi_snd cs_G cs_cl cs_inf 113 45 (mj_cmp (fun x y => decide (x ≤ y)) 52 48) := ms_icmp_le (mi_dec ib_113 dd_113_45) (by decide)
theorem ks_113_48 : mi_snd cs_G cs_cl cs_inf 113 48 (mj_iload 1 49) := ms_iload_n (mi_dec ib_113 dd_113_48) rfl
theorem ks_113_49 : mi_snd cs_G cs_cl cs_inf 113 49 (mj_goto 56) := ms_goto (mi_dec ib_113 dd_113_49) (by decide)
theorem ks_113_52 : mi_snd cs_G cs_cl cs_inf 113 52 (mj_aload 0 53) := ms_aload_n (mi_dec ib_113 dd_113_52) rfl
theorem ks_113_53 : mi_snd cs_G cs_cl cs_inf 113 53 (mj_get 9 8 56) := ms_get (T := cs_T9) (k := 8) (mi_dec ib_113 dd_113_53) rfl cs_in9 (by decide) gw_644
theorem ks_113_56 : mi_snd cs_G cs_cl cs_inf 113 56 (mj_putI 9 8 59) := ms_putI (T := cs_T9) (k := 8) (mi_dec ib_113 dd_113_56) rfl cs_in9 cs_ty9_ok cs_nm9 (by decide) gw_644 (by decide) (by decide +kernel)
theorem ks_113_59 : mi_snd cs_G cs_cl cs_inf 113 59 (mj_ret) := ms_ret (mi_dec ib_113 dd_113_59) rfl
theorem ks_113_60 : mi_snd cs_G cs_cl cs_inf 113 60 (mj_iload 2 61) := ms_iload_n (mi_dec ib_113 dd_113_60) rfl
theorem ks_113_61 : mi_snd cs_G cs_cl cs_inf 113 61 (mj_istore 4 63) := ms_istore (mi_dec ib_113 dd_113_61)
theorem ks_113_63 : mi_snd cs_G cs_cl cs_inf 113 63 (mj_aload 0 64) := ms_aload_n (mi_dec ib_113 dd_113_63) rfl
theorem ks_113_64 : mi_snd cs_G cs_cl cs_inf 113 64 (mj_iload 2 65) := ms_iload_n (mi_dec ib_113 dd_113_64) rfl
theorem ks_113_65 : mi_snd cs_G cs_cl cs_inf 113 65 (mj_callV 9 107 1 6 68) := ms_callV iw_c107 (mi_dec ib_113 dd_113_65) gw_786 iw_i107 rfl iw_v107 iw_n107 (by decide +kernel) rfl (by decide)
theorem ks_113_68 : mi_snd cs_G cs_cl cs_inf 113 68 (mj_istore 5 70) := ms_istore (mi_dec ib_113 dd_113_68)
theorem ks_113_70 : mi_snd cs_G cs_cl cs_inf 113 70 (mj_push (.inr (.inl 0)) 71) := ms_lconst (mi_dec ib_113 dd_113_70) (by decide)
theorem ks_113_71 : mi_snd cs_G cs_cl cs_inf 113 71 (mj_lstore 6 73) := ms_lstore (mi_dec ib_113 dd_113_71)
theorem ks_113_73 : mi_snd cs_G cs_cl cs_inf 113 73 (mj_push (.inl 0) 74) := ms_iconst (mi_dec ib_113 dd_113_73) (by decide)
theorem ks_113_74 : mi_snd cs_G cs_cl cs_inf 113 74 (mj_istore 8 76) := ms_istore (mi_dec ib_113 dd_113_74)
theorem ks_113_76 : mi_snd cs_G cs_cl cs_inf 113 76 (mj_iload 8 78) := ms_iload (mi_dec ib_113 dd_113_76)
theorem ks_113_78 : mi_snd cs_G cs_cl cs_inf 113 78 (mj_aload 0 79) := ms_aload_n (mi_dec ib_113 dd_113_78) rfl
theorem ks_113_79 : mi_snd cs_G cs_cl cs_inf 113 79 (mj_get 9 1 82) := ms_get (T := cs_T9) (k := 1) (mi_dec ib_113 dd_113_79) rfl cs_in9 (by decide) gw_637
theorem ks_113_82 : mi_snd cs_G cs_cl cs_inf 113 82 (mj_cmp (fun x y => decide (y ≤ x)) 125 85) := ms_icmp_ge (mi_dec ib_113 dd_113_82) (by decide)
theorem ks_113_85 : mi_snd cs_G cs_cl cs_inf 113 85 (mj_iload 2 86) := ms_iload_n (mi_dec ib_113 dd_113_85) rfl
theorem ks_113_86 : mi_snd cs_G cs_cl cs_inf 113 86 (mj_iload 8 88) := ms_iload (mi_dec ib_113 dd_113_86)
theorem ks_113_88 : mi_snd cs_G cs_cl cs_inf 113 88 (mj_callS 93 2 2 91) := ms_callS iw_c93 (mi_dec ib_113 dd_113_88) gw_731 iw_s93 iw_n93 (by decide +kernel) rfl (by decide)
theorem ks_113_91 : mi_snd cs_G cs_cl cs_inf 113 91 (mj_if (fun x => decide (x = 0)) 115 94) := ms_if_eq (mi_dec ib_113 dd_113_91) (by decide)
theorem ks_113_94 : mi_snd cs_G cs_cl cs_inf 113 94 (mj_lload 6 96) := ms_lload (mi_dec ib_113 dd_113_94)
theorem ks_113_96 : mi_snd cs_G cs_cl cs_inf 113 96 (mj_aload 0 97) := ms_aload_n (mi_dec ib_113 dd_113_96) rfl
theorem ks_113_97 : mi_snd cs_G cs_cl cs_inf 113 97 (mj_get 9 5 100) := ms_get (T := cs_T9) (k := 5) (mi_dec ib_113 dd_113_97) rfl cs_in9 (by decide) gw_641
theorem ks_113_100 : mi_snd cs_G cs_cl cs_inf 113 100 (mj_iload 8 102) := ms_iload (mi_dec ib_113 dd_113_100)
theorem ks_113_102 : mi_snd cs_G cs_cl cs_inf 113 102 (mj_ald 0 103) := ms_ald0 (mi_dec ib_113 dd_113_102)
theorem ks_113_103 : mi_snd cs_G cs_cl cs_inf 113 103 (mj_push (.inl 1) 104) := ms_iconst (mi_dec ib_113 dd_113_103) (by decide)
theorem ks_113_104 : mi_snd cs_G cs_cl cs_inf 113 104 (mj_bin (fun x y => x - y) 105) := ms_isub (mi_dec ib_113 dd_113_104)
theorem ks_113_105 : mi_snd cs_G cs_cl cs_inf 113 105 (mj_i2l 106) := ms_i2l (mi_dec ib_113 dd_113_105)
theorem ks_113_106 : mi_snd cs_G cs_cl cs_inf 113 106 (mj_push (.inl 4) 107) := ms_iconst (mi_dec ib_113 dd_113_106) (by decide)
theorem ks_113_107 : mi_snd cs_G cs_cl cs_inf 113 107 (mj_iload 8 109) := ms_iload (mi_dec ib_113 dd_113_107)
theorem ks_113_109 : mi_snd cs_G cs_cl cs_inf 113 109 (mj_bin (fun x y => x * y) 110) := ms_imul (mi_dec ib_113 dd_113_109)
theorem ks_113_110 : mi_snd cs_G cs_cl cs_inf 113 110 (mj_lsh (fun x y => x <<< (y.toInt64 &&& 63)) 111) := ms_lshl (mi_dec ib_113 dd_113_110)
theorem ks_113_111 : mi_snd cs_G cs_cl cs_inf 113 111 (mj_lbin (fun x y => x ||| y) 112) := ms_lor (mi_dec ib_113 dd_113_111)
theorem ks_113_112 : mi_snd cs_G cs_cl cs_inf 113 112 (mj_goto 117) := ms_goto (mi_dec ib_113 dd_113_112) (by decide)
theorem ks_113_115 : mi_snd cs_G cs_cl cs_inf 113 115 (mj_lload 6 117) := ms_lload (mi_dec ib_113 dd_113_115)
theorem ks_113_117 : mi_snd cs_G cs_cl cs_inf 113 117 (mj_lstore 6 119) := ms_lstore (mi_dec ib_113 dd_113_117)
theorem ks_113_119 : mi_snd cs_G cs_cl cs_inf 113 119 (mj_iinc 8 1 122) := ms_iinc (mi_dec ib_113 dd_113_119) (by decide)
theorem ks_113_122 : mi_snd cs_G cs_cl cs_inf 113 122 (mj_goto 76) := ms_goto (mi_dec ib_113 dd_113_122) (by decide)
theorem ks_113_125 : mi_snd cs_G cs_cl cs_inf 113 125 (mj_iload 5 127) := ms_iload (mi_dec ib_113 dd_113_125)
theorem ks_113_127 : mi_snd cs_G cs_cl cs_inf 113 127 (mj_istore 8 129) := ms_istore (mi_dec ib_113 dd_113_127)
theorem ks_113_129 : mi_snd cs_G cs_cl cs_inf 113 129 (mj_iload 8 131) := ms_iload (mi_dec ib_113 dd_113_129)
theorem ks_113_131 : mi_snd cs_G cs_cl cs_inf 113 131 (mj_if (fun x => decide (x ≤ 0)) 252 134) := ms_if_le (mi_dec ib_113 dd_113_131) (by decide)
theorem ks_113_134 : mi_snd cs_G cs_cl cs_inf 113 134 (mj_aload 0 135) := ms_aload_n (mi_dec ib_113 dd_113_134) rfl
theorem ks_113_135 : mi_snd cs_G cs_cl cs_inf 113 135 (mj_get 9 1 138) := ms_get (T := cs_T9) (k := 1) (mi_dec ib_113 dd_113_135) rfl cs_in9 (by decide) gw_637
theorem ks_113_138 : mi_snd cs_G cs_cl cs_inf 113 138 (mj_push (.inl 1) 139) := ms_iconst (mi_dec ib_113 dd_113_138) (by decide)
theorem ks_113_139 : mi_snd cs_G cs_cl cs_inf 113 139 (mj_bin (fun x y => x - y) 140) := ms_isub (mi_dec ib_113 dd_113_139)
theorem ks_113_140 : mi_snd cs_G cs_cl cs_inf 113 140 (mj_istore 9 142) := ms_istore (mi_dec ib_113 dd_113_140)
theorem ks_113_142 : mi_snd cs_G cs_cl cs_inf 113 142 (mj_iload 9 144) := ms_iload (mi_dec ib_113 dd_113_142)
theorem ks_113_144 : mi_snd cs_G cs_cl cs_inf 113 144 (mj_if (fun x => decide (x < 0)) 246 147) := ms_if_lt (mi_dec ib_113 dd_113_144) (by decide)
theorem ks_113_147 : mi_snd cs_G cs_cl cs_inf 113 147 (mj_iload 2 148) := ms_iload_n (mi_dec ib_113 dd_113_147) rfl
theorem ks_113_148 : mi_snd cs_G cs_cl cs_inf 113 148 (mj_iload 9 150) := ms_iload (mi_dec ib_113 dd_113_148)
theorem ks_113_150 : mi_snd cs_G cs_cl cs_inf 113 150 (mj_callS 93 2 2 153) := ms_callS iw_c93 (mi_dec ib_113 dd_113_150) gw_731 iw_s93 iw_n93 (by decide +kernel) rfl (by decide)
theorem ks_113_153 : mi_snd cs_G cs_cl cs_inf 113 153 (mj_if (fun x => decide (x = 0)) 240 156) := ms_if_eq (mi_dec ib_113 dd_113_153) (by decide)
theorem ks_113_156 : mi_snd cs_G cs_cl cs_inf 113 156 (mj_lload 6 158) := ms_lload (mi_dec ib_113 dd_113_156)
theorem ks_113_158 : mi_snd cs_G cs_cl cs_inf 113 158 (mj_push (.inl 4) 159) := ms_iconst (mi_dec ib_113 dd_113_158) (by decide)
theorem ks_113_159 : mi_snd cs_G cs_cl cs_inf 113 159 (mj_iload 9 161) := ms_iload (mi_dec ib_113 dd_113_159)
theorem ks_113_161 : mi_snd cs_G cs_cl cs_inf 113 161 (mj_bin (fun x y => x * y) 162) := ms_imul (mi_dec ib_113 dd_113_161)
theorem ks_113_162 : mi_snd cs_G cs_cl cs_inf 113 162 (mj_lsh (fun x y => x >>> (y.toInt64 &&& 63)) 163) := ms_lshr (mi_dec ib_113 dd_113_162)
theorem ks_113_163 : mi_snd cs_G cs_cl cs_inf 113 163 (mj_push (.inr (.inl 15)) 166) := ms_ldc2 (mi_dec ib_113 dd_113_163) gw_814
theorem ks_113_166 : mi_snd cs_G cs_cl cs_inf 113 166 (mj_lbin (fun x y => x &&& y) 167) := ms_land (mi_dec ib_113 dd_113_166)
theorem ks_113_167 : mi_snd cs_G cs_cl cs_inf 113 167 (mj_iload 8 169) := ms_iload (mi_dec ib_113 dd_113_167)
theorem ks_113_169 : mi_snd cs_G cs_cl cs_inf 113 169 (mj_push (.inl 1) 170) := ms_iconst (mi_dec ib_113 dd_113_169) (by decide)
theorem ks_113_170 : mi_snd cs_G cs_cl cs_inf 113 170 (mj_bin (fun x y => x - y) 171) := ms_isub (mi_dec ib_113 dd_113_170)
theorem ks_113_171 : mi_snd cs_G cs_cl cs_inf 113 171 (mj_i2l 172) := ms_i2l (mi_dec ib_113 dd_113_171)
theorem ks_113_172 : mi_snd cs_G cs_cl cs_inf 113 172 (mj_lcmp 173) := ms_lcmp (mi_dec ib_113 dd_113_172)
theorem ks_113_173 : mi_snd cs_G cs_cl cs_inf 113 173 (mj_if (fun x => decide (¬ x = 0)) 240 176) := ms_if_ne (mi_dec ib_113 dd_113_173) (by decide)
theorem ks_113_176 : mi_snd cs_G cs_cl cs_inf 113 176 (mj_iload 3 177) := ms_iload_n (mi_dec ib_113 dd_113_176) rfl
theorem ks_113_177 : mi_snd cs_G cs_cl cs_inf 113 177 (mj_iload 8 179) := ms_iload (mi_dec ib_113 dd_113_177)
theorem ks_113_179 : mi_snd cs_G cs_cl cs_inf 113 179 (mj_bin (fun x y => x + y) 180) := ms_iadd (mi_dec ib_113 dd_113_179)
theorem ks_113_180 : mi_snd cs_G cs_cl cs_inf 113 180 (mj_aload 0 181) := ms_aload_n (mi_dec ib_113 dd_113_180) rfl
theorem ks_113_181 : mi_snd cs_G cs_cl cs_inf 113 181 (mj_get 9 8 184) := ms_get (T := cs_T9) (k := 8) (mi_dec ib_113 dd_113_181) rfl cs_in9 (by decide) gw_644
theorem ks_113_184 : mi_snd cs_G cs_cl cs_inf 113 184 (mj_callS 20 1 1 187) := ms_callS iw_c20 (mi_dec ib_113 dd_113_184) gw_734 iw_s20 iw_n20 (by decide +kernel) rfl (by decide)
theorem ks_113_187 : mi_snd cs_G cs_cl cs_inf 113 187 (mj_cmp (fun x y => decide (y < x)) 201 190) := ms_icmp_gt (mi_dec ib_113 dd_113_187) (by decide)
theorem ks_113_190 : mi_snd cs_G cs_cl cs_inf 113 190 (mj_aload 0 191) := ms_aload_n (mi_dec ib_113 dd_113_190) rfl
theorem ks_113_191 : mi_snd cs_G cs_cl cs_inf 113 191 (mj_dup 192) := ms_dup (mi_dec ib_113 dd_113_191)
theorem ks_113_192 : mi_snd cs_G cs_cl cs_inf 113 192 (mj_get 9 11 195) := ms_get (T := cs_T9) (k := 11) (mi_dec ib_113 dd_113_192) rfl cs_in9 (by decide) gw_647
theorem ks_113_195 : mi_snd cs_G cs_cl cs_inf 113 195 (mj_push (.inl 1) 196) := ms_iconst (mi_dec ib_113 dd_113_195) (by decide)
theorem ks_113_196 : mi_snd cs_G cs_cl cs_inf 113 196 (mj_bin (fun x y => x + y) 197) := ms_iadd (mi_dec ib_113 dd_113_196)
theorem ks_113_197 : mi_snd cs_G cs_cl cs_inf 113 197 (mj_putI 9 11 200) := ms_putI (T := cs_T9) (k := 11) (mi_dec ib_113 dd_113_197) rfl cs_in9 cs_ty9_ok cs_nm9 (by decide) gw_647 (by decide) (by decide +kernel)
theorem ks_113_200 : mi_snd cs_G cs_cl cs_inf 113 200 (mj_ret) := ms_ret (mi_dec ib_113 dd_113_200) rfl
theorem ks_113_201 : mi_snd cs_G cs_cl cs_inf 113 201 (mj_aload 0 202) := ms_aload_n (mi_dec ib_113 dd_113_201) rfl
theorem ks_113_202 : mi_snd cs_G cs_cl cs_inf 113 202 (mj_iload 1 203) := ms_iload_n (mi_dec ib_113 dd_113_202) rfl
theorem ks_113_203 : mi_snd cs_G cs_cl cs_inf 113 203 (mj_push (.inl 1) 204) := ms_iconst (mi_dec ib_113 dd_113_203) (by decide)
theorem ks_113_204 : mi_snd cs_G cs_cl cs_inf 113 204 (mj_iload 9 206) := ms_iload (mi_dec ib_113 dd_113_204)
theorem ks_113_206 : mi_snd cs_G cs_cl cs_inf 113 206 (mj_bin (fun x y => x <<< (y &&& 31)) 207) := ms_ishl (mi_dec ib_113 dd_113_206)
theorem ks_113_207 : mi_snd cs_G cs_cl cs_inf 113 207 (mj_bin (fun x y => x ||| y) 208) := ms_ior (mi_dec ib_113 dd_113_207)
theorem ks_113_208 : mi_snd cs_G cs_cl cs_inf 113 208 (mj_iload 4 210) := ms_iload (mi_dec ib_113 dd_113_208)
theorem ks_113_210 : mi_snd cs_G cs_cl cs_inf 113 210 (mj_aload 0 211) := ms_aload_n (mi_dec ib_113 dd_113_210) rfl
theorem ks_113_211 : mi_snd cs_G cs_cl cs_inf 113 211 (mj_get 9 3 214) := ms_get (T := cs_T9) (k := 3) (mi_dec ib_113 dd_113_211) rfl cs_in9 (by decide) gw_639
theorem ks_113_214 : mi_snd cs_G cs_cl cs_inf 113 214 (mj_iload 9 216) := ms_iload (mi_dec ib_113 dd_113_214)
theorem ks_113_216 : mi_snd cs_G cs_cl cs_inf 113 216 (mj_ald 0 217) := ms_ald0 (mi_dec ib_113 dd_113_216)
theorem ks_113_217 : mi_snd cs_G cs_cl cs_inf 113 217 (mj_bin (fun x y => x &&& y) 218) := ms_iand (mi_dec ib_113 dd_113_217)
theorem ks_113_218 : mi_snd cs_G cs_cl cs_inf 113 218 (mj_callS 113 3 10 221) := ms_callS iw_c113 (mi_dec ib_113 dd_113_218) gw_811 iw_s113 iw_n113 (by decide +kernel) rfl (by decide)
theorem ks_113_221 : mi_snd cs_G cs_cl cs_inf 113 221 (mj_aload 0 222) := ms_aload_n (mi_dec ib_113 dd_113_221) rfl
theorem ks_113_222 : mi_snd cs_G cs_cl cs_inf 113 222 (mj_get 9 12 225) := ms_get (T := cs_T9) (k := 12) (mi_dec ib_113 dd_113_222) rfl cs_in9 (by decide) gw_648
theorem ks_113_225 : mi_snd cs_G cs_cl cs_inf 113 225 (mj_if (fun x => decide (x = 0)) 229 228) := ms_if_eq (mi_dec ib_113 dd_113_225) (by decide)
theorem ks_113_228 : mi_snd cs_G cs_cl cs_inf 113 228 (mj_ret) := ms_ret (mi_dec ib_113 dd_113_228) rfl
theorem ks_113_229 : mi_snd cs_G cs_cl cs_inf 113 229 (mj_iload 4 231) := ms_iload (mi_dec ib_113 dd_113_229)
theorem ks_113_231 : mi_snd cs_G cs_cl cs_inf 113 231 (mj_push (.inl 1) 232) := ms_iconst (mi_dec ib_113 dd_113_231) (by decide)
theorem ks_113_232 : mi_snd cs_G cs_cl cs_inf 113 232 (mj_iload 9 234) := ms_iload (mi_dec ib_113 dd_113_232)
theorem ks_113_234 : mi_snd cs_G cs_cl cs_inf 113 234 (mj_bin (fun x y => x <<< (y &&& 31)) 235) := ms_ishl (mi_dec ib_113 dd_113_234)
theorem ks_113_235 : mi_snd cs_G cs_cl cs_inf 113 235 (mj_push (.inl (-1)) 236) := ms_iconst (mi_dec ib_113 dd_113_235) (by decide)
theorem ks_113_236 : mi_snd cs_G cs_cl cs_inf 113 236 (mj_bin (fun x y => x ^^^ y) 237) := ms_ixor (mi_dec ib_113 dd_113_236)
theorem ks_113_237 : mi_snd cs_G cs_cl cs_inf 113 237 (mj_bin (fun x y => x &&& y) 238) := ms_iand (mi_dec ib_113 dd_113_237)
theorem ks_113_238 : mi_snd cs_G cs_cl cs_inf 113 238 (mj_istore 4 240) := ms_istore (mi_dec ib_113 dd_113_238)
theorem ks_113_240 : mi_snd cs_G cs_cl cs_inf 113 240 (mj_iinc 9 (-1) 243) := ms_iinc (mi_dec ib_113 dd_113_240) (by decide)
theorem ks_113_243 : mi_snd cs_G cs_cl cs_inf 113 243 (mj_goto 142) := ms_goto (mi_dec ib_113 dd_113_243) (by decide)
theorem ks_113_246 : mi_snd cs_G cs_cl cs_inf 113 246 (mj_iinc 8 (-1) 249) := ms_iinc (mi_dec ib_113 dd_113_246) (by decide)
theorem ks_113_249 : mi_snd cs_G cs_cl cs_inf 113 249 (mj_goto 129) := ms_goto (mi_dec ib_113 dd_113_249) (by decide)
theorem ks_113_252 : mi_snd cs_G cs_cl cs_inf 113 252 (mj_ret) := ms_ret (mi_dec ib_113 dd_113_252) rfl
def ct_113 : List (Nat × mi_I) := [
  (0, mj_aload 0 1),
  (1, mj_get 9 10 4),
  (4, mj_aload 0 5),
  (5, mj_get 9 9 8),
  (8, mj_cmp (fun x y => decide (¬ x = y)) 17 11),
  (11, mj_aload 0 12),
  (12, mj_push (.inl 1) 13),
  (13, mj_putZ 9 12 16),
  (16, mj_ret),
  (17, mj_aload 0 18),
  (18, mj_dup 19),
  (19, mj_get 9 10 22),
  (22, mj_push (.inl 1) 23),
  (23, mj_bin (fun x y => x + y) 24),
  (24, mj_putI 9 10 27),
  (27, mj_iload 1 28),
  (28, mj_callS 20 1 1 31),
  (31, mj_istore 3 32),
  (32, mj_iload 2 33),
  (33, mj_if (fun x => decide (¬ x = 0)) 60 36),
  (36, mj_aload 0 37),
  (37, mj_iload 3 38),
  (38, mj_aload 0 39),
  (39, mj_get 9 8 42),
  (42, mj_callS 20 1 1 45),
  (45, mj_cmp (fun x y => decide (x ≤ y)) 52 48),
  (48, mj_iload 1 49),
  (49, mj_goto 56),
  (52, mj_aload 0 53),
  (53, mj_get 9 8 56),
  (56, mj_putI 9 8 59),
  (59, mj_ret),
  (60, mj_iload 2 61),
  (61, mj_istore 4 63),
  (63, mj_aload 0 64),
  (64, mj_iload 2 65),
  (65, mj_callV 9 107 1 6 68),
  (68, mj_istore 5 70),
  (70, mj_push (.inr (.inl 0)) 71),
  (71, mj_lstore 6 73),
  (73, mj_push (.inl 0) 74),
  (74, mj_istore 8 76),
  (76, mj_iload 8 78),
  (78, mj_aload 0 79),
  (79, mj_get 9 1 82),
  (82, mj_cmp (fun x y => decide (y ≤ x)) 125 85),
  (85, mj_iload 2 86),
  (86, mj_iload 8 88),
  (88, mj_callS 93 2 2 91),
  (91, mj_if (fun x => decide (x = 0)) 115 94),
  (94, mj_lload 6 96),
  (96, mj_aload 0 97),
  (97, mj_get 9 5 100),
  (100, mj_iload 8 102),
  (102, mj_ald 0 103),
  (103, mj_push (.inl 1) 104),
  (104, mj_bin (fun x y => x - y) 105),
  (105, mj_i2l 106),
  (106, mj_push (.inl 4) 107),
  (107, mj_iload 8 109),
  (109, mj_bin (fun x y => x * y) 110),
  (110, mj_lsh (fun x y => x <<< (y.toInt64 &&& 63)) 111),
  (111, mj_lbin (fun x y => x ||| y) 112),
  (112, mj_goto 117),
  (115, mj_lload 6 117),
  (117, mj_lstore 6 119),
  (119, mj_iinc 8 1 122),
  (122, mj_goto 76),
  (125, mj_iload 5 127),
  (127, mj_istore 8 129),
  (129, mj_iload 8 131),
  (131, mj_if (fun x => decide (x ≤ 0)) 252 134),
  (134, mj_aload 0 135),
  (135, mj_get 9 1 138),
  (138, mj_push (.inl 1) 139),
  (139, mj_bin (fun x y => x - y) 140),
  (140, mj_istore 9 142),
  (142, mj_iload 9 144),
  (144, mj_if (fun x => decide (x < 0)) 246 147),
  (147, mj_iload 2 148),
  (148, mj_iload 9 150),
  (150, mj_callS 93 2 2 153),
  (153, mj_if (fun x => decide (x = 0)) 240 156),
  (156, mj_lload 6 158),
  (158, mj_push (.inl 4) 159),
  (159, mj_iload 9 161),
  (161, mj_bin (fun x y => x * y) 162),
  (162, mj_lsh (fun x y => x >>> (y.toInt64 &&& 63)) 163),
  (163, mj_push (.inr (.inl 15)) 166),
  (166, mj_lbin (fun x y => x &&& y) 167),
  (167, mj_iload 8 169),
  (169, mj_push (.inl 1) 170),
  (170, mj_bin (fun x y => x - y) 171),
  (171, mj_i2l 172),
  (172, mj_lcmp 173),
  (173, mj_if (fun x => decide (¬ x = 0)) 240 176),
  (176, mj_iload 3 177),
  (177, mj_iload 8 179),
  (179, mj_bin (fun x y => x + y) 180),
  (180, mj_aload 0 181),
  (181, mj_get 9 8 184),
  (184, mj_callS 20 1 1 187),
  (187, mj_cmp (fun x y => decide (y < x)) 201 190),
  (190, mj_aload 0 191),
  (191, mj_dup 192),
  (192, mj_get 9 11 195),
  (195, mj_push (.inl 1) 196),
  (196, mj_bin (fun x y => x + y) 197),
  (197, mj_putI 9 11 200),
  (200, mj_ret),
  (201, mj_aload 0 202),
  (202, mj_iload 1 203),
  (203, mj_push (.inl 1) 204),
  (204, mj_iload 9 206),
  (206, mj_bin (fun x y => x <<< (y &&& 31)) 207),
  (207, mj_bin (fun x y => x ||| y) 208),
  (208, mj_iload 4 210),
  (210, mj_aload 0 211),
  (211, mj_get 9 3 214),
  (214, mj_iload 9 216),
  (216, mj_ald 0 217),
  (217, mj_bin (fun x y => x &&& y) 218),
  (218, mj_callS 113 3 10 221),
  (221, mj_aload 0 222),
  (222, mj_get 9 12 225),
  (225, mj_if (fun x => decide (x = 0)) 229 228),
  (228, mj_ret),
  (229, mj_iload 4 231),
  (231, mj_push (.inl 1) 232),
  (232, mj_iload 9 234),
  (234, mj_bin (fun x y => x <<< (y &&& 31)) 235),
  (235, mj_push (.inl (-1)) 236),
  (236, mj_bin (fun x y => x ^^^ y) 237),
  (237, mj_bin (fun x y => x &&& y) 238),
  (238, mj_istore 4 240),
  (240, mj_iinc 9 (-1) 243),
  (243, mj_goto 142),
  (246, mj_iinc 8 (-1) 249),
  (249, mj_goto 129),
  (252, mj_ret)]
theorem sd_113 : ∀ q ∈ ct_113, mi_snd cs_G cs_cl cs_inf 113 q.1 q.2 := mi_fc ks_113_0 (mi_fc ks_113_1 (mi_fc ks_113_4 (mi_fc ks_113_5 (mi_fc ks_113_8 (mi_fc ks_113_11 (mi_fc ks_113_12 (mi_fc ks_113_13 (mi_fc ks_113_16 (mi_fc ks_113_17 (mi_fc ks_113_18 (mi_fc ks_113_19 (mi_fc ks_113_22 (mi_fc ks_113_23 (mi_fc ks_113_24 (mi_fc ks_113_27 (mi_fc ks_113_28 (mi_fc ks_113_31 (mi_fc ks_113_32 (mi_fc ks_113_33 (mi_fc ks_113_36 (mi_fc ks_113_37 (mi_fc ks_113_38 (mi_fc ks_113_39 (mi_fc ks_113_42 (mi_fc ks_113_45 (mi_fc ks_113_48 (mi_fc ks_113_49 (mi_fc ks_113_52 (mi_fc ks_113_53 (mi_fc ks_113_56 (mi_fc ks_113_59 (mi_fc ks_113_60 (mi_fc ks_113_61 (mi_fc ks_113_63 (mi_fc ks_113_64 (mi_fc ks_113_65 (mi_fc ks_113_68 (mi_fc ks_113_70 (mi_fc ks_113_71 (mi_fc ks_113_73 (mi_fc ks_113_74 (mi_fc ks_113_76 (mi_fc ks_113_78 (mi_fc ks_113_79 (mi_fc ks_113_82 (mi_fc ks_113_85 (mi_fc ks_113_86 (mi_fc ks_113_88 (mi_fc ks_113_91 (mi_fc ks_113_94 (mi_fc ks_113_96 (mi_fc ks_113_97 (mi_fc ks_113_100 (mi_fc ks_113_102 (mi_fc ks_113_103 (mi_fc ks_113_104 (mi_fc ks_113_105 (mi_fc ks_113_106 (mi_fc ks_113_107 (mi_fc ks_113_109 (mi_fc ks_113_110 (mi_fc ks_113_111 (mi_fc ks_113_112 (mi_fc ks_113_115 (mi_fc ks_113_117 (mi_fc ks_113_119 (mi_fc ks_113_122 (mi_fc ks_113_125 (mi_fc ks_113_127 (mi_fc ks_113_129 (mi_fc ks_113_131 (mi_fc ks_113_134 (mi_fc ks_113_135 (mi_fc ks_113_138 (mi_fc ks_113_139 (mi_fc ks_113_140 (mi_fc ks_113_142 (mi_fc ks_113_144 (mi_fc ks_113_147 (mi_fc ks_113_148 (mi_fc ks_113_150 (mi_fc ks_113_153 (mi_fc ks_113_156 (mi_fc ks_113_158 (mi_fc ks_113_159 (mi_fc ks_113_161 (mi_fc ks_113_162 (mi_fc ks_113_163 (mi_fc ks_113_166 (mi_fc ks_113_167 (mi_fc ks_113_169 (mi_fc ks_113_170 (mi_fc ks_113_171 (mi_fc ks_113_172 (mi_fc ks_113_173 (mi_fc ks_113_176 (mi_fc ks_113_177 (mi_fc ks_113_179 (mi_fc ks_113_180 (mi_fc ks_113_181 (mi_fc ks_113_184 (mi_fc ks_113_187 (mi_fc ks_113_190 (mi_fc ks_113_191 (mi_fc ks_113_192 (mi_fc ks_113_195 (mi_fc ks_113_196 (mi_fc ks_113_197 (mi_fc ks_113_200 (mi_fc ks_113_201 (mi_fc ks_113_202 (mi_fc ks_113_203 (mi_fc ks_113_204 (mi_fc ks_113_206 (mi_fc ks_113_207 (mi_fc ks_113_208 (mi_fc ks_113_210 (mi_fc ks_113_211 (mi_fc ks_113_214 (mi_fc ks_113_216 (mi_fc ks_113_217 (mi_fc ks_113_218 (mi_fc ks_113_221 (mi_fc ks_113_222 (mi_fc ks_113_225 (mi_fc ks_113_228 (mi_fc ks_113_229 (mi_fc ks_113_231 (mi_fc ks_113_232 (mi_fc ks_113_234 (mi_fc ks_113_235 (mi_fc ks_113_236 (mi_fc ks_113_237 (mi_fc ks_113_238 (mi_fc ks_113_240 (mi_fc ks_113_243 (mi_fc ks_113_246 (mi_fc ks_113_249 (mi_fc ks_113_252 mi_fn)))))))))))))))))))))))))))))))))))))))))))))))))))))))))))))))))))))))))))))))))))))))))))))))))))))))))))))))))))))))))))))))))))))))))))
theorem dd_114_0 : decode prog_11_method_34_code 0 = .ok (.aload_n 0, 1) := by decide +kernel
theorem dd_114_1 : decode prog_11_method_34_code 1 = .ok (.iconst 0, 1) := by decide +kernel
theorem dd_114_2 : decode prog_11_method_34_code 2 = .ok (.putfield 1, 3) := by decide +kernel
theorem dd_114_5 : decode prog_11_method_34_code 5 = .ok (.iload_n 1, 1) := by decide +kernel
theorem dd_114_6 : decode prog_11_method_34_code 6 = .ok (.tableswitch 67 0 4 #[34, 39, 44, 49, 54], 34) := by decide +kernel
theorem dd_114_40 : decode prog_11_method_34_code 40 = .ok (.aload_n 0, 1) := by decide +kernel
theorem dd_114_41 : decode prog_11_method_34_code 41 = .ok (.getfield 112, 3) := by decide +kernel
theorem dd_114_44 : decode prog_11_method_34_code 44 = .ok (.ireturn, 1) := by decide +kernel
theorem dd_114_45 : decode prog_11_method_34_code 45 = .ok (.aload_n 0, 1) := by decide +kernel
theorem dd_114_46 : decode prog_11_method_34_code 46 = .ok (.getfield 115, 3) := by decide +kernel
theorem dd_114_49 : decode prog_11_method_34_code 49 = .ok (.ireturn, 1) := by decide +kernel
theorem dd_114_50 : decode prog_11_method_34_code 50 = .ok (.aload_n 0, 1) := by decide +kernel
theorem dd_114_51 : decode prog_11_method_34_code 51 = .ok (.getfield 89, 3) := by decide +kernel
theorem dd_114_54 : decode prog_11_method_34_code 54 = .ok (.ireturn, 1) := by decide +kernel
theorem dd_114_55 : decode prog_11_method_34_code 55 = .ok (.aload_n 0, 1) := by decide +kernel
theorem dd_114_56 : decode prog_11_method_34_code 56 = .ok (.getfield 104, 3) := by decide +kernel
theorem dd_114_59 : decode prog_11_method_34_code 59 = .ok (.ireturn, 1) := by decide +kernel
theorem dd_114_60 : decode prog_11_method_34_code 60 = .ok (.aload_n 0, 1) := by decide +kernel
theorem dd_114_61 : decode prog_11_method_34_code 61 = .ok (.getfield 95, 3) := by decide +kernel
theorem dd_114_64 : decode prog_11_method_34_code 64 = .ok (.ifCond .eq 7, 3) := by decide +kernel
theorem dd_114_67 : decode prog_11_method_34_code 67 = .ok (.iconst 1, 1) := by decide +kernel
theorem dd_114_68 : decode prog_11_method_34_code 68 = .ok (.goto 4, 3) := by decide +kernel
theorem dd_114_71 : decode prog_11_method_34_code 71 = .ok (.iconst 0, 1) := by decide +kernel
theorem dd_114_72 : decode prog_11_method_34_code 72 = .ok (.ireturn, 1) := by decide +kernel
theorem dd_114_73 : decode prog_11_method_34_code 73 = .ok (.iconst (-1), 1) := by decide +kernel
theorem dd_114_74 : decode prog_11_method_34_code 74 = .ok (.ireturn, 1) := by decide +kernel
theorem ks_114_0 : mi_snd cs_G cs_cl cs_inf 114 0 (mj_aload 0 1) := ms_aload_n (mi_dec ib_114 dd_114_0) rfl
theorem ks_114_1 : mi_snd cs_G cs_cl cs_inf 114 1 (mj_push (.inl 0) 2) := ms_iconst (mi_dec ib_114 dd_114_1) (by decide)
theorem ks_114_2 : mi_snd cs_G cs_cl cs_inf 114 2 (mj_putI 9 0 5) := ms_putI (T := cs_T9) (k := 0) (mi_dec ib_114 dd_114_2) rfl cs_in9 cs_ty9_ok cs_nm9 (by decide) gw_636 (by decide) (by decide +kernel)
theorem ks_114_5 : mi_snd cs_G cs_cl cs_inf 114 5 (mj_iload 1 6) := ms_iload_n (mi_dec ib_114 dd_114_5) rfl
theorem ks_114_6 : mi_snd cs_G cs_cl cs_inf 114 6 (mj_sw (mi_tab 0 [40, 45, 50, 55, 60] 73)) := ms_table (mi_dec ib_114 dd_114_6) (by decide) (by decide) (by decide)
theorem ks_114_40 : mi_snd cs_G cs_cl cs_inf 114 40 (mj_aload 0 41) := ms_aload_n (mi_dec ib_114 dd_114_40) rfl
theorem ks_114_41 : mi_snd cs_G cs_cl cs_inf 114 41 (mj_get 9 13 44) := ms_get (T := cs_T9) (k := 13) (mi_dec ib_114 dd_114_41) rfl cs_in9 (by decide) gw_649
theorem ks_114_44 : mi_snd cs_G cs_cl cs_inf 114 44 (mj_iret) := ms_iret (mi_dec ib_114 dd_114_44) rfl
theorem ks_114_45 : mi_snd cs_G cs_cl cs_inf 114 45 (mj_aload 0 46) := ms_aload_n (mi_dec ib_114 dd_114_45) rfl
theorem ks_114_46 : mi_snd cs_G cs_cl cs_inf 114 46 (mj_get 9 14 49) := ms_get (T := cs_T9) (k := 14) (mi_dec ib_114 dd_114_46) rfl cs_in9 (by decide) gw_650
theorem ks_114_49 : mi_snd cs_G cs_cl cs_inf 114 49 (mj_iret) := ms_iret (mi_dec ib_114 dd_114_49) rfl
theorem ks_114_50 : mi_snd cs_G cs_cl cs_inf 114 50 (mj_aload 0 51) := ms_aload_n (mi_dec ib_114 dd_114_50) rfl
theorem ks_114_51 : mi_snd cs_G cs_cl cs_inf 114 51 (mj_get 9 10 54) := ms_get (T := cs_T9) (k := 10) (mi_dec ib_114 dd_114_51) rfl cs_in9 (by decide) gw_646
theorem ks_114_54 : mi_snd cs_G cs_cl cs_inf 114 54 (mj_iret) := ms_iret (mi_dec ib_114 dd_114_54) rfl
theorem ks_114_55 : mi_snd cs_G cs_cl cs_inf 114 55 (mj_aload 0 56) := ms_aload_n (mi_dec ib_114 dd_114_55) rfl
theorem ks_114_56 : mi_snd cs_G cs_cl cs_inf 114 56 (mj_get 9 11 59) := ms_get (T := cs_T9) (k := 11) (mi_dec ib_114 dd_114_56) rfl cs_in9 (by decide) gw_647
theorem ks_114_59 : mi_snd cs_G cs_cl cs_inf 114 59 (mj_iret) := ms_iret (mi_dec ib_114 dd_114_59) rfl
theorem ks_114_60 : mi_snd cs_G cs_cl cs_inf 114 60 (mj_aload 0 61) := ms_aload_n (mi_dec ib_114 dd_114_60) rfl
theorem ks_114_61 : mi_snd cs_G cs_cl cs_inf 114 61 (mj_get 9 12 64) := ms_get (T := cs_T9) (k := 12) (mi_dec ib_114 dd_114_61) rfl cs_in9 (by decide) gw_648
theorem ks_114_64 : mi_snd cs_G cs_cl cs_inf 114 64 (mj_if (fun x => decide (x = 0)) 71 67) := ms_if_eq (mi_dec ib_114 dd_114_64) (by decide)
theorem ks_114_67 : mi_snd cs_G cs_cl cs_inf 114 67 (mj_push (.inl 1) 68) := ms_iconst (mi_dec ib_114 dd_114_67) (by decide)
theorem ks_114_68 : mi_snd cs_G cs_cl cs_inf 114 68 (mj_goto 72) := ms_goto (mi_dec ib_114 dd_114_68) (by decide)
theorem ks_114_71 : mi_snd cs_G cs_cl cs_inf 114 71 (mj_push (.inl 0) 72) := ms_iconst (mi_dec ib_114 dd_114_71) (by decide)
theorem ks_114_72 : mi_snd cs_G cs_cl cs_inf 114 72 (mj_iret) := ms_iret (mi_dec ib_114 dd_114_72) rfl
theorem ks_114_73 : mi_snd cs_G cs_cl cs_inf 114 73 (mj_push (.inl (-1)) 74) := ms_iconst (mi_dec ib_114 dd_114_73) (by decide)
theorem ks_114_74 : mi_snd cs_G cs_cl cs_inf 114 74 (mj_iret) := ms_iret (mi_dec ib_114 dd_114_74) rfl
def ct_114 : List (Nat × mi_I) := [
  (0, mj_aload 0 1),
  (1, mj_push (.inl 0) 2),
  (2, mj_putI 9 0 5),
  (5, mj_iload 1 6),
  (6, mj_sw (mi_tab 0 [40, 45, 50, 55, 60] 73)),
  (40, mj_aload 0 41),
  (41, mj_get 9 13 44),
  (44, mj_iret),
  (45, mj_aload 0 46),
  (46, mj_get 9 14 49),
  (49, mj_iret),
  (50, mj_aload 0 51),
  (51, mj_get 9 10 54),
  (54, mj_iret),
  (55, mj_aload 0 56),
  (56, mj_get 9 11 59),
  (59, mj_iret),
  (60, mj_aload 0 61),
  (61, mj_get 9 12 64),
  (64, mj_if (fun x => decide (x = 0)) 71 67),
  (67, mj_push (.inl 1) 68),
  (68, mj_goto 72),
  (71, mj_push (.inl 0) 72),
  (72, mj_iret),
  (73, mj_push (.inl (-1)) 74),
  (74, mj_iret)]
theorem sd_114 : ∀ q ∈ ct_114, mi_snd cs_G cs_cl cs_inf 114 q.1 q.2 := mi_fc ks_114_0 (mi_fc ks_114_1 (mi_fc ks_114_2 (mi_fc ks_114_5 (mi_fc ks_114_6 (mi_fc ks_114_40 (mi_fc ks_114_41 (mi_fc ks_114_44 (mi_fc ks_114_45 (mi_fc ks_114_46 (mi_fc ks_114_49 (mi_fc ks_114_50 (mi_fc ks_114_51 (mi_fc ks_114_54 (mi_fc ks_114_55 (mi_fc ks_114_56 (mi_fc ks_114_59 (mi_fc ks_114_60 (mi_fc ks_114_61 (mi_fc ks_114_64 (mi_fc ks_114_67 (mi_fc ks_114_68 (mi_fc ks_114_71 (mi_fc ks_114_72 (mi_fc ks_114_73 (mi_fc ks_114_74 mi_fn)))))))))))))))))))))))))
theorem dd_115_0 : decode prog_11_method_37_code 0 = .ok (.aload_n 0, 1) := by decide +kernel
theorem dd_115_1 : decode prog_11_method_37_code 1 = .ok (.iconst 0, 1) := by decide +kernel
theorem dd_115_2 : decode prog_11_method_37_code 2 = .ok (.putfield 1, 3) := by decide +kernel
theorem dd_115_5 : decode prog_11_method_37_code 5 = .ok (.iload_n 1, 1) := by decide +kernel
theorem dd_115_6 : decode prog_11_method_37_code 6 = .ok (.iconst 0, 1) := by decide +kernel
theorem dd_115_7 : decode prog_11_method_37_code 7 = .ok (.bipush 16, 2) := by decide +kernel
theorem dd_115_9 : decode prog_11_method_37_code 9 = .ok (.invokestatic 40, 3) := by decide +kernel
theorem dd_115_12 : decode prog_11_method_37_code 12 = .ok (.ifCond .ne 5, 3) := by decide +kernel
theorem dd_115_15 : decode prog_11_method_37_code 15 = .ok (.iconst (-1), 1) := by decide +kernel
theorem dd_115_16 : decode prog_11_method_37_code 16 = .ok (.ireturn, 1) := by decide +kernel
theorem dd_115_17 : decode prog_11_method_37_code 17 = .ok (.aload_n 0, 1) := by decide +kernel
theorem dd_115_18 : decode prog_11_method_37_code 18 = .ok (.invokevirtual 58, 3) := by decide +kernel
theorem dd_115_21 : decode prog_11_method_37_code 21 = .ok (.istore_n 2, 1) := by decide +kernel
theorem dd_115_22 : decode prog_11_method_37_code 22 = .ok (.iconst 0, 1) := by decide +kernel
theorem dd_115_23 : decode prog_11_method_37_code 23 = .ok (.istore_n 3, 1) := by decide +kernel
theorem dd_115_24 : decode prog_11_method_37_code 24 = .ok (.iload_n 1, 1) := by decide +kernel
theorem dd_115_25 : decode prog_11_method_37_code 25 = .ok (.istore 4, 2) := by decide +kernel
theorem dd_115_27 : decode prog_11_method_37_code 27 = .ok (.iload 4, 2) := by decide +kernel
theorem dd_115_29 : decode prog_11_method_37_code 29 = .ok (.ifCond .lt 147, 3) := by decide +kernel
theorem dd_115_32 : decode prog_11_method_37_code 32 = .ok (.aload_n 0, 1) := by decide +kernel
theorem dd_115_33 : decode prog_11_method_37_code 33 = .ok (.iload_n 2, 1) := by decide +kernel
theorem dd_115_34 : decode prog_11_method_37_code 34 = .ok (.iconst 0, 1) := by decide +kernel
theorem dd_115_35 : decode prog_11_method_37_code 35 = .ok (.iconst 0, 1) := by decide +kernel
theorem dd_115_36 : decode prog_11_method_37_code 36 = .ok (.invokevirtual 118, 3) := by decide +kernel
theorem dd_115_39 : decode prog_11_method_37_code 39 = .ok (.istore 5, 2) := by decide +kernel
theorem dd_115_41 : decode prog_11_method_37_code 41 = .ok (.aload_n 0, 1) := by decide +kernel
theorem dd_115_42 : decode prog_11_method_37_code 42 = .ok (.iload_n 2, 1) := by decide +kernel
theorem dd_115_43 : decode prog_11_method_37_code 43 = .ok (.iload 4, 2) := by decide +kernel
theorem dd_115_45 : decode prog_11_method_37_code 45 = .ok (.iconst 1, 1) := by decide +kernel
theorem dd_115_46 : decode prog_11_method_37_code 46 = .ok (.iadd, 1) := by decide +kernel
theorem dd_115_47 : decode prog_11_method_37_code 47 = .ok (.bipush 16, 2) := by decide +kernel
theorem dd_115_49 : decode prog_11_method_37_code 49 = .ok (.invokevirtual 118, 3) := by decide +kernel
theorem dd_115_52 : decode prog_11_method_37_code 52 = .ok (.istore 6, 2) := by decide +kernel
theorem dd_115_54 : decode prog_11_method_37_code 54 = .ok (.aload_n 0, 1) := by decide +kernel
theorem dd_115_55 : decode prog_11_method_37_code 55 = .ok (.iload_n 2, 1) := by decide +kernel
theorem dd_115_56 : decode prog_11_method_37_code 56 = .ok (.iconst 1, 1) := by decide +kernel
theorem dd_115_57 : decode prog_11_method_37_code 57 = .ok (.iconst 1, 1) := by decide +kernel
theorem dd_115_58 : decode prog_11_method_37_code 58 = .ok (.invokevirtual 118, 3) := by decide +kernel
theorem dd_115_61 : decode prog_11_method_37_code 61 = .ok (.istore 7, 2) := by decide +kernel
theorem dd_115_63 : decode prog_11_method_37_code 63 = .ok (.iload 5, 2) := by decide +kernel
theorem dd_115_65 : decode prog_11_method_37_code 65 = .ok (.bipush 16, 2) := by decide +kernel
theorem dd_115_67 : decode prog_11_method_37_code 67 = .ok (.if_icmp .ge 15, 3) := by decide +kernel
theorem dd_115_70 : decode prog_11_method_37_code 70 = .ok (.iload_n 2, 1) := by decide +kernel
theorem dd_115_71 : decode prog_11_method_37_code 71 = .ok (.iconst 1, 1) := by decide +kernel
theorem dd_115_72 : decode prog_11_method_37_code 72 = .ok (.iload 5, 2) := by decide +kernel
theorem dd_115_74 : decode prog_11_method_37_code 74 = .ok (.ishl, 1) := by decide +kernel
theorem dd_115_75 : decode prog_11_method_37_code 75 = .ok (.iconst (-1), 1) := by decide +kernel
theorem dd_115_76 : decode prog_11_method_37_code 76 = .ok (.ixor, 1) := by decide +kernel
theorem dd_115_77 : decode prog_11_method_37_code 77 = .ok (.iand, 1) := by decide +kernel
theorem dd_115_78 : decode prog_11_method_37_code 78 = .ok (.istore_n 2, 1) := by decide +kernel
theorem dd_115_79 : decode prog_11_method_37_code 79 = .ok (.goto 94, 3) := by decide +kernel
theorem dd_115_82 : decode prog_11_method_37_code 82 = .ok (.iload 6, 2) := by decide +kernel
theorem dd_115_84 : decode prog_11_method_37_code 84 = .ok (.bipush 16, 2) := by decide +kernel
theorem dd_115_86 : decode prog_11_method_37_code 86 = .ok (.if_icmp .lt 10, 3) := by decide +kernel
theorem dd_115_89 : decode prog_11_method_37_code 89 = .ok (.iload 7, 2) := by decide +kernel
theorem dd_115_91 : decode prog_11_method_37_code 91 = .ok (.bipush 16, 2) := by decide +kernel
theorem dd_115_93 : decode prog_11_method_37_code 93 = .ok (.if_icmp .ge 51, 3) := by decide +kernel
theorem dd_115_96 : decode prog_11_method_37_code 96 = .ok (.iload 6, 2) := by decide +kernel
theorem dd_115_98 : decode prog_11_method_37_code 98 = .ok (.bipush 16, 2) := by decide +kernel
theorem dd_115_100 : decode prog_11_method_37_code 100 = .ok (.if_icmp .ge 8, 3) := by decide +kernel
theorem dd_115_103 : decode prog_11_method_37_code 103 = .ok (.iload 6, 2) := by decide +kernel
theorem dd_115_105 : decode prog_11_method_37_code 105 = .ok (.goto 15, 3) := by decide +kernel
theorem dd_115_108 : decode prog_11_method_37_code 108 = .ok (.iload_n 2, 1) := by decide +kernel
theorem dd_115_109 : decode prog_11_method_37_code 109 = .ok (.aload_n 0, 1) := by decide +kernel
theorem dd_115_110 : decode prog_11_method_37_code 110 = .ok (.getfield 17, 3) := by decide +kernel
theorem dd_115_113 : decode prog_11_method_37_code 113 = .ok (.iload 7, 2) := by decide +kernel
theorem dd_115_115 : decode prog_11_method_37_code 115 = .ok (.iaload, 1) := by decide +kernel
theorem dd_115_116 : decode prog_11_method_37_code 116 = .ok (.iand, 1) := by decide +kernel
theorem dd_115_117 : decode prog_11_method_37_code 117 = .ok (.invokestatic 122, 3) := by decide +kernel
theorem dd_115_120 : decode prog_11_method_37_code 120 = .ok (.istore 8, 2) := by decide +kernel
theorem dd_115_122 : decode prog_11_method_37_code 122 = .ok (.iload_n 3, 1) := by decide +kernel
theorem dd_115_123 : decode prog_11_method_37_code 123 = .ok (.iconst 1, 1) := by decide +kernel
theorem dd_115_124 : decode prog_11_method_37_code 124 = .ok (.iload 8, 2) := by decide +kernel
theorem dd_115_126 : decode prog_11_method_37_code 126 = .ok (.ishl, 1) := by decide +kernel
theorem dd_115_127 : decode prog_11_method_37_code 127 = .ok (.ior, 1) := by decide +kernel
theorem dd_115_128 : decode prog_11_method_37_code 128 = .ok (.istore_n 3, 1) := by decide +kernel
theorem dd_115_129 : decode prog_11_method_37_code 129 = .ok (.iload_n 2, 1) := by decide +kernel
theorem dd_115_130 : decode prog_11_method_37_code 130 = .ok (.iconst 1, 1) := by decide +kernel
theorem dd_115_131 : decode prog_11_method_37_code 131 = .ok (.iload 8, 2) := by decide +kernel
theorem dd_115_133 : decode prog_11_method_37_code 133 = .ok (.ishl, 1) := by decide +kernel
theorem dd_115_134 : decode prog_11_method_37_code 134 = .ok (.iconst (-1), 1) := by decide +kernel
theorem dd_115_135 : decode prog_11_method_37_code 135 = .ok (.ixor, 1) := by decide +kernel
theorem dd_115_136 : decode prog_11_method_37_code 136 = .ok (.iand, 1) := by decide +kernel
theorem dd_115_137 : decode prog_11_method_37_code 137 = .ok (.istore_n 2, 1) := by decide +kernel
theorem dd_115_138 : decode prog_11_method_37_code 138 = .ok (.iinc 4 (-1), 3) := by decide +kernel
theorem dd_115_141 : decode prog_11_method_37_code 141 = .ok (.goto 32, 3) := by decide +kernel
theorem dd_115_144 : decode prog_11_method_37_code 144 = .ok (.aload_n 0, 1) := by decide +kernel
theorem dd_115_145 : decode prog_11_method_37_code 145 = .ok (.iload_n 2, 1) := by decide +kernel
theorem dd_115_146 : decode prog_11_method_37_code 146 = .ok (.invokevirtual 125, 3) := by decide +kernel
theorem dd_115_149 : decode prog_11_method_37_code 149 = .ok (.iload 4, 2) := by decide +kernel
theorem dd_115_151 : decode prog_11_method_37_code 151 = .ok (.iload 4, 2) := by decide +kernel
theorem dd_115_153 : decode prog_11_method_37_code 153 = .ok (.imul, 1) := by decide +kernel
theorem dd_115_154 : decode prog_11_method_37_code 154 = .ok (.if_icmp .le 6, 3) := by decide +kernel
theorem dd_115_157 : decode prog_11_method_37_code 157 = .ok (.bipush (-2), 2) := by decide +kernel
theorem dd_115_159 : decode prog_11_method_37_code 159 = .ok (.ireturn, 1) := by decide +kernel
theorem dd_115_160 : decode prog_11_method_37_code 160 = .ok (.aload_n 0, 1) := by decide +kernel
theorem dd_115_161 : decode prog_11_method_37_code 161 = .ok (.iload_n 3, 1) := by decide +kernel
theorem dd_115_162 : decode prog_11_method_37_code 162 = .ok (.putfield 128, 3) := by decide +kernel
theorem dd_115_165 : decode prog_11_method_37_code 165 = .ok (.aload_n 0, 1) := by decide +kernel
theorem dd_115_166 : decode prog_11_method_37_code 166 = .ok (.iload 4, 2) := by decide +kernel
theorem dd_115_168 : decode prog_11_method_37_code 168 = .ok (.putfield 131, 3) := by decide +kernel
theorem dd_115_171 : decode prog_11_method_37_code 171 = .ok (.iload_n 2, 1) := by decide +kernel
theorem dd_115_172 : decode prog_11_method_37_code 172 = .ok (.ireturn, 1) := by decide +kernel
theorem dd_115_173 : decode prog_11_method_37_code 173 = .ok (.goto (-146), 3) := by decide +kernel
theorem dd_115_176 : decode prog_11_method_37_code 176 = .ok (.bipush (-2), 2) := by decide +kernel
theorem dd_115_178 : decode prog_11_method_37_code 178 = .ok (.ireturn, 1) := by decide +kernel
theorem ks_115_0 : mi_snd cs_G cs_cl cs_inf 115 0 (mj_aload 0 1) := ms_aload_n (mi_dec ib_115 dd_115_0) rfl
theorem ks_115_1 : mi_snd cs_G cs_cl cs_inf 115 1 (mj_push (.inl 0) 2) := ms_iconst (mi_dec ib_115 dd_115_1) (by decide)
theorem ks_115_2 : mi_snd cs_G cs_cl cs_inf 115 2 (mj_putI 9 0 5) := ms_putI (T := cs_T9) (k := 0) (mi_dec ib_115 dd_115_2) rfl cs_in9 cs_ty9_ok cs_nm9 (by decide) gw_636 (by decide) (by decide +kernel)
theorem ks_115_5 : mi_snd cs_G cs_cl cs_inf 115 5 (mj_iload 1 6) := ms_iload_n (mi_dec ib_115 dd_115_5) rfl
theorem ks_115_6 : mi_snd cs_G cs_cl cs_inf 115 6 (mj_push (.inl 0) 7) := ms_iconst (mi_dec ib_115 dd_115_6) (by decide)
theorem ks_115_7 : mi_snd cs_G cs_cl cs_inf 115 7 (mj_push (.inl 16) 9) := ms_bipush (mi_dec ib_115 dd_115_7) (by decide)
theorem ks_115_9 : mi_snd cs_G cs_cl cs_inf 115 9 (mj_callS 84 3 3 12) := ms_callS iw_c84 (mi_dec ib_115 dd_115_9) gw_696 iw_s84 iw_n84 (by decide +kernel) rfl (by decide)
theorem ks_115_12 : mi_snd cs_G cs_cl cs_inf 115 12 (mj_if (fun x => decide (¬ x = 0)) 17 15) := ms_if_ne (mi_dec ib_115 dd_115_12) (by decide)
theorem ks_115_15 : mi_snd cs_G cs_cl cs_inf 115 15 (mj_push (.inl (-1)) 16) := ms_iconst (mi_dec ib_115 dd_115_15) (by decide)
theorem ks_115_16 : mi_snd cs_G cs_cl cs_inf 115 16 (mj_iret) := ms_iret (mi_dec ib_115 dd_115_16) rfl
theorem ks_115_17 : mi_snd cs_G cs_cl cs_inf 115 17 (mj_aload 0 18) := ms_aload_n (mi_dec ib_115 dd_115_17) rfl
theorem ks_115_18 : mi_snd cs_G cs_cl cs_inf 115 18 (mj_callV 9 91 0 1 21) := ms_callV iw_c91 (mi_dec ib_115 dd_115_18) gw_723 iw_i91 rfl iw_v91 iw_n91 (by decide +kernel) rfl (by decide)
theorem ks_115_21 : mi_snd cs_G cs_cl cs_inf 115 21 (mj_istore 2 22) := ms_istore_n (mi_dec ib_115 dd_115_21) rfl
theorem ks_115_22 : mi_snd cs_G cs_cl cs_inf 115 22 (mj_push (.inl 0) 23) := ms_iconst (mi_dec ib_115 dd_115_22) (by decide)
theorem ks_115_23 : mi_snd cs_G cs_cl cs_inf 115 23 (mj_istore 3 24) := ms_istore_n (mi_dec ib_115 dd_115_23) rfl
theorem ks_115_24 : mi_snd cs_G cs_cl cs_inf 115 24 (mj_iload 1 25) := ms_iload_n (mi_dec ib_115 dd_115_24) rfl
theorem ks_115_25 : mi_snd cs_G cs_cl cs_inf 115 25 (mj_istore 4 27) := ms_istore (mi_dec ib_115 dd_115_25)
theorem ks_115_27 : mi_snd cs_G cs_cl cs_inf 115 27 (mj_iload 4 29) := ms_iload (mi_dec ib_115 dd_115_27)
theorem ks_115_29 : mi_snd cs_G cs_cl cs_inf 115 29 (mj_if (fun x => decide (x < 0)) 176 32) := ms_if_lt (mi_dec ib_115 dd_115_29) (by decide)
theorem ks_115_32 : mi_snd cs_G cs_cl cs_inf 115 32 (mj_aload 0 33) := ms_aload_n (mi_dec ib_115 dd_115_32) rfl
theorem ks_115_33 : mi_snd cs_G cs_cl cs_inf 115 33 (mj_iload 2 34) := ms_iload_n (mi_dec ib_115 dd_115_33) rfl
theorem ks_115_34 : mi_snd cs_G cs_cl cs_inf 115 34 (mj_push (.inl 0) 35) := ms_iconst (mi_dec ib_115 dd_115_34) (by decide)
theorem ks_115_35 : mi_snd cs_G cs_cl cs_inf 115 35 (mj_push (.inl 0) 36) := ms_iconst (mi_dec ib_115 dd_115_35) (by decide)
theorem ks_115_36 : mi_snd cs_G cs_cl cs_inf 115 36 (mj_callV 9 116 3 5 39) := ms_callV iw_c116 (mi_dec ib_115 dd_115_36) gw_823 iw_i116 rfl iw_v116 iw_n116 (by decide +kernel) rfl (by decide)
theorem ks_115_39 : mi_snd cs_G cs_cl cs_inf 115 39 (mj_istore 5 41) := ms_istore (mi_dec ib_115 dd_115_39)
theorem ks_115_41 : mi_snd cs_G cs_cl cs_inf 115 41 (mj_aload 0 42) := ms_aload_n (mi_dec ib_115 dd_115_41) rfl
theorem ks_115_42 : mi_snd cs_G cs_cl cs_inf 115 42 (mj_iload 2 43) := ms_iload_n (mi_dec ib_115 dd_115_42) rfl
theorem ks_115_43 : mi_snd cs_G cs_cl cs_inf 115 43 (mj_iload 4 45) := ms_iload (mi_dec ib_115 dd_115_43)
theorem ks_115_45 : mi_snd cs_G cs_cl cs_inf 115 45 (mj_push (.inl 1) 46) := ms_iconst (mi_dec ib_115 dd_115_45) (by decide)
theorem ks_115_46 : mi_snd cs_G cs_cl cs_inf 115 46 (mj_bin (fun x y => x + y) 47) := ms_iadd (mi_dec ib_115 dd_115_46)
theorem ks_115_47 : mi_snd cs_G cs_cl cs_inf 115 47 (mj_push (.inl 16) 49) := ms_bipush (mi_dec ib_115 dd_115_47) (by decide)
theorem ks_115_49 : mi_snd cs_G cs_cl cs_inf 115 49 (mj_callV 9 116 3 5 52) := ms_callV iw_c116 (mi_dec ib_115 dd_115_49) gw_823 iw_i116 rfl iw_v116 iw_n116 (by decide +kernel) rfl (by decide)
theorem ks_115_52 : mi_snd cs_G cs_cl cs_inf 115 52 (mj_istore 6 54) := ms_istore (mi_dec ib_115 dd_115_52)
theorem ks_115_54 : mi_snd cs_G cs_cl cs_inf 115 54 (mj_aload 0 55) := ms_aload_n (mi_dec ib_115 dd_115_54) rfl
theorem ks_115_55 : mi_snd cs_G cs_cl cs_inf 115 55 (mj_iload 2 56) := ms_iload_n (mi_dec ib_115 dd_115_55) rfl
theorem ks_115_56 : mi_snd cs_G cs_cl cs_inf 115 56 (mj_push (.inl 1) 57) := ms_iconst (mi_dec ib_115 dd_115_56) (by decide)
theorem ks_115_57 : mi_snd cs_G cs_cl cs_inf 115 57 (mj_push (.inl 1) 58) := ms_iconst (mi_dec ib_115 dd_115_57) (by decide)
theorem ks_115_58 : mi_snd cs_G cs_cl cs_inf 115 58 (mj_callV 9 116 3 5 61) := ms_callV iw_c116 (mi_dec ib_115 dd_115_58) gw_823 iw_i116 rfl iw_v116 iw_n116 (by decide +kernel) rfl (by decide)
theorem ks_115_61 : mi_snd cs_G cs_cl cs_inf 115 61 (mj_istore 7 63) := ms_istore (mi_dec ib_115 dd_115_61)
theorem ks_115_63 : mi_snd cs_G cs_cl cs_inf 115 63 (mj_iload 5 65) := ms_iload (mi_dec ib_115 dd_115_63)
theorem ks_115_65 : mi_snd cs_G cs_cl cs_inf 115 65 (mj_push (.inl 16) 67) := ms_bipush (mi_dec ib_115 dd_115_65) (by decide)
theorem ks_115_67 : mi_snd cs_G cs_cl cs_inf 115 67 (mj_cmp (fun x y => decide (y ≤ x)) 82 70) := ms_icmp_ge (mi_dec ib_115 dd_115_67) (by decide)
theorem ks_115_70 : mi_snd cs_G cs_cl cs_inf 115 70 (mj_iload 2 71) := ms_iload_n (mi_dec ib_115 dd_115_70) rfl
theorem ks_115_71 : mi_snd cs_G cs_cl cs_inf 115 71 (mj_push (.inl 1) 72) := ms_iconst (mi_dec ib_115 dd_115_71) (by decide)
theorem ks_115_72 : mi_snd cs_G cs_cl cs_inf 115 72 (mj_iload 5 74) := ms_iload (mi_dec ib_115 dd_115_72)
theorem ks_115_74 : mi_snd cs_G cs_cl cs_inf 115 74 (mj_bin (fun x y => x <<< (y &&& 31)) 75) := ms_ishl (mi_dec ib_115 dd_115_74)
theorem ks_115_75 : mi_snd cs_G cs_cl cs_inf 115 75 (mj_push (.inl (-1)) 76) := ms_iconst (mi_dec ib_115 dd_115_75) (by decide)
theorem ks_115_76 : mi_snd cs_G cs_cl cs_inf 115 76 (mj_bin (fun x y => x ^^^ y) 77) := ms_ixor (mi_dec ib_115 dd_115_76)
theorem ks_115_77 : mi_snd cs_G cs_cl cs_inf 115 77 (mj_bin (fun x y => x &&& y) 78) := ms_iand (mi_dec ib_115 dd_115_77)
theorem ks_115_78 : mi_snd cs_G cs_cl cs_inf 115 78 (mj_istore 2 79) := ms_istore_n (mi_dec ib_115 dd_115_78) rfl
theorem ks_115_79 : mi_snd cs_G cs_cl cs_inf 115 79 (mj_goto 173) := ms_goto (mi_dec ib_115 dd_115_79) (by decide)
theorem ks_115_82 : mi_snd cs_G cs_cl cs_inf 115 82 (mj_iload 6 84) := ms_iload (mi_dec ib_115 dd_115_82)
theorem ks_115_84 : mi_snd cs_G cs_cl cs_inf 115 84 (mj_push (.inl 16) 86) := ms_bipush (mi_dec ib_115 dd_115_84) (by decide)
theorem ks_115_86 : mi_snd cs_G cs_cl cs_inf 115 86 (mj_cmp (fun x y => decide (x < y)) 96 89) := ms_icmp_lt (mi_dec ib_115 dd_115_86) (by decide)
theorem ks_115_89 : mi_snd cs_G cs_cl cs_inf 115 89 (mj_iload 7 91) := ms_iload (mi_dec ib_115 dd_115_89)
theorem ks_115_91 : mi_snd cs_G cs_cl cs_inf 115 91 (mj_push (.inl 16) 93) := ms_bipush (mi_dec ib_115 dd_115_91) (by decide)
theorem ks_115_93 : mi_snd cs_G cs_cl cs_inf 115 93 (mj_cmp (fun x y => decide (y ≤ x)) 144 96) := ms_icmp_ge (mi_dec ib_115 dd_115_93) (by decide)
theorem ks_115_96 : mi_snd cs_G cs_cl cs_inf 115 96 (mj_iload 6 98) := ms_iload (mi_dec ib_115 dd_115_96)
theorem ks_115_98 : mi_snd cs_G cs_cl cs_inf 115 98 (mj_push (.inl 16) 100) := ms_bipush (mi_dec ib_115 dd_115_98) (by decide)
theorem ks_115_100 : mi_snd cs_G cs_cl cs_inf 115 100 (mj_cmp (fun x y => decide (y ≤ x)) 108 103) := ms_icmp_ge (mi_dec ib_115 dd_115_100) (by decide)
theorem ks_115_103 : mi_snd cs_G cs_cl cs_inf 115 103 (mj_iload 6 105) := ms_iload (mi_dec ib_115 dd_115_103)
theorem ks_115_105 : mi_snd cs_G cs_cl cs_inf 115 105 (mj_goto 120) := ms_goto (mi_dec ib_115 dd_115_105) (by decide)
theorem ks_115_108 : mi_snd cs_G cs_cl cs_inf 115 108 (mj_iload 2 109) := ms_iload_n (mi_dec ib_115 dd_115_108) rfl
theorem ks_115_109 : mi_snd cs_G cs_cl cs_inf 115 109 (mj_aload 0 110) := ms_aload_n (mi_dec ib_115 dd_115_109) rfl
theorem ks_115_110 : mi_snd cs_G cs_cl cs_inf 115 110 (mj_get 9 3 113) := ms_get (T := cs_T9) (k := 3) (mi_dec ib_115 dd_115_110) rfl cs_in9 (by decide) gw_639
theorem ks_115_113 : mi_snd cs_G cs_cl cs_inf 115 113 (mj_iload 7 115) := ms_iload (mi_dec ib_115 dd_115_113)
theorem ks_115_115 : mi_snd cs_G cs_cl cs_inf 115 115 (mj_ald 0 116) := ms_ald0 (mi_dec ib_115 dd_115_115)
theorem ks_115_116 : mi_snd cs_G cs_cl cs_inf 115 116 (mj_bin (fun x y => x &&& y) 117) := ms_iand (mi_dec ib_115 dd_115_116)
theorem ks_115_117 : mi_snd cs_G cs_cl cs_inf 115 117 (mj_callS 117 1 2 120) := ms_callS iw_c117 (mi_dec ib_115 dd_115_117) gw_827 iw_s117 iw_n117 (by decide +kernel) rfl (by decide)
theorem ks_115_120 : mi_snd cs_G cs_cl cs_inf 115 120 (mj_istore 8 122) := ms_istore (mi_dec ib_115 dd_115_120)
theorem ks_115_122 : mi_snd cs_G cs_cl cs_inf 115 122 (mj_iload 3 123) := ms_iload_n (mi_dec ib_115 dd_115_122) rfl
theorem ks_115_123 : mi_snd cs_G cs_cl cs_inf 115 123 (mj_push (.inl 1) 124) := ms_iconst (mi_dec ib_115 dd_115_123) (by decide)
theorem ks_115_124 : mi_snd cs_G cs_cl cs_inf 115 124 (mj_iload 8 126) := ms_iload (mi_dec ib_115 dd_115_124)
theorem ks_115_126 : mi_snd cs_G cs_cl cs_inf 115 126 (mj_bin (fun x y => x <<< (y &&& 31)) 127) := ms_ishl (mi_dec ib_115 dd_115_126)
theorem ks_115_127 : mi_snd cs_G cs_cl cs_inf 115 127 (mj_bin (fun x y => x ||| y) 128) := ms_ior (mi_dec ib_115 dd_115_127)
theorem ks_115_128 : mi_snd cs_G cs_cl cs_inf 115 128 (mj_istore 3 129) := ms_istore_n (mi_dec ib_115 dd_115_128) rfl
theorem ks_115_129 : mi_snd cs_G cs_cl cs_inf 115 129 (mj_iload 2 130) := ms_iload_n (mi_dec ib_115 dd_115_129) rfl
theorem ks_115_130 : mi_snd cs_G cs_cl cs_inf 115 130 (mj_push (.inl 1) 131) := ms_iconst (mi_dec ib_115 dd_115_130) (by decide)
theorem ks_115_131 : mi_snd cs_G cs_cl cs_inf 115 131 (mj_iload 8 133) := ms_iload (mi_dec ib_115 dd_115_131)
theorem ks_115_133 : mi_snd cs_G cs_cl cs_inf 115 133 (mj_bin (fun x y => x <<< (y &&& 31)) 134) := ms_ishl (mi_dec ib_115 dd_115_133)
theorem ks_115_134 : mi_snd cs_G cs_cl cs_inf 115 134 (mj_push (.inl (-1)) 135) := ms_iconst (mi_dec ib_115 dd_115_134) (by decide)
theorem ks_115_135 : mi_snd cs_G cs_cl cs_inf 115 135 (mj_bin (fun x y => x ^^^ y) 136) := ms_ixor (mi_dec ib_115 dd_115_135)
theorem ks_115_136 : mi_snd cs_G cs_cl cs_inf 115 136 (mj_bin (fun x y => x &&& y) 137) := ms_iand (mi_dec ib_115 dd_115_136)
theorem ks_115_137 : mi_snd cs_G cs_cl cs_inf 115 137 (mj_istore 2 138) := ms_istore_n (mi_dec ib_115 dd_115_137) rfl
theorem ks_115_138 : mi_snd cs_G cs_cl cs_inf 115 138 (mj_iinc 4 (-1) 141) := ms_iinc (mi_dec ib_115 dd_115_138) (by decide)
theorem ks_115_141 : mi_snd cs_G cs_cl cs_inf 115 141 (mj_goto 173) := ms_goto (mi_dec ib_115 dd_115_141) (by decide)
theorem ks_115_144 : mi_snd cs_G cs_cl cs_inf 115 144 (mj_aload 0 145) := ms_aload_n (mi_dec ib_115 dd_115_144) rfl
theorem ks_115_145 : mi_snd cs_G cs_cl cs_inf 115 145 (mj_iload 2 146) := ms_iload_n (mi_dec ib_115 dd_115_145) rfl
theorem ks_115_146 : mi_snd cs_G cs_cl cs_inf 115 146 (mj_callV 9 118 1 4 149) := ms_callV iw_c118 (mi_dec ib_115 dd_115_146) gw_831 iw_i118 rfl iw_v118 iw_n118 (by decide +kernel) rfl (by decide)
theorem ks_115_149 : mi_snd cs_G cs_cl cs_inf 115 149 (mj_iload 4 151) := ms_iload (mi_dec ib_115 dd_115_149)
theorem ks_115_151 : mi_snd cs_G cs_cl cs_inf 115 151 (mj_iload 4 153) := ms_iload (mi_dec ib_115 dd_115_151)
theorem ks_115_153 : mi_snd cs_G cs_cl cs_inf 115 153 (mj_bin (fun x y => x * y) 154) := ms_imul (mi_dec ib_115 dd_115_153)
theorem ks_115_154 : mi_snd cs_G cs_cl cs_inf 115 154 (mj_cmp (fun x y => decide (x ≤ y)) 160 157) := ms_icmp_le (mi_dec ib_115 dd_115_154) (by decide)
theorem ks_115_157 : mi_snd cs_G cs_cl cs_inf 115 157 (mj_push (.inl (-2)) 159) := ms_bipush (mi_dec ib_115 dd_115_157) (by decide)
theorem ks_115_159 : mi_snd cs_G cs_cl cs_inf 115 159 (mj_iret) := ms_iret (mi_dec ib_115 dd_115_159) rfl
theorem ks_115_160 : mi_snd cs_G cs_cl cs_inf 115 160 (mj_aload 0 161) := ms_aload_n (mi_dec ib_115 dd_115_160) rfl
theorem ks_115_161 : mi_snd cs_G cs_cl cs_inf 115 161 (mj_iload 3 162) := ms_iload_n (mi_dec ib_115 dd_115_161) rfl
theorem ks_115_162 : mi_snd cs_G cs_cl cs_inf 115 162 (mj_putI 9 15 165) := ms_putI (T := cs_T9) (k := 15) (mi_dec ib_115 dd_115_162) rfl cs_in9 cs_ty9_ok cs_nm9 (by decide) gw_651 (by decide) (by decide +kernel)
theorem ks_115_165 : mi_snd cs_G cs_cl cs_inf 115 165 (mj_aload 0 166) := ms_aload_n (mi_dec ib_115 dd_115_165) rfl
theorem ks_115_166 : mi_snd cs_G cs_cl cs_inf 115 166 (mj_iload 4 168) := ms_iload (mi_dec ib_115 dd_115_166)
theorem ks_115_168 : mi_snd cs_G cs_cl cs_inf 115 168 (mj_putI 9 16 171) := ms_putI (T := cs_T9) (k := 16) (mi_dec ib_115 dd_115_168) rfl cs_in9 cs_ty9_ok cs_nm9 (by decide) gw_652 (by decide) (by decide +kernel)
theorem ks_115_171 : mi_snd cs_G cs_cl cs_inf 115 171 (mj_iload 2 172) := ms_iload_n (mi_dec ib_115 dd_115_171) rfl
theorem ks_115_172 : mi_snd cs_G cs_cl cs_inf 115 172 (mj_iret) := ms_iret (mi_dec ib_115 dd_115_172) rfl
theorem ks_115_173 : mi_snd cs_G cs_cl cs_inf 115 173 (mj_goto 27) := ms_goto (mi_dec ib_115 dd_115_173) (by decide)
theorem ks_115_176 : mi_snd cs_G cs_cl cs_inf 115 176 (mj_push (.inl (-2)) 178) := ms_bipush (mi_dec ib_115 dd_115_176) (by decide)
theorem ks_115_178 : mi_snd cs_G cs_cl cs_inf 115 178 (mj_iret) := ms_iret (mi_dec ib_115 dd_115_178) rfl
def ct_115 : List (Nat × mi_I) := [
  (0, mj_aload 0 1),
  (1, mj_push (.inl 0) 2),
  (2, mj_putI 9 0 5),
  (5, mj_iload 1 6),
  (6, mj_push (.inl 0) 7),
  (7, mj_push (.inl 16) 9),
  (9, mj_callS 84 3 3 12),
  (12, mj_if (fun x => decide (¬ x = 0)) 17 15),
  (15, mj_push (.inl (-1)) 16),
  (16, mj_iret),
  (17, mj_aload 0 18),
  (18, mj_callV 9 91 0 1 21),
  (21, mj_istore 2 22),
  (22, mj_push (.inl 0) 23),
  (23, mj_istore 3 24),
  (24, mj_iload 1 25),
  (25, mj_istore 4 27),
  (27, mj_iload 4 29),
  (29, mj_if (fun x => decide (x < 0)) 176 32),
  (32, mj_aload 0 33),
  (33, mj_iload 2 34),
  (34, mj_push (.inl 0) 35),
  (35, mj_push (.inl 0) 36),
  (36, mj_callV 9 116 3 5 39),
  (39, mj_istore 5 41),
  (41, mj_aload 0 42),
  (42, mj_iload 2 43),
  (43, mj_iload 4 45),
  (45, mj_push (.inl 1) 46),
  (46, mj_bin (fun x y => x + y) 47),
  (47, mj_push (.inl 16) 49),
  (49, mj_callV 9 116 3 5 52),
  (52, mj_istore 6 54),
  (54, mj_aload 0 55),
  (55, mj_iload 2 56),
  (56, mj_push (.inl 1) 57),
  (57, mj_push (.inl 1) 58),
  (58, mj_callV 9 116 3 5 61),
  (61, mj_istore 7 63),
  (63, mj_iload 5 65),
  (65, mj_push (.inl 16) 67),
  (67, mj_cmp (fun x y => decide (y ≤ x)) 82 70),
  (70, mj_iload 2 71),
  (71, mj_push (.inl 1) 72),
  (72, mj_iload 5 74),
  (74, mj_bin (fun x y => x <<< (y &&& 31)) 75),
  (75, mj_push (.inl (-1)) 76),
  (76, mj_bin (fun x y => x ^^^ y) 77),
  (77, mj_bin (fun x y => x &&& y) 78),
  (78, mj_istore 2 79),
  (79, mj_goto 173),
  (82, mj_iload 6 84),
  (84, mj_push (.inl 16) 86),
  (86, mj_cmp (fun x y => decide (x < y)) 96 89),
  (89, mj_iload 7 91),
  (91, mj_push (.inl 16) 93),
  (93, mj_cmp (fun x y => decide (y ≤ x)) 144 96),
  (96, mj_iload 6 98),
  (98, mj_push (.inl 16) 100),
  (100, mj_cmp (fun x y => decide (y ≤ x)) 108 103),
  (103, mj_iload 6 105),
  (105, mj_goto 120),
  (108, mj_iload 2 109),
  (109, mj_aload 0 110),
  (110, mj_get 9 3 113),
  (113, mj_iload 7 115),
  (115, mj_ald 0 116),
  (116, mj_bin (fun x y => x &&& y) 117),
  (117, mj_callS 117 1 2 120),
  (120, mj_istore 8 122),
  (122, mj_iload 3 123),
  (123, mj_push (.inl 1) 124),
  (124, mj_iload 8 126),
  (126, mj_bin (fun x y => x <<< (y &&& 31)) 127),
  (127, mj_bin (fun x y => x ||| y) 128),
  (128, mj_istore 3 129),
  (129, mj_iload 2 130),
  (130, mj_push (.inl 1) 131),
  (131, mj_iload 8 133),
  (133, mj_bin (fun x y => x <<< (y &&& 31)) 134),
  (134, mj_push (.inl (-1)) 135),
  (135, mj_bin (fun x y => x ^^^ y) 136),
  (136, mj_bin (fun x y => x &&& y) 137),
  (137, mj_istore 2 138),
  (138, mj_iinc 4 (-1) 141),
  (141, mj_goto 173),
  (144, mj_aload 0 145),
  (145, mj_iload 2 146),
  (146, mj_callV 9 118 1 4 149),
  (149, mj_iload 4 151),
  (151, mj_iload 4 153),
  (153, mj_bin (fun x y => x * y) 154),
  (154, mj_cmp (fun x y => decide (x ≤ y)) 160 157),
  (157, mj_push (.inl (-2)) 159),
  (159, mj_iret),
  (160, mj_aload 0 161),
  (161, mj_iload 3 162),
  (162, mj_putI 9 15 165),
  (165, mj_aload 0 166),
  (166, mj_iload 4 168),
  (168, mj_putI 9 16 171),
  (171, mj_iload 2 172),
  (172, mj_iret),
  (173, mj_goto 27),
  (176, mj_push (.inl (-2)) 178),
  (178, mj_iret)]
theorem sd_115 : ∀ q ∈ ct_115, mi_snd cs_G cs_cl cs_inf 115 q.1 q.2 := mi_fc ks_115_0 (mi_fc ks_115_1 (mi_fc ks_115_2 (mi_fc ks_115_5 (mi_fc ks_115_6 (mi_fc ks_115_7 (mi_fc ks_115_9 (mi_fc ks_115_12 (mi_fc ks_115_15 (mi_fc ks_115_16 (mi_fc ks_115_17 (mi_fc ks_115_18 (mi_fc ks_115_21 (mi_fc ks_115_22 (mi_fc ks_115_23 (mi_fc ks_115_24 (mi_fc ks_115_25 (mi_fc ks_115_27 (mi_fc ks_115_29 (mi_fc ks_115_32 (mi_fc ks_115_33 (mi_fc ks_115_34 (mi_fc ks_115_35 (mi_fc ks_115_36 (mi_fc ks_115_39 (mi_fc ks_115_41 (mi_fc ks_115_42 (mi_fc ks_115_43 (mi_fc ks_115_45 (mi_fc ks_115_46 (mi_fc ks_115_47 (mi_fc ks_115_49 (mi_fc ks_115_52 (mi_fc ks_115_54 (mi_fc ks_115_55 (mi_fc ks_115_56 (mi_fc ks_115_57 (mi_fc ks_115_58 (mi_fc ks_115_61 (mi_fc ks_115_63 (mi_fc ks_115_65 (mi_fc ks_115_67 (mi_fc ks_115_70 (mi_fc ks_115_71 (mi_fc ks_115_72 (mi_fc ks_115_74 (mi_fc ks_115_75 (mi_fc ks_115_76 (mi_fc ks_115_77 (mi_fc ks_115_78 (mi_fc ks_115_79 (mi_fc ks_115_82 (mi_fc ks_115_84 (mi_fc ks_115_86 (mi_fc ks_115_89 (mi_fc ks_115_91 (mi_fc ks_115_93 (mi_fc ks_115_96 (mi_fc ks_115_98 (mi_fc ks_115_100 (mi_fc ks_115_103 (mi_fc ks_115_105 (mi_fc ks_115_108 (mi_fc ks_115_109 (mi_fc ks_115_110 (mi_fc ks_115_113 (mi_fc ks_115_115 (mi_fc ks_115_116 (mi_fc ks_115_117 (mi_fc ks_115_120 (mi_fc ks_115_122 (mi_fc ks_115_123 (mi_fc ks_115_124 (mi_fc ks_115_126 (mi_fc ks_115_127 (mi_fc ks_115_128 (mi_fc ks_115_129 (mi_fc ks_115_130 (mi_fc ks_115_131 (mi_fc ks_115_133 (mi_fc ks_115_134 (mi_fc ks_115_135 (mi_fc ks_115_136 (mi_fc ks_115_137 (mi_fc ks_115_138 (mi_fc ks_115_141 (mi_fc ks_115_144 (mi_fc ks_115_145 (mi_fc ks_115_146 (mi_fc ks_115_149 (mi_fc ks_115_151 (mi_fc ks_115_153 (mi_fc ks_115_154 (mi_fc ks_115_157 (mi_fc ks_115_159 (mi_fc ks_115_160 (mi_fc ks_115_161 (mi_fc ks_115_162 (mi_fc ks_115_165 (mi_fc ks_115_166 (mi_fc ks_115_168 (mi_fc ks_115_171 (mi_fc ks_115_172 (mi_fc ks_115_173 (mi_fc ks_115_176 (mi_fc ks_115_178 mi_fn)))))))))))))))))))))))))))))))))))))))))))))))))))))))))))))))))))))))))))))))))))))))))))))))))))))))))
theorem dd_116_0 : decode prog_11_method_36_code 0 = .ok (.iconst 0, 1) := by decide +kernel
theorem dd_116_1 : decode prog_11_method_36_code 1 = .ok (.istore 4, 2) := by decide +kernel
theorem dd_116_3 : decode prog_11_method_36_code 3 = .ok (.iload 4, 2) := by decide +kernel
theorem dd_116_5 : decode prog_11_method_36_code 5 = .ok (.aload_n 0, 1) := by decide +kernel
theorem dd_116_6 : decode prog_11_method_36_code 6 = .ok (.getfield 37, 3) := by decide +kernel
theorem dd_116_9 : decode prog_11_method_36_code 9 = .ok (.if_icmp .ge 41, 3) := by decide +kernel
theorem dd_116_12 : decode prog_11_method_36_code 12 = .ok (.iload_n 1, 1) := by decide +kernel
theorem dd_116_13 : decode prog_11_method_36_code 13 = .ok (.iload 4, 2) := by decide +kernel
theorem dd_116_15 : decode prog_11_method_36_code 15 = .ok (.invokestatic 48, 3) := by decide +kernel
theorem dd_116_18 : decode prog_11_method_36_code 18 = .ok (.ifCond .eq 26, 3) := by decide +kernel
theorem dd_116_21 : decode prog_11_method_36_code 21 = .ok (.iload_n 1, 1) := by decide +kernel
theorem dd_116_22 : decode prog_11_method_36_code 22 = .ok (.aload_n 0, 1) := by decide +kernel
theorem dd_116_23 : decode prog_11_method_36_code 23 = .ok (.getfield 17, 3) := by decide +kernel
theorem dd_116_26 : decode prog_11_method_36_code 26 = .ok (.iload 4, 2) := by decide +kernel
theorem dd_116_28 : decode prog_11_method_36_code 28 = .ok (.iaload, 1) := by decide +kernel
theorem dd_116_29 : decode prog_11_method_36_code 29 = .ok (.iand, 1) := by decide +kernel
theorem dd_116_30 : decode prog_11_method_36_code 30 = .ok (.invokestatic 52, 3) := by decide +kernel
theorem dd_116_33 : decode prog_11_method_36_code 33 = .ok (.iload_n 2, 1) := by decide +kernel
theorem dd_116_34 : decode prog_11_method_36_code 34 = .ok (.iload_n 3, 1) := by decide +kernel
theorem dd_116_35 : decode prog_11_method_36_code 35 = .ok (.invokestatic 40, 3) := by decide +kernel
theorem dd_116_38 : decode prog_11_method_36_code 38 = .ok (.ifCond .eq 6, 3) := by decide +kernel
theorem dd_116_41 : decode prog_11_method_36_code 41 = .ok (.iload 4, 2) := by decide +kernel
theorem dd_116_43 : decode prog_11_method_36_code 43 = .ok (.ireturn, 1) := by decide +kernel
theorem dd_116_44 : decode prog_11_method_36_code 44 = .ok (.iinc 4 1, 3) := by decide +kernel
theorem dd_116_47 : decode prog_11_method_36_code 47 = .ok (.goto (-44), 3) := by decide +kernel
theorem dd_116_50 : decode prog_11_method_36_code 50 = .ok (.bipush 16, 2) := by decide +kernel
theorem dd_116_52 : decode prog_11_method_36_code 52 = .ok (.ireturn, 1) := by decide +kernel
theorem ks_116_0 : mi_snd cs_G cs_cl cs_inf 116 0 (mj_push (.inl 0) 1) := ms_iconst (mi_dec ib_116 dd_116_0) (by decide)
theorem ks_116_1 : mi_snd cs_G cs_cl cs_inf 116 1 (mj_istore 4 3) := ms_istore (mi_dec ib_116 dd_116_1)
theorem ks_116_3 : mi_snd cs_G cs_cl cs_inf 116 3 (mj_iload 4 5) := ms_iload (mi_dec ib_116 dd_116_3)
theorem ks_116_5 : mi_snd cs_G cs_cl cs_inf 116 5 (mj_aload 0 6) := ms_aload_n (mi_dec ib_116 dd_116_5) rfl
theorem ks_116_6 : mi_snd cs_G cs_cl cs_inf 116 6 (mj_get 9 1 9) := ms_get (T := cs_T9) (k := 1) (mi_dec ib_116 dd_116_6) rfl cs_in9 (by decide) gw_637
theorem ks_116_9 : mi_snd cs_G cs_cl cs_inf 116 9 (mj_cmp (fun x y => decide (y ≤ x)) 50 12) := ms_icmp_ge (mi_dec ib_116 dd_116_9) (by decide)
theorem ks_116_12 : mi_snd cs_G cs_cl cs_inf 116 12 (mj_iload 1 13) := ms_iload_n (mi_dec ib_116 dd_116_12) rfl
theorem ks_116_13 : mi_snd cs_G cs_cl cs_inf 116 13 (mj_iload 4 15) := ms_iload (mi_dec ib_116 dd_116_13)
theorem ks_116_15 : mi_snd cs_G cs_cl cs_inf 116 15 (mj_callS 93 2 2 18) := ms_callS iw_c93 (mi_dec ib_116 dd_116_15) gw_731 iw_s93 iw_n93 (by decide +kernel) rfl (by decide)
theorem ks_116_18 : mi_snd cs_G cs_cl cs_inf 116 18 (mj_if (fun x => decide (x = 0)) 44 21) := ms_if_eq (mi_dec ib_116 dd_116_18) (by decide)
theorem ks_116_21 : mi_snd cs_G cs_cl cs_inf 116 21 (mj_iload 1 22) := ms_iload_n (mi_dec ib_116 dd_116_21) rfl
theorem ks_116_22 : mi_snd cs_G cs_cl cs_inf 116 22 (mj_aload 0 23) := ms_aload_n (mi_dec ib_116 dd_116_22) rfl
theorem ks_116_23 : mi_snd cs_G cs_cl cs_inf 116 23 (mj_get 9 3 26) := ms_get (T := cs_T9) (k := 3) (mi_dec ib_116 dd_116_23) rfl cs_in9 (by decide) gw_639
theorem ks_116_26 : mi_snd cs_G cs_cl cs_inf 116 26 (mj_iload 4 28) := ms_iload (mi_dec ib_116 dd_116_26)
theorem ks_116_28 : mi_snd cs_G cs_cl cs_inf 116 28 (mj_ald 0 29) := ms_ald0 (mi_dec ib_116 dd_116_28)
theorem ks_116_29 : mi_snd cs_G cs_cl cs_inf 116 29 (mj_bin (fun x y => x &&& y) 30) := ms_iand (mi_dec ib_116 dd_116_29)
theorem ks_116_30 : mi_snd cs_G cs_cl cs_inf 116 30 (mj_callS 20 1 1 33) := ms_callS iw_c20 (mi_dec ib_116 dd_116_30) gw_734 iw_s20 iw_n20 (by decide +kernel) rfl (by decide)
theorem ks_116_33 : mi_snd cs_G cs_cl cs_inf 116 33 (mj_iload 2 34) := ms_iload_n (mi_dec ib_116 dd_116_33) rfl
theorem ks_116_34 : mi_snd cs_G cs_cl cs_inf 116 34 (mj_iload 3 35) := ms_iload_n (mi_dec ib_116 dd_116_34) rfl
theorem ks_116_35 : mi_snd cs_G cs_cl cs_inf 116 35 (mj_callS 84 3 3 38) := ms_callS iw_c84 (mi_dec ib_116 dd_116_35) gw_696 iw_s84 iw_n84 (by decide +kernel) rfl (by decide)
theorem ks_116_38 : mi_snd cs_G cs_cl cs_inf 116 38 (mj_if (fun x => decide (x = 0)) 44 41) := ms_if_eq (mi_dec ib_116 dd_116_38) (by decide)
theorem ks_116_41 : mi_snd cs_G cs_cl cs_inf 116 41 (mj_iload 4 43) := ms_iload (mi_dec ib_116 dd_116_41)
theorem ks_116_43 : mi_snd cs_G cs_cl cs_inf 116 43 (mj_iret) := ms_iret (mi_dec ib_116 dd_116_43) rfl
theorem ks_116_44 : mi_snd cs_G cs_cl cs_inf 116 44 (mj_iinc 4 1 47) := ms_iinc (mi_dec ib_116 dd_116_44) (by decide)
theorem ks_116_47 : mi_snd cs_G cs_cl cs_inf 116 47 (mj_goto 3) := ms_goto (mi_dec ib_116 dd_116_47) (by decide)
theorem ks_116_50 : mi_snd cs_G cs_cl cs_inf 116 50 (mj_push (.inl 16) 52) := ms_bipush (mi_dec ib_116 dd_116_50) (by decide)
theorem ks_116_52 : mi_snd cs_G cs_cl cs_inf 116 52 (mj_iret) := ms_iret (mi_dec ib_116 dd_116_52) rfl
def ct_116 : List (Nat × mi_I) := [
  (0, mj_push (.inl 0) 1),
  (1, mj_istore 4 3),
  (3, mj_iload 4 5),
  (5, mj_aload 0 6),
  (6, mj_get 9 1 9),
  (9, mj_cmp (fun x y => decide (y ≤ x)) 50 12),
  (12, mj_iload 1 13),
  (13, mj_iload 4 15),
  (15, mj_callS 93 2 2 18),
  (18, mj_if (fun x => decide (x = 0)) 44 21),
  (21, mj_iload 1 22),
  (22, mj_aload 0 23),
  (23, mj_get 9 3 26),
  (26, mj_iload 4 28),
  (28, mj_ald 0 29),
  (29, mj_bin (fun x y => x &&& y) 30),
  (30, mj_callS 20 1 1 33),
  (33, mj_iload 2 34),
  (34, mj_iload 3 35),
  (35, mj_callS 84 3 3 38),
  (38, mj_if (fun x => decide (x = 0)) 44 41),
  (41, mj_iload 4 43),
  (43, mj_iret),
  (44, mj_iinc 4 1 47),
  (47, mj_goto 3),
  (50, mj_push (.inl 16) 52),
  (52, mj_iret)]
theorem sd_116 : ∀ q ∈ ct_116, mi_snd cs_G cs_cl cs_inf 116 q.1 q.2 := mi_fc ks_116_0 (mi_fc ks_116_1 (mi_fc ks_116_3 (mi_fc ks_116_5 (mi_fc ks_116_6 (mi_fc ks_116_9 (mi_fc ks_116_12 (mi_fc ks_116_13 (mi_fc ks_116_15 (mi_fc ks_116_18 (mi_fc ks_116_21 (mi_fc ks_116_22 (mi_fc ks_116_23 (mi_fc ks_116_26 (mi_fc ks_116_28 (mi_fc ks_116_29 (mi_fc ks_116_30 (mi_fc ks_116_33 (mi_fc ks_116_34 (mi_fc ks_116_35 (mi_fc ks_116_38 (mi_fc ks_116_41 (mi_fc ks_116_43 (mi_fc ks_116_44 (mi_fc ks_116_47 (mi_fc ks_116_50 (mi_fc ks_116_52 mi_fn))))))))))))))))))))))))))
theorem dd_117_0 : decode prog_12_method_48_code 0 = .ok (.iload_n 0, 1) := by decide +kernel
theorem dd_117_1 : decode prog_12_method_48_code 1 = .ok (.iconst (-1), 1) := by decide +kernel
theorem dd_117_2 : decode prog_12_method_48_code 2 = .ok (.ixor, 1) := by decide +kernel
theorem dd_117_3 : decode prog_12_method_48_code 3 = .ok (.iload_n 0, 1) := by decide +kernel
theorem dd_117_4 : decode prog_12_method_48_code 4 = .ok (.iconst 1, 1) := by decide +kernel
theorem dd_117_5 : decode prog_12_method_48_code 5 = .ok (.isub, 1) := by decide +kernel
theorem dd_117_6 : decode prog_12_method_48_code 6 = .ok (.iand, 1) := by decide +kernel
theorem dd_117_7 : decode prog_12_method_48_code 7 = .ok (.istore_n 0, 1) := by decide +kernel
theorem dd_117_8 : decode prog_12_method_48_code 8 = .ok (.iload_n 0, 1) := by decide +kernel
theorem dd_117_9 : decode prog_12_method_48_code 9 = .ok (.ifCond .gt 8, 3) := by decide +kernel
theorem dd_117_12 : decode prog_12_method_48_code 12 = .ok (.iload_n 0, 1) := by decide +kernel
theorem dd_117_13 : decode prog_12_method_48_code 13 = .ok (.bipush 32, 2) := by decide +kernel
theorem dd_117_15 : decode prog_12_method_48_code 15 = .ok (.iand, 1) := by decide +kernel
theorem dd_117_16 : decode prog_12_method_48_code 16 = .ok (.ireturn, 1) := by decide +kernel
theorem dd_117_17 : decode prog_12_method_48_code 17 = .ok (.iconst 1, 1) := by decide +kernel
theorem dd_117_18 : decode prog_12_method_48_code 18 = .ok (.istore_n 1, 1) := by decide +kernel
theorem dd_117_19 : decode prog_12_method_48_code 19 = .ok (.iload_n 0, 1) := by decide +kernel
theorem dd_117_20 : decode prog_12_method_48_code 20 = .ok (.ldc_w 264, 3) := by decide +kernel
theorem dd_117_23 : decode prog_12_method_48_code 23 = .ok (.if_icmp .le 11, 3) := by decide +kernel
theorem dd_117_26 : decode prog_12_method_48_code 26 = .ok (.iinc 1 16, 3) := by decide +kernel
theorem dd_117_29 : decode prog_12_method_48_code 29 = .ok (.iload_n 0, 1) := by decide +kernel
theorem dd_117_30 : decode prog_12_method_48_code 30 = .ok (.bipush 16, 2) := by decide +kernel
theorem dd_117_32 : decode prog_12_method_48_code 32 = .ok (.iushr, 1) := by decide +kernel
theorem dd_117_33 : decode prog_12_method_48_code 33 = .ok (.istore_n 0, 1) := by decide +kernel
theorem dd_117_34 : decode prog_12_method_48_code 34 = .ok (.iload_n 0, 1) := by decide +kernel
theorem dd_117_35 : decode prog_12_method_48_code 35 = .ok (.sipush 256, 3) := by decide +kernel
theorem dd_117_38 : decode prog_12_method_48_code 38 = .ok (.if_icmp .le 11, 3) := by decide +kernel
theorem dd_117_41 : decode prog_12_method_48_code 41 = .ok (.iinc 1 8, 3) := by decide +kernel
theorem dd_117_44 : decode prog_12_method_48_code 44 = .ok (.iload_n 0, 1) := by decide +kernel
theorem dd_117_45 : decode prog_12_method_48_code 45 = .ok (.bipush 8, 2) := by decide +kernel
theorem dd_117_47 : decode prog_12_method_48_code 47 = .ok (.iushr, 1) := by decide +kernel
theorem dd_117_48 : decode prog_12_method_48_code 48 = .ok (.istore_n 0, 1) := by decide +kernel
theorem dd_117_49 : decode prog_12_method_48_code 49 = .ok (.iload_n 0, 1) := by decide +kernel
theorem dd_117_50 : decode prog_12_method_48_code 50 = .ok (.bipush 16, 2) := by decide +kernel
theorem dd_117_52 : decode prog_12_method_48_code 52 = .ok (.if_icmp .le 10, 3) := by decide +kernel
theorem dd_117_55 : decode prog_12_method_48_code 55 = .ok (.iinc 1 4, 3) := by decide +kernel
theorem dd_117_58 : decode prog_12_method_48_code 58 = .ok (.iload_n 0, 1) := by decide +kernel
theorem dd_117_59 : decode prog_12_method_48_code 59 = .ok (.iconst 4, 1) := by decide +kernel
theorem dd_117_60 : decode prog_12_method_48_code 60 = .ok (.iushr, 1) := by decide +kernel
theorem dd_117_61 : decode prog_12_method_48_code 61 = .ok (.istore_n 0, 1) := by decide +kernel
theorem dd_117_62 : decode prog_12_method_48_code 62 = .ok (.iload_n 0, 1) := by decide +kernel
theorem dd_117_63 : decode prog_12_method_48_code 63 = .ok (.iconst 4, 1) := by decide +kernel
theorem dd_117_64 : decode prog_12_method_48_code 64 = .ok (.if_icmp .le 10, 3) := by decide +kernel
theorem dd_117_67 : decode prog_12_method_48_code 67 = .ok (.iinc 1 2, 3) := by decide +kernel
theorem dd_117_70 : decode prog_12_method_48_code 70 = .ok (.iload_n 0, 1) := by decide +kernel
theorem dd_117_71 : decode prog_12_method_48_code 71 = .ok (.iconst 2, 1) := by decide +kernel
theorem dd_117_72 : decode prog_12_method_48_code 72 = .ok (.iushr, 1) := by decide +kernel
theorem dd_117_73 : decode prog_12_method_48_code 73 = .ok (.istore_n 0, 1) := by decide +kernel
theorem dd_117_74 : decode prog_12_method_48_code 74 = .ok (.iload_n 1, 1) := by decide +kernel
theorem dd_117_75 : decode prog_12_method_48_code 75 = .ok (.iload_n 0, 1) := by decide +kernel
theorem dd_117_76 : decode prog_12_method_48_code 76 = .ok (.iconst 1, 1) := by decide +kernel
theorem dd_117_77 : decode prog_12_method_48_code 77 = .ok (.iushr, 1) := by decide +kernel
theorem dd_117_78 : decode prog_12_method_48_code 78 = .ok (.iadd, 1) := by decide +kernel
theorem dd_117_79 : decode prog_12_method_48_code 79 = .ok (.ireturn, 1) := by decide +kernel
theorem ks_117_0 : mi_snd cs_G cs_cl cs_inf 117 0 (mj_iload 0 1) := ms_iload_n (mi_dec ib_117 dd_117_0) rfl
theorem ks_117_1 : mi_snd cs_G cs_cl cs_inf 117 1 (mj_push (.inl (-1)) 2) := ms_iconst (mi_dec ib_117 dd_117_1) (by decide)
theorem ks_117_2 : mi_snd cs_G cs_cl cs_inf 117 2 (mj_bin (fun x y => x ^^^ y) 3) := ms_ixor (mi_dec ib_117 dd_117_2)
theorem ks_117_3 : mi_snd cs_G cs_cl cs_inf 117 3 (mj_iload 0 4) := ms_iload_n (mi_dec ib_117 dd_117_3) rfl
theorem ks_117_4 : mi_snd cs_G cs_cl cs_inf 117 4 (mj_push (.inl 1) 5) := ms_iconst (mi_dec ib_117 dd_117_4) (by decide)
theorem ks_117_5 : mi_snd cs_G cs_cl cs_inf 117 5 (mj_bin (fun x y => x - y) 6) := ms_isub (mi_dec ib_117 dd_117_5)
theorem ks_117_6 : mi_snd cs_G cs_cl cs_inf 117 6 (mj_bin (fun x y => x &&& y) 7) := ms_iand (mi_dec ib_117 dd_117_6)
theorem ks_117_7 : mi_snd cs_G cs_cl cs_inf 117 7 (mj_istore 0 8) := ms_istore_n (mi_dec ib_117 dd_117_7) rfl
theorem ks_117_8 : mi_snd cs_G cs_cl cs_inf 117 8 (mj_iload 0 9) := ms_iload_n (mi_dec ib_117 dd_117_8) rfl
theorem ks_117_9 : mi_snd cs_G cs_cl cs_inf 117 9 (mj_if (fun x => decide (0 < x)) 17 12) := ms_if_gt (mi_dec ib_117 dd_117_9) (by decide)
theorem ks_117_12 : mi_snd cs_G cs_cl cs_inf 117 12 (mj_iload 0 13) := ms_iload_n (mi_dec ib_117 dd_117_12) rfl
theorem ks_117_13 : mi_snd cs_G cs_cl cs_inf 117 13 (mj_push (.inl 32) 15) := ms_bipush (mi_dec ib_117 dd_117_13) (by decide)
theorem ks_117_15 : mi_snd cs_G cs_cl cs_inf 117 15 (mj_bin (fun x y => x &&& y) 16) := ms_iand (mi_dec ib_117 dd_117_15)
theorem ks_117_16 : mi_snd cs_G cs_cl cs_inf 117 16 (mj_iret) := ms_iret (mi_dec ib_117 dd_117_16) rfl
theorem ks_117_17 : mi_snd cs_G cs_cl cs_inf 117 17 (mj_push (.inl 1) 18) := ms_iconst (mi_dec ib_117 dd_117_17) (by decide)
theorem ks_117_18 : mi_snd cs_G cs_cl cs_inf 117 18 (mj_istore 1 19) := ms_istore_n (mi_dec ib_117 dd_117_18) rfl
theorem ks_117_19 : mi_snd cs_G cs_cl cs_inf 117 19 (mj_iload 0 20) := ms_iload_n (mi_dec ib_117 dd_117_19) rfl
theorem ks_117_20 : mi_snd cs_G cs_cl cs_inf 117 20 (mj_push (.inl 65536) 23) := ms_ldcw (mi_dec ib_117 dd_117_20) gw_830
theorem ks_117_23 : mi_snd cs_G cs_cl cs_inf 117 23 (mj_cmp (fun x y => decide (x ≤ y)) 34 26) := ms_icmp_le (mi_dec ib_117 dd_117_23) (by decide)
theorem ks_117_26 : mi_snd cs_G cs_cl cs_inf 117 26 (mj_iinc 1 16 29) := ms_iinc (mi_dec ib_117 dd_117_26) (by decide)
theorem ks_117_29 : mi_snd cs_G cs_cl cs_inf 117 29 (mj_iload 0 30) := ms_iload_n (mi_dec ib_117 dd_117_29) rfl
theorem ks_117_30 : mi_snd cs_G cs_cl cs_inf 117 30 (mj_push (.inl 16) 32) := ms_bipush (mi_dec ib_117 dd_117_30) (by decide)
theorem ks_117_32 : mi_snd cs_G cs_cl cs_inf 117 32 (mj_bin (fun x y => (x.toUInt32 >>> (y.toUInt32 &&& Int32.toUInt32 31)).toInt32) 33) := ms_iushr (mi_dec ib_117 dd_117_32)
theorem ks_117_33 : mi_snd cs_G cs_cl cs_inf 117 33 (mj_istore 0 34) := ms_istore_n (mi_dec ib_117 dd_117_33) rfl
theorem ks_117_34 : mi_snd cs_G cs_cl cs_inf 117 34 (mj_iload 0 35) := ms_iload_n (mi_dec ib_117 dd_117_34) rfl
theorem ks_117_35 : mi_snd cs_G cs_cl cs_inf 117 35 (mj_push (.inl 256) 38) := ms_sipush (mi_dec ib_117 dd_117_35) (by decide)
theorem ks_117_38 : mi_snd cs_G cs_cl cs_inf 117 38 (mj_cmp (fun x y => decide (x ≤ y)) 49 41) := ms_icmp_le (mi_dec ib_117 dd_117_38) (by decide)
theorem ks_117_41 : mi_snd cs_G cs_cl cs_inf 117 41 (mj_iinc 1 8 44) := ms_iinc (mi_dec ib_117 dd_117_41) (by decide)
theorem ks_117_44 : mi_snd cs_G cs_cl cs_inf 117 44 (mj_iload 0 45) := ms_iload_n (mi_dec ib_117 dd_117_44) rfl
theorem ks_117_45 : mi_snd cs_G cs_cl cs_inf 117 45 (mj_push (.inl 8) 47) := ms_bipush (mi_dec ib_117 dd_117_45) (by decide)
theorem ks_117_47 : mi_snd cs_G cs_cl cs_inf 117 47 (mj_bin (fun x y => (x.toUInt32 >>> (y.toUInt32 &&& Int32.toUInt32 31)).toInt32) 48) := ms_iushr (mi_dec ib_117 dd_117_47)
theorem ks_117_48 : mi_snd cs_G cs_cl cs_inf 117 48 (mj_istore 0 49) := ms_istore_n (mi_dec ib_117 dd_117_48) rfl
theorem ks_117_49 : mi_snd cs_G cs_cl cs_inf 117 49 (mj_iload 0 50) := ms_iload_n (mi_dec ib_117 dd_117_49) rfl
theorem ks_117_50 : mi_snd cs_G cs_cl cs_inf 117 50 (mj_push (.inl 16) 52) := ms_bipush (mi_dec ib_117 dd_117_50) (by decide)
theorem ks_117_52 : mi_snd cs_G cs_cl cs_inf 117 52 (mj_cmp (fun x y => decide (x ≤ y)) 62 55) := ms_icmp_le (mi_dec ib_117 dd_117_52) (by decide)
theorem ks_117_55 : mi_snd cs_G cs_cl cs_inf 117 55 (mj_iinc 1 4 58) := ms_iinc (mi_dec ib_117 dd_117_55) (by decide)
theorem ks_117_58 : mi_snd cs_G cs_cl cs_inf 117 58 (mj_iload 0 59) := ms_iload_n (mi_dec ib_117 dd_117_58) rfl
theorem ks_117_59 : mi_snd cs_G cs_cl cs_inf 117 59 (mj_push (.inl 4) 60) := ms_iconst (mi_dec ib_117 dd_117_59) (by decide)
theorem ks_117_60 : mi_snd cs_G cs_cl cs_inf 117 60 (mj_bin (fun x y => (x.toUInt32 >>> (y.toUInt32 &&& Int32.toUInt32 31)).toInt32) 61) := ms_iushr (mi_dec ib_117 dd_117_60)
theorem ks_117_61 : mi_snd cs_G cs_cl cs_inf 117 61 (mj_istore 0 62) := ms_istore_n (mi_dec ib_117 dd_117_61) rfl
theorem ks_117_62 : mi_snd cs_G cs_cl cs_inf 117 62 (mj_iload 0 63) := ms_iload_n (mi_dec ib_117 dd_117_62) rfl
theorem ks_117_63 : mi_snd cs_G cs_cl cs_inf 117 63 (mj_push (.inl 4) 64) := ms_iconst (mi_dec ib_117 dd_117_63) (by decide)
theorem ks_117_64 : mi_snd cs_G cs_cl cs_inf 117 64 (mj_cmp (fun x y => decide (x ≤ y)) 74 67) := ms_icmp_le (mi_dec ib_117 dd_117_64) (by decide)
theorem ks_117_67 : mi_snd cs_G cs_cl cs_inf 117 67 (mj_iinc 1 2 70) := ms_iinc (mi_dec ib_117 dd_117_67) (by decide)
theorem ks_117_70 : mi_snd cs_G cs_cl cs_inf 117 70 (mj_iload 0 71) := ms_iload_n (mi_dec ib_117 dd_117_70) rfl
theorem ks_117_71 : mi_snd cs_G cs_cl cs_inf 117 71 (mj_push (.inl 2) 72) := ms_iconst (mi_dec ib_117 dd_117_71) (by decide)
theorem ks_117_72 : mi_snd cs_G cs_cl cs_inf 117 72 (mj_bin (fun x y => (x.toUInt32 >>> (y.toUInt32 &&& Int32.toUInt32 31)).toInt32) 73) := ms_iushr (mi_dec ib_117 dd_117_72)
theorem ks_117_73 : mi_snd cs_G cs_cl cs_inf 117 73 (mj_istore 0 74) := ms_istore_n (mi_dec ib_117 dd_117_73) rfl
theorem ks_117_74 : mi_snd cs_G cs_cl cs_inf 117 74 (mj_iload 1 75) := ms_iload_n (mi_dec ib_117 dd_117_74) rfl
theorem ks_117_75 : mi_snd cs_G cs_cl cs_inf 117 75 (mj_iload 0 76) := ms_iload_n (mi_dec ib_117 dd_117_75) rfl
theorem ks_117_76 : mi_snd cs_G cs_cl cs_inf 117 76 (mj_push (.inl 1) 77) := ms_iconst (mi_dec ib_117 dd_117_76) (by decide)
theorem ks_117_77 : mi_snd cs_G cs_cl cs_inf 117 77 (mj_bin (fun x y => (x.toUInt32 >>> (y.toUInt32 &&& Int32.toUInt32 31)).toInt32) 78) := ms_iushr (mi_dec ib_117 dd_117_77)
theorem ks_117_78 : mi_snd cs_G cs_cl cs_inf 117 78 (mj_bin (fun x y => x + y) 79) := ms_iadd (mi_dec ib_117 dd_117_78)
theorem ks_117_79 : mi_snd cs_G cs_cl cs_inf 117 79 (mj_iret) := ms_iret (mi_dec ib_117 dd_117_79) rfl
def ct_117 : List (Nat × mi_I) := [
  (0, mj_iload 0 1),
  (1, mj_push (.inl (-1)) 2),
  (2, mj_bin (fun x y => x ^^^ y) 3),
  (3, mj_iload 0 4),
  (4, mj_push (.inl 1) 5),
  (5, mj_bin (fun x y => x - y) 6),
  (6, mj_bin (fun x y => x &&& y) 7),
  (7, mj_istore 0 8),
  (8, mj_iload 0 9),
  (9, mj_if (fun x => decide (0 < x)) 17 12),
  (12, mj_iload 0 13),
  (13, mj_push (.inl 32) 15),
  (15, mj_bin (fun x y => x &&& y) 16),
  (16, mj_iret),
  (17, mj_push (.inl 1) 18),
  (18, mj_istore 1 19),
  (19, mj_iload 0 20),
  (20, mj_push (.inl 65536) 23),
  (23, mj_cmp (fun x y => decide (x ≤ y)) 34 26),
  (26, mj_iinc 1 16 29),
  (29, mj_iload 0 30),
  (30, mj_push (.inl 16) 32),
  (32, mj_bin (fun x y => (x.toUInt32 >>> (y.toUInt32 &&& Int32.toUInt32 31)).toInt32) 33),
  (33, mj_istore 0 34),
  (34, mj_iload 0 35),
  (35, mj_push (.inl 256) 38),
  (38, mj_cmp (fun x y => decide (x ≤ y)) 49 41),
  (41, mj_iinc 1 8 44),
  (44, mj_iload 0 45),
  (45, mj_push (.inl 8) 47),
  (47, mj_bin (fun x y => (x.toUInt32 >>> (y.toUInt32 &&& Int32.toUInt32 31)).toInt32) 48),
  (48, mj_istore 0 49),
  (49, mj_iload 0 50),
  (50, mj_push (.inl 16) 52),
  (52, mj_cmp (fun x y => decide (x ≤ y)) 62 55),
  (55, mj_iinc 1 4 58),
  (58, mj_iload 0 59),
  (59, mj_push (.inl 4) 60),
  (60, mj_bin (fun x y => (x.toUInt32 >>> (y.toUInt32 &&& Int32.toUInt32 31)).toInt32) 61),
  (61, mj_istore 0 62),
  (62, mj_iload 0 63),
  (63, mj_push (.inl 4) 64),
  (64, mj_cmp (fun x y => decide (x ≤ y)) 74 67),
  (67, mj_iinc 1 2 70),
  (70, mj_iload 0 71),
  (71, mj_push (.inl 2) 72),
  (72, mj_bin (fun x y => (x.toUInt32 >>> (y.toUInt32 &&& Int32.toUInt32 31)).toInt32) 73),
  (73, mj_istore 0 74),
  (74, mj_iload 1 75),
  (75, mj_iload 0 76),
  (76, mj_push (.inl 1) 77),
  (77, mj_bin (fun x y => (x.toUInt32 >>> (y.toUInt32 &&& Int32.toUInt32 31)).toInt32) 78),
  (78, mj_bin (fun x y => x + y) 79),
  (79, mj_iret)]
theorem sd_117 : ∀ q ∈ ct_117, mi_snd cs_G cs_cl cs_inf 117 q.1 q.2 := mi_fc ks_117_0 (mi_fc ks_117_1 (mi_fc ks_117_2 (mi_fc ks_117_3 (mi_fc ks_117_4 (mi_fc ks_117_5 (mi_fc ks_117_6 (mi_fc ks_117_7 (mi_fc ks_117_8 (mi_fc ks_117_9 (mi_fc ks_117_12 (mi_fc ks_117_13 (mi_fc ks_117_15 (mi_fc ks_117_16 (mi_fc ks_117_17 (mi_fc ks_117_18 (mi_fc ks_117_19 (mi_fc ks_117_20 (mi_fc ks_117_23 (mi_fc ks_117_26 (mi_fc ks_117_29 (mi_fc ks_117_30 (mi_fc ks_117_32 (mi_fc ks_117_33 (mi_fc ks_117_34 (mi_fc ks_117_35 (mi_fc ks_117_38 (mi_fc ks_117_41 (mi_fc ks_117_44 (mi_fc ks_117_45 (mi_fc ks_117_47 (mi_fc ks_117_48 (mi_fc ks_117_49 (mi_fc ks_117_50 (mi_fc ks_117_52 (mi_fc ks_117_55 (mi_fc ks_117_58 (mi_fc ks_117_59 (mi_fc ks_117_60 (mi_fc ks_117_61 (mi_fc ks_117_62 (mi_fc ks_117_63 (mi_fc ks_117_64 (mi_fc ks_117_67 (mi_fc ks_117_70 (mi_fc ks_117_71 (mi_fc ks_117_72 (mi_fc ks_117_73 (mi_fc ks_117_74 (mi_fc ks_117_75 (mi_fc ks_117_76 (mi_fc ks_117_77 (mi_fc ks_117_78 (mi_fc ks_117_79 mi_fn)))))))))))))))))))))))))))))))))))))))))))))))))))))
theorem dd_118_0 : decode prog_11_method_35_code 0 = .ok (.iconst 0, 1) := by decide +kernel
theorem dd_118_1 : decode prog_11_method_35_code 1 = .ok (.istore_n 2, 1) := by decide +kernel
theorem dd_118_2 : decode prog_11_method_35_code 2 = .ok (.iconst 0, 1) := by decide +kernel
theorem dd_118_3 : decode prog_11_method_35_code 3 = .ok (.istore_n 3, 1) := by decide +kernel
theorem dd_118_4 : decode prog_11_method_35_code 4 = .ok (.iload_n 3, 1) := by decide +kernel
theorem dd_118_5 : decode prog_11_method_35_code 5 = .ok (.aload_n 0, 1) := by decide +kernel
theorem dd_118_6 : decode prog_11_method_35_code 6 = .ok (.getfield 37, 3) := by decide +kernel
theorem dd_118_9 : decode prog_11_method_35_code 9 = .ok (.if_icmp .ge 35, 3) := by decide +kernel
theorem dd_118_12 : decode prog_11_method_35_code 12 = .ok (.iload_n 1, 1) := by decide +kernel
theorem dd_118_13 : decode prog_11_method_35_code 13 = .ok (.iload_n 3, 1) := by decide +kernel
theorem dd_118_14 : decode prog_11_method_35_code 14 = .ok (.invokestatic 48, 3) := by decide +kernel
theorem dd_118_17 : decode prog_11_method_35_code 17 = .ok (.ifCond .eq 19, 3) := by decide +kernel
theorem dd_118_20 : decode prog_11_method_35_code 20 = .ok (.iload_n 2, 1) := by decide +kernel
theorem dd_118_21 : decode prog_11_method_35_code 21 = .ok (.iload_n 1, 1) := by decide +kernel
theorem dd_118_22 : decode prog_11_method_35_code 22 = .ok (.aload_n 0, 1) := by decide +kernel
theorem dd_118_23 : decode prog_11_method_35_code 23 = .ok (.getfield 17, 3) := by decide +kernel
theorem dd_118_26 : decode prog_11_method_35_code 26 = .ok (.iload_n 3, 1) := by decide +kernel
theorem dd_118_27 : decode prog_11_method_35_code 27 = .ok (.iaload, 1) := by decide +kernel
theorem dd_118_28 : decode prog_11_method_35_code 28 = .ok (.iand, 1) := by decide +kernel
theorem dd_118_29 : decode prog_11_method_35_code 29 = .ok (.invokestatic 52, 3) := by decide +kernel
theorem dd_118_32 : decode prog_11_method_35_code 32 = .ok (.iadd, 1) := by decide +kernel
theorem dd_118_33 : decode prog_11_method_35_code 33 = .ok (.goto 4, 3) := by decide +kernel
theorem dd_118_36 : decode prog_11_method_35_code 36 = .ok (.iload_n 2, 1) := by decide +kernel
theorem dd_118_37 : decode prog_11_method_35_code 37 = .ok (.istore_n 2, 1) := by decide +kernel
theorem dd_118_38 : decode prog_11_method_35_code 38 = .ok (.iinc 3 1, 3) := by decide +kernel
theorem dd_118_41 : decode prog_11_method_35_code 41 = .ok (.goto (-37), 3) := by decide +kernel
theorem dd_118_44 : decode prog_11_method_35_code 44 = .ok (.iload_n 2, 1) := by decide +kernel
theorem dd_118_45 : decode prog_11_method_35_code 45 = .ok (.iconst 2, 1) := by decide +kernel
theorem dd_118_46 : decode prog_11_method_35_code 46 = .ok (.idiv, 1) := by decide +kernel
theorem dd_118_47 : decode prog_11_method_35_code 47 = .ok (.ireturn, 1) := by decide +kernel
theorem ks_118_0 : mi_snd cs_G cs_cl cs_inf 118 0 (mj_push (.inl 0) 1) := ms_iconst (mi_dec ib_118 dd_118_0) (by decide)
theorem ks_118_1 : mi_snd cs_G cs_cl cs_inf 118 1 (mj_istore 2 2) := ms_istore_n (mi_dec ib_118 dd_118_1) rfl
theorem ks_118_2 : mi_snd cs_G cs_cl cs_inf 118 2 (mj_push (.inl 0) 3) := ms_iconst (mi_dec ib_118 dd_118_2) (by decide)
theorem ks_118_3 : mi_snd cs_G cs_cl cs_inf 118 3 (mj_istore 3 4) := ms_istore_n (mi_dec ib_118 dd_118_3) rfl
theorem ks_118_4 : mi_snd cs_G cs_cl cs_inf 118 4 (mj_iload 3 5) := ms_iload_n (mi_dec ib_118 dd_118_4) rfl
theorem ks_118_5 : mi_snd cs_G cs_cl cs_inf 118 5 (mj_aload 0 6) := ms_aload_n (mi_dec ib_118 dd_118_5) rfl
theorem ks_118_6 : mi_snd cs_G cs_cl cs_inf 118 6 (mj_get 9 1 9) := ms_get (T := cs_T9) (k := 1) (mi_dec ib_118 dd_118_6) rfl cs_in9 (by decide) gw_637
theorem ks_118_9 : mi_snd cs_G cs_cl cs_inf 118 9 (mj_cmp (fun x y => decide (y ≤ x)) 44 12) := ms_icmp_ge (mi_dec ib_118 dd_118_9) (by decide)
theorem ks_118_12 : mi_snd cs_G cs_cl cs_inf 118 12 (mj_iload 1 13) := ms_iload_n (mi_dec ib_118 dd_118_12) rfl
theorem ks_118_13 : mi_snd cs_G cs_cl cs_inf 118 13 (mj_iload 3 14) := ms_iload_n (mi_dec ib_118 dd_118_13) rfl
theorem ks_118_14 : mi_snd cs_G cs_cl cs_inf 118 14 (mj_callS 93 2 2 17) := ms_callS iw_c93 (mi_dec ib_118 dd_118_14) gw_731 iw_s93 iw_n93 (by decide +kernel) rfl (by decide)
theorem ks_118_17 : mi_snd cs_G cs_cl cs_inf 118 17 (mj_if (fun x => decide (x = 0)) 36 20) := ms_if_eq (mi_dec ib_118 dd_118_17) (by decide)
theorem ks_118_20 : mi_snd cs_G cs_cl cs_inf 118 20 (mj_iload 2 21) := ms_iload_n (mi_dec ib_118 dd_118_20) rfl
theorem ks_118_21 : mi_snd cs_G cs_cl cs_inf 118 21 (mj_iload 1 22) := ms_iload_n (mi_dec ib_118 dd_118_21) rfl
theorem ks_118_22 : mi_snd cs_G cs_cl cs_inf 118 22 (mj_aload 0 23) := ms_aload_n (mi_dec ib_118 dd_118_22) rfl
theorem ks_118_23 : mi_snd cs_G cs_cl cs_inf 118 23 (mj_get 9 3 26) := ms_get (T := cs_T9) (k := 3) (mi_dec ib_118 dd_118_23) rfl cs_in9 (by decide) gw_639
theorem ks_118_26 : mi_snd cs_G cs_cl cs_inf 118 26 (mj_iload 3 27) := ms_iload_n (mi_dec ib_118 dd_118_26) rfl
theorem ks_118_27 : mi_snd cs_G cs_cl cs_inf 118 27 (mj_ald 0 28) := ms_ald0 (mi_dec ib_118 dd_118_27)
theorem ks_118_28 : mi_snd cs_G cs_cl cs_inf 118 28 (mj_bin (fun x y => x &&& y) 29) := ms_iand (mi_dec ib_118 dd_118_28)
theorem ks_118_29 : mi_snd cs_G cs_cl cs_inf 118 29 (mj_callS 20 1 1 32) := ms_callS iw_c20 (mi_dec ib_118 dd_118_29) gw_734 iw_s20 iw_n20 (by decide +kernel) rfl (by decide)
theorem ks_118_32 : mi_snd cs_G cs_cl cs_inf 118 32 (mj_bin (fun x y => x + y) 33) := ms_iadd (mi_dec ib_118 dd_118_32)
theorem ks_118_33 : mi_snd cs_G cs_cl cs_inf 118 33 (mj_goto 37) := ms_goto (mi_dec ib_118 dd_118_33) (by decide)
theorem ks_118_36 : mi_snd cs_G cs_cl cs_inf 118 36 (mj_iload 2 37) := ms_iload_n (mi_dec ib_118 dd_118_36) rfl
theorem ks_118_37 : mi_snd cs_G cs_cl cs_inf 118 37 (mj_istore 2 38) := ms_istore_n (mi_dec ib_118 dd_118_37) rfl
theorem ks_118_38 : mi_snd cs_G cs_cl cs_inf 118 38 (mj_iinc 3 1 41) := ms_iinc (mi_dec ib_118 dd_118_38) (by decide)
theorem ks_118_41 : mi_snd cs_G cs_cl cs_inf 118 41 (mj_goto 4) := ms_goto (mi_dec ib_118 dd_118_41) (by decide)
theorem ks_118_44 : mi_snd cs_G cs_cl cs_inf 118 44 (mj_iload 2 45) := ms_iload_n (mi_dec ib_118 dd_118_44) rfl
theorem ks_118_45 : mi_snd cs_G cs_cl cs_inf 118 45 (mj_push (.inl 2) 46) := ms_iconst (mi_dec ib_118 dd_118_45) (by decide)
theorem ks_118_46 : mi_snd cs_G cs_cl cs_inf 118 46 (mj_div 47) := ms_idiv (mi_dec ib_118 dd_118_46)
theorem ks_118_47 : mi_snd cs_G cs_cl cs_inf 118 47 (mj_iret) := ms_iret (mi_dec ib_118 dd_118_47) rfl
def ct_118 : List (Nat × mi_I) := [
  (0, mj_push (.inl 0) 1),
  (1, mj_istore 2 2),
  (2, mj_push (.inl 0) 3),
  (3, mj_istore 3 4),
  (4, mj_iload 3 5),
  (5, mj_aload 0 6),
  (6, mj_get 9 1 9),
  (9, mj_cmp (fun x y => decide (y ≤ x)) 44 12),
  (12, mj_iload 1 13),
  (13, mj_iload 3 14),
  (14, mj_callS 93 2 2 17),
  (17, mj_if (fun x => decide (x = 0)) 36 20),
  (20, mj_iload 2 21),
  (21, mj_iload 1 22),
  (22, mj_aload 0 23),
  (23, mj_get 9 3 26),
  (26, mj_iload 3 27),
  (27, mj_ald 0 28),
  (28, mj_bin (fun x y => x &&& y) 29),
  (29, mj_callS 20 1 1 32),
  (32, mj_bin (fun x y => x + y) 33),
  (33, mj_goto 37),
  (36, mj_iload 2 37),
  (37, mj_istore 2 38),
  (38, mj_iinc 3 1 41),
  (41, mj_goto 4),
  (44, mj_iload 2 45),
  (45, mj_push (.inl 2) 46),
  (46, mj_div 47),
  (47, mj_iret)]
theorem sd_118 : ∀ q ∈ ct_118, mi_snd cs_G cs_cl cs_inf 118 q.1 q.2 := mi_fc ks_118_0 (mi_fc ks_118_1 (mi_fc ks_118_2 (mi_fc ks_118_3 (mi_fc ks_118_4 (mi_fc ks_118_5 (mi_fc ks_118_6 (mi_fc ks_118_9 (mi_fc ks_118_12 (mi_fc ks_118_13 (mi_fc ks_118_14 (mi_fc ks_118_17 (mi_fc ks_118_20 (mi_fc ks_118_21 (mi_fc ks_118_22 (mi_fc ks_118_23 (mi_fc ks_118_26 (mi_fc ks_118_27 (mi_fc ks_118_28 (mi_fc ks_118_29 (mi_fc ks_118_32 (mi_fc ks_118_33 (mi_fc ks_118_36 (mi_fc ks_118_37 (mi_fc ks_118_38 (mi_fc ks_118_41 (mi_fc ks_118_44 (mi_fc ks_118_45 (mi_fc ks_118_46 (mi_fc ks_118_47 mi_fn)))))))))))))))))))))))))))))
theorem dd_119_0 : decode prog_11_method_38_code 0 = .ok (.aload_n 0, 1) := by decide +kernel
theorem dd_119_1 : decode prog_11_method_38_code 1 = .ok (.iconst 0, 1) := by decide +kernel
theorem dd_119_2 : decode prog_11_method_38_code 2 = .ok (.putfield 1, 3) := by decide +kernel
theorem dd_119_5 : decode prog_11_method_38_code 5 = .ok (.iload_n 1, 1) := by decide +kernel
theorem dd_119_6 : decode prog_11_method_38_code 6 = .ok (.ifCond .ne 10, 3) := by decide +kernel
theorem dd_119_9 : decode prog_11_method_38_code 9 = .ok (.aload_n 0, 1) := by decide +kernel
theorem dd_119_10 : decode prog_11_method_38_code 10 = .ok (.getfield 128, 3) := by decide +kernel
theorem dd_119_13 : decode prog_11_method_38_code 13 = .ok (.goto 16, 3) := by decide +kernel
theorem dd_119_16 : decode prog_11_method_38_code 16 = .ok (.iload_n 1, 1) := by decide +kernel
theorem dd_119_17 : decode prog_11_method_38_code 17 = .ok (.iconst 1, 1) := by decide +kernel
theorem dd_119_18 : decode prog_11_method_38_code 18 = .ok (.if_icmp .ne 10, 3) := by decide +kernel
theorem dd_119_21 : decode prog_11_method_38_code 21 = .ok (.aload_n 0, 1) := by decide +kernel
theorem dd_119_22 : decode prog_11_method_38_code 22 = .ok (.getfield 131, 3) := by decide +kernel
theorem dd_119_25 : decode prog_11_method_38_code 25 = .ok (.goto 4, 3) := by decide +kernel
theorem dd_119_28 : decode prog_11_method_38_code 28 = .ok (.iconst (-1), 1) := by decide +kernel
theorem dd_119_29 : decode prog_11_method_38_code 29 = .ok (.ireturn, 1) := by decide +kernel
theorem ks_119_0 : mi_snd cs_G cs_cl cs_inf 119 0 (mj_aload 0 1) := ms_aload_n (mi_dec ib_119 dd_119_0) rfl
theorem ks_119_1 : mi_snd cs_G cs_cl cs_inf 119 1 (mj_push (.inl 0) 2) := ms_iconst (mi_dec ib_119 dd_119_1) (by decide)
theorem ks_119_2 : mi_snd cs_G cs_cl cs_inf 119 2 (mj_putI 9 0 5) := ms_putI (T := cs_T9) (k := 0) (mi_dec ib_119 dd_119_2) rfl cs_in9 cs_ty9_ok cs_nm9 (by decide) gw_636 (by decide) (by decide +kernel)
theorem ks_119_5 : mi_snd cs_G cs_cl cs_inf 119 5 (mj_iload 1 6) := ms_iload_n (mi_dec ib_119 dd_119_5) rfl
theorem ks_119_6 : mi_snd cs_G cs_cl cs_inf 119 6 (mj_if (fun x => decide (¬ x = 0)) 16 9) := ms_if_ne (mi_dec ib_119 dd_119_6) (by decide)
theorem ks_119_9 : mi_snd cs_G cs_cl cs_inf 119 9 (mj_aload 0 10) := ms_aload_n (mi_dec ib_119 dd_119_9) rfl
theorem ks_119_10 : mi_snd cs_G cs_cl cs_inf 119 10 (mj_get 9 15 13) := ms_get (T := cs_T9) (k := 15) (mi_dec ib_119 dd_119_10) rfl cs_in9 (by decide) gw_651
theorem ks_119_13 : mi_snd cs_G cs_cl cs_inf 119 13 (mj_goto 29) := ms_goto (mi_dec ib_119 dd_119_13) (by decide)
theorem ks_119_16 : mi_snd cs_G cs_cl cs_inf 119 16 (mj_iload 1 17) := ms_iload_n (mi_dec ib_119 dd_119_16) rfl
theorem ks_119_17 : mi_snd cs_G cs_cl cs_inf 119 17 (mj_push (.inl 1) 18) := ms_iconst (mi_dec ib_119 dd_119_17) (by decide)
theorem ks_119_18 : mi_snd cs_G cs_cl cs_inf 119 18 (mj_cmp (fun x y => decide (¬ x = y)) 28 21) := ms_icmp_ne (mi_dec ib_119 dd_119_18) (by decide)
theorem ks_119_21 : mi_snd cs_G cs_cl cs_inf 119 21 (mj_aload 0 22) := ms_aload_n (mi_dec ib_119 dd_119_21) rfl
theorem ks_119_22 : mi_snd cs_G cs_cl cs_inf 119 22 (mj_get 9 16 25) := ms_get (T := cs_T9) (k := 16) (mi_dec ib_119 dd_119_22) rfl cs_in9 (by decide) gw_652
theorem ks_119_25 : mi_snd cs_G cs_cl cs_inf 119 25 (mj_goto 29) := ms_goto (mi_dec ib_119 dd_119_25) (by decide)
theorem ks_119_28 : mi_snd cs_G cs_cl cs_inf 119 28 (mj_push (.inl (-1)) 29) := ms_iconst (mi_dec ib_119 dd_119_28) (by decide)
theorem ks_119_29 : mi_snd cs_G cs_cl cs_inf 119 29 (mj_iret) := ms_iret (mi_dec ib_119 dd_119_29) rfl
def ct_119 : List (Nat × mi_I) := [
  (0, mj_aload 0 1),
  (1, mj_push (.inl 0) 2),
  (2, mj_putI 9 0 5),
  (5, mj_iload 1 6),
  (6, mj_if (fun x => decide (¬ x = 0)) 16 9),
  (9, mj_aload 0 10),
  (10, mj_get 9 15 13),
  (13, mj_goto 29),
  (16, mj_iload 1 17),
  (17, mj_push (.inl 1) 18),
  (18, mj_cmp (fun x y => decide (¬ x = y)) 28 21),
  (21, mj_aload 0 22),
  (22, mj_get 9 16 25),
  (25, mj_goto 29),
  (28, mj_push (.inl (-1)) 29),
  (29, mj_iret)]
theorem sd_119 : ∀ q ∈ ct_119, mi_snd cs_G cs_cl cs_inf 119 q.1 q.2 := mi_fc ks_119_0 (mi_fc ks_119_1 (mi_fc ks_119_2 (mi_fc ks_119_5 (mi_fc ks_119_6 (mi_fc ks_119_9 (mi_fc ks_119_10 (mi_fc ks_119_13 (mi_fc ks_119_16 (mi_fc ks_119_17 (mi_fc ks_119_18 (mi_fc ks_119_21 (mi_fc ks_119_22 (mi_fc ks_119_25 (mi_fc ks_119_28 (mi_fc ks_119_29 mi_fn)))))))))))))))
theorem dd_120_0 : decode prog_11_method_40_code 0 = .ok (.aload_n 0, 1) := by decide +kernel
theorem dd_120_1 : decode prog_11_method_40_code 1 = .ok (.iconst 0, 1) := by decide +kernel
theorem dd_120_2 : decode prog_11_method_40_code 2 = .ok (.putfield 1, 3) := by decide +kernel
theorem dd_120_5 : decode prog_11_method_40_code 5 = .ok (.iconst 0, 1) := by decide +kernel
theorem dd_120_6 : decode prog_11_method_40_code 6 = .ok (.istore_n 1, 1) := by decide +kernel
theorem dd_120_7 : decode prog_11_method_40_code 7 = .ok (.iconst 0, 1) := by decide +kernel
theorem dd_120_8 : decode prog_11_method_40_code 8 = .ok (.istore_n 2, 1) := by decide +kernel
theorem dd_120_9 : decode prog_11_method_40_code 9 = .ok (.iload_n 2, 1) := by decide +kernel
theorem dd_120_10 : decode prog_11_method_40_code 10 = .ok (.aload_n 0, 1) := by decide +kernel
theorem dd_120_11 : decode prog_11_method_40_code 11 = .ok (.getfield 37, 3) := by decide +kernel
theorem dd_120_14 : decode prog_11_method_40_code 14 = .ok (.if_icmp .ge 140, 3) := by decide +kernel
theorem dd_120_17 : decode prog_11_method_40_code 17 = .ok (.aload_n 0, 1) := by decide +kernel
theorem dd_120_18 : decode prog_11_method_40_code 18 = .ok (.iload_n 2, 1) := by decide +kernel
theorem dd_120_19 : decode prog_11_method_40_code 19 = .ok (.invokevirtual 134, 3) := by decide +kernel
theorem dd_120_22 : decode prog_11_method_40_code 22 = .ok (.istore_n 3, 1) := by decide +kernel
theorem dd_120_23 : decode prog_11_method_40_code 23 = .ok (.iload_n 3, 1) := by decide +kernel
theorem dd_120_24 : decode prog_11_method_40_code 24 = .ok (.iconst 1, 1) := by decide +kernel
theorem dd_120_25 : decode prog_11_method_40_code 25 = .ok (.iload_n 2, 1) := by decide +kernel
theorem dd_120_26 : decode prog_11_method_40_code 26 = .ok (.ishl, 1) := by decide +kernel
theorem dd_120_27 : decode prog_11_method_40_code 27 = .ok (.iconst 1, 1) := by decide +kernel
theorem dd_120_28 : decode prog_11_method_40_code 28 = .ok (.isub, 1) := by decide +kernel
theorem dd_120_29 : decode prog_11_method_40_code 29 = .ok (.iand, 1) := by decide +kernel
theorem dd_120_30 : decode prog_11_method_40_code 30 = .ok (.ifCond .ne 118, 3) := by decide +kernel
theorem dd_120_33 : decode prog_11_method_40_code 33 = .ok (.iconst 1, 1) := by decide +kernel
theorem dd_120_34 : decode prog_11_method_40_code 34 = .ok (.iload_n 2, 1) := by decide +kernel
theorem dd_120_35 : decode prog_11_method_40_code 35 = .ok (.ishl, 1) := by decide +kernel
theorem dd_120_36 : decode prog_11_method_40_code 36 = .ok (.istore 4, 2) := by decide +kernel
theorem dd_120_38 : decode prog_11_method_40_code 38 = .ok (.iload 4, 2) := by decide +kernel
theorem dd_120_40 : decode prog_11_method_40_code 40 = .ok (.istore 5, 2) := by decide +kernel
theorem dd_120_42 : decode prog_11_method_40_code 42 = .ok (.iconst 0, 1) := by decide +kernel
theorem dd_120_43 : decode prog_11_method_40_code 43 = .ok (.istore 6, 2) := by decide +kernel
theorem dd_120_45 : decode prog_11_method_40_code 45 = .ok (.iconst 1, 1) := by decide +kernel
theorem dd_120_46 : decode prog_11_method_40_code 46 = .ok (.istore 7, 2) := by decide +kernel
theorem dd_120_48 : decode prog_11_method_40_code 48 = .ok (.iload 5, 2) := by decide +kernel
theorem dd_120_50 : decode prog_11_method_40_code 50 = .ok (.ifCond .eq 93, 3) := by decide +kernel
theorem dd_120_53 : decode prog_11_method_40_code 53 = .ok (.iconst 0, 1) := by decide +kernel
theorem dd_120_54 : decode prog_11_method_40_code 54 = .ok (.istore 8, 2) := by decide +kernel
theorem dd_120_56 : decode prog_11_method_40_code 56 = .ok (.iconst 0, 1) := by decide +kernel
theorem dd_120_57 : decode prog_11_method_40_code 57 = .ok (.istore 9, 2) := by decide +kernel
theorem dd_120_59 : decode prog_11_method_40_code 59 = .ok (.iload 9, 2) := by decide +kernel
theorem dd_120_61 : decode prog_11_method_40_code 61 = .ok (.aload_n 0, 1) := by decide +kernel
theorem dd_120_62 : decode prog_11_method_40_code 62 = .ok (.getfield 37, 3) := by decide +kernel
theorem dd_120_65 : decode prog_11_method_40_code 65 = .ok (.if_icmp .ge 36, 3) := by decide +kernel
theorem dd_120_68 : decode prog_11_method_40_code 68 = .ok (.iload 5, 2) := by decide +kernel
theorem dd_120_70 : decode prog_11_method_40_code 70 = .ok (.iload 9, 2) := by decide +kernel
theorem dd_120_72 : decode prog_11_method_40_code 72 = .ok (.invokestatic 48, 3) := by decide +kernel
theorem dd_120_75 : decode prog_11_method_40_code 75 = .ok (.ifCond .eq 16, 3) := by decide +kernel
theorem dd_120_78 : decode prog_11_method_40_code 78 = .ok (.iload 8, 2) := by decide +kernel
theorem dd_120_80 : decode prog_11_method_40_code 80 = .ok (.aload_n 0, 1) := by decide +kernel
theorem dd_120_81 : decode prog_11_method_40_code 81 = .ok (.getfield 17, 3) := by decide +kernel
theorem dd_120_84 : decode prog_11_method_40_code 84 = .ok (.iload 9, 2) := by decide +kernel
theorem dd_120_86 : decode prog_11_method_40_code 86 = .ok (.iaload, 1) := by decide +kernel
theorem dd_120_87 : decode prog_11_method_40_code 87 = .ok (.ior, 1) := by decide +kernel
theorem dd_120_88 : decode prog_11_method_40_code 88 = .ok (.goto 5, 3) := by decide +kernel
theorem dd_120_91 : decode prog_11_method_40_code 91 = .ok (.iload 8, 2) := by decide +kernel
theorem dd_120_93 : decode prog_11_method_40_code 93 = .ok (.istore 8, 2) := by decide +kernel
theorem dd_120_95 : decode prog_11_method_40_code 95 = .ok (.iinc 9 1, 3) := by decide +kernel
theorem dd_120_98 : decode prog_11_method_40_code 98 = .ok (.goto (-39), 3) := by decide +kernel
theorem dd_120_101 : decode prog_11_method_40_code 101 = .ok (.iload 8, 2) := by decide +kernel
theorem dd_120_103 : decode prog_11_method_40_code 103 = .ok (.iload 4, 2) := by decide +kernel
theorem dd_120_105 : decode prog_11_method_40_code 105 = .ok (.iconst (-1), 1) := by decide +kernel
theorem dd_120_106 : decode prog_11_method_40_code 106 = .ok (.ixor, 1) := by decide +kernel
theorem dd_120_107 : decode prog_11_method_40_code 107 = .ok (.iand, 1) := by decide +kernel
theorem dd_120_108 : decode prog_11_method_40_code 108 = .ok (.istore 5, 2) := by decide +kernel
theorem dd_120_110 : decode prog_11_method_40_code 110 = .ok (.iload 4, 2) := by decide +kernel
theorem dd_120_112 : decode prog_11_method_40_code 112 = .ok (.iload 5, 2) := by decide +kernel
theorem dd_120_114 : decode prog_11_method_40_code 114 = .ok (.ior, 1) := by decide +kernel
theorem dd_120_115 : decode prog_11_method_40_code 115 = .ok (.istore 4, 2) := by decide +kernel
theorem dd_120_117 : decode prog_11_method_40_code 117 = .ok (.iload 7, 2) := by decide +kernel
theorem dd_120_119 : decode prog_11_method_40_code 119 = .ok (.iconst 2, 1) := by decide +kernel
theorem dd_120_120 : decode prog_11_method_40_code 120 = .ok (.irem, 1) := by decide +kernel
theorem dd_120_121 : decode prog_11_method_40_code 121 = .ok (.iconst 1, 1) := by decide +kernel
theorem dd_120_122 : decode prog_11_method_40_code 122 = .ok (.if_icmp .ne 11, 3) := by decide +kernel
theorem dd_120_125 : decode prog_11_method_40_code 125 = .ok (.iload 6, 2) := by decide +kernel
theorem dd_120_127 : decode prog_11_method_40_code 127 = .ok (.iload 5, 2) := by decide +kernel
theorem dd_120_129 : decode prog_11_method_40_code 129 = .ok (.ior, 1) := by decide +kernel
theorem dd_120_130 : decode prog_11_method_40_code 130 = .ok (.goto 5, 3) := by decide +kernel
theorem dd_120_133 : decode prog_11_method_40_code 133 = .ok (.iload 6, 2) := by decide +kernel
theorem dd_120_135 : decode prog_11_method_40_code 135 = .ok (.istore 6, 2) := by decide +kernel
theorem dd_120_137 : decode prog_11_method_40_code 137 = .ok (.iinc 7 1, 3) := by decide +kernel
theorem dd_120_140 : decode prog_11_method_40_code 140 = .ok (.goto (-92), 3) := by decide +kernel
theorem dd_120_143 : decode prog_11_method_40_code 143 = .ok (.iload_n 1, 1) := by decide +kernel
theorem dd_120_144 : decode prog_11_method_40_code 144 = .ok (.iload 6, 2) := by decide +kernel
theorem dd_120_146 : decode prog_11_method_40_code 146 = .ok (.ior, 1) := by decide +kernel
theorem dd_120_147 : decode prog_11_method_40_code 147 = .ok (.istore_n 1, 1) := by decide +kernel
theorem dd_120_148 : decode prog_11_method_40_code 148 = .ok (.iinc 2 1, 3) := by decide +kernel
theorem dd_120_151 : decode prog_11_method_40_code 151 = .ok (.goto (-142), 3) := by decide +kernel
theorem dd_120_154 : decode prog_11_method_40_code 154 = .ok (.iconst 0, 1) := by decide +kernel
theorem dd_120_155 : decode prog_11_method_40_code 155 = .ok (.istore_n 2, 1) := by decide +kernel
theorem dd_120_156 : decode prog_11_method_40_code 156 = .ok (.iload_n 2, 1) := by decide +kernel
theorem dd_120_157 : decode prog_11_method_40_code 157 = .ok (.aload_n 0, 1) := by decide +kernel
theorem dd_120_158 : decode prog_11_method_40_code 158 = .ok (.getfield 37, 3) := by decide +kernel
theorem dd_120_161 : decode prog_11_method_40_code 161 = .ok (.if_icmp .ge 44, 3) := by decide +kernel
theorem dd_120_164 : decode prog_11_method_40_code 164 = .ok (.iload_n 1, 1) := by decide +kernel
theorem dd_120_165 : decode prog_11_method_40_code 165 = .ok (.iload_n 2, 1) := by decide +kernel
theorem dd_120_166 : decode prog_11_method_40_code 166 = .ok (.invokestatic 48, 3) := by decide +kernel
theorem dd_120_169 : decode prog_11_method_40_code 169 = .ok (.ifCond .eq 7, 3) := by decide +kernel
theorem dd_120_172 : decode prog_11_method_40_code 172 = .ok (.iload_n 1, 1) := by decide +kernel
theorem dd_120_173 : decode prog_11_method_40_code 173 = .ok (.goto 11, 3) := by decide +kernel
theorem dd_120_176 : decode prog_11_method_40_code 176 = .ok (.aload_n 0, 1) := by decide +kernel
theorem dd_120_177 : decode prog_11_method_40_code 177 = .ok (.invokevirtual 58, 3) := by decide +kernel
theorem dd_120_180 : decode prog_11_method_40_code 180 = .ok (.iload_n 1, 1) := by decide +kernel
theorem dd_120_181 : decode prog_11_method_40_code 181 = .ok (.iconst (-1), 1) := by decide +kernel
theorem dd_120_182 : decode prog_11_method_40_code 182 = .ok (.ixor, 1) := by decide +kernel
theorem dd_120_183 : decode prog_11_method_40_code 183 = .ok (.iand, 1) := by decide +kernel
theorem dd_120_184 : decode prog_11_method_40_code 184 = .ok (.istore_n 3, 1) := by decide +kernel
theorem dd_120_185 : decode prog_11_method_40_code 185 = .ok (.aload_n 0, 1) := by decide +kernel
theorem dd_120_186 : decode prog_11_method_40_code 186 = .ok (.getfield 17, 3) := by decide +kernel
theorem dd_120_189 : decode prog_11_method_40_code 189 = .ok (.iload_n 2, 1) := by decide +kernel
theorem dd_120_190 : decode prog_11_method_40_code 190 = .ok (.iaload, 1) := by decide +kernel
theorem dd_120_191 : decode prog_11_method_40_code 191 = .ok (.iload_n 3, 1) := by decide +kernel
theorem dd_120_192 : decode prog_11_method_40_code 192 = .ok (.iand, 1) := by decide +kernel
theorem dd_120_193 : decode prog_11_method_40_code 193 = .ok (.ifCond .eq 6, 3) := by decide +kernel
theorem dd_120_196 : decode prog_11_method_40_code 196 = .ok (.bipush (-2), 2) := by decide +kernel
theorem dd_120_198 : decode prog_11_method_40_code 198 = .ok (.ireturn, 1) := by decide +kernel
theorem dd_120_199 : decode prog_11_method_40_code 199 = .ok (.iinc 2 1, 3) := by decide +kernel
theorem dd_120_202 : decode prog_11_method_40_code 202 = .ok (.goto (-46), 3) := by decide +kernel
theorem dd_120_205 : decode prog_11_method_40_code 205 = .ok (.iload_n 1, 1) := by decide +kernel
theorem dd_120_206 : decode prog_11_method_40_code 206 = .ok (.ireturn, 1) := by decide +kernel
theorem ks_120_0 : mi_snd cs_G cs_cl cs_inf 120 0 (mj_aload 0 1) := ms_aload_n (mi_dec ib_120 dd_120_0) rfl
theorem ks_120_1 : mi_snd cs_G cs_cl cs_inf 120 1 (mj_push (.inl 0) 2) := ms_iconst (mi_dec ib_120 dd_120_1) (by decide)
theorem ks_120_2 : mi_snd cs_G cs_cl cs_inf 120 2 (mj_putI 9 0 5) := ms_putI (T := cs_T9) (k := 0) (mi_dec ib_120 dd_120_2) rfl cs_in9 cs_ty9_ok cs_nm9 (by decide) gw_636 (by decide) (by decide +kernel)
theorem ks_120_5 : mi_snd cs_G cs_cl cs_inf 120 5 (mj_push (.inl 0) 6) := ms_iconst (mi_dec ib_120 dd_120_5) (by decide)
theorem ks_120_6 : mi_snd cs_G cs_cl cs_inf 120 6 (mj_istore 1 7) := ms_istore_n (mi_dec ib_120 dd_120_6) rfl
theorem ks_120_7 : mi_snd cs_G cs_cl cs_inf 120 7 (mj_push (.inl 0) 8) := ms_iconst (mi_dec ib_120 dd_120_7) (by decide)
theorem ks_120_8 : mi_snd cs_G cs_cl cs_inf 120 8 (mj_istore 2 9) := ms_istore_n (mi_dec ib_120 dd_120_8) rfl
theorem ks_120_9 : mi_snd cs_G cs_cl cs_inf 120 9 (mj_iload 2 10) := ms_iload_n (mi_dec ib_120 dd_120_9) rfl
theorem ks_120_10 : mi_snd cs_G cs_cl cs_inf 120 10 (mj_aload 0 11) := ms_aload_n (mi_dec ib_120 dd_120_10) rfl
theorem ks_120_11 : mi_snd cs_G cs_cl cs_inf 120 11 (mj_get 9 1 14) := ms_get (T := cs_T9) (k := 1) (mi_dec ib_120 dd_120_11) rfl cs_in9 (by decide) gw_637
theorem ks_120_14 : mi_snd cs_G cs_cl cs_inf 120 14 (mj_cmp (fun x y => decide (y ≤ x)) 154 17) := ms_icmp_ge (mi_dec ib_120 dd_120_14) (by decide)
theorem ks_120_17 : mi_snd cs_G cs_cl cs_inf 120 17 (mj_aload 0 18) := ms_aload_n (mi_dec ib_120 dd_120_17) rfl
theorem ks_120_18 : mi_snd cs_G cs_cl cs_inf 120 18 (mj_iload 2 19) := ms_iload_n (mi_dec ib_120 dd_120_18) rfl
theorem ks_120_19 : mi_snd cs_G cs_cl cs_inf 120 19 (mj_callV 9 121 1 5 22) := ms_callV iw_c121 (mi_dec ib_120 dd_120_19) gw_843 iw_i121 rfl iw_v121 iw_n121 (by decide +kernel) rfl (by decide)
theorem ks_120_22 : mi_snd cs_G cs_cl cs_inf 120 22 (mj_istore 3 23) := ms_istore_n (mi_dec ib_120 dd_120_22) rfl
theorem ks_120_23 : mi_snd cs_G cs_cl cs_inf 120 23 (mj_iload 3 24) := ms_iload_n (mi_dec ib_120 dd_120_23) rfl
theorem ks_120_24 : mi_snd cs_G cs_cl cs_inf 120 24 (mj_push (.inl 1) 25) := ms_iconst (mi_dec ib_120 dd_120_24) (by decide)
theorem ks_120_25 : mi_snd cs_G cs_cl cs_inf 120 25 (mj_iload 2 26) := ms_iload_n (mi_dec ib_120 dd_120_25) rfl
theorem ks_120_26 : mi_snd cs_G cs_cl cs_inf 120 26 (mj_bin (fun x y => x <<< (y &&& 31)) 27) := ms_ishl (mi_dec ib_120 dd_120_26)
theorem ks_120_27 : mi_snd cs_G cs_cl cs_inf 120 27 (mj_push (.inl 1) 28) := ms_iconst (mi_dec ib_120 dd_120_27) (by decide)
theorem ks_120_28 : mi_snd cs_G cs_cl cs_inf 120 28 (mj_bin (fun x y => x - y) 29) := ms_isub (mi_dec ib_120 dd_120_28)
theorem ks_120_29 : mi_snd cs_G cs_cl cs_inf 120 29 (mj_bin (fun x y => x &&& y) 30) := ms_iand (mi_dec ib_120 dd_120_29)
theorem ks_120_30 : mi_snd cs_G cs_cl cs_inf 120 30 (mj_if (fun x => decide (¬ x = 0)) 148 33) := ms_if_ne (mi_dec ib_120 dd_120_30) (by decide)
theorem ks_120_33 : mi_snd cs_G cs_cl cs_inf 120 33 (mj_push (.inl 1) 34) := ms_iconst (mi_dec ib_120 dd_120_33) (by decide)
theorem ks_120_34 : mi_snd cs_G cs_cl cs_inf 120 34 (mj_iload 2 35) := ms_iload_n (mi_dec ib_120 dd_120_34) rfl
theorem ks_120_35 : mi_snd cs_G cs_cl cs_inf 120 35 (mj_bin (fun x y => x <<< (y &&& 31)) 36) := ms_ishl (mi_dec ib_120 dd_120_35)
theorem ks_120_36 : mi_snd cs_G cs_cl cs_inf 120 36 (mj_istore 4 38) := ms_istore (mi_dec ib_120 dd_120_36)
theorem ks_120_38 : mi_snd cs_G cs_cl cs_inf 120 38 (mj_iload 4 40) := ms_iload (mi_dec ib_120 dd_120_38)
theorem ks_120_40 : mi_snd cs_G cs_cl cs_inf 120 40 (mj_istore 5 42) := ms_istore (mi_dec ib_120 dd_120_40)
theorem ks_120_42 : mi_snd cs_G cs_cl cs_inf 120 42 (mj_push (.inl 0) 43) := ms_iconst (mi_dec ib_120 dd_120_42) (by decide)
theorem ks_120_43 : mi_snd cs_G cs_cl cs_inf 120 43 (mj_istore 6 45) := ms_istore (mi_dec ib_120 dd_120_43)
theorem ks_120_45 : mi_snd cs_G cs_cl cs_inf 120 45 (mj_push (.inl 1) 46) := ms_iconst (mi_dec ib_120 dd_120_45) (by decide)
theorem ks_120_46 : mi_snd cs_G cs_cl cs_inf 120 46 (mj_istore 7 48) := ms_istore (mi_dec ib_120 dd_120_46)
theorem ks_120_48 : mi_snd cs_G cs_cl cs_inf 120 48 (mj_iload 5 50) := ms_iload (mi_dec ib_120 dd_120_48)
theorem ks_120_50 : mi_snd cs_G cs_cl cs_inf 120 50 (mj_if (fun x => decide (x = 0)) 143 53) := ms_if_eq (mi_dec ib_120 dd_120_50) (by decide)
theorem ks_120_53 : mi_snd cs_G cs_cl cs_inf 120 53 (mj_push (.inl 0) 54) := ms_iconst (mi_dec ib_120 dd_120_53) (by decide)
theorem ks_120_54 : mi_snd cs_G cs_cl cs_inf 120 54 (mj_istore 8 56) := ms_istore (mi_dec ib_120 dd_120_54)
theorem ks_120_56 : mi_snd cs_G cs_cl cs_inf 120 56 (mj_push (.inl 0) 57) := ms_iconst (mi_dec ib_120 dd_120_56) (by decide)
theorem ks_120_57 : mi_snd cs_G cs_cl cs_inf 120 57 (mj_istore 9 59) := ms_istore (mi_dec ib_120 dd_120_57)
theorem ks_120_59 : mi_snd cs_G cs_cl cs_inf 120 59 (mj_iload 9 61) := ms_iload (mi_dec ib_120 dd_120_59)
theorem ks_120_61 : mi_snd cs_G cs_cl cs_inf 120 61 (mj_aload 0 62) := ms_aload_n (mi_dec ib_120 dd_120_61) rfl
theorem ks_120_62 : mi_snd cs_G cs_cl cs_inf 120 62 (mj_get 9 1 65) := ms_get (T := cs_T9) (k := 1) (mi_dec ib_120 dd_120_62) rfl cs_in9 (by decide) gw_637
theorem ks_120_65 : mi_snd cs_G cs_cl cs_inf 120 65 (mj_cmp (fun x y => decide (y ≤ x)) 101 68) := ms_icmp_ge (mi_dec ib_120 dd_120_65) (by decide)
theorem ks_120_68 : mi_snd cs_G cs_cl cs_inf 120 68 (mj_iload 5 70) := ms_iload (mi_dec ib_120 dd_120_68)
theorem ks_120_70 : mi_snd cs_G cs_cl cs_inf 120 70 (mj_iload 9 72) := ms_iload (mi_dec ib_120 dd_120_70)
theorem ks_120_72 : mi_snd cs_G cs_cl cs_inf 120 72 (mj_callS 93 2 2 75) := ms_callS iw_c93 (mi_dec ib_120 dd_120_72) gw_731 iw_s93 iw_n93 (by decide +kernel) rfl (by decide)
theorem ks_120_75 : mi_snd cs_G cs_cl cs_inf 120 75 (mj_if (fun x => decide (x = 0)) 91 78) := ms_if_eq (mi_dec ib_120 dd_120_75) (by decide)
theorem ks_120_78 : mi_snd cs_G cs_cl cs_inf 120 78 (mj_iload 8 80) := ms_iload (mi_dec ib_120 dd_120_78)
theorem ks_120_80 : mi_snd cs_G cs_cl cs_inf 120 80 (mj_aload 0 81) := ms_aload_n (mi_dec ib_120 dd_120_80) rfl
theorem ks_120_81 : mi_snd cs_G cs_cl cs_inf 120 81 (mj_get 9 3 84) := ms_get (T := cs_T9) (k := 3) (mi_dec ib_120 dd_120_81) rfl cs_in9 (by decide) gw_639
theorem ks_120_84 : mi_snd cs_G cs_cl cs_inf 120 84 (mj_iload 9 86) := ms_iload (mi_dec ib_120 dd_120_84)
theorem ks_120_86 : mi_snd cs_G cs_cl cs_inf 120 86 (mj_ald 0 87) := ms_ald0 (mi_dec ib_120 dd_120_86)
theorem ks_120_87 : mi_snd cs_G cs_cl cs_inf 120 87 (mj_bin (fun x y => x ||| y) 88) := ms_ior (mi_dec ib_120 dd_120_87)
theorem ks_120_88 : mi_snd cs_G cs_cl cs_inf 120 88 (mj_goto 93) := ms_goto (mi_dec ib_120 dd_120_88) (by decide)
theorem ks_120_91 : mi_snd cs_G cs_cl cs_inf 120 91 (mj_iload 8 93) := ms_iload (mi_dec ib_120 dd_120_91)
theorem ks_120_93 : mi_snd cs_G cs_cl cs_inf 120 93 (mj_istore 8 95) := ms_istore (mi_dec ib_120 dd_120_93)
theorem ks_120_95 : mi_snd cs_G cs_cl cs_inf 120 95 (mj_iinc 9 1 98) := ms_iinc (mi_dec ib_120 dd_120_95) (by decide)
theorem ks_120_98 : mi_snd cs_G cs_cl cs_inf 120 98 (mj_goto 59) := ms_goto (mi_dec ib_120 dd_120_98) (by decide)
theorem ks_120_101 : mi_snd cs_G cs_cl cs_inf 120 101 (mj_iload 8 103) := ms_iload (mi_dec ib_120 dd_120_101)
theorem ks_120_103 : mi_snd cs_G cs_cl cs_inf 120 103 (mj_iload 4 105) := ms_iload (mi_dec ib_120 dd_120_103)
theorem ks_120_105 : mi_snd cs_G cs_cl cs_inf 120 105 (mj_push (.inl (-1)) 106) := ms_iconst (mi_dec ib_120 dd_120_105) (by decide)
theorem ks_120_106 : mi_snd cs_G cs_cl cs_inf 120 106 (mj_bin (fun x y => x ^^^ y) 107) := ms_ixor (mi_dec ib_120 dd_120_106)
theorem ks_120_107 : mi_snd cs_G cs_cl cs_inf 120 107 (mj_bin (fun x y => x &&& y) 108) := ms_iand (mi_dec ib_120 dd_120_107)
theorem ks_120_108 : mi_snd cs_G cs_cl cs_inf 120 108 (mj_istore 5 110) := ms_istore (mi_dec ib_120 dd_120_108)
theorem ks_120_110 : mi_snd cs_G cs_cl cs_inf 120 110 (mj_iload 4 112) := ms_iload (mi_dec ib_120 dd_120_110)
theorem ks_120_112 : mi_snd cs_G cs_cl cs_inf 120 112 (mj_iload 5 114) := ms_iload (mi_dec ib_120 dd_120_112)
theorem ks_120_114 : mi_snd cs_G cs_cl cs_inf 120 114 (mj_bin (fun x y => x ||| y) 115) := ms_ior (mi_dec ib_120 dd_120_114)
theorem ks_120_115 : mi_snd cs_G cs_cl cs_inf 120 115 (mj_istore 4 117) := ms_istore (mi_dec ib_120 dd_120_115)
theorem ks_120_117 : mi_snd cs_G cs_cl cs_inf 120 117 (mj_iload 7 119) := ms_iload (mi_dec ib_120 dd_120_117)
theorem ks_120_119 : mi_snd cs_G cs_cl cs_inf 120 119 (mj_push (.inl 2) 120) := ms_iconst (mi_dec ib_120 dd_120_119) (by decide)
theorem ks_120_120 : mi_snd cs_G cs_cl cs_inf 120 120 (mj_rem 121) := ms_irem (mi_dec ib_120 dd_120_120)
theorem ks_120_121 : mi_snd cs_G cs_cl cs_inf 120 121 (mj_push (.inl 1) 122) := ms_iconst (mi_dec ib_120 dd_120_121) (by decide)
theorem ks_120_122 : mi_snd cs_G cs_cl cs_inf 120 122 (mj_cmp (fun x y => decide (¬ x = y)) 133 125) := ms_icmp_ne (mi_dec ib_120 dd_120_122) (by decide)
theorem ks_120_125 : mi_snd cs_G cs_cl cs_inf 120 125 (mj_iload 6 127) := ms_iload (mi_dec ib_120 dd_120_125)
theorem ks_120_127 : mi_snd cs_G cs_cl cs_inf 120 127 (mj_iload 5 129) := ms_iload (mi_dec ib_120 dd_120_127)
theorem ks_120_129 : mi_snd cs_G cs_cl cs_inf 120 129 (mj_bin (fun x y => x ||| y) 130) := ms_ior (mi_dec ib_120 dd_120_129)
theorem ks_120_130 : mi_snd cs_G cs_cl cs_inf 120 130 (mj_goto 135) := ms_goto (mi_dec ib_120 dd_120_130) (by decide)
theorem ks_120_133 : mi_snd cs_G cs_cl cs_inf 120 133 (mj_iload 6 135) := ms_iload (mi_dec ib_120 dd_120_133)
theorem ks_120_135 : mi_snd cs_G cs_cl cs_inf 120 135 (mj_istore 6 137) := ms_istore (mi_dec ib_120 dd_120_135)
theorem ks_120_137 : mi_snd cs_G cs_cl cs_inf 120 137 (mj_iinc 7 1 140) := ms_iinc (mi_dec ib_120 dd_120_137) (by decide)
theorem ks_120_140 : mi_snd cs_G cs_cl cs_inf 120 140 (mj_goto 48) := ms_goto (mi_dec ib_120 dd_120_140) (by decide)
theorem ks_120_143 : mi_snd cs_G cs_cl cs_inf 120 143 (mj_iload 1 144) := ms_iload_n (mi_dec ib_120 dd_120_143) rfl
theorem ks_120_144 : mi_snd cs_G cs_cl cs_inf 120 144 (mj_iload 6 146) := ms_iload (mi_dec ib_120 dd_120_144)
theorem ks_120_146 : mi_snd cs_G cs_cl cs_inf 120 146 (mj_bin (fun x y => x ||| y) 147) := ms_ior (mi_dec ib_120 dd_120_146)
theorem ks_120_147 : mi_snd cs_G cs_cl cs_inf 120 147 (mj_istore 1 148) := ms_istore_n (mi_dec ib_120 dd_120_147) rfl
theorem ks_120_148 : mi_snd cs_G cs_cl cs_inf 120 148 (mj_iinc 2 1 151) := ms_iinc (mi_dec ib_120 dd_120_148) (by decide)
theorem ks_120_151 : mi_snd cs_G cs_cl cs_inf 120 151 (mj_goto 9) := ms_goto (mi_dec ib_120 dd_120_151) (by decide)
theorem ks_120_154 : mi_snd cs_G cs_cl cs_inf 120 154 (mj_push (.inl 0) 155) := ms_iconst (mi_dec ib_120 dd_120_154) (by decide)
theorem ks_120_155 : mi_snd cs_G cs_cl cs_inf 120 155 (mj_istore 2 156) := ms_istore_n (mi_dec ib_120 dd_120_155) rfl
theorem ks_120_156 : mi_snd cs_G cs_cl cs_inf 120 156 (mj_iload 2 157) := ms_iload_n (mi_dec ib_120 dd_120_156) rfl
theorem ks_120_157 : mi_snd cs_G cs_cl cs_inf 120 157 (mj_aload 0 158) := ms_aload_n (mi_dec ib_120 dd_120_157) rfl
theorem ks_120_158 : mi_snd cs_G cs_cl cs_inf 120 158 (mj_get 9 1 161) := ms_get (T := cs_T9) (k := 1) (mi_dec ib_120 dd_120_158) rfl cs_in9 (by decide) gw_637
theorem ks_120_161 : mi_snd cs_G cs_cl cs_inf 120 161 (mj_cmp (fun x y => decide (y ≤ x)) 205 164) := ms_icmp_ge (mi_dec ib_120 dd_120_161) (by decide)
theorem ks_120_164 : mi_snd cs_G cs_cl cs_inf 120 164 (mj_iload 1 165) := ms_iload_n (mi_dec ib_120 dd_120_164) rfl
theorem ks_120_165 : mi_snd cs_G cs_cl cs_inf 120 165 (mj_iload 2 166) := ms_iload_n (mi_dec ib_120 dd_120_165) rfl
theorem ks_120_166 : mi_snd cs_G cs_cl cs_inf 120 166 (mj_callS 93 2 2 169) := ms_callS iw_c93 (mi_dec ib_120 dd_120_166) gw_731 iw_s93 iw_n93 (by decide +kernel) rfl (by decide)
theorem ks_120_169 : mi_snd cs_G cs_cl cs_inf 120 169 (mj_if (fun x => decide (x = 0)) 176 172) := ms_if_eq (mi_dec ib_120 dd_120_169) (by decide)
theorem ks_120_172 : mi_snd cs_G cs_cl cs_inf 120 172 (mj_iload 1 173) := ms_iload_n (mi_dec ib_120 dd_120_172) rfl
theorem ks_120_173 : mi_snd cs_G cs_cl cs_inf 120 173 (mj_goto 184) := ms_goto (mi_dec ib_120 dd_120_173) (by decide)
theorem ks_120_176 : mi_snd cs_G cs_cl cs_inf 120 176 (mj_aload 0 177) := ms_aload_n (mi_dec ib_120 dd_120_176) rfl
theorem ks_120_177 : mi_snd cs_G cs_cl cs_inf 120 177 (mj_callV 9 91 0 1 180) := ms_callV iw_c91 (mi_dec ib_120 dd_120_177) gw_723 iw_i91 rfl iw_v91 iw_n91 (by decide +kernel) rfl (by decide)
theorem ks_120_180 : mi_snd cs_G cs_cl cs_inf 120 180 (mj_iload 1 181) := ms_iload_n (mi_dec ib_120 dd_120_180) rfl
theorem ks_120_181 : mi_snd cs_G cs_cl cs_inf 120 181 (mj_push (.inl (-1)) 182) := ms_iconst (mi_dec ib_120 dd_120_181) (by decide)
theorem ks_120_182 : mi_snd cs_G cs_cl cs_inf 120 182 (mj_bin (fun x y => x ^^^ y) 183) := ms_ixor (mi_dec ib_120 dd_120_182)
theorem ks_120_183 : mi_snd cs_G cs_cl cs_inf 120 183 (mj_bin (fun x y => x &&& y) 184) := ms_iand (mi_dec ib_120 dd_120_183)
theorem ks_120_184 : mi_snd cs_G cs_cl cs_inf 120 184 (mj_istore 3 185) := ms_istore_n (mi_dec ib_120 dd_120_184) rfl
theorem ks_120_185 : mi_snd cs_G cs_cl cs_inf 120 185 (mj_aload 0 186) := ms_aload_n (mi_dec ib_120 dd_120_185) rfl
theorem ks_120_186 : mi_snd cs_G cs_cl cs_inf 120 186 (mj_get 9 3 189) := ms_get (T := cs_T9) (k := 3) (mi_dec ib_120 dd_120_186) rfl cs_in9 (by decide) gw_639
theorem ks_120_189 : mi_snd cs_G cs_cl cs_inf 120 189 (mj_iload 2 190) := ms_iload_n (mi_dec ib_120 dd_120_189) rfl
theorem ks_120_190 : mi_snd cs_G cs_cl cs_inf 120 190 (mj_ald 0 191) := ms_ald0 (mi_dec ib_120 dd_120_190)
theorem ks_120_191 : mi_snd cs_G cs_cl cs_inf 120 191 (mj_iload 3 192) := ms_iload_n (mi_dec ib_120 dd_120_191) rfl
theorem ks_120_192 : mi_snd cs_G cs_cl cs_inf 120 192 (mj_bin (fun x y => x &&& y) 193) := ms_iand (mi_dec ib_120 dd_120_192)
theorem ks_120_193 : mi_snd cs_G cs_cl cs_inf 120 193 (mj_if (fun x => decide (x = 0)) 199 196) := ms_if_eq (mi_dec ib_120 dd_120_193) (by decide)
theorem ks_120_196 : mi_snd cs_G cs_cl cs_inf 120 196 (mj_push (.inl (-2)) 198) := ms_bipush (mi_dec ib_120 dd_120_196) (by decide)
theorem ks_120_198 : mi_snd cs_G cs_cl cs_inf 120 198 (mj_iret) := ms_iret (mi_dec ib_120 dd_120_198) rfl
theorem ks_120_199 : mi_snd cs_G cs_cl cs_inf 120 199 (mj_iinc 2 1 202) := ms_iinc (mi_dec ib_120 dd_120_199) (by decide)
theorem ks_120_202 : mi_snd cs_G cs_cl cs_inf 120 202 (mj_goto 156) := ms_goto (mi_dec ib_120 dd_120_202) (by decide)
theorem ks_120_205 : mi_snd cs_G cs_cl cs_inf 120 205 (mj_iload 1 206) := ms_iload_n (mi_dec ib_120 dd_120_205) rfl
theorem ks_120_206 : mi_snd cs_G cs_cl cs_inf 120 206 (mj_iret) := ms_iret (mi_dec ib_120 dd_120_206) rfl
def ct_120 : List (Nat × mi_I) := [
  (0, mj_aload 0 1),
  (1, mj_push (.inl 0) 2),
  (2, mj_putI 9 0 5),
  (5, mj_push (.inl 0) 6),
  (6, mj_istore 1 7),
  (7, mj_push (.inl 0) 8),
  (8, mj_istore 2 9),
  (9, mj_iload 2 10),
  (10, mj_aload 0 11),
  (11, mj_get 9 1 14),
  (14, mj_cmp (fun x y => decide (y ≤ x)) 154 17),
  (17, mj_aload 0 18),
  (18, mj_iload 2 19),
  (19, mj_callV 9 121 1 5 22),
  (22, mj_istore 3 23),
  (23, mj_iload 3 24),
  (24, mj_push (.inl 1) 25),
  (25, mj_iload 2 26),
  (26, mj_bin (fun x y => x <<< (y &&& 31)) 27),
  (27, mj_push (.inl 1) 28),
  (28, mj_bin (fun x y => x - y) 29),
  (29, mj_bin (fun x y => x &&& y) 30),
  (30, mj_if (fun x => decide (¬ x = 0)) 148 33),
  (33, mj_push (.inl 1) 34),
  (34, mj_iload 2 35),
  (35, mj_bin (fun x y => x <<< (y &&& 31)) 36),
  (36, mj_istore 4 38),
  (38, mj_iload 4 40),
  (40, mj_istore 5 42),
  (42, mj_push (.inl 0) 43),
  (43, mj_istore 6 45),
  (45, mj_push (.inl 1) 46),
  (46, mj_istore 7 48),
  (48, mj_iload 5 50),
  (50, mj_if (fun x => decide (x = 0)) 143 53),
  (53, mj_push (.inl 0) 54),
  (54, mj_istore 8 56),
  (56, mj_push (.inl 0) 57),
  (57, mj_istore 9 59),
  (59, mj_iload 9 61),
  (61, mj_aload 0 62),
  (62, mj_get 9 1 65),
  (65, mj_cmp (fun x y => decide (y ≤ x)) 101 68),
  (68, mj_iload 5 70),
  (70, mj_iload 9 72),
  (72, mj_callS 93 2 2 75),
  (75, mj_if (fun x => decide (x = 0)) 91 78),
  (78, mj_iload 8 80),
  (80, mj_aload 0 81),
  (81, mj_get 9 3 84),
  (84, mj_iload 9 86),
  (86, mj_ald 0 87),
  (87, mj_bin (fun x y => x ||| y) 88),
  (88, mj_goto 93),
  (91, mj_iload 8 93),
  (93, mj_istore 8 95),
  (95, mj_iinc 9 1 98),
  (98, mj_goto 59),
  (101, mj_iload 8 103),
  (103, mj_iload 4 105),
  (105, mj_push (.inl (-1)) 106),
  (106, mj_bin (fun x y => x ^^^ y) 107),
  (107, mj_bin (fun x y => x &&& y) 108),
  (108, mj_istore 5 110),
  (110, mj_iload 4 112),
  (112, mj_iload 5 114),
  (114, mj_bin (fun x y => x ||| y) 115),
  (115, mj_istore 4 117),
  (117, mj_iload 7 119),
  (119, mj_push (.inl 2) 120),
  (120, mj_rem 121),
  (121, mj_push (.inl 1) 122),
  (122, mj_cmp (fun x y => decide (¬ x = y)) 133 125),
  (125, mj_iload 6 127),
  (127, mj_iload 5 129),
  (129, mj_bin (fun x y => x ||| y) 130),
  (130, mj_goto 135),
  (133, mj_iload 6 135),
  (135, mj_istore 6 137),
  (137, mj_iinc 7 1 140),
  (140, mj_goto 48),
  (143, mj_iload 1 144),
  (144, mj_iload 6 146),
  (146, mj_bin (fun x y => x ||| y) 147),
  (147, mj_istore 1 148),
  (148, mj_iinc 2 1 151),
  (151, mj_goto 9),
  (154, mj_push (.inl 0) 155),
  (155, mj_istore 2 156),
  (156, mj_iload 2 157),
  (157, mj_aload 0 158),
  (158, mj_get 9 1 161),
  (161, mj_cmp (fun x y => decide (y ≤ x)) 205 164),
  (164, mj_iload 1 165),
  (165, mj_iload 2 166),
  (166, mj_callS 93 2 2 169),
  (169, mj_if (fun x => decide (x = 0)) 176 172),
  (172, mj_iload 1 173),
  (173, mj_goto 184),
  (176, mj_aload 0 177),
  (177, mj_callV 9 91 0 1 180),
  (180, mj_iload 1 181),
  (181, mj_push (.inl (-1)) 182),
  (182, mj_bin (fun x y => x ^^^ y) 183),
  (183, mj_bin (fun x y => x &&& y) 184),
  (184, mj_istore 3 185),
  (185, mj_aload 0 186),
  (186, mj_get 9 3 189),
  (189, mj_iload 2 190),
  (190, mj_ald 0 191),
  (191, mj_iload 3 192),
  (192, mj_bin (fun x y => x &&& y) 193),
  (193, mj_if (fun x => decide (x = 0)) 199 196),
  (196, mj_push (.inl (-2)) 198),
  (198, mj_iret),
  (199, mj_iinc 2 1 202),
  (202, mj_goto 156),
  (205, mj_iload 1 206),
  (206, mj_iret)]
theorem sd_120 : ∀ q ∈ ct_120, mi_snd cs_G cs_cl cs_inf 120 q.1 q.2 := mi_fc ks_120_0 (mi_fc ks_120_1 (mi_fc ks_120_2 (mi_fc ks_120_5 (mi_fc ks_120_6 (mi_fc ks_120_7 (mi_fc ks_120_8 (mi_fc ks_120_9 (mi_fc ks_120_10 (mi_fc ks_120_11 (mi_fc ks_120_14 (mi_fc ks_120_17 (mi_fc ks_120_18 (mi_fc ks_120_19 (mi_fc ks_120_22 (mi_fc ks_120_23 (mi_fc ks_120_24 (mi_fc ks_120_25 (mi_fc ks_120_26 (mi_fc ks_120_27 (mi_fc ks_120_28 (mi_fc ks_120_29 (mi_fc ks_120_30 (mi_fc ks_120_33 (mi_fc ks_120_34 (mi_fc ks_120_35 (mi_fc ks_120_36 (mi_fc ks_120_38 (mi_fc ks_120_40 (mi_fc ks_120_42 (mi_fc ks_120_43 (mi_fc ks_120_45 (mi_fc ks_120_46 (mi_fc ks_120_48 (mi_fc ks_120_50 (mi_fc ks_120_53 (mi_fc ks_120_54 (mi_fc ks_120_56 (mi_fc ks_120_57 (mi_fc ks_120_59 (mi_fc ks_120_61 (mi_fc ks_120_62 (mi_fc ks_120_65 (mi_fc ks_120_68 (mi_fc ks_120_70 (mi_fc ks_120_72 (mi_fc ks_120_75 (mi_fc ks_120_78 (mi_fc ks_120_80 (mi_fc ks_120_81 (mi_fc ks_120_84 (mi_fc ks_120_86 (mi_fc ks_120_87 (mi_fc ks_120_88 (mi_fc ks_120_91 (mi_fc ks_120_93 (mi_fc ks_120_95 (mi_fc ks_120_98 (mi_fc ks_120_101 (mi_fc ks_120_103 (mi_fc ks_120_105 (mi_fc ks_120_106 (mi_fc ks_120_107 (mi_fc ks_120_108 (mi_fc ks_120_110 (mi_fc ks_120_112 (mi_fc ks_120_114 (mi_fc ks_120_115 (mi_fc ks_120_117 (mi_fc ks_120_119 (mi_fc ks_120_120 (mi_fc ks_120_121 (mi_fc ks_120_122 (mi_fc ks_120_125 (mi_fc ks_120_127 (mi_fc ks_120_129 (mi_fc ks_120_130 (mi_fc ks_120_133 (mi_fc ks_120_135 (mi_fc ks_120_137 (mi_fc ks_120_140 (mi_fc ks_120_143 (mi_fc ks_120_144 (mi_fc ks_120_146 (mi_fc ks_120_147 (mi_fc ks_120_148 (mi_fc ks_120_151 (mi_fc ks_120_154 (mi_fc ks_120_155 (mi_fc ks_120_156 (mi_fc ks_120_157 (mi_fc ks_120_158 (mi_fc ks_120_161 (mi_fc ks_120_164 (mi_fc ks_120_165 (mi_fc ks_120_166 (mi_fc ks_120_169 (mi_fc ks_120_172 (mi_fc ks_120_173 (mi_fc ks_120_176 (mi_fc ks_120_177 (mi_fc ks_120_180 (mi_fc ks_120_181 (mi_fc ks_120_182 (mi_fc ks_120_183 (mi_fc ks_120_184 (mi_fc ks_120_185 (mi_fc ks_120_186 (mi_fc ks_120_189 (mi_fc ks_120_190 (mi_fc ks_120_191 (mi_fc ks_120_192 (mi_fc ks_120_193 (mi_fc ks_120_196 (mi_fc ks_120_198 (mi_fc ks_120_199 (mi_fc ks_120_202 (mi_fc ks_120_205 (mi_fc ks_120_206 mi_fn))))))))))))))))))))))))))))))))))))))))))))))))))))))))))))))))))))))))))))))))))))))))))))))))))))))))))))))))))))))

/-! the JDK's methods -/
theorem bc_1 {k : Nat} (h : k < 65536) : nI k - (((nI k).toUInt32 >>> ((nI 1).toUInt32 &&& Int32.toUInt32 31)).toInt32 &&& nI 1431655765) = nI (nm_b1 k) := by
  rw [nm_ush (by omega) (by decide), nm_and, cn_sub (show k >>> 1 &&& 1431655765 ≤ k from Nat.le_trans Nat.and_le_left (nm_rs k 1))]
  rfl
theorem bc_2 {k : Nat} (h : k < 2 ^ 31) : (nI k &&& nI 858993459) + (((nI k).toUInt32 >>> ((nI 2).toUInt32 &&& Int32.toUInt32 31)).toInt32 &&& nI 858993459) = nI (nm_b2 k) := by
  rw [nm_ush h (by decide), nm_and, nm_and, nI_add]
  rfl
theorem bc_3 {k : Nat} (h : k < 2 ^ 31) : (nI k + ((nI k).toUInt32 >>> ((nI 4).toUInt32 &&& Int32.toUInt32 31)).toInt32) &&& nI 252645135 = nI (nm_b3 k) := by
  rw [nm_ush h (by decide), nI_add, nm_and]
  rfl
theorem bc_4 {k : Nat} (h : k < 2 ^ 31) : nI k + ((nI k).toUInt32 >>> ((nI 8).toUInt32 &&& Int32.toUInt32 31)).toInt32 = nI (nm_b4 k) := by
  rw [nm_ush h (by decide), nI_add]
  rfl
theorem bc_5 {k : Nat} (h : k < 2 ^ 31) : (nI k + ((nI k).toUInt32 >>> ((nI 16).toUInt32 &&& Int32.toUInt32 31)).toInt32) &&& nI 63 = nI (nm_b5 k) := by
  rw [nm_ush h (by decide), nI_add, nm_and]
  rfl
theorem g_bitCount {d : Nat} {h : mi_H} {r : Option mi_V × mi_H} {k : Nat} (hk : k < 65536) : mi_Go cs_P cs_mx d 20 0 [some (.inl (nI k))] [] h r ↔ r = (some (.inl (nI (nm_c 16 k))), h) := by
  simp only [ru_20_0, ru_20_1, ru_20_2, ru_20_3, ru_20_4, ru_20_7, ru_20_8, ru_20_9, ru_20_10, ru_20_11, ru_20_14, ru_20_15, ru_20_16, ru_20_17, ru_20_18, ru_20_21, ru_20_22, ru_20_23, ru_20_24, ru_20_25, ru_20_26, ru_20_27, ru_20_28, ru_20_29, ru_20_32, ru_20_33, ru_20_34, ru_20_35, ru_20_36, ru_20_38, ru_20_39, ru_20_40, ru_20_41, ru_20_42, ru_20_43, ru_20_45, ru_20_46, ru_20_47, ru_20_48, ru_20_49, ru_20_51, ru_20_52]
  have h1 : nm_b1 k < 65536 := Nat.lt_of_le_of_lt (Nat.sub_le _ _) hk
  have h2 : nm_b2 (nm_b1 k) < 2 ^ 18 := by
    have a := nm_ls (nm_b1 k) 858993459
    have b := Nat.le_trans (nm_ls (Nat.shiftRight (nm_b1 k) 2) 858993459) (nm_rs (nm_b1 k) 2)
    show Nat.land (nm_b1 k) 858993459 + Nat.land (Nat.shiftRight (nm_b1 k) 2) 858993459 < _
    omega
  have h3 : nm_b3 (nm_b2 (nm_b1 k)) < 2 ^ 19 := by
    have a := nm_rs (nm_b2 (nm_b1 k)) 4
    refine Nat.lt_of_le_of_lt (nm_ls _ _) ?_
    omega
  have h4 : nm_b4 (nm_b3 (nm_b2 (nm_b1 k))) < 2 ^ 20 := by
    have a := nm_rs (nm_b3 (nm_b2 (nm_b1 k))) 8
    show _ + _ < _
    omega
  rw [bc_1 hk, bc_2 (by omega), bc_3 (by omega), bc_4 (by omega), bc_5 (by omega), nm_bc hk]
theorem g_max {d : Nat} {h : mi_H} {r : Option mi_V × mi_H} {a b : Nat} (ha : a < 2 ^ 31) (hb : b < 2 ^ 31) : mi_Go cs_P cs_mx d 41 0 [some (.inl (nI a)), some (.inl (nI b))] [] h r ↔ r = (some (.inl (nI (max a b))), h) := by
  simp (disch := omega) only [ru_41_0, ru_41_1, ru_41_2, ru_41_5, ru_41_6, ru_41_9, ru_41_10, nI_ltI, nI_leI]
  by_cases hc : a < b
  · simp [hc, Nat.max_eq_right (Nat.le_of_lt hc)]
  · simp [hc, Nat.max_eq_left (Nat.not_lt.mp hc)]
theorem g_min {d : Nat} {h : mi_H} {r : Option mi_V × mi_H} {a b : Nat} (ha : a < 2 ^ 31) (hb : b < 2 ^ 31) : mi_Go cs_P cs_mx d 40 0 [some (.inl (nI a)), some (.inl (nI b))] [] h r ↔ r = (some (.inl (nI (min a b))), h) := by
  simp (disch := omega) only [ru_40_0, ru_40_1, ru_40_2, ru_40_5, ru_40_6, ru_40_9, ru_40_10, nI_ltI, nI_leI]
  by_cases hc : b < a
  · simp [hc, Nat.min_eq_right (Nat.le_of_lt hc)]
  · simp [hc, Nat.min_eq_left (Nat.not_lt.mp hc)]
/-! the net -/
theorem g_degree {d : Nat} {r : Option mi_V × mi_H} {v s : Nat} {n : st_N} {zj : st_X} {za : st_X} {zc : st_C} {ze : st_E} {zp : st_P} {zx : st_S} {zu : st_U} {zm : st_M} {zk : (Nat → Nat)} {zr : st_R} (hv : v < 16) (hn : n.1 ≤ 16) (hz : n.1 ≤ v → n.2.2.2 v = 0) (hs : n.2.2.2 v &&& s < 65536) : mi_Go cs_P cs_mx (d + 2) 33 0 [some (.inr (.inr (some 1))), some (.inl (nI v)), some (.inl (nI s))] [] (hp n zj za zc ze zp zx zu zm zk zr) r ↔ r = (some (.inl (nI (nm_c 16 (n.2.2.2 v &&& s)))), hp n zj za zc ze zp zx zu zm zk zr) := by
  simp (disch := first | omega | assumption | (dsimp only; omega)) only [ru_33_0, ru_33_1, ru_33_2, ru_33_5, ru_33_6, ru_33_7, ru_33_10, mi_nl_i, mi_nl_r, mi_nl_n, mi_c1_i, mi_c1_r, true_and, and_true, exists_eq_left, exists_eq_left', Option.some.injEq, Option.toList_some, Option.toList_none, List.cons_append, List.nil_append, List.getElem?_cons_zero, List.getElem?_cons_succ, List.set_cons_zero, List.set_cons_succ, cn_t0, cn_tz, cn_z0, cn_z1, cn_ix, cn_lt0, cn_lz, cn_m1, or_true, true_or, eq_self, Nat.add_one_ne_zero, Nat.not_lt_zero, if_false, if_true, not_false_eq_true, List.length_cons, List.length_nil, Nat.reduceAdd, Nat.reduceLT, cn_in, cn_shl, cn_all, cn_sub, nI_add, nI_eq, nI_leI, nI_ltI, nI_clamp, nm_and, nm_or, nm_not, up_nI, up_cO, up_cS, rd_0, rd_1, rd_2, rd_3, rd_4, rd_5, rd_6, rd_7, rd_8, rd_9, rd_10, rd_11, rd_12, rd_13, rd_14, rr_14, rd_31, rd_32, rd_33, rd_34, rd_35, rd_36, rd_37, rr_37, rd_54, rd_55, rd_56, rd_57, rd_58, rd_59, rd_60, rd_61, rd_62, rd_63, rd_64, rd_65, rd_66, rd_67, rd_68, wr_1, wr_2, wr_3, wr_4, wr_5, wr_6, wr_7, wr_8, wr_9, wr_10, wr_11, wr_12, wr_14, rw_14, wr_31, wr_32, wr_33, wr_34, wr_35, wr_37, rw_37, wr_54, wr_55, wr_56, wr_57, wr_58, wr_59, wr_60, wr_61, wr_62, wr_63, wr_64, wr_65, wr_66, wr_67, wr_68, g_linksOf, g_bitCount]
def nt_wsum (n : st_N) (s : Nat) : Nat := mi_it (fun v t => t + if s.testBit v then n.2.2.1 v else 0) n.1 0 0
theorem g_weightOf {d : Nat} {r : Option mi_V × mi_H} {s : Nat} {n : st_N} {zj : st_X} {za : st_X} {zc : st_C} {ze : st_E} {zp : st_P} {zx : st_S} {zu : st_U} {zm : st_M} {zk : (Nat → Nat)} {zr : st_R} (hn : n.1 ≤ 16) : mi_Go cs_P cs_mx (d + 1) 23 0 [some (.inr (.inr (some 1))), some (.inl (nI s)), none, none] [] (hp n zj za zc ze zp zx zu zm zk zr) r ↔ r = (some (.inl (nI (nt_wsum n s))), hp n zj za zc ze zp zx zu zm zk zr) := by
  simp only [ru_23_0, ru_23_1, ru_23_2, ru_23_3, ru_23_5, ru_23_6, ru_23_9, ru_23_12, ru_23_13, ru_23_14, ru_23_15, ru_23_18, ru_23_21, ru_23_22, ru_23_25, ru_23_26, ru_23_27, ru_23_30, ru_23_31, ru_23_32, ru_23_33, ru_23_36, ru_23_39, ru_23_40, mi_nl_i, mi_nl_r, mi_nl_n, mi_c1_i, mi_c1_r, true_and, and_true, exists_eq_left, exists_eq_left', Option.some.injEq, Option.toList_some, Option.toList_none, List.cons_append, List.nil_append, List.getElem?_cons_zero, List.getElem?_cons_succ, List.set_cons_zero, List.set_cons_succ, cn_t0, cn_tz, cn_z0, cn_z1, cn_ix, cn_lt0, cn_lz, cn_m1, or_true, true_or, eq_self, Nat.add_one_ne_zero, Nat.not_lt_zero, if_false, if_true, not_false_eq_true, List.length_cons, List.length_nil, Nat.reduceAdd, Nat.reduceLT, cn_in, cn_shl, cn_all, cn_sub, nI_add, nI_eq, nI_leI, nI_ltI, nI_clamp, nm_and, nm_or, nm_not, up_nI, up_cO, up_cS, rd_0, rd_1, rd_2, rd_3, rd_4, rd_5, rd_6, rd_7, rd_8, rd_9, rd_10, rd_11, rd_12, rd_13, rd_14, rr_14, rd_31, rd_32, rd_33, rd_34, rd_35, rd_36, rd_37, rr_37, rd_54, rd_55, rd_56, rd_57, rd_58, rd_59, rd_60, rd_61, rd_62, rd_63, rd_64, rd_65, rd_66, rd_67, rd_68, wr_1, wr_2, wr_3, wr_4, wr_5, wr_6, wr_7, wr_8, wr_9, wr_10, wr_11, wr_12, wr_14, rw_14, wr_31, wr_32, wr_33, wr_34, wr_35, wr_37, rw_37, wr_54, wr_55, wr_56, wr_57, wr_58, wr_59, wr_60, wr_61, wr_62, wr_63, wr_64, wr_65, wr_66, wr_67, wr_68]
  exact mi_loop0 (A := fun i t => mi_Go cs_P cs_mx (d + 1) 23 4 [some (.inr (.inr (some 1))), some (.inl (nI s)), some (.inl (nI t)), some (.inl (nI i))] [] (hp n zj za zc ze zp zx zu zm zk zr) r) (B := fun t => r = (some (.inl (nI t)), hp n zj za zc ze zp zx zu zm zk zr)) (n := n.1)
    (fun i t hi => by
      rw [ru_23_4]
      simp (disch := omega) only [ru_23_0, ru_23_1, ru_23_2, ru_23_3, ru_23_5, ru_23_6, ru_23_9, ru_23_12, ru_23_13, ru_23_14, ru_23_15, ru_23_18, ru_23_21, ru_23_22, ru_23_25, ru_23_26, ru_23_27, ru_23_30, ru_23_31, ru_23_32, ru_23_33, ru_23_36, ru_23_39, ru_23_40, mi_nl_i, mi_nl_r, mi_nl_n, mi_c1_i, mi_c1_r, true_and, and_true, exists_eq_left, exists_eq_left', Option.some.injEq, Option.toList_some, Option.toList_none, List.cons_append, List.nil_append, List.getElem?_cons_zero, List.getElem?_cons_succ, List.set_cons_zero, List.set_cons_succ, cn_t0, cn_tz, cn_z0, cn_z1, cn_ix, cn_lt0, cn_lz, cn_m1, or_true, true_or, eq_self, Nat.add_one_ne_zero, Nat.not_lt_zero, if_false, if_true, not_false_eq_true, List.length_cons, List.length_nil, Nat.reduceAdd, Nat.reduceLT, cn_in, cn_shl, cn_all, cn_sub, nI_add, nI_eq, nI_leI, nI_ltI, nI_clamp, nm_and, nm_or, nm_not, up_nI, up_cO, up_cS, rd_0, rd_1, rd_2, rd_3, rd_4, rd_5, rd_6, rd_7, rd_8, rd_9, rd_10, rd_11, rd_12, rd_13, rd_14, rr_14, rd_31, rd_32, rd_33, rd_34, rd_35, rd_36, rd_37, rr_37, rd_54, rd_55, rd_56, rd_57, rd_58, rd_59, rd_60, rd_61, rd_62, rd_63, rd_64, rd_65, rd_66, rd_67, rd_68, wr_1, wr_2, wr_3, wr_4, wr_5, wr_6, wr_7, wr_8, wr_9, wr_10, wr_11, wr_12, wr_14, rw_14, wr_31, wr_32, wr_33, wr_34, wr_35, wr_37, rw_37, wr_54, wr_55, wr_56, wr_57, wr_58, wr_59, wr_60, wr_61, wr_62, wr_63, wr_64, wr_65, wr_66, wr_67, wr_68, g_holds, Nat.not_le.mpr hi, if_false]
      cases s.testBit i <;> simp)
    (fun t => by
      rw [ru_23_4]
      simp (disch := omega) only [ru_23_0, ru_23_1, ru_23_2, ru_23_3, ru_23_5, ru_23_6, ru_23_9, ru_23_12, ru_23_13, ru_23_14, ru_23_15, ru_23_18, ru_23_21, ru_23_22, ru_23_25, ru_23_26, ru_23_27, ru_23_30, ru_23_31, ru_23_32, ru_23_33, ru_23_36, ru_23_39, ru_23_40, mi_nl_i, mi_nl_r, mi_nl_n, mi_c1_i, mi_c1_r, true_and, and_true, exists_eq_left, exists_eq_left', Option.some.injEq, Option.toList_some, Option.toList_none, List.cons_append, List.nil_append, List.getElem?_cons_zero, List.getElem?_cons_succ, List.set_cons_zero, List.set_cons_succ, cn_t0, cn_tz, cn_z0, cn_z1, cn_ix, cn_lt0, cn_lz, cn_m1, or_true, true_or, eq_self, Nat.add_one_ne_zero, Nat.not_lt_zero, if_false, if_true, not_false_eq_true, List.length_cons, List.length_nil, Nat.reduceAdd, Nat.reduceLT, cn_in, cn_shl, cn_all, cn_sub, nI_add, nI_eq, nI_leI, nI_ltI, nI_clamp, nm_and, nm_or, nm_not, up_nI, up_cO, up_cS, rd_0, rd_1, rd_2, rd_3, rd_4, rd_5, rd_6, rd_7, rd_8, rd_9, rd_10, rd_11, rd_12, rd_13, rd_14, rr_14, rd_31, rd_32, rd_33, rd_34, rd_35, rd_36, rd_37, rr_37, rd_54, rd_55, rd_56, rd_57, rd_58, rd_59, rd_60, rd_61, rd_62, rd_63, rd_64, rd_65, rd_66, rd_67, rd_68, wr_1, wr_2, wr_3, wr_4, wr_5, wr_6, wr_7, wr_8, wr_9, wr_10, wr_11, wr_12, wr_14, rw_14, wr_31, wr_32, wr_33, wr_34, wr_35, wr_37, rw_37, wr_54, wr_55, wr_56, wr_57, wr_58, wr_59, wr_60, wr_61, wr_62, wr_63, wr_64, wr_65, wr_66, wr_67, wr_68, Nat.le_refl, if_true]) n.1 0 0 (by omega)

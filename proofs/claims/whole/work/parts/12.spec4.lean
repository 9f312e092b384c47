/-! rows: filled, painted -/
theorem up_enc {α : Type} {enc : α → Int32} {f : Nat → α} {k : Nat} {x : α} : upd (fun i => enc (f i)) k (enc x) = fun j => enc (if j = k then x else f j) := by
  funext j
  unfold upd
  split <;> rfl
theorem mi_it_fill {α : Type} {x : α} : ∀ (k i : Nat) (f : Nat → α), mi_it (fun i f j => if j = i then x else f j) k i f = fun j => if i ≤ j ∧ j < i + k then x else f j := by
  intro k
  induction k with
  | zero =>
    intro i f
    funext j
    rw [mi_it_0, if_neg (by omega)]
  | succ k ih =>
    intro i f
    rw [mi_it_s, ih]
    funext j
    by_cases h1 : j = i
    · subst h1
      rw [if_neg (by omega), if_pos rfl, if_pos (by omega)]
    · rw [if_neg h1]
      by_cases h2 : i ≤ j ∧ j < i + (k + 1)
      · rw [if_pos (by omega), if_pos h2]
      · rw [if_neg (by omega), if_neg h2]
theorem g_fill {α : Type} {enc : α → Int32} {H : (Nat → α) → mi_H} {q len d : Nat} {r : Option mi_V × mi_H} {x : α} {f : Nat → α} (h1 : ∀ f, mi_ar (H f) q = some (0, len, fun i => enc (f i))) (h2 : ∀ f g, (H f).set q (.inr (.inl (0, len, fun i => enc (g i)))) = H g) (hl : len < 2 ^ 31) : mi_Go cs_P cs_mx d 30 0 [some (.inr (.inr (some q))), some (.inl (enc x)), none, none] [] (H f) r ↔ r = (none, H (fun i => if i < len then x else f i)) := by
  have hN : Int32.ofNat len = nI len := rfl
  simp only [ru_30_0, ru_30_1, ru_30_2, ru_30_3, ru_30_4, ru_30_6, ru_30_7, ru_30_10, ru_30_11, ru_30_12, ru_30_13, ru_30_14, ru_30_17, ru_30_20, mi_nl_i, mi_nl_r, mi_nl_n, mi_c1_i, mi_c1_r, true_and, and_true, exists_eq_left, exists_eq_left', Option.some.injEq, Option.toList_some, Option.toList_none, List.cons_append, List.nil_append, List.getElem?_cons_zero, List.getElem?_cons_succ, List.set_cons_zero, List.set_cons_succ, cn_t0, cn_tz, cn_z0, cn_z1, cn_ix, cn_lt0, cn_lz, not_false_eq_true, List.length_cons, List.length_nil, Nat.reduceAdd, Nat.reduceLT, cn_in, cn_shl, cn_all, cn_sub, nI_add, nI_eq, nI_leI, nI_ltI, nI_clamp, nm_and, nm_or, nm_not, up_nI, rd_0, rd_1, rd_2, rd_3, rd_4, rd_5, rd_6, rd_7, rd_8, rd_9, rd_10, rd_11, rd_12, rd_13, rr_14, rd_31, rd_32, rd_33, rd_34, rd_35, rd_36, rr_37, rd_54, rd_55, rd_56, rd_57, rd_58, rd_59, rd_60, rd_61, rd_62, rd_63, rd_64, rd_65, rd_66, rd_67, rd_68, wr_1, wr_2, wr_3, wr_4, wr_5, wr_6, wr_7, wr_8, wr_9, wr_10, wr_11, wr_12, rw_14, wr_31, wr_32, wr_33, wr_34, wr_35, rw_37, wr_54, wr_55, wr_56, wr_57, wr_58, wr_59, wr_60, wr_61, wr_62, wr_63, wr_64, wr_65, wr_66, wr_67, wr_68, h1, hN]
  refine (mi_loop0 (A := fun i f => mi_Go cs_P cs_mx d 30 5 [some (.inr (.inr (some q))), some (.inl (enc x)), some (.inl (nI i)), some (.inl (nI len))] [] (H f) r) (B := fun f => r = (none, H f)) (f := fun i f j => if j = i then x else f j) (n := len)
    (fun i f hi => by
      rw [ru_30_5]
      simp (disch := omega) only [ru_30_0, ru_30_1, ru_30_2, ru_30_3, ru_30_4, ru_30_6, ru_30_7, ru_30_10, ru_30_11, ru_30_12, ru_30_13, ru_30_14, ru_30_17, ru_30_20, mi_nl_i, mi_nl_r, mi_nl_n, mi_c1_i, mi_c1_r, true_and, and_true, exists_eq_left, exists_eq_left', Option.some.injEq, Option.toList_some, Option.toList_none, List.cons_append, List.nil_append, List.getElem?_cons_zero, List.getElem?_cons_succ, List.set_cons_zero, List.set_cons_succ, cn_t0, cn_tz, cn_z0, cn_z1, cn_ix, cn_lt0, cn_lz, not_false_eq_true, List.length_cons, List.length_nil, Nat.reduceAdd, Nat.reduceLT, cn_in, cn_shl, cn_all, cn_sub, nI_add, nI_eq, nI_leI, nI_ltI, nI_clamp, nm_and, nm_or, nm_not, up_nI, rd_0, rd_1, rd_2, rd_3, rd_4, rd_5, rd_6, rd_7, rd_8, rd_9, rd_10, rd_11, rd_12, rd_13, rr_14, rd_31, rd_32, rd_33, rd_34, rd_35, rd_36, rr_37, rd_54, rd_55, rd_56, rd_57, rd_58, rd_59, rd_60, rd_61, rd_62, rd_63, rd_64, rd_65, rd_66, rd_67, rd_68, wr_1, wr_2, wr_3, wr_4, wr_5, wr_6, wr_7, wr_8, wr_9, wr_10, wr_11, wr_12, rw_14, wr_31, wr_32, wr_33, wr_34, wr_35, rw_37, wr_54, wr_55, wr_56, wr_57, wr_58, wr_59, wr_60, wr_61, wr_62, wr_63, wr_64, wr_65, wr_66, wr_67, wr_68, h1, up_enc, h2, Nat.not_le.mpr hi, if_false])
    (fun f => by
      rw [ru_30_5]
      simp (disch := omega) only [ru_30_0, ru_30_1, ru_30_2, ru_30_3, ru_30_4, ru_30_6, ru_30_7, ru_30_10, ru_30_11, ru_30_12, ru_30_13, ru_30_14, ru_30_17, ru_30_20, mi_nl_i, mi_nl_r, mi_nl_n, mi_c1_i, mi_c1_r, true_and, and_true, exists_eq_left, exists_eq_left', Option.some.injEq, Option.toList_some, Option.toList_none, List.cons_append, List.nil_append, List.getElem?_cons_zero, List.getElem?_cons_succ, List.set_cons_zero, List.set_cons_succ, cn_t0, cn_tz, cn_z0, cn_z1, cn_ix, cn_lt0, cn_lz, not_false_eq_true, List.length_cons, List.length_nil, Nat.reduceAdd, Nat.reduceLT, cn_in, cn_shl, cn_all, cn_sub, nI_add, nI_eq, nI_leI, nI_ltI, nI_clamp, nm_and, nm_or, nm_not, up_nI, rd_0, rd_1, rd_2, rd_3, rd_4, rd_5, rd_6, rd_7, rd_8, rd_9, rd_10, rd_11, rd_12, rd_13, rr_14, rd_31, rd_32, rd_33, rd_34, rd_35, rd_36, rr_37, rd_54, rd_55, rd_56, rd_57, rd_58, rd_59, rd_60, rd_61, rd_62, rd_63, rd_64, rd_65, rd_66, rd_67, rd_68, wr_1, wr_2, wr_3, wr_4, wr_5, wr_6, wr_7, wr_8, wr_9, wr_10, wr_11, wr_12, rw_14, wr_31, wr_32, wr_33, wr_34, wr_35, rw_37, wr_54, wr_55, wr_56, wr_57, wr_58, wr_59, wr_60, wr_61, wr_62, wr_63, wr_64, wr_65, wr_66, wr_67, wr_68, Nat.le_refl, if_true]) len 0 f (by omega)).trans ?_
  rw [mi_it_fill]
  simp only [Nat.zero_le, true_and, Nat.zero_add]
def nt_lfA (f : Nat → Nat) (l : Nat) : Nat → Nat → Nat
  | 0, _ => 0
  | k + 1, c => if f c &&& l = 0 then c else nt_lfA f l k (c + 1)
def nt_lf (f : Nat → Nat) (l : Nat) : Nat := nt_lfA f l 16 1
theorem nt_lfA_le (f : Nat → Nat) (l : Nat) : ∀ k c, c + k ≤ 17 → nt_lfA f l k c ≤ 16 := by
  intro k
  induction k with
  | zero => intro c _; exact Nat.zero_le _
  | succ k ih =>
    intro c h
    unfold nt_lfA
    split
    · omega
    · exact ih (c + 1) (by omega)
theorem nt_lf_le (f : Nat → Nat) (l : Nat) : nt_lf f l ≤ 16 := nt_lfA_le f l 16 1 (by decide)
theorem cn_az {a l : Nat} (hl : l < 65536) : (nI (a &&& l) = nI 0) ↔ a &&& l = 0 := nI_eq (Nat.lt_of_le_of_lt Nat.and_le_right (by omega)) (by decide)
theorem g_leastFreeA {d q l : Nat} {h : mi_H} {r : Option mi_V × mi_H} {f : Nat → Nat} (h1 : mi_ar h q = some (0, 17, fun i => nI (f i))) (hl : l < 65536) : ∀ k c, c + k = 17 → (mi_Go cs_P cs_mx d 44 2 [some (.inr (.inr (some q))), some (.inl (nI l)), some (.inl (nI c))] [] h r ↔ r = (some (.inl (nI (nt_lfA f l k c))), h)) := by
  have hN : Int32.ofNat 17 = nI 17 := rfl
  intro k
  induction k with
  | zero =>
    intro c e
    rw [ru_44_2]
    simp (disch := omega) only [ru_44_0, ru_44_1, ru_44_3, ru_44_4, ru_44_5, ru_44_8, ru_44_9, ru_44_10, ru_44_11, ru_44_12, ru_44_13, ru_44_16, ru_44_17, ru_44_18, ru_44_21, ru_44_24, ru_44_25, mi_nl_i, mi_nl_r, mi_nl_n, mi_c1_i, mi_c1_r, true_and, and_true, exists_eq_left, exists_eq_left', Option.some.injEq, Option.toList_some, Option.toList_none, List.cons_append, List.nil_append, List.getElem?_cons_zero, List.getElem?_cons_succ, List.set_cons_zero, List.set_cons_succ, cn_t0, cn_tz, cn_z0, cn_z1, cn_ix, cn_lt0, cn_lz, not_false_eq_true, List.length_cons, List.length_nil, Nat.reduceAdd, Nat.reduceLT, cn_in, cn_shl, cn_all, cn_sub, nI_add, nI_eq, nI_leI, nI_ltI, nI_clamp, nm_and, nm_or, nm_not, up_nI, rd_0, rd_1, rd_2, rd_3, rd_4, rd_5, rd_6, rd_7, rd_8, rd_9, rd_10, rd_11, rd_12, rd_13, rr_14, rd_31, rd_32, rd_33, rd_34, rd_35, rd_36, rr_37, rd_54, rd_55, rd_56, rd_57, rd_58, rd_59, rd_60, rd_61, rd_62, rd_63, rd_64, rd_65, rd_66, rd_67, rd_68, wr_1, wr_2, wr_3, wr_4, wr_5, wr_6, wr_7, wr_8, wr_9, wr_10, wr_11, wr_12, rw_14, wr_31, wr_32, wr_33, wr_34, wr_35, rw_37, wr_54, wr_55, wr_56, wr_57, wr_58, wr_59, wr_60, wr_61, wr_62, wr_63, wr_64, wr_65, wr_66, wr_67, wr_68, h1, hN, show 17 ≤ c by omega, if_true]
    rfl
  | succ k ih =>
    intro c e
    rw [ru_44_2]
    simp (disch := omega) only [ru_44_0, ru_44_1, ru_44_3, ru_44_4, ru_44_5, ru_44_8, ru_44_9, ru_44_10, ru_44_11, ru_44_12, ru_44_13, ru_44_16, ru_44_17, ru_44_18, ru_44_21, ru_44_24, ru_44_25, mi_nl_i, mi_nl_r, mi_nl_n, mi_c1_i, mi_c1_r, true_and, and_true, exists_eq_left, exists_eq_left', Option.some.injEq, Option.toList_some, Option.toList_none, List.cons_append, List.nil_append, List.getElem?_cons_zero, List.getElem?_cons_succ, List.set_cons_zero, List.set_cons_succ, cn_t0, cn_tz, cn_z0, cn_z1, cn_ix, cn_lt0, cn_lz, not_false_eq_true, List.length_cons, List.length_nil, Nat.reduceAdd, Nat.reduceLT, cn_in, cn_shl, cn_all, cn_sub, nI_add, nI_eq, nI_leI, nI_ltI, nI_clamp, nm_and, nm_or, nm_not, up_nI, rd_0, rd_1, rd_2, rd_3, rd_4, rd_5, rd_6, rd_7, rd_8, rd_9, rd_10, rd_11, rd_12, rd_13, rr_14, rd_31, rd_32, rd_33, rd_34, rd_35, rd_36, rr_37, rd_54, rd_55, rd_56, rd_57, rd_58, rd_59, rd_60, rd_61, rd_62, rd_63, rd_64, rd_65, rd_66, rd_67, rd_68, wr_1, wr_2, wr_3, wr_4, wr_5, wr_6, wr_7, wr_8, wr_9, wr_10, wr_11, wr_12, rw_14, wr_31, wr_32, wr_33, wr_34, wr_35, rw_37, wr_54, wr_55, wr_56, wr_57, wr_58, wr_59, wr_60, wr_61, wr_62, wr_63, wr_64, wr_65, wr_66, wr_67, wr_68, h1, hN, cn_az, ih, show ¬ 17 ≤ c by omega, if_false]
    rw [show nt_lfA f l (k + 1) c = if f c &&& l = 0 then c else nt_lfA f l k (c + 1) from rfl]
    by_cases hz : f c &&& l = 0 <;> simp [hz]
theorem g_leastFree {d q l : Nat} {h : mi_H} {r : Option mi_V × mi_H} {f : Nat → Nat} (h1 : mi_ar h q = some (0, 17, fun i => nI (f i))) (hl : l < 65536) : mi_Go cs_P cs_mx d 44 0 [some (.inr (.inr (some q))), some (.inl (nI l)), none] [] h r ↔ r = (some (.inl (nI (nt_lf f l))), h) := by
  simp only [ru_44_0, ru_44_1, ru_44_3, ru_44_4, ru_44_5, ru_44_8, ru_44_9, ru_44_10, ru_44_11, ru_44_12, ru_44_13, ru_44_16, ru_44_17, ru_44_18, ru_44_21, ru_44_24, ru_44_25, mi_nl_i, mi_nl_r, mi_nl_n, mi_c1_i, mi_c1_r, true_and, and_true, exists_eq_left, exists_eq_left', Option.some.injEq, Option.toList_some, Option.toList_none, List.cons_append, List.nil_append, List.getElem?_cons_zero, List.getElem?_cons_succ, List.set_cons_zero, List.set_cons_succ, cn_t0, cn_tz, cn_z0, cn_z1, cn_ix, cn_lt0, cn_lz, not_false_eq_true, List.length_cons, List.length_nil, Nat.reduceAdd, Nat.reduceLT, cn_in, cn_shl, cn_all, cn_sub, nI_add, nI_eq, nI_leI, nI_ltI, nI_clamp, nm_and, nm_or, nm_not, up_nI, rd_0, rd_1, rd_2, rd_3, rd_4, rd_5, rd_6, rd_7, rd_8, rd_9, rd_10, rd_11, rd_12, rd_13, rr_14, rd_31, rd_32, rd_33, rd_34, rd_35, rd_36, rr_37, rd_54, rd_55, rd_56, rd_57, rd_58, rd_59, rd_60, rd_61, rd_62, rd_63, rd_64, rd_65, rd_66, rd_67, rd_68, wr_1, wr_2, wr_3, wr_4, wr_5, wr_6, wr_7, wr_8, wr_9, wr_10, wr_11, wr_12, rw_14, wr_31, wr_32, wr_33, wr_34, wr_35, rw_37, wr_54, wr_55, wr_56, wr_57, wr_58, wr_59, wr_60, wr_61, wr_62, wr_63, wr_64, wr_65, wr_66, wr_67, wr_68]
  exact g_leastFreeA h1 hl 16 1 (by decide)
def nt_ps (L : Nat → Nat) (s : Nat) : Nat → (Nat → Nat) × Nat → (Nat → Nat) × Nat := fun v q => if s.testBit v then (up_N q.1 (nt_lf q.1 (L v)) (q.1 (nt_lf q.1 (L v)) ||| 2 ^ v), max q.2 (nt_lf q.1 (L v))) else q
def nt_paint (n : st_N) (s : Nat) (f : Nat → Nat) : (Nat → Nat) × Nat := mi_it (nt_ps n.2.2.2 s) n.1 0 (fun i => if i < 17 then 0 else f i, 0)
theorem g_paint {H : (Nat → Nat) → mi_H} {n : st_N} {q d s : Nat} {r : Option mi_V × mi_H} {f : Nat → Nat} (h1 : ∀ f, mi_ar (H f) q = some (0, 17, fun i => nI (f i))) (h2 : ∀ f g, (H f).set q (.inr (.inl (0, 17, fun i => nI (g i)))) = H g) (h3 : ∀ f, mi_ob (H f) 1 = some (1, [.inl (nI n.1), .inl (nI n.2.1), .inr (.inr (some 2)), .inr (.inr (some 3))])) (h4 : ∀ f, mi_ar (H f) 3 = some (0, 16, fun i => nI (n.2.2.2 i))) (ok : nt_ok n) : mi_Go cs_P cs_mx (d + 1) 43 0 [some (.inr (.inr (some 1))), some (.inl (nI s)), some (.inr (.inr (some q))), none, none, none] [] (H f) r ↔ r = (some (.inl (nI (nt_paint n s f).2)), H (nt_paint n s f).1) := by
  have hn := ok.1
  simp (disch := first | assumption | omega) only [ru_43_0, ru_43_1, ru_43_2, ru_43_5, ru_43_6, ru_43_7, ru_43_8, ru_43_12, ru_43_13, ru_43_16, ru_43_19, ru_43_20, ru_43_22, ru_43_25, ru_43_28, ru_43_29, ru_43_30, ru_43_33, ru_43_35, ru_43_36, ru_43_39, ru_43_41, ru_43_42, ru_43_44, ru_43_45, ru_43_46, ru_43_47, ru_43_49, ru_43_50, ru_43_51, ru_43_52, ru_43_53, ru_43_55, ru_43_58, ru_43_59, ru_43_62, ru_43_65, ru_43_66, mi_nl_i, mi_nl_r, mi_nl_n, mi_c1_i, mi_c1_r, true_and, and_true, exists_eq_left, exists_eq_left', Option.some.injEq, Option.toList_some, Option.toList_none, List.cons_append, List.nil_append, List.getElem?_cons_zero, List.getElem?_cons_succ, List.set_cons_zero, List.set_cons_succ, cn_t0, cn_tz, cn_z0, cn_z1, cn_ix, cn_lt0, cn_lz, not_false_eq_true, List.length_cons, List.length_nil, Nat.reduceAdd, Nat.reduceLT, cn_in, cn_shl, cn_all, cn_sub, nI_add, nI_eq, nI_leI, nI_ltI, nI_clamp, nm_and, nm_or, nm_not, up_nI, rd_0, rd_1, rd_2, rd_3, rd_4, rd_5, rd_6, rd_7, rd_8, rd_9, rd_10, rd_11, rd_12, rd_13, rr_14, rd_31, rd_32, rd_33, rd_34, rd_35, rd_36, rr_37, rd_54, rd_55, rd_56, rd_57, rd_58, rd_59, rd_60, rd_61, rd_62, rd_63, rd_64, rd_65, rd_66, rd_67, rd_68, wr_1, wr_2, wr_3, wr_4, wr_5, wr_6, wr_7, wr_8, wr_9, wr_10, wr_11, wr_12, rw_14, wr_31, wr_32, wr_33, wr_34, wr_35, rw_37, wr_54, wr_55, wr_56, wr_57, wr_58, wr_59, wr_60, wr_61, wr_62, wr_63, wr_64, wr_65, wr_66, wr_67, wr_68, g_fill (enc := nI) h1 h2 (by decide)]
  exact mi_loopx (A := fun i t x => mi_Go cs_P cs_mx (d + 1) 43 10 [some (.inr (.inr (some 1))), some (.inl (nI s)), some (.inr (.inr (some q))), some (.inl (nI t.2)), some (.inl (nI i)), x] [] (H t.1) r) (B := fun t => r = (some (.inl (nI t.2)), H t.1)) (f := nt_ps n.2.2.2 s) (n := n.1) (fun _ t => t.2 ≤ 16)
    (fun i t x hi ht => by
      have hc := nt_lf_le t.1 (n.2.2.2 i)
      have hL := ok.2.1 i
      refine ⟨?_, ?_⟩
      · unfold nt_ps
        cases hb : s.testBit i
        · refine ⟨x, ?_⟩
          rw [ru_43_10]
          simp (disch := first | omega | assumption) only [ru_43_0, ru_43_1, ru_43_2, ru_43_5, ru_43_6, ru_43_7, ru_43_8, ru_43_12, ru_43_13, ru_43_16, ru_43_19, ru_43_20, ru_43_22, ru_43_25, ru_43_28, ru_43_29, ru_43_30, ru_43_33, ru_43_35, ru_43_36, ru_43_39, ru_43_41, ru_43_42, ru_43_44, ru_43_45, ru_43_46, ru_43_47, ru_43_49, ru_43_50, ru_43_51, ru_43_52, ru_43_53, ru_43_55, ru_43_58, ru_43_59, ru_43_62, ru_43_65, ru_43_66, mi_nl_i, mi_nl_r, mi_nl_n, mi_c1_i, mi_c1_r, true_and, and_true, exists_eq_left, exists_eq_left', Option.some.injEq, Option.toList_some, Option.toList_none, List.cons_append, List.nil_append, List.getElem?_cons_zero, List.getElem?_cons_succ, List.set_cons_zero, List.set_cons_succ, cn_t0, cn_tz, cn_z0, cn_z1, cn_ix, cn_lt0, cn_lz, not_false_eq_true, List.length_cons, List.length_nil, Nat.reduceAdd, Nat.reduceLT, cn_in, cn_shl, cn_all, cn_sub, nI_add, nI_eq, nI_leI, nI_ltI, nI_clamp, nm_and, nm_or, nm_not, up_nI, rd_0, rd_1, rd_2, rd_3, rd_4, rd_5, rd_6, rd_7, rd_8, rd_9, rd_10, rd_11, rd_12, rd_13, rr_14, rd_31, rd_32, rd_33, rd_34, rd_35, rd_36, rr_37, rd_54, rd_55, rd_56, rd_57, rd_58, rd_59, rd_60, rd_61, rd_62, rd_63, rd_64, rd_65, rd_66, rd_67, rd_68, wr_1, wr_2, wr_3, wr_4, wr_5, wr_6, wr_7, wr_8, wr_9, wr_10, wr_11, wr_12, rw_14, wr_31, wr_32, wr_33, wr_34, wr_35, rw_37, wr_54, wr_55, wr_56, wr_57, wr_58, wr_59, wr_60, wr_61, wr_62, wr_63, wr_64, wr_65, wr_66, wr_67, wr_68, h3, g_holds, hb, Bool.toNat_false, Nat.not_le.mpr hi, if_false, if_true, Bool.false_eq_true]
        · refine ⟨some (.inl (nI (nt_lf t.1 (n.2.2.2 i)))), ?_⟩
          rw [ru_43_10]
          simp (disch := first | omega | assumption) only [ru_43_0, ru_43_1, ru_43_2, ru_43_5, ru_43_6, ru_43_7, ru_43_8, ru_43_12, ru_43_13, ru_43_16, ru_43_19, ru_43_20, ru_43_22, ru_43_25, ru_43_28, ru_43_29, ru_43_30, ru_43_33, ru_43_35, ru_43_36, ru_43_39, ru_43_41, ru_43_42, ru_43_44, ru_43_45, ru_43_46, ru_43_47, ru_43_49, ru_43_50, ru_43_51, ru_43_52, ru_43_53, ru_43_55, ru_43_58, ru_43_59, ru_43_62, ru_43_65, ru_43_66, mi_nl_i, mi_nl_r, mi_nl_n, mi_c1_i, mi_c1_r, true_and, and_true, exists_eq_left, exists_eq_left', Option.some.injEq, Option.toList_some, Option.toList_none, List.cons_append, List.nil_append, List.getElem?_cons_zero, List.getElem?_cons_succ, List.set_cons_zero, List.set_cons_succ, cn_t0, cn_tz, cn_z0, cn_z1, cn_ix, cn_lt0, cn_lz, not_false_eq_true, List.length_cons, List.length_nil, Nat.reduceAdd, Nat.reduceLT, cn_in, cn_shl, cn_all, cn_sub, nI_add, nI_eq, nI_leI, nI_ltI, nI_clamp, nm_and, nm_or, nm_not, up_nI, rd_0, rd_1, rd_2, rd_3, rd_4, rd_5, rd_6, rd_7, rd_8, rd_9, rd_10, rd_11, rd_12, rd_13, rr_14, rd_31, rd_32, rd_33, rd_34, rd_35, rd_36, rr_37, rd_54, rd_55, rd_56, rd_57, rd_58, rd_59, rd_60, rd_61, rd_62, rd_63, rd_64, rd_65, rd_66, rd_67, rd_68, wr_1, wr_2, wr_3, wr_4, wr_5, wr_6, wr_7, wr_8, wr_9, wr_10, wr_11, wr_12, rw_14, wr_31, wr_32, wr_33, wr_34, wr_35, rw_37, wr_54, wr_55, wr_56, wr_57, wr_58, wr_59, wr_60, wr_61, wr_62, wr_63, wr_64, wr_65, wr_66, wr_67, wr_68, h1, h2, h3, h4, g_holds, g_max, g_leastFree (h1 _), hb, Nat.not_le.mpr hi, if_false, if_true, Bool.true_eq_false]
      · unfold nt_ps
        split
        · dsimp only
          omega
        · exact ht)
    (fun t x _ => by
      rw [ru_43_10]
      simp (disch := omega) only [ru_43_0, ru_43_1, ru_43_2, ru_43_5, ru_43_6, ru_43_7, ru_43_8, ru_43_12, ru_43_13, ru_43_16, ru_43_19, ru_43_20, ru_43_22, ru_43_25, ru_43_28, ru_43_29, ru_43_30, ru_43_33, ru_43_35, ru_43_36, ru_43_39, ru_43_41, ru_43_42, ru_43_44, ru_43_45, ru_43_46, ru_43_47, ru_43_49, ru_43_50, ru_43_51, ru_43_52, ru_43_53, ru_43_55, ru_43_58, ru_43_59, ru_43_62, ru_43_65, ru_43_66, mi_nl_i, mi_nl_r, mi_nl_n, mi_c1_i, mi_c1_r, true_and, and_true, exists_eq_left, exists_eq_left', Option.some.injEq, Option.toList_some, Option.toList_none, List.cons_append, List.nil_append, List.getElem?_cons_zero, List.getElem?_cons_succ, List.set_cons_zero, List.set_cons_succ, cn_t0, cn_tz, cn_z0, cn_z1, cn_ix, cn_lt0, cn_lz, not_false_eq_true, List.length_cons, List.length_nil, Nat.reduceAdd, Nat.reduceLT, cn_in, cn_shl, cn_all, cn_sub, nI_add, nI_eq, nI_leI, nI_ltI, nI_clamp, nm_and, nm_or, nm_not, up_nI, rd_0, rd_1, rd_2, rd_3, rd_4, rd_5, rd_6, rd_7, rd_8, rd_9, rd_10, rd_11, rd_12, rd_13, rr_14, rd_31, rd_32, rd_33, rd_34, rd_35, rd_36, rr_37, rd_54, rd_55, rd_56, rd_57, rd_58, rd_59, rd_60, rd_61, rd_62, rd_63, rd_64, rd_65, rd_66, rd_67, rd_68, wr_1, wr_2, wr_3, wr_4, wr_5, wr_6, wr_7, wr_8, wr_9, wr_10, wr_11, wr_12, rw_14, wr_31, wr_32, wr_33, wr_34, wr_35, rw_37, wr_54, wr_55, wr_56, wr_57, wr_58, wr_59, wr_60, wr_61, wr_62, wr_63, wr_64, wr_65, wr_66, wr_67, wr_68, h3, Nat.le_refl, if_true]) n.1 0 (fun i => if i < 17 then 0 else f i, 0) none (by omega) (Nat.zero_le _)

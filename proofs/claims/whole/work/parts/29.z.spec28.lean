/-! Matching: closing a blossom, a step, a way, the size -/
theorem up_O_lt {f : Nat → Option Nat} {k : Nat} {x : Option Nat} (hf : ∀ i v, f i = some v → v < 16) (hx : ∀ v, x = some v → v < 16) : ∀ i v, up_O f k x i = some v → v < 16 := by
  intro i v h
  unfold up_O at h
  split at h
  · exact hx v h
  · exact hf i v h
theorem ma_bb_ok {mate : Nat → Option Nat} {base : Nat → Nat} {stem : Nat} (hm : ∀ i v, mate i = some v → v < 16) : ∀ (k : Nat) (f : Nat → Option Nat) (bs : Nat) (o nx : Option Nat), (∀ i v, f i = some v → v < 16) → (∀ v, nx = some v → v < 16) → ∀ i v, (ma_bb mate base stem k f bs o nx).1 i = some v → v < 16 := by
  intro k
  induction k with
  | zero => intro f bs o nx hf hx; exact hf
  | succ k ih =>
    intro f bs o nx hf hx
    cases o with
    | none => exact hf
    | some v =>
      rw [ma_bb]
      split
      · exact hf
      · exact ih _ _ _ _ (up_O_lt hf hx) (fun w h => hm v w h)
def ma_c1 (stem bl : Nat) (m : st_M) (v : Nat) : st_M := if bl.testBit (m.2.2.1 v) = true then ma_enq (m.1, m.2.1, up_N m.2.2.1 v stem, m.2.2.2.1, m.2.2.2.2.1, m.2.2.2.2.2) v else m
def ma_c (stem bl : Nat) : Nat → Nat → st_M → st_M
  | 0, _, m => m
  | k + 1, v, m => ma_c stem bl k (v + 1) (ma_c1 stem bl m v)
theorem ma_c1_ok {stem bl v : Nat} {m : st_M} (h : ma_ok m) (hs : stem < 16) (hv : v < 16) : ma_ok (ma_c1 stem bl m v) := by
  unfold ma_c1
  split
  · refine ma_enq_ok ⟨h.1, h.2.1, fun i => ?_, h.2.2.2.1, h.2.2.2.2⟩ hv
    show up_N _ _ _ i < 16
    unfold up_N
    split
    · exact hs
    · exact h.2.2.1 i
  · exact h
theorem ma_c_ok {stem bl : Nat} (hs : stem < 16) : ∀ (k v : Nat) (m : st_M), v + k ≤ 16 → ma_ok m → ma_ok (ma_c stem bl k v m) := by
  intro k
  induction k with
  | zero => intro v m _ h; exact h
  | succ k ih => intro v m e h; exact ih (v + 1) _ (by omega) (ma_c1_ok h hs (by omega))
def ma_cb (nn : Nat) (m : st_M) (a b : Nat) : Option st_M := match ma_meet m a b with
  | none => none
  | some stem => some (ma_c stem ((ma_bb m.1 m.2.2.1 stem 16 m.2.1 0 (some a) (some b)).2 ||| (ma_bb m.1 m.2.2.1 stem 16 (ma_bb m.1 m.2.2.1 stem 16 m.2.1 0 (some a) (some b)).1 0 (some b) (some a)).2) nn 0 (m.1, (ma_bb m.1 m.2.2.1 stem 16 (ma_bb m.1 m.2.2.1 stem 16 m.2.1 0 (some a) (some b)).1 0 (some b) (some a)).1, m.2.2.1, m.2.2.2.1, m.2.2.2.2.1, m.2.2.2.2.2))
theorem ma_w2_lt {m : st_M} (ok : ma_ok m) {p : Nat} : ∀ (k : Nat) (o : Option Nat), (∀ v, o = some v → v < 16) → ∀ v, ma_w2 m p k o = some v → v < 16 := by
  intro k
  induction k with
  | zero => intro o ho v h; exact ho v (by cases o <;> exact h)
  | succ k ih =>
    intro o ho v h
    cases o with
    | none => cases h
    | some w =>
      rw [ma_w2] at h
      split at h
      · exact ho v h
      · exact ih _ (fun u hu => ma_up_lt ok hu) v h
theorem ma_meet_lt {m : st_M} (ok : ma_ok m) {a b s : Nat} (h : ma_meet m a b = some s) : s < 16 := ma_w2_lt ok _ _ (fun v e => by cases e; exact ok.2.2.1 b) s h
theorem ma_cb_ok {nn : Nat} {m m' : st_M} {a b : Nat} (hn : nn ≤ 16) (ok : ma_ok m) (ha : a < 16) (hb : b < 16) (h : ma_cb nn m a b = some m') : ma_ok m' := by
  unfold ma_cb at h
  cases hm : ma_meet m a b with
  | none => rw [hm] at h; cases h
  | some s =>
    rw [hm] at h
    cases h
    exact ma_c_ok (ma_meet_lt ok hm) nn 0 _ (by omega) ⟨ok.1, ma_bb_ok ok.1 _ _ _ _ _ (ma_bb_ok ok.1 _ _ _ _ _ ok.2.1 (fun v e => by cases e; exact hb)) (fun v e => by cases e; exact ha), ok.2.2.1, ok.2.2.2.1, ok.2.2.2.2⟩
theorem g_closeBlossom {d a b : Nat} {m' : st_M} {r : Option mi_V × mi_H} {n : st_N} {zj : st_X} {za : st_X} {zc : st_C} {ze : st_E} {zp : st_P} {zx : st_S} {zu : st_U} {zm : st_M} {zk : (Nat → Nat)} {zr : st_R} (hn : n.1 ≤ 16) (ok : ma_ok zm) (ha : a < 16) (hb : b < 16) (hc : ma_cb n.1 zm a b = some m') : mi_Go cs_P cs_mx (d + 2) 77 0 [some (.inr (.inr (some 55))), some (.inl (nI a)), some (.inl (nI b)), none, none, none] [] (hp n zj za zc ze zp zx zu zm zk zr) r ↔ r = (none, hp n zj za zc ze zp zx zu m' zk zr) := by
  unfold ma_cb at hc
  cases hm : ma_meet zm a b with
  | none => rw [hm] at hc; cases hc
  | some s =>
    rw [hm] at hc
    have hs := ma_meet_lt ok hm
    injection hc with hc
    have t1 := fun r => g_meeting (d := d) (r := r) (n := n) (zj := zj) (za := za) (zc := zc) (ze := ze) (zp := zp) (zx := zx) (zu := zu) (zm := zm) (zk := zk) (zr := zr) ok ha hb
    rw [hm] at t1
    simp only [cn_oS] at t1
    have t2 := fun r => g_bendBack (d := d) (r := r) (n := n) (zj := zj) (za := za) (zc := zc) (ze := ze) (zp := zp) (zx := zx) (zu := zu) (zm := zm) (zk := zk) (zr := zr) ok ha hs hb
    have ok2 : ma_ok (zm.1, (ma_bb zm.1 zm.2.2.1 s 16 zm.2.1 0 (some a) (some b)).1, zm.2.2.1, zm.2.2.2.1, zm.2.2.2.2.1, zm.2.2.2.2.2) := ⟨ok.1, ma_bb_ok ok.1 _ _ _ _ _ ok.2.1 (fun v e => by cases e; exact hb), ok.2.2.1, ok.2.2.2.1, ok.2.2.2.2⟩
    have t3 := fun r => g_bendBack (d := d) (r := r) (n := n) (zj := zj) (za := za) (zc := zc) (ze := ze) (zp := zp) (zx := zx) (zu := zu) (zm := (zm.1, (ma_bb zm.1 zm.2.2.1 s 16 zm.2.1 0 (some a) (some b)).1, zm.2.2.1, zm.2.2.2.1, zm.2.2.2.2.1, zm.2.2.2.2.2)) (zk := zk) (zr := zr) ok2 hb hs ha
    simp only [] at t3
    have lp : ∀ bl k v (m : st_M), v + k = n.1 → ma_ok m → (mi_Go cs_P cs_mx (d + 2) 77 27 [some (.inr (.inr (some 55))), some (.inl (nI a)), some (.inl (nI b)), some (.inl (nI s)), some (.inl (nI bl)), some (.inl (nI v))] [] (hp n zj za zc ze zp zx zu m zk zr) r ↔ r = (none, hp n zj za zc ze zp zx zu (ma_c s bl k v m) zk zr)) := by
      intro bl k
      induction k with
      | zero =>
        intro v m e om
        rw [ru_77_27]
        simp (maxSteps := 1000000) (disch := first | omega | assumption | (dsimp only; omega)) only [ru_77_0, ru_77_1, ru_77_2, ru_77_3, ru_77_6, ru_77_7, ru_77_8, ru_77_9, ru_77_10, ru_77_11, ru_77_14, ru_77_15, ru_77_16, ru_77_17, ru_77_18, ru_77_21, ru_77_22, ru_77_24, ru_77_25, ru_77_29, ru_77_30, ru_77_33, ru_77_36, ru_77_39, ru_77_41, ru_77_42, ru_77_45, ru_77_47, ru_77_48, ru_77_51, ru_77_54, ru_77_55, ru_77_58, ru_77_60, ru_77_61, ru_77_62, ru_77_63, ru_77_65, ru_77_68, ru_77_71, ru_77_74, mi_nl_i, mi_nl_r, mi_nl_n, mi_c1_i, mi_c1_r, true_and, and_true, exists_eq_left, exists_eq_left', Option.some.injEq, Option.toList_some, Option.toList_none, List.cons_append, List.nil_append, List.getElem?_cons_zero, List.getElem?_cons_succ, List.set_cons_zero, List.set_cons_succ, cn_t0, cn_tz, cn_z0, cn_z1, cn_ix, cn_lt0, cn_lz, cn_m1, not_true_eq_false, or_true, true_or, eq_self, Nat.add_one_ne_zero, Nat.not_lt_zero, if_false, if_true, not_false_eq_true, List.length_cons, List.length_nil, Nat.reduceAdd, Nat.reduceLT, cn_in, cn_shl, cn_all, cn_sub, nI_add, nI_eq, nI_leI, nI_ltI, nI_clamp, nm_and, nm_or, nm_not, up_nI, up_cO, up_cS, rd_0, rd_1, rd_2, rd_3, rd_4, rd_5, rd_6, rd_7, rd_8, rd_9, rd_10, rd_11, rd_12, rd_13, rd_14, rr_14, rd_31, rd_32, rd_33, rd_34, rd_35, rd_36, rd_37, rr_37, rd_54, rd_55, rd_56, rd_57, rd_58, rd_59, rd_60, rd_61, rd_62, rd_63, rd_64, rd_65, rd_66, rd_67, rd_68, wr_1, wr_2, wr_3, wr_4, wr_5, wr_6, wr_7, wr_8, wr_9, wr_10, wr_11, wr_12, wr_14, rw_14, wr_31, wr_32, wr_33, wr_34, wr_35, wr_37, rw_37, wr_54, wr_55, wr_56, wr_57, wr_58, wr_59, wr_60, wr_61, wr_62, wr_63, wr_64, wr_65, wr_66, wr_67, wr_68, show n.1 ≤ v by omega]
        rfl
      | succ k ih =>
        intro v m e om
        have hbv := om.2.2.1 v
        have ih := ih (v + 1) (ma_c1 s bl m v) (by omega) (ma_c1_ok om hs (by omega))
        rw [ru_77_27, ma_c, ← ih]
        unfold ma_c1
        cases hp' : bl.testBit (m.2.2.1 v)
        · rw [if_neg (by decide)]
          simp (maxSteps := 1000000) (disch := first | omega | assumption | (dsimp only; omega)) only [ru_77_0, ru_77_1, ru_77_2, ru_77_3, ru_77_6, ru_77_7, ru_77_8, ru_77_9, ru_77_10, ru_77_11, ru_77_14, ru_77_15, ru_77_16, ru_77_17, ru_77_18, ru_77_21, ru_77_22, ru_77_24, ru_77_25, ru_77_29, ru_77_30, ru_77_33, ru_77_36, ru_77_39, ru_77_41, ru_77_42, ru_77_45, ru_77_47, ru_77_48, ru_77_51, ru_77_54, ru_77_55, ru_77_58, ru_77_60, ru_77_61, ru_77_62, ru_77_63, ru_77_65, ru_77_68, ru_77_71, ru_77_74, mi_nl_i, mi_nl_r, mi_nl_n, mi_c1_i, mi_c1_r, true_and, and_true, exists_eq_left, exists_eq_left', Option.some.injEq, Option.toList_some, Option.toList_none, List.cons_append, List.nil_append, List.getElem?_cons_zero, List.getElem?_cons_succ, List.set_cons_zero, List.set_cons_succ, cn_t0, cn_tz, cn_z0, cn_z1, cn_ix, cn_lt0, cn_lz, cn_m1, not_true_eq_false, or_true, true_or, eq_self, Nat.add_one_ne_zero, Nat.not_lt_zero, if_false, if_true, not_false_eq_true, List.length_cons, List.length_nil, Nat.reduceAdd, Nat.reduceLT, cn_in, cn_shl, cn_all, cn_sub, nI_add, nI_eq, nI_leI, nI_ltI, nI_clamp, nm_and, nm_or, nm_not, up_nI, up_cO, up_cS, rd_0, rd_1, rd_2, rd_3, rd_4, rd_5, rd_6, rd_7, rd_8, rd_9, rd_10, rd_11, rd_12, rd_13, rd_14, rr_14, rd_31, rd_32, rd_33, rd_34, rd_35, rd_36, rd_37, rr_37, rd_54, rd_55, rd_56, rd_57, rd_58, rd_59, rd_60, rd_61, rd_62, rd_63, rd_64, rd_65, rd_66, rd_67, rd_68, wr_1, wr_2, wr_3, wr_4, wr_5, wr_6, wr_7, wr_8, wr_9, wr_10, wr_11, wr_12, wr_14, rw_14, wr_31, wr_32, wr_33, wr_34, wr_35, wr_37, rw_37, wr_54, wr_55, wr_56, wr_57, wr_58, wr_59, wr_60, wr_61, wr_62, wr_63, wr_64, wr_65, wr_66, wr_67, wr_68, show ¬ n.1 ≤ v by omega, g_holds, hp']
        · rw [if_pos rfl]
          have om2 : ma_ok (m.1, m.2.1, up_N m.2.2.1 v s, m.2.2.2.1, m.2.2.2.2.1, m.2.2.2.2.2) := by
            refine ⟨om.1, om.2.1, fun i => ?_, om.2.2.2.1, om.2.2.2.2⟩
            show up_N _ _ _ i < 16
            unfold up_N
            split
            · exact hs
            · exact om.2.2.1 i
          have t4 := fun r => g_enqueue (d := d) (r := r) (v := v) (n := n) (zj := zj) (za := za) (zc := zc) (ze := ze) (zp := zp) (zx := zx) (zu := zu) (zm := (m.1, m.2.1, up_N m.2.2.1 v s, m.2.2.2.1, m.2.2.2.2.1, m.2.2.2.2.2)) (zk := zk) (zr := zr) om2 (by omega)
          simp (maxSteps := 1000000) (disch := first | omega | assumption | (dsimp only; omega)) only [ru_77_0, ru_77_1, ru_77_2, ru_77_3, ru_77_6, ru_77_7, ru_77_8, ru_77_9, ru_77_10, ru_77_11, ru_77_14, ru_77_15, ru_77_16, ru_77_17, ru_77_18, ru_77_21, ru_77_22, ru_77_24, ru_77_25, ru_77_29, ru_77_30, ru_77_33, ru_77_36, ru_77_39, ru_77_41, ru_77_42, ru_77_45, ru_77_47, ru_77_48, ru_77_51, ru_77_54, ru_77_55, ru_77_58, ru_77_60, ru_77_61, ru_77_62, ru_77_63, ru_77_65, ru_77_68, ru_77_71, ru_77_74, mi_nl_i, mi_nl_r, mi_nl_n, mi_c1_i, mi_c1_r, true_and, and_true, exists_eq_left, exists_eq_left', Option.some.injEq, Option.toList_some, Option.toList_none, List.cons_append, List.nil_append, List.getElem?_cons_zero, List.getElem?_cons_succ, List.set_cons_zero, List.set_cons_succ, cn_t0, cn_tz, cn_z0, cn_z1, cn_ix, cn_lt0, cn_lz, cn_m1, not_true_eq_false, or_true, true_or, eq_self, Nat.add_one_ne_zero, Nat.not_lt_zero, if_false, if_true, not_false_eq_true, List.length_cons, List.length_nil, Nat.reduceAdd, Nat.reduceLT, cn_in, cn_shl, cn_all, cn_sub, nI_add, nI_eq, nI_leI, nI_ltI, nI_clamp, nm_and, nm_or, nm_not, up_nI, up_cO, up_cS, rd_0, rd_1, rd_2, rd_3, rd_4, rd_5, rd_6, rd_7, rd_8, rd_9, rd_10, rd_11, rd_12, rd_13, rd_14, rr_14, rd_31, rd_32, rd_33, rd_34, rd_35, rd_36, rd_37, rr_37, rd_54, rd_55, rd_56, rd_57, rd_58, rd_59, rd_60, rd_61, rd_62, rd_63, rd_64, rd_65, rd_66, rd_67, rd_68, wr_1, wr_2, wr_3, wr_4, wr_5, wr_6, wr_7, wr_8, wr_9, wr_10, wr_11, wr_12, wr_14, rw_14, wr_31, wr_32, wr_33, wr_34, wr_35, wr_37, rw_37, wr_54, wr_55, wr_56, wr_57, wr_58, wr_59, wr_60, wr_61, wr_62, wr_63, wr_64, wr_65, wr_66, wr_67, wr_68, show ¬ n.1 ≤ v by omega, g_holds, hp', Bool.true_eq_false, t4]
    simp (maxSteps := 1000000) (disch := first | omega | assumption | (dsimp only; omega)) only [ru_77_0, ru_77_1, ru_77_2, ru_77_3, ru_77_6, ru_77_7, ru_77_8, ru_77_9, ru_77_10, ru_77_11, ru_77_14, ru_77_15, ru_77_16, ru_77_17, ru_77_18, ru_77_21, ru_77_22, ru_77_24, ru_77_25, ru_77_29, ru_77_30, ru_77_33, ru_77_36, ru_77_39, ru_77_41, ru_77_42, ru_77_45, ru_77_47, ru_77_48, ru_77_51, ru_77_54, ru_77_55, ru_77_58, ru_77_60, ru_77_61, ru_77_62, ru_77_63, ru_77_65, ru_77_68, ru_77_71, ru_77_74, mi_nl_i, mi_nl_r, mi_nl_n, mi_c1_i, mi_c1_r, true_and, and_true, exists_eq_left, exists_eq_left', Option.some.injEq, Option.toList_some, Option.toList_none, List.cons_append, List.nil_append, List.getElem?_cons_zero, List.getElem?_cons_succ, List.set_cons_zero, List.set_cons_succ, cn_t0, cn_tz, cn_z0, cn_z1, cn_ix, cn_lt0, cn_lz, cn_m1, not_true_eq_false, or_true, true_or, eq_self, Nat.add_one_ne_zero, Nat.not_lt_zero, if_false, if_true, not_false_eq_true, List.length_cons, List.length_nil, Nat.reduceAdd, Nat.reduceLT, cn_in, cn_shl, cn_all, cn_sub, nI_add, nI_eq, nI_leI, nI_ltI, nI_clamp, nm_and, nm_or, nm_not, up_nI, up_cO, up_cS, rd_0, rd_1, rd_2, rd_3, rd_4, rd_5, rd_6, rd_7, rd_8, rd_9, rd_10, rd_11, rd_12, rd_13, rd_14, rr_14, rd_31, rd_32, rd_33, rd_34, rd_35, rd_36, rd_37, rr_37, rd_54, rd_55, rd_56, rd_57, rd_58, rd_59, rd_60, rd_61, rd_62, rd_63, rd_64, rd_65, rd_66, rd_67, rd_68, wr_1, wr_2, wr_3, wr_4, wr_5, wr_6, wr_7, wr_8, wr_9, wr_10, wr_11, wr_12, wr_14, rw_14, wr_31, wr_32, wr_33, wr_34, wr_35, wr_37, rw_37, wr_54, wr_55, wr_56, wr_57, wr_58, wr_59, wr_60, wr_61, wr_62, wr_63, wr_64, wr_65, wr_66, wr_67, wr_68, t1, t2, t3]
    rw [← hc]
    exact lp _ n.1 0 _ (by omega) ⟨ok.1, ma_bb_ok ok.1 _ _ _ _ _ ok2.2.1 (fun v e => by cases e; exact ha), ok.2.2.1, ok.2.2.2.1, ok.2.2.2.2⟩
def ma_go (nn lk v root : Nat) : Nat → Nat → st_M → Option (Option Nat × st_M)
  | 0, _, m => some (none, m)
  | k + 1, to, m =>
    if lk.testBit to = false ∨ m.2.2.1 v = m.2.2.1 to ∨ m.1 v = some to then ma_go nn lk v root k (to + 1) m
    else if to = root ∨ (m.1 to).bind m.2.1 ≠ none then (match ma_cb nn m v to with
      | none => none
      | some m' => ma_go nn lk v root k (to + 1) m')
    else if m.2.1 to ≠ none then ma_go nn lk v root k (to + 1) m
    else match m.1 to with
      | none => some (some to, (m.1, up_O m.2.1 to (some v), m.2.2.1, m.2.2.2.1, m.2.2.2.2.1, m.2.2.2.2.2))
      | some w => ma_go nn lk v root k (to + 1) (ma_enq (m.1, up_O m.2.1 to (some v), m.2.2.1, m.2.2.2.1, m.2.2.2.2.1, m.2.2.2.2.2) w)
theorem ma_from_ok {m : st_M} {to v : Nat} (ok : ma_ok m) (hv : v < 16) : ma_ok (m.1, up_O m.2.1 to (some v), m.2.2.1, m.2.2.2.1, m.2.2.2.2.1, m.2.2.2.2.2) := ⟨ok.1, up_O_lt ok.2.1 (fun w e => by cases e; exact hv), ok.2.2.1, ok.2.2.2.1, ok.2.2.2.2⟩
theorem ma_go_ok {nn lk v root : Nat} (hn : nn ≤ 16) (hv : v < 16) : ∀ (k to : Nat) (m : st_M) (o : Option Nat) (m' : st_M), to + k ≤ 16 → ma_ok m → ma_go nn lk v root k to m = some (o, m') → ma_ok m' ∧ ∀ w, o = some w → w < 16 := by
  intro k
  induction k with
  | zero =>
    intro to m o m' _ ok h
    cases h
    exact ⟨ok, fun w h => by cases h⟩
  | succ k ih =>
    intro to m o m' e ok h
    rw [ma_go] at h
    split at h
    · exact ih _ _ _ _ (by omega) ok h
    · split at h
      · cases hc : ma_cb nn m v to with
        | none => rw [hc] at h; cases h
        | some m2 =>
          rw [hc] at h
          exact ih _ _ _ _ (by omega) (ma_cb_ok hn ok hv (by omega) hc) h
      · split at h
        · exact ih _ _ _ _ (by omega) ok h
        · cases hm : m.1 to with
          | none =>
            rw [hm] at h
            cases h
            exact ⟨ma_from_ok ok hv, fun w h => by cases h; omega⟩
          | some w =>
            rw [hm] at h
            exact ih _ _ _ _ (by omega) (ma_enq_ok (ma_from_ok ok hv) (ok.1 _ _ hm)) h
theorem cn_o_eq {o : Option Nat} {v : Nat} (ho : ∀ w, o = some w → w < 16) (hv : v < 2 ^ 31) : cn_o o = nI v ↔ o = some v := by
  cases o with
  | none => rw [cn_oN]; exact ⟨fun h => ((cn_m1e hv).mp h).elim, fun h => by cases h⟩
  | some w => rw [cn_oS, nI_eq (by have := ho w rfl; omega) hv]; exact ⟨fun h => by rw [h], fun h => by cases h; rfl⟩
theorem cn_o_neg {o : Option Nat} (ho : ∀ w, o = some w → w < 16) : cn_o o < nI 0 ↔ o = none := by
  cases o with
  | none => exact ⟨fun _ => rfl, fun _ => by decide⟩
  | some w => exact ⟨fun h => ((cn_lt0 (by have := ho w rfl; omega)).mp h).elim, fun h => by cases h⟩
theorem cn_o_pos {o : Option Nat} (ho : ∀ w, o = some w → w < 16) : nI 0 ≤ cn_o o ↔ ¬ o = none := by
  rw [← cn_o_neg ho]
  exact Int32.not_lt.symm
theorem cn_m1p : (nI 0 ≤ (-1 : Int32)) ↔ False := ⟨fun h => absurd h (by decide), fun h => h.elim⟩
theorem g_goOnFrom {d v root : Nat} {o : Option Nat} {m' : st_M} {r : Option mi_V × mi_H} {n : st_N} {zj : st_X} {za : st_X} {zc : st_C} {ze : st_E} {zp : st_P} {zx : st_S} {zu : st_U} {zm : st_M} {zk : (Nat → Nat)} {zr : st_R} (hn : nt_ok n) (ok : ma_ok zm) (hv : v < 16) (hr : root < 16) (hc : ma_go n.1 (n.2.2.2 v) v root n.1 0 zm = some (o, m')) : mi_Go cs_P cs_mx (d + 3) 75 0 [some (.inr (.inr (some 55))), some (.inl (nI v)), some (.inl (nI root)), none] [] (hp n zj za zc ze zp zx zu zm zk zr) r ↔ r = (some (.inl (cn_o o)), hp n zj za zc ze zp zx zu m' zk zr) := by
  have hn1 := hn.1
  have lp : ∀ k to (m : st_M), to + k = n.1 → ma_ok m → ma_go n.1 (n.2.2.2 v) v root k to m = some (o, m') → (mi_Go cs_P cs_mx (d + 3) 75 2 [some (.inr (.inr (some 55))), some (.inl (nI v)), some (.inl (nI root)), some (.inl (nI to))] [] (hp n zj za zc ze zp zx zu m zk zr) r ↔ r = (some (.inl (cn_o o)), hp n zj za zc ze zp zx zu m' zk zr)) := by
    intro k
    induction k with
    | zero =>
      intro to m e om h
      cases h
      rw [ru_75_2]
      simp (maxSteps := 1000000) (disch := first | omega | assumption | (dsimp only; omega)) only [ru_75_0, ru_75_1, ru_75_3, ru_75_4, ru_75_7, ru_75_10, ru_75_13, ru_75_14, ru_75_17, ru_75_18, ru_75_21, ru_75_22, ru_75_25, ru_75_28, ru_75_29, ru_75_32, ru_75_33, ru_75_36, ru_75_37, ru_75_40, ru_75_41, ru_75_42, ru_75_45, ru_75_46, ru_75_49, ru_75_50, ru_75_53, ru_75_54, ru_75_57, ru_75_60, ru_75_61, ru_75_62, ru_75_65, ru_75_66, ru_75_69, ru_75_70, ru_75_73, ru_75_74, ru_75_75, ru_75_78, ru_75_81, ru_75_82, ru_75_83, ru_75_84, ru_75_87, ru_75_90, ru_75_91, ru_75_94, ru_75_95, ru_75_96, ru_75_99, ru_75_100, ru_75_103, ru_75_104, ru_75_105, ru_75_106, ru_75_107, ru_75_110, ru_75_111, ru_75_112, ru_75_115, ru_75_116, ru_75_117, ru_75_118, ru_75_119, ru_75_122, ru_75_123, ru_75_124, ru_75_127, ru_75_130, ru_75_133, ru_75_134, mi_nl_i, mi_nl_r, mi_nl_n, mi_c1_i, mi_c1_r, true_and, and_true, exists_eq_left, exists_eq_left', Option.some.injEq, Option.toList_some, Option.toList_none, List.cons_append, List.nil_append, List.getElem?_cons_zero, List.getElem?_cons_succ, List.set_cons_zero, List.set_cons_succ, cn_t0, cn_tz, cn_z0, cn_z1, cn_ix, cn_lt0, cn_lz, cn_m1, not_true_eq_false, or_true, true_or, eq_self, Nat.add_one_ne_zero, Nat.not_lt_zero, if_false, if_true, not_false_eq_true, List.length_cons, List.length_nil, Nat.reduceAdd, Nat.reduceLT, cn_in, cn_shl, cn_all, cn_sub, nI_add, nI_eq, nI_leI, nI_ltI, nI_clamp, nm_and, nm_or, nm_not, up_nI, up_cO, up_cS, rd_0, rd_1, rd_2, rd_3, rd_4, rd_5, rd_6, rd_7, rd_8, rd_9, rd_10, rd_11, rd_12, rd_13, rd_14, rr_14, rd_31, rd_32, rd_33, rd_34, rd_35, rd_36, rd_37, rr_37, rd_54, rd_55, rd_56, rd_57, rd_58, rd_59, rd_60, rd_61, rd_62, rd_63, rd_64, rd_65, rd_66, rd_67, rd_68, wr_1, wr_2, wr_3, wr_4, wr_5, wr_6, wr_7, wr_8, wr_9, wr_10, wr_11, wr_12, wr_14, rw_14, wr_31, wr_32, wr_33, wr_34, wr_35, wr_37, rw_37, wr_54, wr_55, wr_56, wr_57, wr_58, wr_59, wr_60, wr_61, wr_62, wr_63, wr_64, wr_65, wr_66, wr_67, wr_68, show n.1 ≤ to by omega, cn_oN]
    | succ k ih =>
      intro to m e om h
      have hb1 := om.2.2.1 v
      have hb2 := om.2.2.1 to
      have t1 := fun r => g_lk (d := d + 1) (r := r) (v := v) (n := n) (zj := zj) (za := za) (zc := zc) (ze := ze) (zp := zp) (zx := zx) (zu := zu) (zm := m) (zk := zk) (zr := zr) hv hn
      have r1 : mi_ar (hp n zj za zc ze zp zx zu m zk zr) 56 = some (0, 16, fun i => cn_o (m.1 i)) := rd_56
      have r2 : mi_ar (hp n zj za zc ze zp zx zu m zk zr) 57 = some (0, 16, fun i => cn_o (m.2.1 i)) := rd_57
      have r3 : mi_ar (hp n zj za zc ze zp zx zu m zk zr) 58 = some (0, 16, fun i => nI (m.2.2.1 i)) := rd_58
      have t2 := fun r => g_atW (d := d + 2) (r := r) r3 hv
      have t3 := fun r => g_atV (d := d + 2) (r := r) r1 hv
      have t4 := fun r => g_atO (d := d + 2) (r := r) (o := m.1 to) r2 (fun w h => om.1 to w h)
      have c1 := @cn_o_eq (m.1 v) to (fun w h => om.1 v w h) (by omega)
      have c2 := @cn_o_pos (m.2.1 to) (fun w h => om.2.1 to w h)
      have c3 := @cn_o_neg ((m.1 to).bind m.2.1) (fun w h => by
        obtain ⟨x, -, hx⟩ := Option.bind_eq_some_iff.mp h
        exact om.2.1 x w hx)
      have c4 := @cn_o_pos (m.1 to) (fun w h => om.1 to w h)
      rw [ma_go] at h
      rw [ru_75_2]
      by_cases h1 : (n.2.2.2 v).testBit to = false ∨ m.2.2.1 v = m.2.2.1 to ∨ m.1 v = some to
      · rw [if_pos h1] at h
        have ih := ih (to + 1) m (by omega) om h
        cases h2 : (n.2.2.2 v).testBit to
        · simp (maxSteps := 1000000) (disch := first | omega | assumption | (dsimp only; omega)) only [ru_75_0, ru_75_1, ru_75_3, ru_75_4, ru_75_7, ru_75_10, ru_75_13, ru_75_14, ru_75_17, ru_75_18, ru_75_21, ru_75_22, ru_75_25, ru_75_28, ru_75_29, ru_75_32, ru_75_33, ru_75_36, ru_75_37, ru_75_40, ru_75_41, ru_75_42, ru_75_45, ru_75_46, ru_75_49, ru_75_50, ru_75_53, ru_75_54, ru_75_57, ru_75_60, ru_75_61, ru_75_62, ru_75_65, ru_75_66, ru_75_69, ru_75_70, ru_75_73, ru_75_74, ru_75_75, ru_75_78, ru_75_81, ru_75_82, ru_75_83, ru_75_84, ru_75_87, ru_75_90, ru_75_91, ru_75_94, ru_75_95, ru_75_96, ru_75_99, ru_75_100, ru_75_103, ru_75_104, ru_75_105, ru_75_106, ru_75_107, ru_75_110, ru_75_111, ru_75_112, ru_75_115, ru_75_116, ru_75_117, ru_75_118, ru_75_119, ru_75_122, ru_75_123, ru_75_124, ru_75_127, ru_75_130, ru_75_133, ru_75_134, mi_nl_i, mi_nl_r, mi_nl_n, mi_c1_i, mi_c1_r, true_and, and_true, exists_eq_left, exists_eq_left', Option.some.injEq, Option.toList_some, Option.toList_none, List.cons_append, List.nil_append, List.getElem?_cons_zero, List.getElem?_cons_succ, List.set_cons_zero, List.set_cons_succ, cn_t0, cn_tz, cn_z0, cn_z1, cn_ix, cn_lt0, cn_lz, cn_m1, not_true_eq_false, or_true, true_or, eq_self, Nat.add_one_ne_zero, Nat.not_lt_zero, if_false, if_true, not_false_eq_true, List.length_cons, List.length_nil, Nat.reduceAdd, Nat.reduceLT, cn_in, cn_shl, cn_all, cn_sub, nI_add, nI_eq, nI_leI, nI_ltI, nI_clamp, nm_and, nm_or, nm_not, up_nI, up_cO, up_cS, rd_0, rd_1, rd_2, rd_3, rd_4, rd_5, rd_6, rd_7, rd_8, rd_9, rd_10, rd_11, rd_12, rd_13, rd_14, rr_14, rd_31, rd_32, rd_33, rd_34, rd_35, rd_36, rd_37, rr_37, rd_54, rd_55, rd_56, rd_57, rd_58, rd_59, rd_60, rd_61, rd_62, rd_63, rd_64, rd_65, rd_66, rd_67, rd_68, wr_1, wr_2, wr_3, wr_4, wr_5, wr_6, wr_7, wr_8, wr_9, wr_10, wr_11, wr_12, wr_14, rw_14, wr_31, wr_32, wr_33, wr_34, wr_35, wr_37, rw_37, wr_54, wr_55, wr_56, wr_57, wr_58, wr_59, wr_60, wr_61, wr_62, wr_63, wr_64, wr_65, wr_66, wr_67, wr_68, show ¬ n.1 ≤ to by omega, t1, g_holds, h2]
          exact ih
        · by_cases h3 : m.2.2.1 v = m.2.2.1 to
          · simp (maxSteps := 1000000) (disch := first | omega | assumption | (dsimp only; omega)) only [ru_75_0, ru_75_1, ru_75_3, ru_75_4, ru_75_7, ru_75_10, ru_75_13, ru_75_14, ru_75_17, ru_75_18, ru_75_21, ru_75_22, ru_75_25, ru_75_28, ru_75_29, ru_75_32, ru_75_33, ru_75_36, ru_75_37, ru_75_40, ru_75_41, ru_75_42, ru_75_45, ru_75_46, ru_75_49, ru_75_50, ru_75_53, ru_75_54, ru_75_57, ru_75_60, ru_75_61, ru_75_62, ru_75_65, ru_75_66, ru_75_69, ru_75_70, ru_75_73, ru_75_74, ru_75_75, ru_75_78, ru_75_81, ru_75_82, ru_75_83, ru_75_84, ru_75_87, ru_75_90, ru_75_91, ru_75_94, ru_75_95, ru_75_96, ru_75_99, ru_75_100, ru_75_103, ru_75_104, ru_75_105, ru_75_106, ru_75_107, ru_75_110, ru_75_111, ru_75_112, ru_75_115, ru_75_116, ru_75_117, ru_75_118, ru_75_119, ru_75_122, ru_75_123, ru_75_124, ru_75_127, ru_75_130, ru_75_133, ru_75_134, mi_nl_i, mi_nl_r, mi_nl_n, mi_c1_i, mi_c1_r, true_and, and_true, exists_eq_left, exists_eq_left', Option.some.injEq, Option.toList_some, Option.toList_none, List.cons_append, List.nil_append, List.getElem?_cons_zero, List.getElem?_cons_succ, List.set_cons_zero, List.set_cons_succ, cn_t0, cn_tz, cn_z0, cn_z1, cn_ix, cn_lt0, cn_lz, cn_m1, not_true_eq_false, or_true, true_or, eq_self, Nat.add_one_ne_zero, Nat.not_lt_zero, if_false, if_true, not_false_eq_true, List.length_cons, List.length_nil, Nat.reduceAdd, Nat.reduceLT, cn_in, cn_shl, cn_all, cn_sub, nI_add, nI_eq, nI_leI, nI_ltI, nI_clamp, nm_and, nm_or, nm_not, up_nI, up_cO, up_cS, rd_0, rd_1, rd_2, rd_3, rd_4, rd_5, rd_6, rd_7, rd_8, rd_9, rd_10, rd_11, rd_12, rd_13, rd_14, rr_14, rd_31, rd_32, rd_33, rd_34, rd_35, rd_36, rd_37, rr_37, rd_54, rd_55, rd_56, rd_57, rd_58, rd_59, rd_60, rd_61, rd_62, rd_63, rd_64, rd_65, rd_66, rd_67, rd_68, wr_1, wr_2, wr_3, wr_4, wr_5, wr_6, wr_7, wr_8, wr_9, wr_10, wr_11, wr_12, wr_14, rw_14, wr_31, wr_32, wr_33, wr_34, wr_35, wr_37, rw_37, wr_54, wr_55, wr_56, wr_57, wr_58, wr_59, wr_60, wr_61, wr_62, wr_63, wr_64, wr_65, wr_66, wr_67, wr_68, show ¬ n.1 ≤ to by omega, t1, g_holds, h2, t2, h3, Bool.true_eq_false]
            exact ih
          · have h4 : m.1 v = some to := by
              rcases h1 with h1 | h1 | h1
              · rw [h2] at h1; cases h1
              · exact (h3 h1).elim
              · exact h1
            simp (maxSteps := 1000000) (disch := first | omega | assumption | (dsimp only; omega)) only [ru_75_0, ru_75_1, ru_75_3, ru_75_4, ru_75_7, ru_75_10, ru_75_13, ru_75_14, ru_75_17, ru_75_18, ru_75_21, ru_75_22, ru_75_25, ru_75_28, ru_75_29, ru_75_32, ru_75_33, ru_75_36, ru_75_37, ru_75_40, ru_75_41, ru_75_42, ru_75_45, ru_75_46, ru_75_49, ru_75_50, ru_75_53, ru_75_54, ru_75_57, ru_75_60, ru_75_61, ru_75_62, ru_75_65, ru_75_66, ru_75_69, ru_75_70, ru_75_73, ru_75_74, ru_75_75, ru_75_78, ru_75_81, ru_75_82, ru_75_83, ru_75_84, ru_75_87, ru_75_90, ru_75_91, ru_75_94, ru_75_95, ru_75_96, ru_75_99, ru_75_100, ru_75_103, ru_75_104, ru_75_105, ru_75_106, ru_75_107, ru_75_110, ru_75_111, ru_75_112, ru_75_115, ru_75_116, ru_75_117, ru_75_118, ru_75_119, ru_75_122, ru_75_123, ru_75_124, ru_75_127, ru_75_130, ru_75_133, ru_75_134, mi_nl_i, mi_nl_r, mi_nl_n, mi_c1_i, mi_c1_r, true_and, and_true, exists_eq_left, exists_eq_left', Option.some.injEq, Option.toList_some, Option.toList_none, List.cons_append, List.nil_append, List.getElem?_cons_zero, List.getElem?_cons_succ, List.set_cons_zero, List.set_cons_succ, cn_t0, cn_tz, cn_z0, cn_z1, cn_ix, cn_lt0, cn_lz, cn_m1, not_true_eq_false, or_true, true_or, eq_self, Nat.add_one_ne_zero, Nat.not_lt_zero, if_false, if_true, not_false_eq_true, List.length_cons, List.length_nil, Nat.reduceAdd, Nat.reduceLT, cn_in, cn_shl, cn_all, cn_sub, nI_add, nI_eq, nI_leI, nI_ltI, nI_clamp, nm_and, nm_or, nm_not, up_nI, up_cO, up_cS, rd_0, rd_1, rd_2, rd_3, rd_4, rd_5, rd_6, rd_7, rd_8, rd_9, rd_10, rd_11, rd_12, rd_13, rd_14, rr_14, rd_31, rd_32, rd_33, rd_34, rd_35, rd_36, rd_37, rr_37, rd_54, rd_55, rd_56, rd_57, rd_58, rd_59, rd_60, rd_61, rd_62, rd_63, rd_64, rd_65, rd_66, rd_67, rd_68, wr_1, wr_2, wr_3, wr_4, wr_5, wr_6, wr_7, wr_8, wr_9, wr_10, wr_11, wr_12, wr_14, rw_14, wr_31, wr_32, wr_33, wr_34, wr_35, wr_37, rw_37, wr_54, wr_55, wr_56, wr_57, wr_58, wr_59, wr_60, wr_61, wr_62, wr_63, wr_64, wr_65, wr_66, wr_67, wr_68, show ¬ n.1 ≤ to by omega, t1, g_holds, h2, t2, h3, t3, h4, cn_oS, Bool.true_eq_false]
            exact ih
      · rw [if_neg h1] at h
        have h2 : (n.2.2.2 v).testBit to = true := by
          cases h2 : (n.2.2.2 v).testBit to
          · exact (h1 (.inl h2)).elim
          · rfl
        have h3 : ¬ m.2.2.1 v = m.2.2.1 to := fun h => h1 (.inr (.inl h))
        have h4 : ¬ m.1 v = some to := fun h => h1 (.inr (.inr h))
        by_cases h5 : to = root ∨ (m.1 to).bind m.2.1 ≠ none
        · rw [if_pos h5] at h
          cases hc : ma_cb n.1 m v to with
          | none => rw [hc] at h; cases h
          | some m2 =>
            rw [hc] at h
            have ih := ih (to + 1) m2 (by omega) (ma_cb_ok hn1 om hv (by omega) hc) h
            have t5 := fun r => g_closeBlossom (d := d) (r := r) (n := n) (zj := zj) (za := za) (zc := zc) (ze := ze) (zp := zp) (zx := zx) (zu := zu) (zm := m) (zk := zk) (zr := zr) hn1 om hv (show to < 16 by omega) hc
            by_cases h6 : to = root
            · subst h6
              simp (maxSteps := 1000000) (disch := first | omega | assumption | (dsimp only; omega)) only [ru_75_0, ru_75_1, ru_75_3, ru_75_4, ru_75_7, ru_75_10, ru_75_13, ru_75_14, ru_75_17, ru_75_18, ru_75_21, ru_75_22, ru_75_25, ru_75_28, ru_75_29, ru_75_32, ru_75_33, ru_75_36, ru_75_37, ru_75_40, ru_75_41, ru_75_42, ru_75_45, ru_75_46, ru_75_49, ru_75_50, ru_75_53, ru_75_54, ru_75_57, ru_75_60, ru_75_61, ru_75_62, ru_75_65, ru_75_66, ru_75_69, ru_75_70, ru_75_73, ru_75_74, ru_75_75, ru_75_78, ru_75_81, ru_75_82, ru_75_83, ru_75_84, ru_75_87, ru_75_90, ru_75_91, ru_75_94, ru_75_95, ru_75_96, ru_75_99, ru_75_100, ru_75_103, ru_75_104, ru_75_105, ru_75_106, ru_75_107, ru_75_110, ru_75_111, ru_75_112, ru_75_115, ru_75_116, ru_75_117, ru_75_118, ru_75_119, ru_75_122, ru_75_123, ru_75_124, ru_75_127, ru_75_130, ru_75_133, ru_75_134, mi_nl_i, mi_nl_r, mi_nl_n, mi_c1_i, mi_c1_r, true_and, and_true, exists_eq_left, exists_eq_left', Option.some.injEq, Option.toList_some, Option.toList_none, List.cons_append, List.nil_append, List.getElem?_cons_zero, List.getElem?_cons_succ, List.set_cons_zero, List.set_cons_succ, cn_t0, cn_tz, cn_z0, cn_z1, cn_ix, cn_lt0, cn_lz, cn_m1, not_true_eq_false, or_true, true_or, eq_self, Nat.add_one_ne_zero, Nat.not_lt_zero, if_false, if_true, not_false_eq_true, List.length_cons, List.length_nil, Nat.reduceAdd, Nat.reduceLT, cn_in, cn_shl, cn_all, cn_sub, nI_add, nI_eq, nI_leI, nI_ltI, nI_clamp, nm_and, nm_or, nm_not, up_nI, up_cO, up_cS, rd_0, rd_1, rd_2, rd_3, rd_4, rd_5, rd_6, rd_7, rd_8, rd_9, rd_10, rd_11, rd_12, rd_13, rd_14, rr_14, rd_31, rd_32, rd_33, rd_34, rd_35, rd_36, rd_37, rr_37, rd_54, rd_55, rd_56, rd_57, rd_58, rd_59, rd_60, rd_61, rd_62, rd_63, rd_64, rd_65, rd_66, rd_67, rd_68, wr_1, wr_2, wr_3, wr_4, wr_5, wr_6, wr_7, wr_8, wr_9, wr_10, wr_11, wr_12, wr_14, rw_14, wr_31, wr_32, wr_33, wr_34, wr_35, wr_37, rw_37, wr_54, wr_55, wr_56, wr_57, wr_58, wr_59, wr_60, wr_61, wr_62, wr_63, wr_64, wr_65, wr_66, wr_67, wr_68, show ¬ n.1 ≤ to by omega, t1, g_holds, h2, t2, h3, t3, c1, h4, t5, Bool.true_eq_false]
              exact ih
            · have h7 : ¬ (m.1 to).bind m.2.1 = none := by
                rcases h5 with h5 | h5
                · exact (h6 h5).elim
                · exact h5
              simp (maxSteps := 1000000) (disch := first | omega | assumption | (dsimp only; omega)) only [ru_75_0, ru_75_1, ru_75_3, ru_75_4, ru_75_7, ru_75_10, ru_75_13, ru_75_14, ru_75_17, ru_75_18, ru_75_21, ru_75_22, ru_75_25, ru_75_28, ru_75_29, ru_75_32, ru_75_33, ru_75_36, ru_75_37, ru_75_40, ru_75_41, ru_75_42, ru_75_45, ru_75_46, ru_75_49, ru_75_50, ru_75_53, ru_75_54, ru_75_57, ru_75_60, ru_75_61, ru_75_62, ru_75_65, ru_75_66, ru_75_69, ru_75_70, ru_75_73, ru_75_74, ru_75_75, ru_75_78, ru_75_81, ru_75_82, ru_75_83, ru_75_84, ru_75_87, ru_75_90, ru_75_91, ru_75_94, ru_75_95, ru_75_96, ru_75_99, ru_75_100, ru_75_103, ru_75_104, ru_75_105, ru_75_106, ru_75_107, ru_75_110, ru_75_111, ru_75_112, ru_75_115, ru_75_116, ru_75_117, ru_75_118, ru_75_119, ru_75_122, ru_75_123, ru_75_124, ru_75_127, ru_75_130, ru_75_133, ru_75_134, mi_nl_i, mi_nl_r, mi_nl_n, mi_c1_i, mi_c1_r, true_and, and_true, exists_eq_left, exists_eq_left', Option.some.injEq, Option.toList_some, Option.toList_none, List.cons_append, List.nil_append, List.getElem?_cons_zero, List.getElem?_cons_succ, List.set_cons_zero, List.set_cons_succ, cn_t0, cn_tz, cn_z0, cn_z1, cn_ix, cn_lt0, cn_lz, cn_m1, not_true_eq_false, or_true, true_or, eq_self, Nat.add_one_ne_zero, Nat.not_lt_zero, if_false, if_true, not_false_eq_true, List.length_cons, List.length_nil, Nat.reduceAdd, Nat.reduceLT, cn_in, cn_shl, cn_all, cn_sub, nI_add, nI_eq, nI_leI, nI_ltI, nI_clamp, nm_and, nm_or, nm_not, up_nI, up_cO, up_cS, rd_0, rd_1, rd_2, rd_3, rd_4, rd_5, rd_6, rd_7, rd_8, rd_9, rd_10, rd_11, rd_12, rd_13, rd_14, rr_14, rd_31, rd_32, rd_33, rd_34, rd_35, rd_36, rd_37, rr_37, rd_54, rd_55, rd_56, rd_57, rd_58, rd_59, rd_60, rd_61, rd_62, rd_63, rd_64, rd_65, rd_66, rd_67, rd_68, wr_1, wr_2, wr_3, wr_4, wr_5, wr_6, wr_7, wr_8, wr_9, wr_10, wr_11, wr_12, wr_14, rw_14, wr_31, wr_32, wr_33, wr_34, wr_35, wr_37, rw_37, wr_54, wr_55, wr_56, wr_57, wr_58, wr_59, wr_60, wr_61, wr_62, wr_63, wr_64, wr_65, wr_66, wr_67, wr_68, show ¬ n.1 ≤ to by omega, t1, g_holds, h2, t2, h3, t3, c1, h4, h6, t4, c3, h7, t5, Bool.true_eq_false]
              exact ih
        · rw [if_neg h5] at h
          have h6 : ¬ to = root := fun h => h5 (.inl h)
          have h7 : (m.1 to).bind m.2.1 = none := Classical.byContradiction fun h => h5 (.inr h)
          by_cases h8 : m.2.1 to = none
          · rw [if_neg (fun h => h h8)] at h
            cases hm : m.1 to with
            | none =>
              rw [hm] at h
              cases h
              rw [hm, cn_oN] at t4
              rw [hm] at h7
              simp (maxSteps := 1000000) (disch := first | omega | assumption | (dsimp only; omega)) only [ru_75_0, ru_75_1, ru_75_3, ru_75_4, ru_75_7, ru_75_10, ru_75_13, ru_75_14, ru_75_17, ru_75_18, ru_75_21, ru_75_22, ru_75_25, ru_75_28, ru_75_29, ru_75_32, ru_75_33, ru_75_36, ru_75_37, ru_75_40, ru_75_41, ru_75_42, ru_75_45, ru_75_46, ru_75_49, ru_75_50, ru_75_53, ru_75_54, ru_75_57, ru_75_60, ru_75_61, ru_75_62, ru_75_65, ru_75_66, ru_75_69, ru_75_70, ru_75_73, ru_75_74, ru_75_75, ru_75_78, ru_75_81, ru_75_82, ru_75_83, ru_75_84, ru_75_87, ru_75_90, ru_75_91, ru_75_94, ru_75_95, ru_75_96, ru_75_99, ru_75_100, ru_75_103, ru_75_104, ru_75_105, ru_75_106, ru_75_107, ru_75_110, ru_75_111, ru_75_112, ru_75_115, ru_75_116, ru_75_117, ru_75_118, ru_75_119, ru_75_122, ru_75_123, ru_75_124, ru_75_127, ru_75_130, ru_75_133, ru_75_134, mi_nl_i, mi_nl_r, mi_nl_n, mi_c1_i, mi_c1_r, true_and, and_true, exists_eq_left, exists_eq_left', Option.some.injEq, Option.toList_some, Option.toList_none, List.cons_append, List.nil_append, List.getElem?_cons_zero, List.getElem?_cons_succ, List.set_cons_zero, List.set_cons_succ, cn_t0, cn_tz, cn_z0, cn_z1, cn_ix, cn_lt0, cn_lz, cn_m1, not_true_eq_false, or_true, true_or, eq_self, Nat.add_one_ne_zero, Nat.not_lt_zero, if_false, if_true, not_false_eq_true, List.length_cons, List.length_nil, Nat.reduceAdd, Nat.reduceLT, cn_in, cn_shl, cn_all, cn_sub, nI_add, nI_eq, nI_leI, nI_ltI, nI_clamp, nm_and, nm_or, nm_not, up_nI, up_cO, up_cS, rd_0, rd_1, rd_2, rd_3, rd_4, rd_5, rd_6, rd_7, rd_8, rd_9, rd_10, rd_11, rd_12, rd_13, rd_14, rr_14, rd_31, rd_32, rd_33, rd_34, rd_35, rd_36, rd_37, rr_37, rd_54, rd_55, rd_56, rd_57, rd_58, rd_59, rd_60, rd_61, rd_62, rd_63, rd_64, rd_65, rd_66, rd_67, rd_68, wr_1, wr_2, wr_3, wr_4, wr_5, wr_6, wr_7, wr_8, wr_9, wr_10, wr_11, wr_12, wr_14, rw_14, wr_31, wr_32, wr_33, wr_34, wr_35, wr_37, rw_37, wr_54, wr_55, wr_56, wr_57, wr_58, wr_59, wr_60, wr_61, wr_62, wr_63, wr_64, wr_65, wr_66, wr_67, wr_68, show ¬ n.1 ≤ to by omega, t1, g_holds, h2, t2, h3, t3, c1, h4, h6, t4, h7, c2, h8, hm, cn_oN, cn_oS, Bool.true_eq_false, Option.bind_none, cn_m1p]
            | some w =>
              rw [hm] at h
              have hw := om.1 to w hm
              have ih := ih (to + 1) _ (by omega) (ma_enq_ok (ma_from_ok om hv) hw) h
              have t6 := fun r => g_enqueue (d := d + 1) (r := r) (v := w) (n := n) (zj := zj) (za := za) (zc := zc) (ze := ze) (zp := zp) (zx := zx) (zu := zu) (zm := (m.1, up_O m.2.1 to (some v), m.2.2.1, m.2.2.2.1, m.2.2.2.2.1, m.2.2.2.2.2)) (zk := zk) (zr := zr) (ma_from_ok om hv) hw
              rw [hm, cn_oS] at t4
              rw [hm] at h7
              simp (maxSteps := 1000000) (disch := first | omega | assumption | (dsimp only; omega)) only [ru_75_0, ru_75_1, ru_75_3, ru_75_4, ru_75_7, ru_75_10, ru_75_13, ru_75_14, ru_75_17, ru_75_18, ru_75_21, ru_75_22, ru_75_25, ru_75_28, ru_75_29, ru_75_32, ru_75_33, ru_75_36, ru_75_37, ru_75_40, ru_75_41, ru_75_42, ru_75_45, ru_75_46, ru_75_49, ru_75_50, ru_75_53, ru_75_54, ru_75_57, ru_75_60, ru_75_61, ru_75_62, ru_75_65, ru_75_66, ru_75_69, ru_75_70, ru_75_73, ru_75_74, ru_75_75, ru_75_78, ru_75_81, ru_75_82, ru_75_83, ru_75_84, ru_75_87, ru_75_90, ru_75_91, ru_75_94, ru_75_95, ru_75_96, ru_75_99, ru_75_100, ru_75_103, ru_75_104, ru_75_105, ru_75_106, ru_75_107, ru_75_110, ru_75_111, ru_75_112, ru_75_115, ru_75_116, ru_75_117, ru_75_118, ru_75_119, ru_75_122, ru_75_123, ru_75_124, ru_75_127, ru_75_130, ru_75_133, ru_75_134, mi_nl_i, mi_nl_r, mi_nl_n, mi_c1_i, mi_c1_r, true_and, and_true, exists_eq_left, exists_eq_left', Option.some.injEq, Option.toList_some, Option.toList_none, List.cons_append, List.nil_append, List.getElem?_cons_zero, List.getElem?_cons_succ, List.set_cons_zero, List.set_cons_succ, cn_t0, cn_tz, cn_z0, cn_z1, cn_ix, cn_lt0, cn_lz, cn_m1, not_true_eq_false, or_true, true_or, eq_self, Nat.add_one_ne_zero, Nat.not_lt_zero, if_false, if_true, not_false_eq_true, List.length_cons, List.length_nil, Nat.reduceAdd, Nat.reduceLT, cn_in, cn_shl, cn_all, cn_sub, nI_add, nI_eq, nI_leI, nI_ltI, nI_clamp, nm_and, nm_or, nm_not, up_nI, up_cO, up_cS, rd_0, rd_1, rd_2, rd_3, rd_4, rd_5, rd_6, rd_7, rd_8, rd_9, rd_10, rd_11, rd_12, rd_13, rd_14, rr_14, rd_31, rd_32, rd_33, rd_34, rd_35, rd_36, rd_37, rr_37, rd_54, rd_55, rd_56, rd_57, rd_58, rd_59, rd_60, rd_61, rd_62, rd_63, rd_64, rd_65, rd_66, rd_67, rd_68, wr_1, wr_2, wr_3, wr_4, wr_5, wr_6, wr_7, wr_8, wr_9, wr_10, wr_11, wr_12, wr_14, rw_14, wr_31, wr_32, wr_33, wr_34, wr_35, wr_37, rw_37, wr_54, wr_55, wr_56, wr_57, wr_58, wr_59, wr_60, wr_61, wr_62, wr_63, wr_64, wr_65, wr_66, wr_67, wr_68, show ¬ n.1 ≤ to by omega, t1, g_holds, h2, t2, h3, t3, c1, h4, h6, t4, h7, c2, h8, hm, cn_oN, cn_oS, Bool.true_eq_false, t6]
              exact ih
          · rw [if_pos h8] at h
            have ih := ih (to + 1) m (by omega) om h
            simp (maxSteps := 1000000) (disch := first | omega | assumption | (dsimp only; omega)) only [ru_75_0, ru_75_1, ru_75_3, ru_75_4, ru_75_7, ru_75_10, ru_75_13, ru_75_14, ru_75_17, ru_75_18, ru_75_21, ru_75_22, ru_75_25, ru_75_28, ru_75_29, ru_75_32, ru_75_33, ru_75_36, ru_75_37, ru_75_40, ru_75_41, ru_75_42, ru_75_45, ru_75_46, ru_75_49, ru_75_50, ru_75_53, ru_75_54, ru_75_57, ru_75_60, ru_75_61, ru_75_62, ru_75_65, ru_75_66, ru_75_69, ru_75_70, ru_75_73, ru_75_74, ru_75_75, ru_75_78, ru_75_81, ru_75_82, ru_75_83, ru_75_84, ru_75_87, ru_75_90, ru_75_91, ru_75_94, ru_75_95, ru_75_96, ru_75_99, ru_75_100, ru_75_103, ru_75_104, ru_75_105, ru_75_106, ru_75_107, ru_75_110, ru_75_111, ru_75_112, ru_75_115, ru_75_116, ru_75_117, ru_75_118, ru_75_119, ru_75_122, ru_75_123, ru_75_124, ru_75_127, ru_75_130, ru_75_133, ru_75_134, mi_nl_i, mi_nl_r, mi_nl_n, mi_c1_i, mi_c1_r, true_and, and_true, exists_eq_left, exists_eq_left', Option.some.injEq, Option.toList_some, Option.toList_none, List.cons_append, List.nil_append, List.getElem?_cons_zero, List.getElem?_cons_succ, List.set_cons_zero, List.set_cons_succ, cn_t0, cn_tz, cn_z0, cn_z1, cn_ix, cn_lt0, cn_lz, cn_m1, not_true_eq_false, or_true, true_or, eq_self, Nat.add_one_ne_zero, Nat.not_lt_zero, if_false, if_true, not_false_eq_true, List.length_cons, List.length_nil, Nat.reduceAdd, Nat.reduceLT, cn_in, cn_shl, cn_all, cn_sub, nI_add, nI_eq, nI_leI, nI_ltI, nI_clamp, nm_and, nm_or, nm_not, up_nI, up_cO, up_cS, rd_0, rd_1, rd_2, rd_3, rd_4, rd_5, rd_6, rd_7, rd_8, rd_9, rd_10, rd_11, rd_12, rd_13, rd_14, rr_14, rd_31, rd_32, rd_33, rd_34, rd_35, rd_36, rd_37, rr_37, rd_54, rd_55, rd_56, rd_57, rd_58, rd_59, rd_60, rd_61, rd_62, rd_63, rd_64, rd_65, rd_66, rd_67, rd_68, wr_1, wr_2, wr_3, wr_4, wr_5, wr_6, wr_7, wr_8, wr_9, wr_10, wr_11, wr_12, wr_14, rw_14, wr_31, wr_32, wr_33, wr_34, wr_35, wr_37, rw_37, wr_54, wr_55, wr_56, wr_57, wr_58, wr_59, wr_60, wr_61, wr_62, wr_63, wr_64, wr_65, wr_66, wr_67, wr_68, show ¬ n.1 ≤ to by omega, t1, g_holds, h2, t2, h3, t3, c1, h4, h6, t4, c3, h7, c2, h8, Bool.true_eq_false]
            exact ih
  simp (maxSteps := 1000000) (disch := first | omega | assumption | (dsimp only; omega)) only [ru_75_0, ru_75_1, ru_75_3, ru_75_4, ru_75_7, ru_75_10, ru_75_13, ru_75_14, ru_75_17, ru_75_18, ru_75_21, ru_75_22, ru_75_25, ru_75_28, ru_75_29, ru_75_32, ru_75_33, ru_75_36, ru_75_37, ru_75_40, ru_75_41, ru_75_42, ru_75_45, ru_75_46, ru_75_49, ru_75_50, ru_75_53, ru_75_54, ru_75_57, ru_75_60, ru_75_61, ru_75_62, ru_75_65, ru_75_66, ru_75_69, ru_75_70, ru_75_73, ru_75_74, ru_75_75, ru_75_78, ru_75_81, ru_75_82, ru_75_83, ru_75_84, ru_75_87, ru_75_90, ru_75_91, ru_75_94, ru_75_95, ru_75_96, ru_75_99, ru_75_100, ru_75_103, ru_75_104, ru_75_105, ru_75_106, ru_75_107, ru_75_110, ru_75_111, ru_75_112, ru_75_115, ru_75_116, ru_75_117, ru_75_118, ru_75_119, ru_75_122, ru_75_123, ru_75_124, ru_75_127, ru_75_130, ru_75_133, ru_75_134, mi_nl_i, mi_nl_r, mi_nl_n, mi_c1_i, mi_c1_r, true_and, and_true, exists_eq_left, exists_eq_left', Option.some.injEq, Option.toList_some, Option.toList_none, List.cons_append, List.nil_append, List.getElem?_cons_zero, List.getElem?_cons_succ, List.set_cons_zero, List.set_cons_succ, cn_t0, cn_tz, cn_z0, cn_z1, cn_ix, cn_lt0, cn_lz, cn_m1, not_true_eq_false, or_true, true_or, eq_self, Nat.add_one_ne_zero, Nat.not_lt_zero, if_false, if_true, not_false_eq_true, List.length_cons, List.length_nil, Nat.reduceAdd, Nat.reduceLT, cn_in, cn_shl, cn_all, cn_sub, nI_add, nI_eq, nI_leI, nI_ltI, nI_clamp, nm_and, nm_or, nm_not, up_nI, up_cO, up_cS, rd_0, rd_1, rd_2, rd_3, rd_4, rd_5, rd_6, rd_7, rd_8, rd_9, rd_10, rd_11, rd_12, rd_13, rd_14, rr_14, rd_31, rd_32, rd_33, rd_34, rd_35, rd_36, rd_37, rr_37, rd_54, rd_55, rd_56, rd_57, rd_58, rd_59, rd_60, rd_61, rd_62, rd_63, rd_64, rd_65, rd_66, rd_67, rd_68, wr_1, wr_2, wr_3, wr_4, wr_5, wr_6, wr_7, wr_8, wr_9, wr_10, wr_11, wr_12, wr_14, rw_14, wr_31, wr_32, wr_33, wr_34, wr_35, wr_37, rw_37, wr_54, wr_55, wr_56, wr_57, wr_58, wr_59, wr_60, wr_61, wr_62, wr_63, wr_64, wr_65, wr_66, wr_67, wr_68]
  exact lp n.1 0 zm (by omega) ok hc
def ma_wl (n : st_N) (root : Nat) : Nat → Nat → st_M → Option (Option Nat × st_M)
  | 0, _, m => some (none, m)
  | k + 1, i, m => if i < m.2.2.2.2.1 then (match ma_go n.1 (n.2.2.2 (m.2.2.2.1 i)) (m.2.2.2.1 i) root n.1 0 m with
      | none => none
      | some (some e, m') => some (some e, m')
      | some (none, m') => ma_wl n root k (i + 1) m') else some (none, m)
def ma_st (m : st_M) (root : Nat) : st_M := ma_enq (m.1, (fun i => if i < 16 then none else m.2.1 i), mi_it (fun i f => up_N f i i) 16 0 m.2.2.1, m.2.2.2.1, 0, 0) root
theorem ma_it_id (f : Nat → Nat) : ∀ k, mi_it (fun i f => up_N f i i) k 0 f = fun j => if j < k then j else f j := by
  have key : ∀ k i (f : Nat → Nat), mi_it (fun i f => up_N f i i) k i f = fun j => if i ≤ j ∧ j < i + k then j else f j := by
    intro k
    induction k with
    | zero => intro i f; funext j; rw [mi_it, if_neg (by omega)]
    | succ k ih =>
      intro i f
      rw [mi_it, ih]
      funext j
      unfold up_N
      by_cases h : j = i
      · subst h
        simp only [if_true, Nat.le_refl, true_and]
        rw [if_neg (by omega), if_pos (by omega)]
      · rw [if_neg h]
        by_cases h2 : i + 1 ≤ j ∧ j < i + 1 + k
        · rw [if_pos h2, if_pos (by omega)]
        · rw [if_neg h2, if_neg (by omega)]
  intro k
  rw [key]
  funext j
  simp only [Nat.zero_le, true_and, Nat.zero_add]
theorem ma_ok_st {m : st_M} (ok : ma_ok m) : ma_ok (m.1, (fun i => if i < 16 then none else m.2.1 i), mi_it (fun i f => up_N f i i) 16 0 m.2.2.1, m.2.2.2.1, 0, 0) := by
  refine ⟨ok.1, fun i v h => ?_, fun i => ?_, ok.2.2.2.1, Nat.zero_le _⟩
  · dsimp only at h
    split at h
    · cases h
    · exact ok.2.1 i v h
  · dsimp only
    rw [ma_it_id]
    dsimp only
    split
    · assumption
    · exact ok.2.2.1 i
theorem ma_st_ok {m : st_M} {root : Nat} (ok : ma_ok m) (hr : root < 16) : ma_ok (ma_st m root) := ma_enq_ok (ma_ok_st ok) hr
theorem ma_wl_ok {n : st_N} {root : Nat} (hn : n.1 ≤ 16) : ∀ (k i : Nat) (m : st_M) (o : Option Nat) (m' : st_M), ma_ok m → ma_wl n root k i m = some (o, m') → ma_ok m' ∧ ∀ w, o = some w → w < 16 := by
  intro k
  induction k with
  | zero =>
    intro i m o m' ok h
    cases h
    exact ⟨ok, fun w h => by cases h⟩
  | succ k ih =>
    intro i m o m' ok h
    rw [ma_wl] at h
    split at h
    · cases hg : ma_go n.1 (n.2.2.2 (m.2.2.2.1 i)) (m.2.2.2.1 i) root n.1 0 m with
      | none => rw [hg] at h; cases h
      | some p =>
        obtain ⟨o2, m2⟩ := p
        have h2 := ma_go_ok hn (ok.2.2.2.1 i) _ _ _ _ _ (by omega) ok hg
        rw [hg] at h
        cases o2 with
        | none => exact ih _ _ _ _ h2.1 h
        | some e =>
          cases h
          exact h2
    · cases h
      exact ⟨ok, fun w h => by cases h⟩
theorem g_wayFrom {d root : Nat} {o : Option Nat} {m' : st_M} {r : Option mi_V × mi_H} {n : st_N} {zj : st_X} {za : st_X} {zc : st_C} {ze : st_E} {zp : st_P} {zx : st_S} {zu : st_U} {zm : st_M} {zk : (Nat → Nat)} {zr : st_R} (hn : nt_ok n) (ok : ma_ok zm) (hr : root < 16) (hc : ma_wl n root 16 0 (ma_st zm root) = some (o, m')) : mi_Go cs_P cs_mx (d + 4) 73 0 [some (.inr (.inr (some 55))), some (.inl (nI root)), none, none] [] (hp n zj za zc ze zp zx zu zm zk zr) r ↔ r = (some (.inl (cn_o o)), hp n zj za zc ze zp zx zu m' zk zr) := by
  have hn1 := hn.1
  have hN : Int32.ofNat 16 = nI 16 := rfl
  have lp : ∀ k i (m : st_M) x, i + k = 16 → ma_ok m → ma_wl n root k i m = some (o, m') → (mi_Go cs_P cs_mx (d + 4) 73 46 [some (.inr (.inr (some 55))), some (.inl (nI root)), some (.inl (nI i)), x] [] (hp n zj za zc ze zp zx zu m zk zr) r ↔ r = (some (.inl (cn_o o)), hp n zj za zc ze zp zx zu m' zk zr)) := by
    intro k
    induction k with
    | zero =>
      intro i m x e om h
      have hq := om.2.2.2.2
      cases h
      rw [ru_73_46]
      simp (maxSteps := 1000000) (disch := first | omega | assumption | (dsimp only; omega)) only [ru_73_0, ru_73_1, ru_73_4, ru_73_5, ru_73_8, ru_73_9, ru_73_11, ru_73_13, ru_73_16, ru_73_17, ru_73_20, ru_73_21, ru_73_22, ru_73_23, ru_73_26, ru_73_29, ru_73_30, ru_73_31, ru_73_34, ru_73_35, ru_73_36, ru_73_39, ru_73_40, ru_73_41, ru_73_44, ru_73_45, ru_73_47, ru_73_48, ru_73_51, ru_73_54, ru_73_55, ru_73_57, ru_73_60, ru_73_61, ru_73_62, ru_73_65, ru_73_66, ru_73_67, ru_73_68, ru_73_71, ru_73_72, ru_73_73, ru_73_76, ru_73_77, ru_73_78, ru_73_81, ru_73_84, ru_73_85, mi_nl_i, mi_nl_r, mi_nl_n, mi_c1_i, mi_c1_r, true_and, and_true, exists_eq_left, exists_eq_left', Option.some.injEq, Option.toList_some, Option.toList_none, List.cons_append, List.nil_append, List.getElem?_cons_zero, List.getElem?_cons_succ, List.set_cons_zero, List.set_cons_succ, cn_t0, cn_tz, cn_z0, cn_z1, cn_ix, cn_lt0, cn_lz, cn_m1, not_true_eq_false, or_true, true_or, eq_self, Nat.add_one_ne_zero, Nat.not_lt_zero, if_false, if_true, not_false_eq_true, List.length_cons, List.length_nil, Nat.reduceAdd, Nat.reduceLT, cn_in, cn_shl, cn_all, cn_sub, nI_add, nI_eq, nI_leI, nI_ltI, nI_clamp, nm_and, nm_or, nm_not, up_nI, up_cO, up_cS, rd_0, rd_1, rd_2, rd_3, rd_4, rd_5, rd_6, rd_7, rd_8, rd_9, rd_10, rd_11, rd_12, rd_13, rd_14, rr_14, rd_31, rd_32, rd_33, rd_34, rd_35, rd_36, rd_37, rr_37, rd_54, rd_55, rd_56, rd_57, rd_58, rd_59, rd_60, rd_61, rd_62, rd_63, rd_64, rd_65, rd_66, rd_67, rd_68, wr_1, wr_2, wr_3, wr_4, wr_5, wr_6, wr_7, wr_8, wr_9, wr_10, wr_11, wr_12, wr_14, rw_14, wr_31, wr_32, wr_33, wr_34, wr_35, wr_37, rw_37, wr_54, wr_55, wr_56, wr_57, wr_58, wr_59, wr_60, wr_61, wr_62, wr_63, wr_64, wr_65, wr_66, wr_67, wr_68, show m'.2.2.2.2.1 ≤ i by omega, cn_oN]
    | succ k ih =>
      intro i m x e om h
      have hq := om.2.2.2.2
      have hqi := om.2.2.2.1 i
      rw [ma_wl] at h
      rw [ru_73_46]
      by_cases h1 : i < m.2.2.2.2.1
      · rw [if_pos h1] at h
        cases hg : ma_go n.1 (n.2.2.2 (m.2.2.2.1 i)) (m.2.2.2.1 i) root n.1 0 m with
        | none => rw [hg] at h; cases h
        | some p =>
          obtain ⟨o2, m2⟩ := p
          have h2 := ma_go_ok hn1 hqi _ _ _ _ _ (by omega) om hg
          rw [hg] at h
          have t1 := fun r => g_goOnFrom (d := d) (r := r) (n := n) (zj := zj) (za := za) (zc := zc) (ze := ze) (zp := zp) (zx := zx) (zu := zu) (zm := m) (zk := zk) (zr := zr) hn om hqi hr hg
          cases o2 with
          | none =>
            have ih := ih (i + 1) m2 (some (.inl (-1))) (by omega) h2.1 h
            rw [cn_oN] at t1
            simp (maxSteps := 1000000) (disch := first | omega | assumption | (dsimp only; omega)) only [ru_73_0, ru_73_1, ru_73_4, ru_73_5, ru_73_8, ru_73_9, ru_73_11, ru_73_13, ru_73_16, ru_73_17, ru_73_20, ru_73_21, ru_73_22, ru_73_23, ru_73_26, ru_73_29, ru_73_30, ru_73_31, ru_73_34, ru_73_35, ru_73_36, ru_73_39, ru_73_40, ru_73_41, ru_73_44, ru_73_45, ru_73_47, ru_73_48, ru_73_51, ru_73_54, ru_73_55, ru_73_57, ru_73_60, ru_73_61, ru_73_62, ru_73_65, ru_73_66, ru_73_67, ru_73_68, ru_73_71, ru_73_72, ru_73_73, ru_73_76, ru_73_77, ru_73_78, ru_73_81, ru_73_84, ru_73_85, mi_nl_i, mi_nl_r, mi_nl_n, mi_c1_i, mi_c1_r, true_and, and_true, exists_eq_left, exists_eq_left', Option.some.injEq, Option.toList_some, Option.toList_none, List.cons_append, List.nil_append, List.getElem?_cons_zero, List.getElem?_cons_succ, List.set_cons_zero, List.set_cons_succ, cn_t0, cn_tz, cn_z0, cn_z1, cn_ix, cn_lt0, cn_lz, cn_m1, not_true_eq_false, or_true, true_or, eq_self, Nat.add_one_ne_zero, Nat.not_lt_zero, if_false, if_true, not_false_eq_true, List.length_cons, List.length_nil, Nat.reduceAdd, Nat.reduceLT, cn_in, cn_shl, cn_all, cn_sub, nI_add, nI_eq, nI_leI, nI_ltI, nI_clamp, nm_and, nm_or, nm_not, up_nI, up_cO, up_cS, rd_0, rd_1, rd_2, rd_3, rd_4, rd_5, rd_6, rd_7, rd_8, rd_9, rd_10, rd_11, rd_12, rd_13, rd_14, rr_14, rd_31, rd_32, rd_33, rd_34, rd_35, rd_36, rd_37, rr_37, rd_54, rd_55, rd_56, rd_57, rd_58, rd_59, rd_60, rd_61, rd_62, rd_63, rd_64, rd_65, rd_66, rd_67, rd_68, wr_1, wr_2, wr_3, wr_4, wr_5, wr_6, wr_7, wr_8, wr_9, wr_10, wr_11, wr_12, wr_14, rw_14, wr_31, wr_32, wr_33, wr_34, wr_35, wr_37, rw_37, wr_54, wr_55, wr_56, wr_57, wr_58, wr_59, wr_60, wr_61, wr_62, wr_63, wr_64, wr_65, wr_66, wr_67, wr_68, Nat.not_le.mpr h1, show ¬ 16 ≤ i by omega, t1]
            exact ih
          | some e =>
            have he := h2.2 e rfl
            cases h
            rw [cn_oS] at t1
            simp (maxSteps := 1000000) (disch := first | omega | assumption | (dsimp only; omega)) only [ru_73_0, ru_73_1, ru_73_4, ru_73_5, ru_73_8, ru_73_9, ru_73_11, ru_73_13, ru_73_16, ru_73_17, ru_73_20, ru_73_21, ru_73_22, ru_73_23, ru_73_26, ru_73_29, ru_73_30, ru_73_31, ru_73_34, ru_73_35, ru_73_36, ru_73_39, ru_73_40, ru_73_41, ru_73_44, ru_73_45, ru_73_47, ru_73_48, ru_73_51, ru_73_54, ru_73_55, ru_73_57, ru_73_60, ru_73_61, ru_73_62, ru_73_65, ru_73_66, ru_73_67, ru_73_68, ru_73_71, ru_73_72, ru_73_73, ru_73_76, ru_73_77, ru_73_78, ru_73_81, ru_73_84, ru_73_85, mi_nl_i, mi_nl_r, mi_nl_n, mi_c1_i, mi_c1_r, true_and, and_true, exists_eq_left, exists_eq_left', Option.some.injEq, Option.toList_some, Option.toList_none, List.cons_append, List.nil_append, List.getElem?_cons_zero, List.getElem?_cons_succ, List.set_cons_zero, List.set_cons_succ, cn_t0, cn_tz, cn_z0, cn_z1, cn_ix, cn_lt0, cn_lz, cn_m1, not_true_eq_false, or_true, true_or, eq_self, Nat.add_one_ne_zero, Nat.not_lt_zero, if_false, if_true, not_false_eq_true, List.length_cons, List.length_nil, Nat.reduceAdd, Nat.reduceLT, cn_in, cn_shl, cn_all, cn_sub, nI_add, nI_eq, nI_leI, nI_ltI, nI_clamp, nm_and, nm_or, nm_not, up_nI, up_cO, up_cS, rd_0, rd_1, rd_2, rd_3, rd_4, rd_5, rd_6, rd_7, rd_8, rd_9, rd_10, rd_11, rd_12, rd_13, rd_14, rr_14, rd_31, rd_32, rd_33, rd_34, rd_35, rd_36, rd_37, rr_37, rd_54, rd_55, rd_56, rd_57, rd_58, rd_59, rd_60, rd_61, rd_62, rd_63, rd_64, rd_65, rd_66, rd_67, rd_68, wr_1, wr_2, wr_3, wr_4, wr_5, wr_6, wr_7, wr_8, wr_9, wr_10, wr_11, wr_12, wr_14, rw_14, wr_31, wr_32, wr_33, wr_34, wr_35, wr_37, rw_37, wr_54, wr_55, wr_56, wr_57, wr_58, wr_59, wr_60, wr_61, wr_62, wr_63, wr_64, wr_65, wr_66, wr_67, wr_68, Nat.not_le.mpr h1, show ¬ 16 ≤ i by omega, t1, cn_oS]
      · rw [if_neg h1] at h
        cases h
        simp (maxSteps := 1000000) (disch := first | omega | assumption | (dsimp only; omega)) only [ru_73_0, ru_73_1, ru_73_4, ru_73_5, ru_73_8, ru_73_9, ru_73_11, ru_73_13, ru_73_16, ru_73_17, ru_73_20, ru_73_21, ru_73_22, ru_73_23, ru_73_26, ru_73_29, ru_73_30, ru_73_31, ru_73_34, ru_73_35, ru_73_36, ru_73_39, ru_73_40, ru_73_41, ru_73_44, ru_73_45, ru_73_47, ru_73_48, ru_73_51, ru_73_54, ru_73_55, ru_73_57, ru_73_60, ru_73_61, ru_73_62, ru_73_65, ru_73_66, ru_73_67, ru_73_68, ru_73_71, ru_73_72, ru_73_73, ru_73_76, ru_73_77, ru_73_78, ru_73_81, ru_73_84, ru_73_85, mi_nl_i, mi_nl_r, mi_nl_n, mi_c1_i, mi_c1_r, true_and, and_true, exists_eq_left, exists_eq_left', Option.some.injEq, Option.toList_some, Option.toList_none, List.cons_append, List.nil_append, List.getElem?_cons_zero, List.getElem?_cons_succ, List.set_cons_zero, List.set_cons_succ, cn_t0, cn_tz, cn_z0, cn_z1, cn_ix, cn_lt0, cn_lz, cn_m1, not_true_eq_false, or_true, true_or, eq_self, Nat.add_one_ne_zero, Nat.not_lt_zero, if_false, if_true, not_false_eq_true, List.length_cons, List.length_nil, Nat.reduceAdd, Nat.reduceLT, cn_in, cn_shl, cn_all, cn_sub, nI_add, nI_eq, nI_leI, nI_ltI, nI_clamp, nm_and, nm_or, nm_not, up_nI, up_cO, up_cS, rd_0, rd_1, rd_2, rd_3, rd_4, rd_5, rd_6, rd_7, rd_8, rd_9, rd_10, rd_11, rd_12, rd_13, rd_14, rr_14, rd_31, rd_32, rd_33, rd_34, rd_35, rd_36, rd_37, rr_37, rd_54, rd_55, rd_56, rd_57, rd_58, rd_59, rd_60, rd_61, rd_62, rd_63, rd_64, rd_65, rd_66, rd_67, rd_68, wr_1, wr_2, wr_3, wr_4, wr_5, wr_6, wr_7, wr_8, wr_9, wr_10, wr_11, wr_12, wr_14, rw_14, wr_31, wr_32, wr_33, wr_34, wr_35, wr_37, rw_37, wr_54, wr_55, wr_56, wr_57, wr_58, wr_59, wr_60, wr_61, wr_62, wr_63, wr_64, wr_65, wr_66, wr_67, wr_68, Nat.not_lt.mp h1, cn_oN]
  have t1 : ∀ r, mi_Go cs_P cs_mx (d + 3) 30 0 [some (.inr (.inr (some 57))), some (.inl (-1)), none, none] [] (hp n zj za zc ze zp zx zu zm zk zr) r ↔ r = (none, hp n zj za zc ze zp zx zu (zm.1, (fun i => if i < 16 then none else zm.2.1 i), zm.2.2.1, zm.2.2.2.1, zm.2.2.2.2.1, zm.2.2.2.2.2) zk zr) := fun r => g_fill (enc := cn_o) (x := none) (len := 16) (f := zm.2.1) (H := fun f => hp n zj za zc ze zp zx zu (zm.1, f, zm.2.2.1, zm.2.2.2.1, zm.2.2.2.2.1, zm.2.2.2.2.2) zk zr) (fun _ => rfl) (fun _ _ => rfl) (by decide)
  have t2 := fun r => g_enqueue (d := d + 2) (r := r) (n := n) (zj := zj) (za := za) (zc := zc) (ze := ze) (zp := zp) (zx := zx) (zu := zu) (zm := (zm.1, (fun i => if i < 16 then none else zm.2.1 i), mi_it (fun i f => up_N f i i) 16 0 zm.2.2.1, zm.2.2.2.1, 0, 0)) (zk := zk) (zr := zr) (ma_ok_st ok) hr
  have lb : ∀ f, mi_Go cs_P cs_mx (d + 4) 73 10 [some (.inr (.inr (some 55))), some (.inl (nI root)), some (.inl (nI 0)), none] [] (hp n zj za zc ze zp zx zu (zm.1, (fun i => if i < 16 then none else zm.2.1 i), f, zm.2.2.2.1, zm.2.2.2.2.1, zm.2.2.2.2.2) zk zr) r ↔ mi_Go cs_P cs_mx (d + 4) 73 29 [some (.inr (.inr (some 55))), some (.inl (nI root)), some (.inl (nI 16)), none] [] (hp n zj za zc ze zp zx zu (zm.1, (fun i => if i < 16 then none else zm.2.1 i), mi_it (fun i f => up_N f i i) 16 0 f, zm.2.2.2.1, zm.2.2.2.2.1, zm.2.2.2.2.2) zk zr) r := fun f => mi_loop0 (n := 16) (f := fun i f => up_N f i i) (A := fun i f => mi_Go cs_P cs_mx (d + 4) 73 10 [some (.inr (.inr (some 55))), some (.inl (nI root)), some (.inl (nI i)), none] [] (hp n zj za zc ze zp zx zu (zm.1, (fun i => if i < 16 then none else zm.2.1 i), f, zm.2.2.2.1, zm.2.2.2.2.1, zm.2.2.2.2.2) zk zr) r) (B := fun f => mi_Go cs_P cs_mx (d + 4) 73 29 [some (.inr (.inr (some 55))), some (.inl (nI root)), some (.inl (nI 16)), none] [] (hp n zj za zc ze zp zx zu (zm.1, (fun i => if i < 16 then none else zm.2.1 i), f, zm.2.2.2.1, zm.2.2.2.2.1, zm.2.2.2.2.2) zk zr) r) (fun i f hi => by
      rw [ru_73_10]
      simp (maxSteps := 1000000) (disch := first | omega | assumption | (dsimp only; omega)) only [ru_73_11, ru_73_13, ru_73_16, ru_73_17, ru_73_20, ru_73_21, ru_73_22, ru_73_23, ru_73_26, mi_nl_i, mi_nl_r, mi_nl_n, mi_c1_i, mi_c1_r, true_and, and_true, exists_eq_left, exists_eq_left', Option.some.injEq, Option.toList_some, Option.toList_none, List.cons_append, List.nil_append, List.getElem?_cons_zero, List.getElem?_cons_succ, List.set_cons_zero, List.set_cons_succ, cn_t0, cn_tz, cn_z0, cn_z1, cn_ix, cn_lt0, cn_lz, cn_m1, not_true_eq_false, or_true, true_or, eq_self, Nat.add_one_ne_zero, Nat.not_lt_zero, if_false, if_true, not_false_eq_true, List.length_cons, List.length_nil, Nat.reduceAdd, Nat.reduceLT, cn_in, cn_shl, cn_all, cn_sub, nI_add, nI_eq, nI_leI, nI_ltI, nI_clamp, nm_and, nm_or, nm_not, up_nI, up_cO, up_cS, rd_0, rd_1, rd_2, rd_3, rd_4, rd_5, rd_6, rd_7, rd_8, rd_9, rd_10, rd_11, rd_12, rd_13, rd_14, rr_14, rd_31, rd_32, rd_33, rd_34, rd_35, rd_36, rd_37, rr_37, rd_54, rd_55, rd_56, rd_57, rd_58, rd_59, rd_60, rd_61, rd_62, rd_63, rd_64, rd_65, rd_66, rd_67, rd_68, wr_1, wr_2, wr_3, wr_4, wr_5, wr_6, wr_7, wr_8, wr_9, wr_10, wr_11, wr_12, wr_14, rw_14, wr_31, wr_32, wr_33, wr_34, wr_35, wr_37, rw_37, wr_54, wr_55, wr_56, wr_57, wr_58, wr_59, wr_60, wr_61, wr_62, wr_63, wr_64, wr_65, wr_66, wr_67, wr_68, show ¬ 16 ≤ i by omega]) (fun f => by
      rw [ru_73_10]
      simp (maxSteps := 1000000) (disch := first | omega | assumption | (dsimp only; omega)) only [ru_73_11, ru_73_13, mi_nl_i, mi_nl_r, mi_nl_n, mi_c1_i, mi_c1_r, true_and, and_true, exists_eq_left, exists_eq_left', Option.some.injEq, Option.toList_some, Option.toList_none, List.cons_append, List.nil_append, List.getElem?_cons_zero, List.getElem?_cons_succ, List.set_cons_zero, List.set_cons_succ, cn_t0, cn_tz, cn_z0, cn_z1, cn_ix, cn_lt0, cn_lz, cn_m1, not_true_eq_false, or_true, true_or, eq_self, Nat.add_one_ne_zero, Nat.not_lt_zero, if_false, if_true, not_false_eq_true, List.length_cons, List.length_nil, Nat.reduceAdd, Nat.reduceLT, cn_in, cn_shl, cn_all, cn_sub, nI_add, nI_eq, nI_leI, nI_ltI, nI_clamp, nm_and, nm_or, nm_not, up_nI, up_cO, up_cS, rd_0, rd_1, rd_2, rd_3, rd_4, rd_5, rd_6, rd_7, rd_8, rd_9, rd_10, rd_11, rd_12, rd_13, rd_14, rr_14, rd_31, rd_32, rd_33, rd_34, rd_35, rd_36, rd_37, rr_37, rd_54, rd_55, rd_56, rd_57, rd_58, rd_59, rd_60, rd_61, rd_62, rd_63, rd_64, rd_65, rd_66, rd_67, rd_68, wr_1, wr_2, wr_3, wr_4, wr_5, wr_6, wr_7, wr_8, wr_9, wr_10, wr_11, wr_12, wr_14, rw_14, wr_31, wr_32, wr_33, wr_34, wr_35, wr_37, rw_37, wr_54, wr_55, wr_56, wr_57, wr_58, wr_59, wr_60, wr_61, wr_62, wr_63, wr_64, wr_65, wr_66, wr_67, wr_68, Nat.le_refl]) 16 0 f (by decide)
  simp (maxSteps := 1000000) (disch := first | omega | assumption | (dsimp only; omega)) only [ru_73_0, ru_73_1, ru_73_4, ru_73_5, ru_73_8, ru_73_9, ru_73_11, ru_73_13, ru_73_16, ru_73_17, ru_73_20, ru_73_21, ru_73_22, ru_73_23, ru_73_26, ru_73_29, ru_73_30, ru_73_31, ru_73_34, ru_73_35, ru_73_36, ru_73_39, ru_73_40, ru_73_41, ru_73_44, ru_73_45, ru_73_47, ru_73_48, ru_73_51, ru_73_54, ru_73_55, ru_73_57, ru_73_60, ru_73_61, ru_73_62, ru_73_65, ru_73_66, ru_73_67, ru_73_68, ru_73_71, ru_73_72, ru_73_73, ru_73_76, ru_73_77, ru_73_78, ru_73_81, ru_73_84, ru_73_85, mi_nl_i, mi_nl_r, mi_nl_n, mi_c1_i, mi_c1_r, true_and, and_true, exists_eq_left, exists_eq_left', Option.some.injEq, Option.toList_some, Option.toList_none, List.cons_append, List.nil_append, List.getElem?_cons_zero, List.getElem?_cons_succ, List.set_cons_zero, List.set_cons_succ, cn_t0, cn_tz, cn_z0, cn_z1, cn_ix, cn_lt0, cn_lz, cn_m1, not_true_eq_false, or_true, true_or, eq_self, Nat.add_one_ne_zero, Nat.not_lt_zero, if_false, if_true, not_false_eq_true, List.length_cons, List.length_nil, Nat.reduceAdd, Nat.reduceLT, cn_in, cn_shl, cn_all, cn_sub, nI_add, nI_eq, nI_leI, nI_ltI, nI_clamp, nm_and, nm_or, nm_not, up_nI, up_cO, up_cS, rd_0, rd_1, rd_2, rd_3, rd_4, rd_5, rd_6, rd_7, rd_8, rd_9, rd_10, rd_11, rd_12, rd_13, rd_14, rr_14, rd_31, rd_32, rd_33, rd_34, rd_35, rd_36, rd_37, rr_37, rd_54, rd_55, rd_56, rd_57, rd_58, rd_59, rd_60, rd_61, rd_62, rd_63, rd_64, rd_65, rd_66, rd_67, rd_68, wr_1, wr_2, wr_3, wr_4, wr_5, wr_6, wr_7, wr_8, wr_9, wr_10, wr_11, wr_12, wr_14, rw_14, wr_31, wr_32, wr_33, wr_34, wr_35, wr_37, rw_37, wr_54, wr_55, wr_56, wr_57, wr_58, wr_59, wr_60, wr_61, wr_62, wr_63, wr_64, wr_65, wr_66, wr_67, wr_68, t1, lb, t2]
  exact lp 16 0 (ma_st zm root) none (by decide) (ma_st_ok ok hr) hc
def ma_flm (m : st_M) (e : Nat) : st_M := (ma_fl m.2.1 16 m.1 (some e), m.2.1, m.2.2.1, m.2.2.2.1, m.2.2.2.2.1, m.2.2.2.2.2)
def ma_sl (n : st_N) : Nat → Nat → Nat → st_M → Option (Nat × st_M)
  | 0, _, c, m => some (c, m)
  | k + 1, v, c, m => if m.1 v = none then (match ma_wl n v 16 0 (ma_st m v) with
      | none => none
      | some (some e, m') => ma_sl n k (v + 1) (c + 1) (ma_flm m' e)
      | some (none, m') => ma_sl n k (v + 1) c m') else ma_sl n k (v + 1) c m
theorem ma_fl_ok {fr : Nat → Option Nat} (hf : ∀ i v, fr i = some v → v < 16) : ∀ (k : Nat) (m : Nat → Option Nat) (o : Option Nat), (∀ i v, m i = some v → v < 16) → (∀ v, o = some v → v < 16) → ∀ i v, ma_fl fr k m o i = some v → v < 16 := by
  intro k
  induction k with
  | zero => intro m o hm ho; exact hm
  | succ k ih =>
    intro m o hm ho
    cases o with
    | none => exact hm
    | some v =>
      rw [ma_fl]
      cases h : fr v with
      | none => exact hm
      | some b => exact ih _ _ (up_O_lt (up_O_lt hm (fun w e => by cases e; exact hf v b h)) (fun w e => by cases e; exact ho v rfl)) (fun w e => hm b w e)
theorem ma_flm_ok {m : st_M} {e : Nat} (ok : ma_ok m) (he : e < 16) : ma_ok (ma_flm m e) := ⟨ma_fl_ok ok.2.1 _ _ _ ok.1 (fun v h => by cases h; exact he), ok.2⟩
def ma_size (n : st_N) (m : st_M) : Option (Nat × st_M) := ma_sl n n.1 0 0 ((fun i => if i < 16 then none else m.1 i), m.2)
theorem g_msize {d c : Nat} {m' : st_M} {r : Option mi_V × mi_H} {n : st_N} {zj : st_X} {za : st_X} {zc : st_C} {ze : st_E} {zp : st_P} {zx : st_S} {zu : st_U} {zm : st_M} {zk : (Nat → Nat)} {zr : st_R} (hn : nt_ok n) (ok : ma_ok zm) (hc : ma_size n zm = some (c, m')) : mi_Go cs_P cs_mx (d + 5) 72 0 [some (.inr (.inr (some 55))), none, none, none] [] (hp n zj za zc ze zp zx zu zm zk zr) r ↔ r = (some (.inl (nI c)), hp n zj za zc ze zp zx zu m' zk zr) := by
  have hn1 := hn.1
  have lp : ∀ k v c0 (m : st_M) x, v + k = n.1 → ma_ok m → ma_sl n k v c0 m = some (c, m') → (mi_Go cs_P cs_mx (d + 5) 72 12 [some (.inr (.inr (some 55))), some (.inl (nI c0)), some (.inl (nI v)), x] [] (hp n zj za zc ze zp zx zu m zk zr) r ↔ r = (some (.inl (nI c)), hp n zj za zc ze zp zx zu m' zk zr)) := by
    intro k
    induction k with
    | zero =>
      intro v c0 m x e om h
      cases h
      rw [ru_72_12]
      simp (maxSteps := 1000000) (disch := first | omega | assumption | (dsimp only; omega)) only [ru_72_0, ru_72_1, ru_72_4, ru_72_5, ru_72_8, ru_72_9, ru_72_10, ru_72_11, ru_72_13, ru_72_14, ru_72_17, ru_72_20, ru_72_23, ru_72_24, ru_72_27, ru_72_28, ru_72_29, ru_72_32, ru_72_33, ru_72_34, ru_72_37, ru_72_40, ru_72_41, ru_72_42, ru_72_43, ru_72_46, ru_72_47, ru_72_48, ru_72_51, ru_72_54, ru_72_57, ru_72_60, ru_72_61, mi_nl_i, mi_nl_r, mi_nl_n, mi_c1_i, mi_c1_r, true_and, and_true, exists_eq_left, exists_eq_left', Option.some.injEq, Option.toList_some, Option.toList_none, List.cons_append, List.nil_append, List.getElem?_cons_zero, List.getElem?_cons_succ, List.set_cons_zero, List.set_cons_succ, cn_t0, cn_tz, cn_z0, cn_z1, cn_ix, cn_lt0, cn_lz, cn_m1, not_true_eq_false, or_true, true_or, eq_self, Nat.add_one_ne_zero, Nat.not_lt_zero, if_false, if_true, not_false_eq_true, List.length_cons, List.length_nil, Nat.reduceAdd, Nat.reduceLT, cn_in, cn_shl, cn_all, cn_sub, nI_add, nI_eq, nI_leI, nI_ltI, nI_clamp, nm_and, nm_or, nm_not, up_nI, up_cO, up_cS, rd_0, rd_1, rd_2, rd_3, rd_4, rd_5, rd_6, rd_7, rd_8, rd_9, rd_10, rd_11, rd_12, rd_13, rd_14, rr_14, rd_31, rd_32, rd_33, rd_34, rd_35, rd_36, rd_37, rr_37, rd_54, rd_55, rd_56, rd_57, rd_58, rd_59, rd_60, rd_61, rd_62, rd_63, rd_64, rd_65, rd_66, rd_67, rd_68, wr_1, wr_2, wr_3, wr_4, wr_5, wr_6, wr_7, wr_8, wr_9, wr_10, wr_11, wr_12, wr_14, rw_14, wr_31, wr_32, wr_33, wr_34, wr_35, wr_37, rw_37, wr_54, wr_55, wr_56, wr_57, wr_58, wr_59, wr_60, wr_61, wr_62, wr_63, wr_64, wr_65, wr_66, wr_67, wr_68, show n.1 ≤ v by omega]
    | succ k ih =>
      intro v c0 m x e om h
      rw [ma_sl] at h
      rw [ru_72_12]
      cases hm : m.1 v with
      | none =>
        rw [if_pos hm] at h
        cases hw : ma_wl n v 16 0 (ma_st m v) with
        | none => rw [hw] at h; cases h
        | some p =>
          obtain ⟨o, m2⟩ := p
          rw [hw] at h
          have hv : v < 16 := by omega
          have h2 := ma_wl_ok hn1 _ _ _ _ _ (ma_st_ok om hv) hw
          have t1 := fun r => g_wayFrom (d := d) (r := r) (n := n) (zj := zj) (za := za) (zc := zc) (ze := ze) (zp := zp) (zx := zx) (zu := zu) (zm := m) (zk := zk) (zr := zr) hn om hv hw
          cases o with
          | none =>
            have ih := ih (v + 1) c0 m2 (some (.inl (-1))) (by omega) h2.1 h
            rw [cn_oN] at t1
            simp (maxSteps := 1000000) (disch := first | omega | assumption | (dsimp only; omega)) only [ru_72_0, ru_72_1, ru_72_4, ru_72_5, ru_72_8, ru_72_9, ru_72_10, ru_72_11, ru_72_13, ru_72_14, ru_72_17, ru_72_20, ru_72_23, ru_72_24, ru_72_27, ru_72_28, ru_72_29, ru_72_32, ru_72_33, ru_72_34, ru_72_37, ru_72_40, ru_72_41, ru_72_42, ru_72_43, ru_72_46, ru_72_47, ru_72_48, ru_72_51, ru_72_54, ru_72_57, ru_72_60, ru_72_61, mi_nl_i, mi_nl_r, mi_nl_n, mi_c1_i, mi_c1_r, true_and, and_true, exists_eq_left, exists_eq_left', Option.some.injEq, Option.toList_some, Option.toList_none, List.cons_append, List.nil_append, List.getElem?_cons_zero, List.getElem?_cons_succ, List.set_cons_zero, List.set_cons_succ, cn_t0, cn_tz, cn_z0, cn_z1, cn_ix, cn_lt0, cn_lz, cn_m1, not_true_eq_false, or_true, true_or, eq_self, Nat.add_one_ne_zero, Nat.not_lt_zero, if_false, if_true, not_false_eq_true, List.length_cons, List.length_nil, Nat.reduceAdd, Nat.reduceLT, cn_in, cn_shl, cn_all, cn_sub, nI_add, nI_eq, nI_leI, nI_ltI, nI_clamp, nm_and, nm_or, nm_not, up_nI, up_cO, up_cS, rd_0, rd_1, rd_2, rd_3, rd_4, rd_5, rd_6, rd_7, rd_8, rd_9, rd_10, rd_11, rd_12, rd_13, rd_14, rr_14, rd_31, rd_32, rd_33, rd_34, rd_35, rd_36, rd_37, rr_37, rd_54, rd_55, rd_56, rd_57, rd_58, rd_59, rd_60, rd_61, rd_62, rd_63, rd_64, rd_65, rd_66, rd_67, rd_68, wr_1, wr_2, wr_3, wr_4, wr_5, wr_6, wr_7, wr_8, wr_9, wr_10, wr_11, wr_12, wr_14, rw_14, wr_31, wr_32, wr_33, wr_34, wr_35, wr_37, rw_37, wr_54, wr_55, wr_56, wr_57, wr_58, wr_59, wr_60, wr_61, wr_62, wr_63, wr_64, wr_65, wr_66, wr_67, wr_68, show ¬ n.1 ≤ v by omega, hm, cn_oN, cn_m1p, t1]
            exact ih
          | some e0 =>
            have he := h2.2 e0 rfl
            have ih := ih (v + 1) (c0 + 1) (ma_flm m2 e0) (some (.inl (nI e0))) (by omega) (ma_flm_ok h2.1 he) h
            rw [cn_oS] at t1
            have t2 := fun r => g_flip (d := d + 4) (r := r) (n := n) (zj := zj) (za := za) (zc := zc) (ze := ze) (zp := zp) (zx := zx) (zu := zu) (zm := m2) (zk := zk) (zr := zr) h2.1 he
            simp (maxSteps := 1000000) (disch := first | omega | assumption | (dsimp only; omega)) only [ru_72_0, ru_72_1, ru_72_4, ru_72_5, ru_72_8, ru_72_9, ru_72_10, ru_72_11, ru_72_13, ru_72_14, ru_72_17, ru_72_20, ru_72_23, ru_72_24, ru_72_27, ru_72_28, ru_72_29, ru_72_32, ru_72_33, ru_72_34, ru_72_37, ru_72_40, ru_72_41, ru_72_42, ru_72_43, ru_72_46, ru_72_47, ru_72_48, ru_72_51, ru_72_54, ru_72_57, ru_72_60, ru_72_61, mi_nl_i, mi_nl_r, mi_nl_n, mi_c1_i, mi_c1_r, true_and, and_true, exists_eq_left, exists_eq_left', Option.some.injEq, Option.toList_some, Option.toList_none, List.cons_append, List.nil_append, List.getElem?_cons_zero, List.getElem?_cons_succ, List.set_cons_zero, List.set_cons_succ, cn_t0, cn_tz, cn_z0, cn_z1, cn_ix, cn_lt0, cn_lz, cn_m1, not_true_eq_false, or_true, true_or, eq_self, Nat.add_one_ne_zero, Nat.not_lt_zero, if_false, if_true, not_false_eq_true, List.length_cons, List.length_nil, Nat.reduceAdd, Nat.reduceLT, cn_in, cn_shl, cn_all, cn_sub, nI_add, nI_eq, nI_leI, nI_ltI, nI_clamp, nm_and, nm_or, nm_not, up_nI, up_cO, up_cS, rd_0, rd_1, rd_2, rd_3, rd_4, rd_5, rd_6, rd_7, rd_8, rd_9, rd_10, rd_11, rd_12, rd_13, rd_14, rr_14, rd_31, rd_32, rd_33, rd_34, rd_35, rd_36, rd_37, rr_37, rd_54, rd_55, rd_56, rd_57, rd_58, rd_59, rd_60, rd_61, rd_62, rd_63, rd_64, rd_65, rd_66, rd_67, rd_68, wr_1, wr_2, wr_3, wr_4, wr_5, wr_6, wr_7, wr_8, wr_9, wr_10, wr_11, wr_12, wr_14, rw_14, wr_31, wr_32, wr_33, wr_34, wr_35, wr_37, rw_37, wr_54, wr_55, wr_56, wr_57, wr_58, wr_59, wr_60, wr_61, wr_62, wr_63, wr_64, wr_65, wr_66, wr_67, wr_68, show ¬ n.1 ≤ v by omega, hm, cn_oN, cn_m1p, t1, t2]
            exact ih
      | some w =>
        rw [if_neg (by rw [hm]; exact fun h => by cases h)] at h
        have hw := om.1 v w hm
        have ih := ih (v + 1) c0 m (some (.inl (-1))) (by omega) om h
        have c4 := (@cn_o_pos (m.1 v) (fun w h => om.1 v w h)).mpr (by rw [hm]; exact fun h => by cases h)
        simp (maxSteps := 1000000) (disch := first | omega | assumption | (dsimp only; omega)) only [ru_72_0, ru_72_1, ru_72_4, ru_72_5, ru_72_8, ru_72_9, ru_72_10, ru_72_11, ru_72_13, ru_72_14, ru_72_17, ru_72_20, ru_72_23, ru_72_24, ru_72_27, ru_72_28, ru_72_29, ru_72_32, ru_72_33, ru_72_34, ru_72_37, ru_72_40, ru_72_41, ru_72_42, ru_72_43, ru_72_46, ru_72_47, ru_72_48, ru_72_51, ru_72_54, ru_72_57, ru_72_60, ru_72_61, mi_nl_i, mi_nl_r, mi_nl_n, mi_c1_i, mi_c1_r, true_and, and_true, exists_eq_left, exists_eq_left', Option.some.injEq, Option.toList_some, Option.toList_none, List.cons_append, List.nil_append, List.getElem?_cons_zero, List.getElem?_cons_succ, List.set_cons_zero, List.set_cons_succ, cn_t0, cn_tz, cn_z0, cn_z1, cn_ix, cn_lt0, cn_lz, cn_m1, not_true_eq_false, or_true, true_or, eq_self, Nat.add_one_ne_zero, Nat.not_lt_zero, if_false, if_true, not_false_eq_true, List.length_cons, List.length_nil, Nat.reduceAdd, Nat.reduceLT, cn_in, cn_shl, cn_all, cn_sub, nI_add, nI_eq, nI_leI, nI_ltI, nI_clamp, nm_and, nm_or, nm_not, up_nI, up_cO, up_cS, rd_0, rd_1, rd_2, rd_3, rd_4, rd_5, rd_6, rd_7, rd_8, rd_9, rd_10, rd_11, rd_12, rd_13, rd_14, rr_14, rd_31, rd_32, rd_33, rd_34, rd_35, rd_36, rd_37, rr_37, rd_54, rd_55, rd_56, rd_57, rd_58, rd_59, rd_60, rd_61, rd_62, rd_63, rd_64, rd_65, rd_66, rd_67, rd_68, wr_1, wr_2, wr_3, wr_4, wr_5, wr_6, wr_7, wr_8, wr_9, wr_10, wr_11, wr_12, wr_14, rw_14, wr_31, wr_32, wr_33, wr_34, wr_35, wr_37, rw_37, wr_54, wr_55, wr_56, wr_57, wr_58, wr_59, wr_60, wr_61, wr_62, wr_63, wr_64, wr_65, wr_66, wr_67, wr_68, show ¬ n.1 ≤ v by omega, c4]
        exact ih
  have t1 : ∀ r, mi_Go cs_P cs_mx (d + 4) 30 0 [some (.inr (.inr (some 56))), some (.inl (-1)), none, none] [] (hp n zj za zc ze zp zx zu zm zk zr) r ↔ r = (none, hp n zj za zc ze zp zx zu ((fun i => if i < 16 then none else zm.1 i), zm.2) zk zr) := fun r => g_fill (enc := cn_o) (x := none) (len := 16) (f := zm.1) (H := fun f => hp n zj za zc ze zp zx zu (f, zm.2) zk zr) (fun _ => rfl) (fun _ _ => rfl) (by decide)
  simp (maxSteps := 1000000) (disch := first | omega | assumption | (dsimp only; omega)) only [ru_72_0, ru_72_1, ru_72_4, ru_72_5, ru_72_8, ru_72_9, ru_72_10, ru_72_11, ru_72_13, ru_72_14, ru_72_17, ru_72_20, ru_72_23, ru_72_24, ru_72_27, ru_72_28, ru_72_29, ru_72_32, ru_72_33, ru_72_34, ru_72_37, ru_72_40, ru_72_41, ru_72_42, ru_72_43, ru_72_46, ru_72_47, ru_72_48, ru_72_51, ru_72_54, ru_72_57, ru_72_60, ru_72_61, mi_nl_i, mi_nl_r, mi_nl_n, mi_c1_i, mi_c1_r, true_and, and_true, exists_eq_left, exists_eq_left', Option.some.injEq, Option.toList_some, Option.toList_none, List.cons_append, List.nil_append, List.getElem?_cons_zero, List.getElem?_cons_succ, List.set_cons_zero, List.set_cons_succ, cn_t0, cn_tz, cn_z0, cn_z1, cn_ix, cn_lt0, cn_lz, cn_m1, not_true_eq_false, or_true, true_or, eq_self, Nat.add_one_ne_zero, Nat.not_lt_zero, if_false, if_true, not_false_eq_true, List.length_cons, List.length_nil, Nat.reduceAdd, Nat.reduceLT, cn_in, cn_shl, cn_all, cn_sub, nI_add, nI_eq, nI_leI, nI_ltI, nI_clamp, nm_and, nm_or, nm_not, up_nI, up_cO, up_cS, rd_0, rd_1, rd_2, rd_3, rd_4, rd_5, rd_6, rd_7, rd_8, rd_9, rd_10, rd_11, rd_12, rd_13, rd_14, rr_14, rd_31, rd_32, rd_33, rd_34, rd_35, rd_36, rd_37, rr_37, rd_54, rd_55, rd_56, rd_57, rd_58, rd_59, rd_60, rd_61, rd_62, rd_63, rd_64, rd_65, rd_66, rd_67, rd_68, wr_1, wr_2, wr_3, wr_4, wr_5, wr_6, wr_7, wr_8, wr_9, wr_10, wr_11, wr_12, wr_14, rw_14, wr_31, wr_32, wr_33, wr_34, wr_35, wr_37, rw_37, wr_54, wr_55, wr_56, wr_57, wr_58, wr_59, wr_60, wr_61, wr_62, wr_63, wr_64, wr_65, wr_66, wr_67, wr_68, t1]
  refine lp n.1 0 0 _ none (by omega) ⟨fun i v h => ?_, ok.2⟩ hc
  dsimp only at h
  split at h
  · cases h
  · exact ok.1 i v h
theorem g_pairs {d c : Nat} {m' : st_M} {r : Option mi_V × mi_H} {n : st_N} {zj : st_X} {za : st_X} {zc : st_C} {ze : st_E} {zp : st_P} {zx : st_S} {zu : st_U} {zm : st_M} {zk : (Nat → Nat)} {zr : st_R} (hn : nt_ok n) (ok : ma_ok zm) (hc : ma_size n zm = some (c, m')) : mi_Go cs_P cs_mx (d + 6) 71 0 [some (.inr (.inr (some 0)))] [] (hp n zj za zc ze zp zx zu zm zk zr) r ↔ r = (some (.inl (nI c)), hp n zj za zc ze zp zx zu m' zk zr) := by
  have t1 := fun r => g_msize (d := d) (r := r) (n := n) (zj := zj) (za := za) (zc := zc) (ze := ze) (zp := zp) (zx := zx) (zu := zu) (zm := zm) (zk := zk) (zr := zr) hn ok hc
  simp (maxSteps := 1000000) (disch := first | omega | assumption | (dsimp only; omega)) only [ru_71_0, ru_71_1, ru_71_4, ru_71_7, mi_nl_i, mi_nl_r, mi_nl_n, mi_c1_i, mi_c1_r, true_and, and_true, exists_eq_left, exists_eq_left', Option.some.injEq, Option.toList_some, Option.toList_none, List.cons_append, List.nil_append, List.getElem?_cons_zero, List.getElem?_cons_succ, List.set_cons_zero, List.set_cons_succ, cn_t0, cn_tz, cn_z0, cn_z1, cn_ix, cn_lt0, cn_lz, cn_m1, not_true_eq_false, or_true, true_or, eq_self, Nat.add_one_ne_zero, Nat.not_lt_zero, if_false, if_true, not_false_eq_true, List.length_cons, List.length_nil, Nat.reduceAdd, Nat.reduceLT, cn_in, cn_shl, cn_all, cn_sub, nI_add, nI_eq, nI_leI, nI_ltI, nI_clamp, nm_and, nm_or, nm_not, up_nI, up_cO, up_cS, rd_0, rd_1, rd_2, rd_3, rd_4, rd_5, rd_6, rd_7, rd_8, rd_9, rd_10, rd_11, rd_12, rd_13, rd_14, rr_14, rd_31, rd_32, rd_33, rd_34, rd_35, rd_36, rd_37, rr_37, rd_54, rd_55, rd_56, rd_57, rd_58, rd_59, rd_60, rd_61, rd_62, rd_63, rd_64, rd_65, rd_66, rd_67, rd_68, wr_1, wr_2, wr_3, wr_4, wr_5, wr_6, wr_7, wr_8, wr_9, wr_10, wr_11, wr_12, wr_14, rw_14, wr_31, wr_32, wr_33, wr_34, wr_35, wr_37, rw_37, wr_54, wr_55, wr_56, wr_57, wr_58, wr_59, wr_60, wr_61, wr_62, wr_63, wr_64, wr_65, wr_66, wr_67, wr_68, t1]

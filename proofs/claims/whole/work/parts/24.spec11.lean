/-! NearSets: the answer -/
theorem up_Tid {f : Nat → Nat → Nat} {k : Nat} : up_T f k (f k) = f := by
  funext j
  unfold up_T
  split
  · rename_i h
    rw [h]
  · rfl
def nr_z (n : st_N) (s : Nat) (ze : st_E) : st_E := (up_T ze.1 0 (up_N (fun i => if i < 5 then 0 else ze.1 0 i) 0 (2 ^ n.1 - 1)), (nr_pt n ze.2.1).1, s - 1, nr_lim n (ze.1, ze.2.1, s - 1, ze.2.2.2.1, ze.2.2.2.2), 0)
def nr_ans (n : st_N) (s : Nat) (ze : st_E) : (Nat → Nat → Nat) × Nat := nr_ext n (s - 1) (nr_z n s ze).2.2.2.1 16 0 (2 ^ n.1 - 1) ((nr_z n s ze).1, 0)
theorem nr_lim_lt {n : st_N} {ze : st_E} (hn : n.1 ≤ 16) (hs : ze.2.2.1 ≤ 4) : nr_lim n ze < 2 ^ 31 := by
  have h := mi_it_le (f := fun c t => t + min (ze.2.2.1 + 1) (nm_c 16 ((nr_pt n ze.2.1).1 c))) (b := 5) (fun i t => by omega) (nr_pt n ze.2.1).2 1 0
  have h2 := (nt_paint_is hn (2 ^ n.1 - 1) ze.2.1).2
  have h2 : (nr_pt n ze.2.1).2 ≤ 16 := h2
  unfold nr_lim
  omega
theorem g_largest {d s : Nat} {r : Option mi_V × mi_H} {n : st_N} {zj : st_X} {za : st_X} {zc : st_C} {ze : st_E} {zp : st_P} {zx : st_S} {zu : st_U} {zm : st_M} {zk : (Nat → Nat)} {zr : st_R} (ok : nt_ok n) (h1 : 1 ≤ s) (h4 : s ≤ 4) : mi_Go cs_P cs_mx (d + 20) 39 0 [some (.inr (.inr (some 12))), some (.inl (nI s))] [] (hp n zj za zc ze zp zx zu zm zk zr) r ↔ r = (some (.inl (nI (nr_ans n s ze).2)), hp n zj za zc ((nr_ans n s ze).1, (nr_z n s ze).2.1, (nr_z n s ze).2.2.1, (nr_z n s ze).2.2.2.1, (nr_ans n s ze).2) zp zx zu zm zk zr) := by
  have hn := ok.1
  have hpw : 2 ^ n.1 ≤ 2 ^ 16 := Nat.pow_le_pow_right (by decide) hn
  have hp1 : 1 ≤ 2 ^ n.1 := Nat.one_le_two_pow
  have e0 : max 0 (min s 4 - 1) = s - 1 := by omega
  have hlim := nr_lim_lt (n := n) (ze := (ze.1, ze.2.1, s - 1, ze.2.2.2.1, ze.2.2.2.2)) hn (by dsimp only; omega)
  have e2 : ∀ r, mi_Go cs_P cs_mx (d + 19) 30 0 [some (.inr (.inr (some 14))), some (.inl (nI 0)), none, none] [] (hp n zj za zc (ze.1, (nr_pt n ze.2.1).1, s - 1, nr_lim n (ze.1, ze.2.1, s - 1, ze.2.2.2.1, ze.2.2.2.2), 0) zp zx zu zm zk zr) r ↔ r = (none, hp n zj za zc (up_T ze.1 0 (fun i => if i < 5 then 0 else ze.1 0 i), (nr_pt n ze.2.1).1, s - 1, nr_lim n (ze.1, ze.2.1, s - 1, ze.2.2.2.1, ze.2.2.2.2), 0) zp zx zu zm zk zr) := by
    intro r
    have h := g_fill (enc := nI) (H := fun f => hp n zj za zc (up_T ze.1 0 f, (nr_pt n ze.2.1).1, s - 1, nr_lim n (ze.1, ze.2.1, s - 1, ze.2.2.2.1, ze.2.2.2.2), 0) zp zx zu zm zk zr) (q := 14) (len := 5) (d := d + 19) (r := r) (x := 0) (f := ze.1 0) (fun _ => rfl) (fun _ _ => by rw [wr_14, up_TT]) (by decide)
    rw [up_Tid] at h
    exact h
  have e3 : ∀ r, mi_Go cs_P cs_mx (d + 19) 45 0 [some (.inr (.inr (some 12))), some (.inl (nI 0)), some (.inl (nI (2 ^ n.1 - 1))), some (.inl (nI 0)), none, none, none, none] [] (hp n zj za zc (up_T ze.1 0 (up_N (fun i => if i < 5 then 0 else ze.1 0 i) 0 (2 ^ n.1 - 1)), (nr_pt n ze.2.1).1, s - 1, nr_lim n (ze.1, ze.2.1, s - 1, ze.2.2.2.1, ze.2.2.2.2), 0) zp zx zu zm zk zr) r ↔ r = (none, hp n zj za zc ((nr_ans n s ze).1, (nr_z n s ze).2.1, (nr_z n s ze).2.2.1, (nr_z n s ze).2.2.2.1, (nr_ans n s ze).2) zp zx zu zm zk zr) := fun r => g_extend (sl := s - 1) (lim := nr_lim n (ze.1, ze.2.1, s - 1, ze.2.2.2.1, ze.2.2.2.2)) ok (by omega) hlim 16 d 0 (2 ^ n.1 - 1) ((nr_z n s ze).1, 0) r (by decide) (by decide) (by omega) (show (0 : Nat) < 65536 by decide)
  simp (disch := first | omega | assumption | (dsimp only; omega)) only [ru_39_0, ru_39_1, ru_39_2, ru_39_3, ru_39_4, ru_39_7, ru_39_8, ru_39_9, ru_39_12, ru_39_15, ru_39_16, ru_39_17, ru_39_20, ru_39_23, ru_39_24, ru_39_25, ru_39_28, ru_39_29, ru_39_32, ru_39_33, ru_39_34, ru_39_35, ru_39_38, ru_39_39, ru_39_42, ru_39_43, ru_39_44, ru_39_45, ru_39_46, ru_39_49, ru_39_52, ru_39_53, ru_39_54, ru_39_55, ru_39_56, ru_39_59, ru_39_62, ru_39_63, ru_39_66, ru_39_67, ru_39_70, mi_nl_i, mi_nl_r, mi_nl_n, mi_c1_i, mi_c1_r, true_and, and_true, exists_eq_left, exists_eq_left', Option.some.injEq, Option.toList_some, Option.toList_none, List.cons_append, List.nil_append, List.getElem?_cons_zero, List.getElem?_cons_succ, List.set_cons_zero, List.set_cons_succ, cn_t0, cn_tz, cn_z0, cn_z1, cn_ix, cn_lt0, cn_lz, cn_m1, or_true, true_or, eq_self, Nat.add_one_ne_zero, Nat.not_lt_zero, if_false, if_true, not_false_eq_true, List.length_cons, List.length_nil, Nat.reduceAdd, Nat.reduceLT, cn_in, cn_shl, cn_all, cn_sub, nI_add, nI_eq, nI_leI, nI_ltI, nI_clamp, nm_and, nm_or, nm_not, up_nI, up_cO, up_cS, rd_0, rd_1, rd_2, rd_3, rd_4, rd_5, rd_6, rd_7, rd_8, rd_9, rd_10, rd_11, rd_12, rd_13, rd_14, rr_14, rd_31, rd_32, rd_33, rd_34, rd_35, rd_36, rd_37, rr_37, rd_54, rd_55, rd_56, rd_57, rd_58, rd_59, rd_60, rd_61, rd_62, rd_63, rd_64, rd_65, rd_66, rd_67, rd_68, wr_1, wr_2, wr_3, wr_4, wr_5, wr_6, wr_7, wr_8, wr_9, wr_10, wr_11, wr_12, wr_14, rw_14, wr_31, wr_32, wr_33, wr_34, wr_35, wr_37, rw_37, wr_54, wr_55, wr_56, wr_57, wr_58, wr_59, wr_60, wr_61, wr_62, wr_63, wr_64, wr_65, wr_66, wr_67, wr_68, g_min, g_max, e0, g_most, g_allNodes, e2, up_Ts, up_TT, e3]
/-! Search -/
abbrev se_T : Type := (Nat → Nat → Nat) × Nat × Nat × Nat × Nat
theorem cn_dec (c : Nat) : nI (c + 1) + (-1) = nI c := by
  have h : nI (c + 1) = nI c + nI 1 := (nI_add c 1).symm
  rw [h]
  apply Int32.toBitVec_inj.mp
  rw [Int32.toBitVec_add, Int32.toBitVec_add, BitVec.add_assoc]
  exact BitVec.add_zero _
/-- rows, BEST, begun, cut, whether it was ended -/
def se_in (n : st_N) (t cl c : Nat) (rc : Nat → Nat → se_T → se_T) : Nat → Nat × se_T → (Nat × se_T) ⊕ se_T
  | 0, q => .inl q
  | v + 1, q => if (q.2.1 t c).testBit v = false then se_in n t cl c rc v q else
    if t + c ≤ nm_c 16 q.2.2.1 then .inr (q.2.1, q.2.2.1, q.2.2.2.1, q.2.2.2.2.1 + 1, q.2.2.2.2.2) else
    if (rc (cl ||| 2 ^ v) (q.1 &&& n.2.2.2 v) q.2).2.2.2.2 = 0 then se_in n t cl c rc v (nm_d q.1 (2 ^ v), rc (cl ||| 2 ^ v) (q.1 &&& n.2.2.2 v) q.2) else .inr (rc (cl ||| 2 ^ v) (q.1 &&& n.2.2.2 v) q.2)
def se_out (n : st_N) (t cl : Nat) (rc : Nat → Nat → se_T → se_T) : Nat → Nat × se_T → se_T
  | 0, q => q.2
  | c + 1, q => match se_in n t cl (c + 1) rc 16 q with
    | .inl q' => se_out n t cl rc c q'
    | .inr s => s
def se_br (n : st_N) (work : Nat) : Nat → Nat → Nat → se_T → se_T
  | 0, _, _, s => (s.1, s.2.1, s.2.2.1, s.2.2.2.1, 1)
  | k + 1, cl, p, s => if work ≤ s.2.2.1 then (s.1, s.2.1, s.2.2.1, s.2.2.2.1, 1) else
    if p = 0 then (s.1, if nm_c 16 s.2.1 < 17 - (k + 1) then cl else s.2.1, s.2.2.1 + 1, s.2.2.2.1, s.2.2.2.2) else
    se_out n (17 - (k + 1)) cl (se_br n work k) (nt_paint n p (s.1 (17 - (k + 1)))).2 (p, up_T s.1 (17 - (k + 1)) (nt_paint n p (s.1 (17 - (k + 1)))).1, s.2.1, s.2.2.1 + 1, s.2.2.2.1, s.2.2.2.2)
def se_ok (work : Nat) (s : se_T) : Prop := s.2.1 < 65536 ∧ s.2.2.1 ≤ work ∧ s.2.2.2.2 ≤ 1
theorem se_in_ok {n : st_N} {work t cl c : Nat} {rc : Nat → Nat → se_T → se_T} (hcl : cl < 65536) (hrc : ∀ a b s, a < 65536 → b < 65536 → se_ok work s → se_ok work (rc a b s)) : ∀ v q, v ≤ 16 → q.1 < 65536 → se_ok work q.2 → (∀ q', se_in n t cl c rc v q = .inl q' → q'.1 < 65536 ∧ se_ok work q'.2) ∧ (∀ s, se_in n t cl c rc v q = .inr s → se_ok work s) := by
  intro v
  induction v with
  | zero =>
    intro q _ h1 h2
    refine ⟨fun q' e => ?_, fun s e => ?_⟩
    · cases e
      exact ⟨h1, h2⟩
    · cases e
  | succ v ih =>
    intro q hv h1 h2
    have hx := hrc (cl ||| 2 ^ v) (q.1 &&& n.2.2.2 v) q.2 (nm_or_lt hcl (nm_2_lt (by omega))) (Nat.lt_of_le_of_lt Nat.and_le_left h1) h2
    unfold se_in
    split
    · exact ih q (by omega) h1 h2
    · split
      · refine ⟨fun q' e => by (cases e), fun s e => ?_⟩
        cases e
        exact h2
      · split
        · exact ih (nm_d q.1 (2 ^ v), _) (by omega) (nm_d_lt h1) hx
        · refine ⟨fun q' e => by (cases e), fun s e => ?_⟩
          cases e
          exact hx
theorem se_out_ok {n : st_N} {work t cl : Nat} {rc : Nat → Nat → se_T → se_T} (hcl : cl < 65536) (hrc : ∀ a b s, a < 65536 → b < 65536 → se_ok work s → se_ok work (rc a b s)) : ∀ c q, q.1 < 65536 → se_ok work q.2 → se_ok work (se_out n t cl rc c q) := by
  intro c
  induction c with
  | zero => exact fun q _ h => h
  | succ c ih =>
    intro q h1 h2
    obtain ⟨a1, a2⟩ := se_in_ok (n := n) (t := t) (c := c + 1) hcl hrc 16 q (Nat.le_refl _) h1 h2
    unfold se_out
    split
    · rename_i q' e
      obtain ⟨b1, b2⟩ := a1 q' e
      exact ih q' b1 b2
    · rename_i s e
      exact a2 s e
theorem se_br_ok {n : st_N} {work : Nat} : ∀ k cl p s, cl < 65536 → p < 65536 → se_ok work s → se_ok work (se_br n work k cl p s) := by
  intro k
  induction k with
  | zero => exact fun cl p s _ _ h => ⟨h.1, h.2.1, Nat.le_refl 1⟩
  | succ k ih =>
    intro cl p s hcl hp h
    unfold se_br
    split
    · exact ⟨h.1, h.2.1, Nat.le_refl 1⟩
    · rename_i hw
      have hw2 : s.2.2.1 + 1 ≤ work := by omega
      split
      · refine ⟨?_, hw2, h.2.2⟩
        show (if _ then _ else _) < _
        split
        · exact hcl
        · exact h.1
      · exact se_out_ok hcl ih _ _ hp ⟨h.1, hw2, h.2.2⟩

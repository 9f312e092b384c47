/-! the calls that ask -/
theorem op_greatest {ch : Nat} {h : mi_H} (I : IV ch h) : ∃ h2, IV (ch + 1) h2 ∧ op 12 89 [] h h2 := by
  obtain ⟨n, zj, za, zc, ze, zp, zx, zu, zm, zk, zr, rfl, i0, ⟨e1, e2, e3⟩, i2, i3, i4, i5, i6, i7, i8, i9⟩ := I
  have hn := i0.1.1.1
  have hr := mj_ref i0.1 i2.2
  exact ⟨_, ⟨n, mx_ref_j n zj, za, zc, ze, zp, zx, zu, zm, zk, (0, zr.2.1, zr.2.2.1, zr.2.2.2.1, zr.2.2.2.2.1, zr.2.2.2.2.2.1, zr.2.2.2.2.2.2.1, zr.2.2.2.2.2.2.2.1, zr.2.2.2.2.2.2.2.2.1, zr.2.2.2.2.2.2.2.2.2.1, zr.2.2.2.2.2.2.2.2.2.2.1, zr.2.2.2.2.2.2.2.2.2.2.2.1, zr.2.2.2.2.2.2.2.2.2.2.2.2.1, zr.2.2.2.2.2.2.2.2.2.2.2.2.2.1, zr.2.2.2.2.2.2.2.2.2.2.2.2.2.2.1, zr.2.2.2.2.2.2.2.2.2.2.2.2.2.2.2.1, zr.2.2.2.2.2.2.2.2.2.2.2.2.2.2.2.2.1, zr.2.2.2.2.2.2.2.2.2.2.2.2.2.2.2.2.2), rfl, ⟨i0.1, by omega⟩, ⟨e1, e2, e3⟩, ⟨mxj_lt i0.1.1 i2.1, cx_now hr.1 hr.2⟩, i3, i4, i5, i6, i7, i8, i9⟩, op_mk ((g_greatest (d := 10) i0.1.1 i2.1 hr.1.2.2 hr.1.1.1).mpr rfl) ((m_greatest (d := 28) (by rw [e1]; exact hn) (by rw [e1, e3]; exact wl_bd i0.1)).mpr rfl) (by rw [e1, e2, gb_greatest hn i0.1.2.2.1 hr.1.1 hr.1.2.1]; rfl)⟩
theorem op_heaviest {ch : Nat} {h : mi_H} (I : IV ch h) : ∃ h2, IV (ch + 1) h2 ∧ op 21 98 [] h h2 := by
  obtain ⟨n, zj, za, zc, ze, zp, zx, zu, zm, zk, zr, rfl, i0, ⟨e1, e2, e3⟩, i2, i3, i4, i5, i6, i7, i8, i9⟩ := I
  have hn := i0.1.1.1
  have hr := mj_ref i0.1 i2.2
  have hw : nt_wsum n = rf_ws n.2.2.1 n.1 := funext (ct_wsum n)
  exact ⟨_, ⟨n, mx_ref_j n zj, za, zc, ze, zp, zx, zu, zm, zk, (0, zr.2.1, zr.2.2.1, zr.2.2.2.1, zr.2.2.2.2.1, zr.2.2.2.2.2.1, zr.2.2.2.2.2.2.1, zr.2.2.2.2.2.2.2.1, zr.2.2.2.2.2.2.2.2.1, zr.2.2.2.2.2.2.2.2.2.1, zr.2.2.2.2.2.2.2.2.2.2.1, zr.2.2.2.2.2.2.2.2.2.2.2.1, zr.2.2.2.2.2.2.2.2.2.2.2.2.1, zr.2.2.2.2.2.2.2.2.2.2.2.2.2.1, zr.2.2.2.2.2.2.2.2.2.2.2.2.2.2.1, zr.2.2.2.2.2.2.2.2.2.2.2.2.2.2.2.1, zr.2.2.2.2.2.2.2.2.2.2.2.2.2.2.2.2.1, zr.2.2.2.2.2.2.2.2.2.2.2.2.2.2.2.2.2), rfl, ⟨i0.1, by omega⟩, ⟨e1, e2, e3⟩, ⟨mxj_lt i0.1.1 i2.1, cx_now hr.1 hr.2⟩, i3, i4, i5, i6, i7, i8, i9⟩, op_mk ((g_heaviest (d := 10) i0.1.1 i2.1 hr.1.2.2 (by rw [hw]; exact wl_bd i0.1)).mpr rfl) ((m_heaviest (d := 28) (by rw [e1]; exact hn) (by rw [e1, e3]; exact wl_bd i0.1)).mpr rfl) (by rw [e1, e2, e3, gb_heaviest hn i0.1.2.2.2.1 i0.1.2.2.1 hr.1.1 hr.1.2.1, hw, hv_fold ws_0]; rfl)⟩
theorem op_maximal {ch : Nat} {h : mi_H} (I : IV ch h) : ∃ h2, IV (ch + 1) h2 ∧ op 24 99 [] h h2 := by
  obtain ⟨n, zj, za, zc, ze, zp, zx, zu, zm, zk, zr, rfl, i0, ⟨e1, e2, e3⟩, i2, i3, i4, i5, i6, i7, i8, i9⟩ := I
  have hn := i0.1.1.1
  have hr := mj_ref i0.1 i2.2
  have hk := mk_eq hn i0.1.2.1 i0.1.2.2.1 hr.1 (fun _ => 0)
  exact ⟨_, ⟨n, mx_ref_j n zj, za, zc, ze, zp, zx, zu, zm, zk, (0, zr.2.1, zr.2.2.1, zr.2.2.2.1, zr.2.2.2.2.1, zr.2.2.2.2.2.1, zr.2.2.2.2.2.2.1, zr.2.2.2.2.2.2.2.1, zr.2.2.2.2.2.2.2.2.1, zr.2.2.2.2.2.2.2.2.2.1, zr.2.2.2.2.2.2.2.2.2.2.1, zr.2.2.2.2.2.2.2.2.2.2.2.1, zr.2.2.2.2.2.2.2.2.2.2.2.2.1, zr.2.2.2.2.2.2.2.2.2.2.2.2.2.1, zr.2.2.2.2.2.2.2.2.2.2.2.2.2.2.1, zr.2.2.2.2.2.2.2.2.2.2.2.2.2.2.2.1, zr.2.2.2.2.2.2.2.2.2.2.2.2.2.2.2.2.1, zr.2.2.2.2.2.2.2.2.2.2.2.2.2.2.2.2.2), rfl, ⟨i0.1, by omega⟩, ⟨e1, e2, e3⟩, ⟨mxj_lt i0.1.1 i2.1, cx_now hr.1 hr.2⟩, i3, i4, i5, i6, i7, i8, i9⟩, op_mk ((g_maximal (d := 10) i0.1.1 i2.1).mpr rfl) ((m_maximal (d := 29) (by rw [e1]; exact hn)).mpr rfl) (by rw [e1, e2, hk.2.1])⟩
theorem ml_lt {J : Nat → Nat} {n : Nat} {f : Nat → Nat} (hn : n ≤ 16) (hf : ∀ j, f j < 65536) : ∀ j, (rf_ml J n f).1 j < 65536 := by
  have hpw : 2 ^ n ≤ 2 ^ 16 := Nat.pow_le_pow_right (by decide) hn
  have hsh : ∀ s i (g : Nat → Nat), (∀ j, g j < 65536) → ∀ j, (rf_sh s i g).1 j < 65536 := by
    intro s i
    induction i with
    | zero => exact fun g h => h
    | succ i ih =>
      intro g h
      rw [rf_sh]
      split
      · refine ih _ fun j => ?_
        by_cases e : j = i + 1
        · rw [e, up_N_eq]; exact h _
        · rw [up_N_ne e]; exact h j
      · exact h
  unfold rf_ml
  refine mi_it_ind (n := 2 ^ n) (fun _ (q : (Nat → Nat) × Nat) => ∀ j, q.1 j < 65536) ?_ (2 ^ n) 0 (f, 0) (by omega) hf
  intro i q hi h
  try dsimp only
  split
  · intro j
    unfold rf_ins
    try dsimp only
    by_cases e : j = (rf_sh i q.2 q.1).2
    · rw [e, up_N_eq]; omega
    · rw [up_N_ne e]; exact hsh i q.2 q.1 h j
  · exact h
theorem op_maximalK {ch : Nat} {h : mi_H} (I : IV ch h) (k : Int32) : ∃ h2, IV (ch + 1) h2 ∧ op 26 101 [.inl k] h h2 := by
  obtain ⟨n, zj, za, zc, ze, zp, zx, zu, zm, zk, zr, rfl, i0, ⟨e1, e2, e3⟩, i2, i3, i4, i5, i6, i7, i8, i9⟩ := I
  have hn := i0.1.1.1
  have hr := mj_ref i0.1 i2.2
  have hk := mk_eq hn i0.1.2.1 i0.1.2.2.1 hr.1 zr.2.2.2.2.1
  have hc : ∀ i, i ≤ 2 ^ zr.2.1 → mi_it (fun s t => if rf_mx zr.2.2.2.1 zr.2.1 s then t + 1 else t) i 0 0 ≤ 324 := by
    rw [e1, e2]
    exact mc_part (by rw [hk.2.1]; exact hr.1.2.2)
  have hml := ml_lt (J := zr.2.2.2.1) (n := zr.2.1) (f := zr.2.2.2.2.1) (by rw [e1]; exact hn) i9
  have hm := fun zj' => m_maximalK (d := 29) (k := k) (n := n) (zj := zj') (za := za) (zc := zc) (ze := ze) (zp := zp) (zx := zx) (zu := zu) (zm := zm) (zk := zk) (zr := zr) (r := (some (.inl (if cl_r k (nI 0) (nI (rf_ml zr.2.2.2.1 zr.2.1 zr.2.2.2.2.1).2 - nI 1) = true then nI ((rf_ml zr.2.2.2.1 zr.2.1 zr.2.2.2.2.1).1 k.toNatClampNeg) else -1)), hp n zj' za zc ze zp zx zu zm zk (0, zr.2.1, zr.2.2.1, zr.2.2.2.1, (rf_ml zr.2.2.2.1 zr.2.1 zr.2.2.2.2.1).1, zr.2.2.2.2.2.1, zr.2.2.2.2.2.2.1, zr.2.2.2.2.2.2.2.1, zr.2.2.2.2.2.2.2.2.1, zr.2.2.2.2.2.2.2.2.2.1, zr.2.2.2.2.2.2.2.2.2.2.1, zr.2.2.2.2.2.2.2.2.2.2.2.1, zr.2.2.2.2.2.2.2.2.2.2.2.2.1, zr.2.2.2.2.2.2.2.2.2.2.2.2.2.1, zr.2.2.2.2.2.2.2.2.2.2.2.2.2.2.1, zr.2.2.2.2.2.2.2.2.2.2.2.2.2.2.2.1, zr.2.2.2.2.2.2.2.2.2.2.2.2.2.2.2.2.1, zr.2.2.2.2.2.2.2.2.2.2.2.2.2.2.2.2.2))) (by rw [e1]; exact hn) i9 hc
  have hfin : ∀ zj', ((∀ v, zj'.1 v < 65536) ∧ cx_ok zj'.2.2.2 n.2.1 (mx_R n.2.2.2 n.1 zj')) → IV (ch + 1) (hp n zj' za zc ze zp zx zu zm zk (0, zr.2.1, zr.2.2.1, zr.2.2.2.1, (rf_ml zr.2.2.2.1 zr.2.1 zr.2.2.2.2.1).1, zr.2.2.2.2.2.1, zr.2.2.2.2.2.2.1, zr.2.2.2.2.2.2.2.1, zr.2.2.2.2.2.2.2.2.1, zr.2.2.2.2.2.2.2.2.2.1, zr.2.2.2.2.2.2.2.2.2.2.1, zr.2.2.2.2.2.2.2.2.2.2.2.1, zr.2.2.2.2.2.2.2.2.2.2.2.2.1, zr.2.2.2.2.2.2.2.2.2.2.2.2.2.1, zr.2.2.2.2.2.2.2.2.2.2.2.2.2.2.1, zr.2.2.2.2.2.2.2.2.2.2.2.2.2.2.2.1, zr.2.2.2.2.2.2.2.2.2.2.2.2.2.2.2.2.1, zr.2.2.2.2.2.2.2.2.2.2.2.2.2.2.2.2.2)) := fun zj' hz => ⟨n, zj', za, zc, ze, zp, zx, zu, zm, zk, (0, zr.2.1, zr.2.2.1, zr.2.2.2.1, (rf_ml zr.2.2.2.1 zr.2.1 zr.2.2.2.2.1).1, zr.2.2.2.2.2.1, zr.2.2.2.2.2.2.1, zr.2.2.2.2.2.2.2.1, zr.2.2.2.2.2.2.2.2.1, zr.2.2.2.2.2.2.2.2.2.1, zr.2.2.2.2.2.2.2.2.2.2.1, zr.2.2.2.2.2.2.2.2.2.2.2.1, zr.2.2.2.2.2.2.2.2.2.2.2.2.1, zr.2.2.2.2.2.2.2.2.2.2.2.2.2.1, zr.2.2.2.2.2.2.2.2.2.2.2.2.2.2.1, zr.2.2.2.2.2.2.2.2.2.2.2.2.2.2.2.1, zr.2.2.2.2.2.2.2.2.2.2.2.2.2.2.2.2.1, zr.2.2.2.2.2.2.2.2.2.2.2.2.2.2.2.2.2), rfl, ⟨i0.1, by omega⟩, ⟨e1, e2, e3⟩, hz, i3, i4, i5, i6, i7, i8, hml⟩
  by_cases h0 : k < nI 0
  · refine ⟨_, hfin zj i2, op_mk ((g_maximalN (d := 10) h0).mpr rfl) ((hm zj).mpr rfl) ?_⟩
    rw [if_neg]
    intro hc
    unfold cl_r at hc
    rw [decide_eq_true h0] at hc
    simp at hc
  · obtain ⟨j, hj, rfl⟩ := nI_of h0
    refine ⟨_, hfin (mx_ref_j n zj) ⟨mxj_lt i0.1.1 i2.1, cx_now hr.1 hr.2⟩, op_mk ((g_maximalK (d := 10) hj i0.1.1 i2.1 hr.1.2.2).mpr rfl) ((hm _).mpr rfl) ?_⟩
    rw [e1, e2, hk.1]
    have h324 := hr.1.2.2
    have hclamp : (nI j).toNatClampNeg = j := by
      show (nI j).toInt.toNat = j
      rw [nI_toInt hj]
      rfl
    by_cases hlt : j < (mx_ref_j n zj).2.2.1
    · have hcr : cl_r (nI j) (nI 0) (nI (mx_ref_j n zj).2.2.1 - nI 1) = true := by
        have e : nI (mx_ref_j n zj).2.2.1 - nI 1 = nI ((mx_ref_j n zj).2.2.1 - 1) := cn_sub (by omega)
        rw [e]
        exact cl_rN (Nat.zero_le j) (by omega) (by omega)
      rw [if_pos hlt, if_pos hcr, hclamp, hk.2.2 j hlt]
    · rw [if_neg hlt, if_neg]
      intro hc
      by_cases hz : (mx_ref_j n zj).2.2.1 = 0
      · rw [hz] at hc
        unfold cl_r at hc
        have : nI 0 - nI 1 < nI j := by
          rw [Int32.lt_iff_toInt_lt, nI_toInt hj, show (nI 0 - nI 1).toInt = -1 by decide +kernel]
          omega
        rw [decide_eq_true this] at hc
        simp at hc
      · have e : nI (mx_ref_j n zj).2.2.1 - nI 1 = nI ((mx_ref_j n zj).2.2.1 - 1) := cn_sub (by omega)
        rw [e] at hc
        obtain ⟨s, _, s2, s3⟩ := cl_rE hc (by omega) (by omega)
        rw [nI_eq hj (by omega)] at s3
        omega
theorem op_cliques {ch : Nat} {h : mi_H} (I : IV ch h) (k : Int32) : ∃ h2, IV (ch + 1) h2 ∧ op 28 102 [.inl k] h h2 := by
  obtain ⟨n, zj, za, zc, ze, zp, zx, zu, zm, zk, zr, rfl, i0, ⟨e1, e2, e3⟩, i2, i3, i4, i5, i6, i7, i8, i9⟩ := I
  have hn := i0.1.1.1
  cases hc : cl_r k (nI 0) (nI 16)
  · exact ⟨_, ⟨n, zj, za, zc, ze, zp, zx, zu, zm, zk, (0, zr.2.1, zr.2.2.1, zr.2.2.2.1, zr.2.2.2.2.1, zr.2.2.2.2.2.1, zr.2.2.2.2.2.2.1, zr.2.2.2.2.2.2.2.1, zr.2.2.2.2.2.2.2.2.1, zr.2.2.2.2.2.2.2.2.2.1, zr.2.2.2.2.2.2.2.2.2.2.1, zr.2.2.2.2.2.2.2.2.2.2.2.1, zr.2.2.2.2.2.2.2.2.2.2.2.2.1, zr.2.2.2.2.2.2.2.2.2.2.2.2.2.1, zr.2.2.2.2.2.2.2.2.2.2.2.2.2.2.1, zr.2.2.2.2.2.2.2.2.2.2.2.2.2.2.2.1, zr.2.2.2.2.2.2.2.2.2.2.2.2.2.2.2.2.1, zr.2.2.2.2.2.2.2.2.2.2.2.2.2.2.2.2.2), rfl, ⟨i0.1, by omega⟩, ⟨e1, e2, e3⟩, i2, i3, i4, i5, i6, i7, i8, i9⟩, op_mk ((g_cliquesB (d := 9) hc).mpr rfl) ((m_cliquesB (d := 30) hc).mpr rfl) rfl⟩
  · obtain ⟨j, _, hj, rfl⟩ := cl_rE hc (by decide) (by decide)
    have hr := sc_refR i0.1 i4
    exact ⟨_, ⟨n, zj, za, sc_ref n zc, ze, zp, zx, zu, zm, zk, (0, zr.2.1, zr.2.2.1, zr.2.2.2.1, zr.2.2.2.2.1, zr.2.2.2.2.2.1, zr.2.2.2.2.2.2.1, zr.2.2.2.2.2.2.2.1, zr.2.2.2.2.2.2.2.2.1, zr.2.2.2.2.2.2.2.2.2.1, zr.2.2.2.2.2.2.2.2.2.2.1, zr.2.2.2.2.2.2.2.2.2.2.2.1, zr.2.2.2.2.2.2.2.2.2.2.2.2.1, zr.2.2.2.2.2.2.2.2.2.2.2.2.2.1, zr.2.2.2.2.2.2.2.2.2.2.2.2.2.2.1, zr.2.2.2.2.2.2.2.2.2.2.2.2.2.2.2.1, zr.2.2.2.2.2.2.2.2.2.2.2.2.2.2.2.2.1, zr.2.2.2.2.2.2.2.2.2.2.2.2.2.2.2.2.2), rfl, ⟨i0.1, by omega⟩, ⟨e1, e2, e3⟩, i2, i3, cx_now hr.1 hr.2, i5, i6, i7, i8, i9⟩, op_mk ((g_cliques (d := 9) i0.1.1 i0.1.2.2.1 hj).mpr rfl) ((m_cliques (d := 30) (by rw [e1]; exact hn) hj).mpr rfl) (by rw [e1, e2, hr.1 j hj])⟩
theorem op_cover {ch : Nat} {h : mi_H} (I : IV ch h) : ∃ h2, IV (ch + 1) h2 ∧ op 35 103 [] h h2 := by
  obtain ⟨n, zj, za, zc, ze, zp, zx, zu, zm, zk, zr, rfl, i0, ⟨e1, e2, e3⟩, i2, i3, i4, i5, i6, i7, i8, i9⟩ := I
  have hn := i0.1.1.1
  have hr := ma_ref i0.1 i3.2
  exact ⟨_, ⟨n, zj, mx_ref_a n za, zc, ze, zp, zx, zu, zm, zk, (0, zr.2.1, zr.2.2.1, zr.2.2.2.1, zr.2.2.2.2.1, zr.2.2.2.2.2.1, zr.2.2.2.2.2.2.1, zr.2.2.2.2.2.2.2.1, zr.2.2.2.2.2.2.2.2.1, zr.2.2.2.2.2.2.2.2.2.1, zr.2.2.2.2.2.2.2.2.2.2.1, zr.2.2.2.2.2.2.2.2.2.2.2.1, zr.2.2.2.2.2.2.2.2.2.2.2.2.1, zr.2.2.2.2.2.2.2.2.2.2.2.2.2.1, zr.2.2.2.2.2.2.2.2.2.2.2.2.2.2.1, zr.2.2.2.2.2.2.2.2.2.2.2.2.2.2.2.1, zr.2.2.2.2.2.2.2.2.2.2.2.2.2.2.2.2.1, zr.2.2.2.2.2.2.2.2.2.2.2.2.2.2.2.2.2), rfl, ⟨i0.1, by omega⟩, ⟨e1, e2, e3⟩, i2, ⟨mxa_lt i0.1.1 i3.1, cx_now hr.1 hr.2⟩, i4, i5, i6, i7, i8, i9⟩, op_mk ((g_cover (d := 10) i0.1.1 i3.1 hr.1.2.2 hr.1.1.1).mpr rfl) ((m_cover (d := 28) (by rw [e1]; exact hn) (by rw [e1, e3]; exact wl_bd i0.1)).mpr rfl) (by rw [e1, e2, gb_cover hn i0.1.2.2.1 hr.1.1 hr.1.2.1]; rfl)⟩
theorem op_apart {ch : Nat} {h : mi_H} (I : IV ch h) : ∃ h2, IV (ch + 1) h2 ∧ op 37 104 [] h h2 := by
  obtain ⟨n, zj, za, zc, ze, zp, zx, zu, zm, zk, zr, rfl, i0, ⟨e1, e2, e3⟩, i2, i3, i4, i5, i6, i7, i8, i9⟩ := I
  have hn := i0.1.1.1
  have hr := ma_ref i0.1 i3.2
  exact ⟨_, ⟨n, zj, mx_ref_a n za, zc, ze, zp, zx, zu, zm, zk, (0, zr.2.1, zr.2.2.1, zr.2.2.2.1, zr.2.2.2.2.1, zr.2.2.2.2.2.1, zr.2.2.2.2.2.2.1, zr.2.2.2.2.2.2.2.1, zr.2.2.2.2.2.2.2.2.1, zr.2.2.2.2.2.2.2.2.2.1, zr.2.2.2.2.2.2.2.2.2.2.1, zr.2.2.2.2.2.2.2.2.2.2.2.1, zr.2.2.2.2.2.2.2.2.2.2.2.2.1, zr.2.2.2.2.2.2.2.2.2.2.2.2.2.1, zr.2.2.2.2.2.2.2.2.2.2.2.2.2.2.1, zr.2.2.2.2.2.2.2.2.2.2.2.2.2.2.2.1, zr.2.2.2.2.2.2.2.2.2.2.2.2.2.2.2.2.1, zr.2.2.2.2.2.2.2.2.2.2.2.2.2.2.2.2.2), rfl, ⟨i0.1, by omega⟩, ⟨e1, e2, e3⟩, i2, ⟨mxa_lt i0.1.1 i3.1, cx_now hr.1 hr.2⟩, i4, i5, i6, i7, i8, i9⟩, op_mk ((g_apart (d := 10) i0.1.1 i3.1 hr.1.2.2 hr.1.1.1).mpr rfl) ((m_apart (d := 28) (by rw [e1]; exact hn) (by rw [e1, e3]; exact wl_bd i0.1)).mpr rfl) (by rw [e1, e2, gb_apart hn i0.1.2.2.1 hr.1.1 hr.1.2.1]; rfl)⟩
theorem op_near {ch : Nat} {h : mi_H} (I : IV ch h) (k : Int32) : ∃ h2, IV (ch + 1) h2 ∧ op 38 105 [.inl k] h h2 := by
  obtain ⟨n, zj, za, zc, ze, zp, zx, zu, zm, zk, zr, rfl, i0, ⟨e1, e2, e3⟩, i2, i3, i4, i5, i6, i7, i8, i9⟩ := I
  have hn := i0.1.1.1
  cases hc : cl_r k (nI 1) (nI 4)
  · exact ⟨_, ⟨n, zj, za, zc, ze, zp, zx, zu, zm, zk, (0, zr.2.1, zr.2.2.1, zr.2.2.2.1, zr.2.2.2.2.1, zr.2.2.2.2.2.1, zr.2.2.2.2.2.2.1, zr.2.2.2.2.2.2.2.1, zr.2.2.2.2.2.2.2.2.1, zr.2.2.2.2.2.2.2.2.2.1, zr.2.2.2.2.2.2.2.2.2.2.1, zr.2.2.2.2.2.2.2.2.2.2.2.1, zr.2.2.2.2.2.2.2.2.2.2.2.2.1, zr.2.2.2.2.2.2.2.2.2.2.2.2.2.1, zr.2.2.2.2.2.2.2.2.2.2.2.2.2.2.1, zr.2.2.2.2.2.2.2.2.2.2.2.2.2.2.2.1, zr.2.2.2.2.2.2.2.2.2.2.2.2.2.2.2.2.1, zr.2.2.2.2.2.2.2.2.2.2.2.2.2.2.2.2.2), rfl, ⟨i0.1, by omega⟩, ⟨e1, e2, e3⟩, i2, i3, i4, i5, i6, i7, i8, i9⟩, op_mk ((g_nearB (d := 11) hc).mpr rfl) ((m_nearB (d := 28) hc).mpr rfl) rfl⟩
  · obtain ⟨s, h1, h4, rfl⟩ := cl_rE hc (by decide) (by decide)
    exact ⟨_, ⟨n, zj, za, zc, _, zp, zx, zu, zm, zk, (0, zr.2.1, zr.2.2.1, zr.2.2.2.1, zr.2.2.2.2.1, zr.2.2.2.2.2.1, zr.2.2.2.2.2.2.1, zr.2.2.2.2.2.2.2.1, zr.2.2.2.2.2.2.2.2.1, zr.2.2.2.2.2.2.2.2.2.1, zr.2.2.2.2.2.2.2.2.2.2.1, zr.2.2.2.2.2.2.2.2.2.2.2.1, zr.2.2.2.2.2.2.2.2.2.2.2.2.1, zr.2.2.2.2.2.2.2.2.2.2.2.2.2.1, zr.2.2.2.2.2.2.2.2.2.2.2.2.2.2.1, zr.2.2.2.2.2.2.2.2.2.2.2.2.2.2.2.1, zr.2.2.2.2.2.2.2.2.2.2.2.2.2.2.2.2.1, zr.2.2.2.2.2.2.2.2.2.2.2.2.2.2.2.2.2), rfl, ⟨i0.1, by omega⟩, ⟨e1, e2, e3⟩, i2, i3, i4, i5, i6, i7, i8, i9⟩, op_mk ((g_near (d := 11) i0.1.1 h1 h4).mpr rfl) ((m_near (d := 28) (by rw [e1]; exact hn) (by rw [e1, e3]; exact wl_bd i0.1) h1 h4).mpr rfl) (by rw [e1, e2, nh_ans i0.1 h1 h4 ze]; rfl)⟩
theorem op_colours {ch : Nat} {h : mi_H} (I : IV ch h) (x : Int32) : ∃ h2, IV (ch + 1) h2 ∧ op 49 106 [.inl x] h h2 := by
  obtain ⟨n, zj, za, zc, ze, zp, zx, zu, zm, zk, zr, rfl, i0, ⟨e1, e2, e3⟩, i2, i3, i4, i5, i6, i7, i8, i9⟩ := I
  have hn := i0.1.1.1
  cases hc : cl_a n.1 x
  · exact ⟨_, ⟨n, zj, za, zc, ze, zp, zx, zu, zm, zk, (0, zr.2.1, zr.2.2.1, zr.2.2.2.1, zr.2.2.2.2.1, zr.2.2.2.2.2.1, zr.2.2.2.2.2.2.1, zr.2.2.2.2.2.2.2.1, zr.2.2.2.2.2.2.2.2.1, zr.2.2.2.2.2.2.2.2.2.1, zr.2.2.2.2.2.2.2.2.2.2.1, zr.2.2.2.2.2.2.2.2.2.2.2.1, zr.2.2.2.2.2.2.2.2.2.2.2.2.1, zr.2.2.2.2.2.2.2.2.2.2.2.2.2.1, zr.2.2.2.2.2.2.2.2.2.2.2.2.2.2.1, zr.2.2.2.2.2.2.2.2.2.2.2.2.2.2.2.1, zr.2.2.2.2.2.2.2.2.2.2.2.2.2.2.2.2.1, zr.2.2.2.2.2.2.2.2.2.2.2.2.2.2.2.2.2), rfl, ⟨i0.1, by omega⟩, ⟨e1, e2, e3⟩, i2, i3, i4, i5, i6, i7, i8, i9⟩, op_mk ((g_coloursB (d := 30) hn hc).mpr rfl) ((m_coloursB (d := 30) (by rw [e1]; exact hn) (by rw [e1, ← cl_ar hn]; exact hc)).mpr rfl) rfl⟩
  · obtain ⟨s, hs, rfl⟩ := cl_aE.mp hc
    exact ⟨_, ⟨n, zj, za, zc, ze, zp, zx, zu, zm, _, (0, zr.2.1, zr.2.2.1, zr.2.2.2.1, zr.2.2.2.2.1, (rf_ca zr.2.2.2.1 zr.2.1 s zr.2.2.2.2.2.1).1, zr.2.2.2.2.2.2.1, zr.2.2.2.2.2.2.2.1, zr.2.2.2.2.2.2.2.2.1, zr.2.2.2.2.2.2.2.2.2.1, zr.2.2.2.2.2.2.2.2.2.2.1, zr.2.2.2.2.2.2.2.2.2.2.2.1, zr.2.2.2.2.2.2.2.2.2.2.2.2.1, zr.2.2.2.2.2.2.2.2.2.2.2.2.2.1, zr.2.2.2.2.2.2.2.2.2.2.2.2.2.2.1, zr.2.2.2.2.2.2.2.2.2.2.2.2.2.2.2.1, zr.2.2.2.2.2.2.2.2.2.2.2.2.2.2.2.2.1, zr.2.2.2.2.2.2.2.2.2.2.2.2.2.2.2.2.2), rfl, ⟨i0.1, by omega⟩, ⟨e1, e2, e3⟩, i2, i3, i4, i5, i6, i7, i8, i9⟩, op_mk ((g_colours (d := 30) i0.1.1 hc).mpr rfl) ((m_colours (d := 30) (by rw [e1]; exact hn) (by rw [e1]; exact hs)).mpr rfl) (by rw [e1, e2, (co_eq hn s zk zr.2.2.2.2.2.1).1])⟩
theorem op_colour {ch : Nat} {h : mi_H} (I : IV ch h) (x v : Int32) : ∃ h2, IV (ch + 1) h2 ∧ op 51 108 [.inl x, .inl v] h h2 := by
  obtain ⟨n, zj, za, zc, ze, zp, zx, zu, zm, zk, zr, rfl, i0, ⟨e1, e2, e3⟩, i2, i3, i4, i5, i6, i7, i8, i9⟩ := I
  have hn := i0.1.1.1
  have hbad : (cl_a n.1 x = false ∨ cl_h n.1 v = false ∨ ((x >>> (v &&& 31)) &&& nI 1 = nI 0 ∧ ¬ (x >>> (v &&& 31)) &&& nI 1 = nI 1)) → ∃ h2, IV (ch + 1) h2 ∧ op 51 108 [.inl x, .inl v] (hp n zj za zc ze zp zx zu zm zk zr) h2 := fun hb => ⟨_, ⟨n, zj, za, zc, ze, zp, zx, zu, zm, zk, (0, zr.2.1, zr.2.2.1, zr.2.2.2.1, zr.2.2.2.2.1, zr.2.2.2.2.2.1, zr.2.2.2.2.2.2.1, zr.2.2.2.2.2.2.2.1, zr.2.2.2.2.2.2.2.2.1, zr.2.2.2.2.2.2.2.2.2.1, zr.2.2.2.2.2.2.2.2.2.2.1, zr.2.2.2.2.2.2.2.2.2.2.2.1, zr.2.2.2.2.2.2.2.2.2.2.2.2.1, zr.2.2.2.2.2.2.2.2.2.2.2.2.2.1, zr.2.2.2.2.2.2.2.2.2.2.2.2.2.2.1, zr.2.2.2.2.2.2.2.2.2.2.2.2.2.2.2.1, zr.2.2.2.2.2.2.2.2.2.2.2.2.2.2.2.2.1, zr.2.2.2.2.2.2.2.2.2.2.2.2.2.2.2.2.2), rfl, ⟨i0.1, by omega⟩, ⟨e1, e2, e3⟩, i2, i3, i4, i5, i6, i7, i8, i9⟩, op_mk ((g_colourB (d := 30) hn (hb.imp id fun h => h.imp id fun h => h.1)).mpr rfl) ((m_colourB (d := 30) (by rw [e1]; exact hn) (by rw [e1, ← cl_ar hn]; exact hb.imp id fun h => h.imp id fun h => h.2)).mpr rfl) rfl⟩
  cases hc : cl_a n.1 x
  · exact hbad (.inl hc)
  · obtain ⟨s, hs, rfl⟩ := cl_aE.mp hc
    cases hc2 : cl_h n.1 v
    · exact hbad (.inr (.inl hc2))
    · obtain ⟨j, hj, rfl⟩ := (cl_hN hn).mp hc2
      cases hb : s.testBit j
      · refine hbad (.inr (.inr ?_))
        rw [cn_bit (by omega), hb]
        exact ⟨rfl, by decide⟩
      · exact ⟨_, ⟨n, zj, za, zc, ze, zp, zx, zu, zm, _, (0, zr.2.1, zr.2.2.1, zr.2.2.2.1, zr.2.2.2.2.1, (rf_ca zr.2.2.2.1 zr.2.1 s zr.2.2.2.2.2.1).1, zr.2.2.2.2.2.2.1, zr.2.2.2.2.2.2.2.1, zr.2.2.2.2.2.2.2.2.1, zr.2.2.2.2.2.2.2.2.2.1, zr.2.2.2.2.2.2.2.2.2.2.1, zr.2.2.2.2.2.2.2.2.2.2.2.1, zr.2.2.2.2.2.2.2.2.2.2.2.2.1, zr.2.2.2.2.2.2.2.2.2.2.2.2.2.1, zr.2.2.2.2.2.2.2.2.2.2.2.2.2.2.1, zr.2.2.2.2.2.2.2.2.2.2.2.2.2.2.2.1, zr.2.2.2.2.2.2.2.2.2.2.2.2.2.2.2.2.1, zr.2.2.2.2.2.2.2.2.2.2.2.2.2.2.2.2.2), rfl, ⟨i0.1, by omega⟩, ⟨e1, e2, e3⟩, i2, i3, i4, i5, i6, i7, i8, i9⟩, op_mk ((g_colour (d := 30) i0.1.1 hc hj hb).mpr rfl) ((m_colour (d := 30) (by rw [e1]; exact hn) (by rw [e1]; exact hs) (by rw [e1]; exact hj) hb).mpr rfl) (by rw [e1, e2, co_colour hn zk zr.2.2.2.2.2.1 hj hb])⟩
theorem cl_cn {j : Nat} (hj : j < 2 ^ 31) : (nI j).toNatClampNeg = j := by
  show (nI j).toInt.toNat = j
  rw [nI_toInt hj]
  rfl
theorem op_peeled {ch : Nat} {h : mi_H} (I : IV ch h) (k : Int32) : ∃ h2, IV (ch + 1) h2 ∧ op 52 109 [.inl k] h h2 := by
  obtain ⟨n, zj, za, zc, ze, zp, zx, zu, zm, zk, zr, rfl, i0, ⟨e1, e2, e3⟩, i2, i3, i4, i5, i6, i7, i8, i9⟩ := I
  have hn := i0.1.1.1
  cases hc : cl_h n.1 k
  · exact ⟨_, ⟨n, zj, za, zc, ze, zp, zx, zu, zm, zk, (0, zr.2.1, zr.2.2.1, zr.2.2.2.1, zr.2.2.2.2.1, zr.2.2.2.2.2.1, (rf_pl zr.2.2.2.1 zr.2.1 zr.2.2.2.2.2.2.1 zr.2.2.2.2.2.2.2.1).2.2.1, (rf_pl zr.2.2.2.1 zr.2.1 zr.2.2.2.2.2.2.1 zr.2.2.2.2.2.2.2.1).2.2.2, zr.2.2.2.2.2.2.2.2.1, zr.2.2.2.2.2.2.2.2.2.1, zr.2.2.2.2.2.2.2.2.2.2.1, zr.2.2.2.2.2.2.2.2.2.2.2.1, zr.2.2.2.2.2.2.2.2.2.2.2.2.1, zr.2.2.2.2.2.2.2.2.2.2.2.2.2.1, zr.2.2.2.2.2.2.2.2.2.2.2.2.2.2.1, zr.2.2.2.2.2.2.2.2.2.2.2.2.2.2.2.1, zr.2.2.2.2.2.2.2.2.2.2.2.2.2.2.2.2.1, zr.2.2.2.2.2.2.2.2.2.2.2.2.2.2.2.2.2), rfl, ⟨i0.1, by omega⟩, ⟨e1, e2, e3⟩, i2, i3, i4, i5, i6, i7, i8, i9⟩, op_mk ((g_peeledB (d := 26) hc).mpr rfl) ((m_peeled (d := 30) (by rw [e1]; exact hn)).mpr rfl) (by rw [e1, if_neg (by rw [hc]; decide)])⟩
  · obtain ⟨j, hj, rfl⟩ := (cl_hN hn).mp hc
    have hr := pe_refR i0.1 i5
    exact ⟨_, ⟨n, zj, za, zc, ze, pe_ref n zp, zx, zu, zm, zk, (0, zr.2.1, zr.2.2.1, zr.2.2.2.1, zr.2.2.2.2.1, zr.2.2.2.2.2.1, (rf_pl zr.2.2.2.1 zr.2.1 zr.2.2.2.2.2.2.1 zr.2.2.2.2.2.2.2.1).2.2.1, (rf_pl zr.2.2.2.1 zr.2.1 zr.2.2.2.2.2.2.1 zr.2.2.2.2.2.2.2.1).2.2.2, zr.2.2.2.2.2.2.2.2.1, zr.2.2.2.2.2.2.2.2.2.1, zr.2.2.2.2.2.2.2.2.2.2.1, zr.2.2.2.2.2.2.2.2.2.2.2.1, zr.2.2.2.2.2.2.2.2.2.2.2.2.1, zr.2.2.2.2.2.2.2.2.2.2.2.2.2.1, zr.2.2.2.2.2.2.2.2.2.2.2.2.2.2.1, zr.2.2.2.2.2.2.2.2.2.2.2.2.2.2.2.1, zr.2.2.2.2.2.2.2.2.2.2.2.2.2.2.2.2.1, zr.2.2.2.2.2.2.2.2.2.2.2.2.2.2.2.2.2), rfl, ⟨i0.1, by omega⟩, ⟨e1, e2, e3⟩, i2, i3, i4, cx_now hr.1 hr.2, i6, i7, i8, i9⟩, op_mk ((g_peeled (d := 26) i0.1.1 hj).mpr rfl) ((m_peeled (d := 30) (by rw [e1]; exact hn)).mpr rfl) (by rw [e1, e2, if_pos hc, cl_cn (by omega), (hr.1 zr.2.2.2.2.2.2.1 zr.2.2.2.2.2.2.2.1 j hj).1])⟩
theorem op_core {ch : Nat} {h : mi_H} (I : IV ch h) (k : Int32) : ∃ h2, IV (ch + 1) h2 ∧ op 55 111 [.inl k] h h2 := by
  obtain ⟨n, zj, za, zc, ze, zp, zx, zu, zm, zk, zr, rfl, i0, ⟨e1, e2, e3⟩, i2, i3, i4, i5, i6, i7, i8, i9⟩ := I
  have hn := i0.1.1.1
  cases hc : cl_h n.1 k
  · exact ⟨_, ⟨n, zj, za, zc, ze, zp, zx, zu, zm, zk, (0, zr.2.1, zr.2.2.1, zr.2.2.2.1, zr.2.2.2.2.1, zr.2.2.2.2.2.1, (rf_pl zr.2.2.2.1 zr.2.1 zr.2.2.2.2.2.2.1 zr.2.2.2.2.2.2.2.1).2.2.1, (rf_pl zr.2.2.2.1 zr.2.1 zr.2.2.2.2.2.2.1 zr.2.2.2.2.2.2.2.1).2.2.2, zr.2.2.2.2.2.2.2.2.1, zr.2.2.2.2.2.2.2.2.2.1, zr.2.2.2.2.2.2.2.2.2.2.1, zr.2.2.2.2.2.2.2.2.2.2.2.1, zr.2.2.2.2.2.2.2.2.2.2.2.2.1, zr.2.2.2.2.2.2.2.2.2.2.2.2.2.1, zr.2.2.2.2.2.2.2.2.2.2.2.2.2.2.1, zr.2.2.2.2.2.2.2.2.2.2.2.2.2.2.2.1, zr.2.2.2.2.2.2.2.2.2.2.2.2.2.2.2.2.1, zr.2.2.2.2.2.2.2.2.2.2.2.2.2.2.2.2.2), rfl, ⟨i0.1, by omega⟩, ⟨e1, e2, e3⟩, i2, i3, i4, i5, i6, i7, i8, i9⟩, op_mk ((g_coreB (d := 26) hc).mpr rfl) ((m_core (d := 30) (by rw [e1]; exact hn)).mpr rfl) (by rw [e1, if_neg (by rw [hc]; decide)])⟩
  · obtain ⟨j, hj, rfl⟩ := (cl_hN hn).mp hc
    have hr := pe_refR i0.1 i5
    exact ⟨_, ⟨n, zj, za, zc, ze, pe_ref n zp, zx, zu, zm, zk, (0, zr.2.1, zr.2.2.1, zr.2.2.2.1, zr.2.2.2.2.1, zr.2.2.2.2.2.1, (rf_pl zr.2.2.2.1 zr.2.1 zr.2.2.2.2.2.2.1 zr.2.2.2.2.2.2.2.1).2.2.1, (rf_pl zr.2.2.2.1 zr.2.1 zr.2.2.2.2.2.2.1 zr.2.2.2.2.2.2.2.1).2.2.2, zr.2.2.2.2.2.2.2.2.1, zr.2.2.2.2.2.2.2.2.2.1, zr.2.2.2.2.2.2.2.2.2.2.1, zr.2.2.2.2.2.2.2.2.2.2.2.1, zr.2.2.2.2.2.2.2.2.2.2.2.2.1, zr.2.2.2.2.2.2.2.2.2.2.2.2.2.1, zr.2.2.2.2.2.2.2.2.2.2.2.2.2.2.1, zr.2.2.2.2.2.2.2.2.2.2.2.2.2.2.2.1, zr.2.2.2.2.2.2.2.2.2.2.2.2.2.2.2.2.1, zr.2.2.2.2.2.2.2.2.2.2.2.2.2.2.2.2.2), rfl, ⟨i0.1, by omega⟩, ⟨e1, e2, e3⟩, i2, i3, i4, cx_now hr.1 hr.2, i6, i7, i8, i9⟩, op_mk ((g_core (d := 26) i0.1.1 hj).mpr rfl) ((m_core (d := 30) (by rw [e1]; exact hn)).mpr rfl) (by rw [e1, e2, if_pos hc, cl_cn (by omega), (hr.1 zr.2.2.2.2.2.2.1 zr.2.2.2.2.2.2.2.1 j hj).2])⟩
theorem op_search {ch : Nat} {h : mi_H} (I : IV ch h) (k : Int32) : ∃ h2, IV (ch + 1) h2 ∧ op 57 112 [.inl k] h h2 := by
  obtain ⟨n, zj, za, zc, ze, zp, zx, zu, zm, zk, zr, rfl, i0, ⟨e1, e2, e3⟩, i2, i3, i4, i5, i6, i7, i8, i9⟩ := I
  have hn := i0.1.1.1
  have hpw : 2 ^ n.1 ≤ 2 ^ 16 := Nat.pow_le_pow_right (by decide) hn
  have hp1 : 1 ≤ 2 ^ n.1 := Nat.one_le_two_pow
  cases hc : cl_r k (nI 1) (nI 100000)
  · exact ⟨_, ⟨n, zj, za, zc, ze, zp, zx, zu, zm, zk, (0, zr.2.1, zr.2.2.1, zr.2.2.2.1, zr.2.2.2.2.1, zr.2.2.2.2.2.1, zr.2.2.2.2.2.2.1, zr.2.2.2.2.2.2.2.1, zr.2.2.2.2.2.2.2.2.1, zr.2.2.2.2.2.2.2.2.2.1, zr.2.2.2.2.2.2.2.2.2.2.1, zr.2.2.2.2.2.2.2.2.2.2.2.1, zr.2.2.2.2.2.2.2.2.2.2.2.2.1, zr.2.2.2.2.2.2.2.2.2.2.2.2.2.1, zr.2.2.2.2.2.2.2.2.2.2.2.2.2.2.1, zr.2.2.2.2.2.2.2.2.2.2.2.2.2.2.2.1, zr.2.2.2.2.2.2.2.2.2.2.2.2.2.2.2.2.1, zr.2.2.2.2.2.2.2.2.2.2.2.2.2.2.2.2.2), rfl, ⟨i0.1, by omega⟩, ⟨e1, e2, e3⟩, i2, i3, i4, i5, i6, i7, i8, i9⟩, op_mk ((g_searchB (d := 10) hc).mpr rfl) ((m_searchB (d := 10) hc).mpr rfl) rfl⟩
  · obtain ⟨w, h1, h2, rfl⟩ := cl_rE hc (by decide) (by decide)
    have he : (se_new n w zx).2 = (rf_new zr w).2 := by
      unfold se_new rf_new
      rw [e1, e2]
      exact sr_eq i0.1 w zx.1 zr.2.2.2.2.2.1
    have ok2 : rf_ok w (rf_new zr w) := rf_br_ok (by rw [e1]; exact hn) 17 0 (2 ^ zr.2.1 - 1) (zr.2.2.2.2.2.1, 0, 0, 0, 0) (by decide) (by rw [e1]; omega) ⟨show (0 : Nat) < 65536 by decide, Nat.zero_le _, Nat.zero_le _⟩
    refine ⟨_, ⟨n, zj, za, zc, ze, zp, se_fin n w zx, zu, zm, zk, rf_fin zr w, rfl, ⟨i0.1, by omega⟩, ?_, i2, i3, i4, i5, ?_, ?_, i8, ?_⟩, op_mk ((g_search (d := 10) i0.1.1 h1 h2).mpr rfl) ((m_search (d := 10) (by rw [e1]; exact hn) (by rw [e2]; exact i0.1.2.2.1) h1 h2).mpr rfl) (by rw [he])⟩
    · unfold rf_fin
      split <;> exact ⟨e1, e2, e3⟩
    · unfold rf_fin se_fin
      rw [he]
      by_cases hz : (rf_new zr w).2.2.2.2 = 0
      · rw [if_pos hz, if_pos hz]
        exact ⟨rfl, by dsimp only; omega⟩
      · rw [if_neg hz, if_neg hz]
        refine ⟨?_, ok2.2.2⟩
        try dsimp only
        rw [e1, e2, (co_eq hn (2 ^ n.1 - 1) ((se_new n w zx).1 0) (rf_new zr w).1).1]
    · unfold rf_fin
      split <;> exact i7
    · unfold rf_fin
      split <;> exact i9
theorem op_searched {ch : Nat} {h : mi_H} (I : IV ch h) (k : Int32) : ∃ h2, IV (ch + 1) h2 ∧ op 60 114 [.inl k] h h2 := by
  obtain ⟨n, zj, za, zc, ze, zp, zx, zu, zm, zk, zr, rfl, i0, ⟨e1, e2, e3⟩, i2, i3, i4, i5, i6, i7, i8, i9⟩ := I
  refine ⟨_, ⟨n, zj, za, zc, ze, zp, zx, zu, zm, zk, (0, zr.2.1, zr.2.2.1, zr.2.2.2.1, zr.2.2.2.2.1, zr.2.2.2.2.2.1, zr.2.2.2.2.2.2.1, zr.2.2.2.2.2.2.2.1, zr.2.2.2.2.2.2.2.2.1, zr.2.2.2.2.2.2.2.2.2.1, zr.2.2.2.2.2.2.2.2.2.2.1, zr.2.2.2.2.2.2.2.2.2.2.2.1, zr.2.2.2.2.2.2.2.2.2.2.2.2.1, zr.2.2.2.2.2.2.2.2.2.2.2.2.2.1, zr.2.2.2.2.2.2.2.2.2.2.2.2.2.2.1, zr.2.2.2.2.2.2.2.2.2.2.2.2.2.2.2.1, zr.2.2.2.2.2.2.2.2.2.2.2.2.2.2.2.2.1, zr.2.2.2.2.2.2.2.2.2.2.2.2.2.2.2.2.2), rfl, ⟨i0.1, by omega⟩, ⟨e1, e2, e3⟩, i2, i3, i4, i5, i6, i7, i8, i9⟩, op_mk ((g_searched (d := 32) (by rw [i6.1]; exact i6.2)).mpr rfl) ((m_searched (d := 32) i6.2).mpr rfl) ?_⟩
  unfold cl_se rf_se
  rw [i6.1]
theorem op_sure {ch : Nat} {h : mi_H} (I : IV ch h) (k : Int32) : ∃ h2, IV (ch + 1) h2 ∧ op 61 115 [.inl k] h h2 := by
  obtain ⟨n, zj, za, zc, ze, zp, zx, zu, zm, zk, zr, rfl, i0, ⟨e1, e2, e3⟩, i2, i3, i4, i5, i6, i7, i8, i9⟩ := I
  have hn := i0.1.1.1
  cases hc : cl_r k (nI 0) (nI 16)
  · exact ⟨_, ⟨n, zj, za, zc, ze, zp, zx, zu, zm, zk, (0, zr.2.1, zr.2.2.1, zr.2.2.2.1, zr.2.2.2.2.1, zr.2.2.2.2.2.1, zr.2.2.2.2.2.2.1, zr.2.2.2.2.2.2.2.1, zr.2.2.2.2.2.2.2.2.1, zr.2.2.2.2.2.2.2.2.2.1, zr.2.2.2.2.2.2.2.2.2.2.1, zr.2.2.2.2.2.2.2.2.2.2.2.1, zr.2.2.2.2.2.2.2.2.2.2.2.2.1, zr.2.2.2.2.2.2.2.2.2.2.2.2.2.1, zr.2.2.2.2.2.2.2.2.2.2.2.2.2.2.1, zr.2.2.2.2.2.2.2.2.2.2.2.2.2.2.2.1, zr.2.2.2.2.2.2.2.2.2.2.2.2.2.2.2.2.1, zr.2.2.2.2.2.2.2.2.2.2.2.2.2.2.2.2.2), rfl, ⟨i0.1, by omega⟩, ⟨e1, e2, e3⟩, i2, i3, i4, i5, i6, i7, i8, i9⟩, op_mk ((g_sureB (d := 26) hc).mpr rfl) ((m_sureB (d := 30) hc).mpr rfl) rfl⟩
  · obtain ⟨j, _, hj, rfl⟩ := cl_rE hc (by decide) (by decide)
    have hs := su_eq i0.1 zu.2.2.2 17 (2 ^ n.1 - 1) 0 (j + 1) (by rw [nm_call n.1 hn]; omega) (fun i hi => by rw [nm_full] at hi; exact of_decide_eq_true hi) (by omega)
    have ek : nI (j + 1) - nI 1 = nI j := cn_sub (by omega)
    rw [ek] at hs
    have hm := fun zu' => m_sure (d := 30) (k := j) (n := n) (zj := zj) (za := za) (zc := zc) (ze := ze) (zp := zp) (zx := zx) (zu := zu') (zm := zm) (zk := zk) (zr := zr) (r := (some (.inl (rf_sr (rf_su zr.2.2.2.1 zr.2.1 17 (2 ^ zr.2.1 - 1) 0 (j + 1)))), hp n zj za zc ze zp zx zu' zm zk (rf_sz2 zr (rf_su zr.2.2.2.1 zr.2.1 17 (2 ^ zr.2.1 - 1) 0 (j + 1))))) (by rw [e1]; exact hn) hj
    rw [e1, e2] at hm
    generalize rf_su n.2.2.2 n.1 17 (2 ^ n.1 - 1) 0 (j + 1) = o at hs hm
    refine ⟨_, ⟨n, zj, za, zc, ze, zp, zx, _, zm, zk, rf_sz2 zr o, rfl, ⟨i0.1, by omega⟩, ?_, i2, i3, i4, i5, ?_, ?_, i8, ?_⟩, op_mk ((g_sure (d := 26) i0.1.1 hj).mpr rfl) ((hm _).mpr rfl) ?_⟩
    · cases o <;> exact ⟨e1, e2, e3⟩
    · cases o <;> exact i6
    · cases o with
      | none => exact hs.2.trans i7
      | some q =>
        have hs : su_end n (su_run n.2.2.2 17 (2 ^ n.1 - 1, 0, nI j, zu.2.2.2) true) = _ := hs
        rw [hs]
        rfl
    · cases o <;> exact i9
    · cases o with
      | none => exact hs.1
      | some q =>
        have hs : su_end n (su_run n.2.2.2 17 (2 ^ n.1 - 1, 0, nI j, zu.2.2.2) true) = _ := hs
        rw [hs]
        rfl
theorem op_taken {ch : Nat} {h : mi_H} (I : IV ch h) (k : Int32) : ∃ h2, IV (ch + 1) h2 ∧ op 67 119 [.inl k] h h2 := by
  obtain ⟨n, zj, za, zc, ze, zp, zx, zu, zm, zk, zr, rfl, i0, ⟨e1, e2, e3⟩, i2, i3, i4, i5, i6, i7, i8, i9⟩ := I
  refine ⟨_, ⟨n, zj, za, zc, ze, zp, zx, zu, zm, zk, (0, zr.2.1, zr.2.2.1, zr.2.2.2.1, zr.2.2.2.2.1, zr.2.2.2.2.2.1, zr.2.2.2.2.2.2.1, zr.2.2.2.2.2.2.2.1, zr.2.2.2.2.2.2.2.2.1, zr.2.2.2.2.2.2.2.2.2.1, zr.2.2.2.2.2.2.2.2.2.2.1, zr.2.2.2.2.2.2.2.2.2.2.2.1, zr.2.2.2.2.2.2.2.2.2.2.2.2.1, zr.2.2.2.2.2.2.2.2.2.2.2.2.2.1, zr.2.2.2.2.2.2.2.2.2.2.2.2.2.2.1, zr.2.2.2.2.2.2.2.2.2.2.2.2.2.2.2.1, zr.2.2.2.2.2.2.2.2.2.2.2.2.2.2.2.2.1, zr.2.2.2.2.2.2.2.2.2.2.2.2.2.2.2.2.2), rfl, ⟨i0.1, by omega⟩, ⟨e1, e2, e3⟩, i2, i3, i4, i5, i6, i7, i8, i9⟩, op_mk ((g_taken (d := 32)).mpr rfl) ((m_taken (d := 32)).mpr rfl) ?_⟩
  rw [i7]
  rfl
theorem op_sides {ch : Nat} {h : mi_H} (I : IV ch h) : ∃ h2, IV (ch + 1) h2 ∧ op 68 120 [] h h2 := by
  obtain ⟨n, zj, za, zc, ze, zp, zx, zu, zm, zk, zr, rfl, i0, ⟨e1, e2, e3⟩, i2, i3, i4, i5, i6, i7, i8, i9⟩ := I
  have hn := i0.1.1.1
  exact ⟨_, ⟨n, zj, za, zc, ze, zp, zx, zu, zm, zk, (0, zr.2.1, zr.2.2.1, zr.2.2.2.1, zr.2.2.2.2.1, zr.2.2.2.2.2.1, zr.2.2.2.2.2.2.1, zr.2.2.2.2.2.2.2.1, zr.2.2.2.2.2.2.2.2.1, zr.2.2.2.2.2.2.2.2.2.1, zr.2.2.2.2.2.2.2.2.2.2.1, zr.2.2.2.2.2.2.2.2.2.2.2.1, zr.2.2.2.2.2.2.2.2.2.2.2.2.1, zr.2.2.2.2.2.2.2.2.2.2.2.2.2.1, zr.2.2.2.2.2.2.2.2.2.2.2.2.2.2.1, zr.2.2.2.2.2.2.2.2.2.2.2.2.2.2.2.1, zr.2.2.2.2.2.2.2.2.2.2.2.2.2.2.2.2.1, zr.2.2.2.2.2.2.2.2.2.2.2.2.2.2.2.2.2), rfl, ⟨i0.1, by omega⟩, ⟨e1, e2, e3⟩, i2, i3, i4, i5, i6, i7, i8, i9⟩, op_mk ((g_sides (d := 29) i0.1.1).mpr rfl) ((m_sides (d := 30) (by rw [e1]; exact hn) (by rw [e2]; exact i0.1.1.2.1)).mpr rfl) (by rw [e1, e2]; exact ne_sides i0.1)⟩
theorem op_pairs {ch : Nat} {h : mi_H} (I : IV ch h) : ∃ h2, IV (ch + 1) h2 ∧ op 71 122 [] h h2 := by
  obtain ⟨n, zj, za, zc, ze, zp, zx, zu, zm, zk, zr, rfl, i0, ⟨e1, e2, e3⟩, i2, i3, i4, i5, i6, i7, i8, i9⟩ := I
  have hn := i0.1.1.1
  obtain ⟨m', p1, p2, p3, p4⟩ := pr_is i0.1 i8.1 i8.2.1 i8.2.2 zr.2.2.2.2.2.2.2.2.2.2.2.2.2.2.2.2.2
  exact ⟨_, ⟨n, zj, za, zc, ze, zp, zx, zu, m', zk, (0, zr.2.1, zr.2.2.1, zr.2.2.2.1, zr.2.2.2.2.1, zr.2.2.2.2.2.1, zr.2.2.2.2.2.2.1, zr.2.2.2.2.2.2.2.1, zr.2.2.2.2.2.2.2.2.1, zr.2.2.2.2.2.2.2.2.2.1, zr.2.2.2.2.2.2.2.2.2.2.1, zr.2.2.2.2.2.2.2.2.2.2.2.1, zr.2.2.2.2.2.2.2.2.2.2.2.2.1, zr.2.2.2.2.2.2.2.2.2.2.2.2.2.1, zr.2.2.2.2.2.2.2.2.2.2.2.2.2.2.1, zr.2.2.2.2.2.2.2.2.2.2.2.2.2.2.2.1, zr.2.2.2.2.2.2.2.2.2.2.2.2.2.2.2.2.1, rf_pr zr.2.2.2.1 zr.2.1 zr.2.2.2.2.2.2.2.2.2.2.2.2.2.2.2.2.2), rfl, ⟨i0.1, by omega⟩, ⟨e1, e2, e3⟩, i2, i3, i4, i5, i6, i7, ⟨p2, p3, p4⟩, i9⟩, op_mk ((g_pairs (d := 26) i0.1.1 i8.1 p1).mpr rfl) ((m_pairs (d := 30) (by rw [e1]; exact hn)).mpr rfl) (by rw [e1, e2])⟩
theorem op_count {ch : Nat} {h : mi_H} (I : IV ch h) (k : Int32) : ∃ h2, IV (ch + 1) h2 ∧ op 81 123 [.inl k] h h2 := by
  obtain ⟨n, zj, za, zc, ze, zp, zx, zu, zm, zk, zr, rfl, i0, ⟨e1, e2, e3⟩, i2, i3, i4, i5, i6, i7, i8, i9⟩ := I
  have hn := i0.1.1.1
  refine ⟨_, ⟨n, zj, za, zc, ze, zp, zx, zu, zm, zk, (0, zr.2.1, zr.2.2.1, zr.2.2.2.1, zr.2.2.2.2.1, zr.2.2.2.2.2.1, zr.2.2.2.2.2.2.1, zr.2.2.2.2.2.2.2.1, zr.2.2.2.2.2.2.2.2.1, zr.2.2.2.2.2.2.2.2.2.1, zr.2.2.2.2.2.2.2.2.2.2.1, zr.2.2.2.2.2.2.2.2.2.2.2.1, zr.2.2.2.2.2.2.2.2.2.2.2.2.1, zr.2.2.2.2.2.2.2.2.2.2.2.2.2.1, zr.2.2.2.2.2.2.2.2.2.2.2.2.2.2.1, zr.2.2.2.2.2.2.2.2.2.2.2.2.2.2.2.1, zr.2.2.2.2.2.2.2.2.2.2.2.2.2.2.2.2.1, zr.2.2.2.2.2.2.2.2.2.2.2.2.2.2.2.2.2), rfl, ⟨i0.1, by omega⟩, ⟨e1, e2, e3⟩, i2, i3, i4, i5, i6, i7, i8, i9⟩, op_mk ((g_count (d := 28) i0.1.1).mpr rfl) ((m_count (d := 30) (by rw [e1]; exact hn) (by rw [e2]; exact i0.1.1.2.1)).mpr rfl) ?_⟩
  unfold cl_ct rf_ct
  rw [e1, e2, e3, ct_ends, ct_wsum, ne_parts i0.1]

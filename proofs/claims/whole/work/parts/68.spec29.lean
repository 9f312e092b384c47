/-! code and reference side by side: what holds between two calls -/
theorem cl_rE {k : Int32} {a b : Nat} (h : cl_r k (nI a) (nI b) = true) (ha : a < 2 ^ 31) (hb : b < 2 ^ 31) : ∃ s, a ≤ s ∧ s ≤ b ∧ k = nI s := by
  unfold cl_r at h
  simp only [Bool.and_eq_true, Bool.not_eq_true', decide_eq_false_iff_not] at h
  have h0 : ¬ k < 0 := by
    intro h2
    refine h.1 ?_
    rw [Int32.lt_iff_toInt_lt] at h2 ⊢
    rw [nI_toInt ha]
    have e0 : (0 : Int32).toInt = 0 := by decide
    omega
  obtain ⟨j, hj, rfl⟩ := nI_of h0
  have h1 := h.1
  have h2 := h.2
  rw [nI_ltI hj ha] at h1
  rw [nI_ltI hb hj] at h2
  exact ⟨j, by omega, by omega, rfl⟩
theorem nI_bv (x : Int32) : x = nI x.toBitVec.toNat := nm_bv fun i hi => by
  rw [nm_g, BitVec.testBit_toNat]
  simp [hi]
theorem nI_z {x : Nat} (hx : x < 2 ^ 32) (h : nI x = nI 0) : x = 0 := by
  have h1 := congrArg (fun y : Int32 => y.toBitVec.toNat) h
  have e : ∀ k, (nI k).toBitVec.toNat = k % 2 ^ 32 := fun k => by
    show (BitVec.ofNat 32 k).toNat = _
    rw [BitVec.toNat_ofNat]
  try dsimp only at h1
  rw [e, e] at h1
  omega
theorem cl_aE {n : Nat} {x : Int32} : cl_a n x = true ↔ ∃ s, s < 2 ^ n ∧ x = nI s := by
  unfold cl_a
  rw [decide_eq_true_eq]
  constructor
  · intro h
    rw [nI_bv x, nm_not] at h
    have hlt : x.toBitVec.toNat < 2 ^ 32 := x.toBitVec.isLt
    have h0 := nI_z (Nat.lt_of_le_of_lt (nm_d_le _ _) hlt) h
    refine ⟨x.toBitVec.toNat, gb_in.mpr fun i hi => ?_, nI_bv x⟩
    have := nm_e0.mp h0 i
    rw [nm_d_t, hi] at this
    simpa using this
  · rintro ⟨s, hs, rfl⟩
    rw [nm_not, show nm_d s (2 ^ n - 1) = 0 from nm_e0.mpr fun i => by
      rw [nm_d_t]
      cases hi : s.testBit i
      · rfl
      · rw [gb_in.mp hs i hi]; rfl]
theorem cl_ar {n : Nat} {x : Int32} (hn : n ≤ 16) : cl_a n x = cl_r x (nI 0) (nI (2 ^ n - 1)) := by
  have hpw : 2 ^ n ≤ 2 ^ 16 := Nat.pow_le_pow_right (by decide) hn
  have hp1 : 1 ≤ 2 ^ n := Nat.one_le_two_pow
  rw [Bool.eq_iff_iff, cl_aE]
  constructor
  · rintro ⟨s, hs, rfl⟩
    exact cl_rN (Nat.zero_le s) (by omega) (by omega)
  · intro h
    obtain ⟨s, _, h2, h3⟩ := cl_rE h (by omega) (by omega)
    exact ⟨s, by omega, h3⟩
def pe_R (n : st_N) (z : st_P) : Prop := ∀ (g c : Nat → Nat) k, k < n.1 → z.1 k = (rf_pl n.2.2.2 n.1 g c).2.2.1 k ∧ z.2.1 k = (rf_pl n.2.2.2 n.1 g c).2.2.2 k
theorem pe_refR {n : st_N} (ok : gn_ok n) {z : st_P} (h : cx_ok z.2.2 n.2.1 (pe_R n z)) : pe_R n (pe_ref n z) ∧ (pe_ref n z).2.2 = nI n.2.1 := by
  unfold pe_ref
  by_cases e : z.2.2 = nI n.2.1
  · rw [if_pos e]
    exact ⟨h.2 e, e⟩
  · rw [if_neg e]
    exact ⟨fun g c => pl_eq ok z g c, rfl⟩
theorem cx_now {fa : Int32} {ch : Nat} {P : Prop} (h : P) (e : fa = nI ch) : cx_ok fa ch P := by
  rw [e]
  exact cx_new h
def iv (ch : Nat) (n : st_N) (zj za : st_X) (zc : st_C) (zp : st_P) (zx : st_S) (zu : st_U) (zm : st_M) (zr : st_R) : Prop := (gn_ok n ∧ n.2.1 ≤ ch) ∧ (zr.2.1 = n.1 ∧ zr.2.2.2.1 = n.2.2.2 ∧ zr.2.2.1 = n.2.2.1) ∧ ((∀ v, zj.1 v < 65536) ∧ cx_ok zj.2.2.2 n.2.1 (mx_R n.2.2.2 n.1 zj)) ∧ ((∀ v, za.1 v < 65536) ∧ cx_ok za.2.2.2 n.2.1 (mx_R (ap_E n.1 n.2.2.2) n.1 za)) ∧ cx_ok zc.2 n.2.1 (sc_R n zc) ∧ cx_ok zp.2.2 n.2.1 (pe_R n zp) ∧ (zx.2.2.2 = (zr.2.2.2.2.2.2.2.2.2.2.2.2.2.1, zr.2.2.2.2.2.2.2.2.2.2.2.2.2.2.1, zr.2.2.2.2.2.2.2.2.2.2.1, zr.2.2.2.2.2.2.2.2.2.2.2.1, zr.2.2.2.2.2.2.2.2.2.2.2.2.1) ∧ zr.2.2.2.2.2.2.2.2.2.2.2.2.1 ≤ 1) ∧ zu.2.2.2 = (zr.2.2.2.2.2.2.2.2.2.2.2.2.2.2.2.1, nI zr.2.2.2.2.2.2.2.2.2.2.2.2.2.2.2.2.1) ∧ (ma_ok zm ∧ (∀ i, 16 ≤ i → zm.1 i = none) ∧ ∀ i, 16 ≤ i → zm.2.1 i = none) ∧ ∀ j, zr.2.2.2.2.1 j < 65536
def IV (ch : Nat) (h : mi_H) : Prop := ∃ n zj za zc ze zp zx zu zm zk zr, h = hp n zj za zc ze zp zx zu zm zk zr ∧ iv ch n zj za zc zp zx zu zm zr
def op (M1 M2 : Nat) (x : mi_S) (h h2 : mi_H) : Prop := ∃ (v : Int32) (h1 : mi_H), (∃ fs, h1[61]? = some (.inl (9, fs))) ∧ mi_Go cs_P cs_mx 32 M1 0 (mi_ent (cs_mx M1) (.inr (.inr (some 0)) :: x)) [] h (some (.inl v), h1) ∧ mi_Go cs_P cs_mx 32 M2 0 (mi_ent (cs_mx M2) (.inr (.inr (some 61)) :: x)) [] h1 (some (.inl v), h2)
theorem op_mk {M1 M2 : Nat} {x : mi_S} {h h1 h2 : mi_H} {v v' : Int32} (a : mi_Go cs_P cs_mx 32 M1 0 (mi_ent (cs_mx M1) (.inr (.inr (some 0)) :: x)) [] h (some (.inl v), h1)) (b : mi_Go cs_P cs_mx 32 M2 0 (mi_ent (cs_mx M2) (.inr (.inr (some 61)) :: x)) [] h1 (some (.inl v'), h2)) (e : v = v') (k : ∃ fs, h1[61]? = some (.inl (9, fs)) := by exact ⟨_, rfl⟩) : op M1 M2 x h h2 := ⟨v, h1, k, a, by rw [e]; exact b⟩
theorem IV_0 {ch : Nat} {h : mi_H} (I : IV ch h) : ∃ fs, h[0]? = some (.inl (0, fs)) := by
  obtain ⟨n, zj, za, zc, ze, zp, zx, zu, zm, zk, zr, rfl, _⟩ := I
  exact ⟨_, rfl⟩
theorem IV_l {ch : Nat} {h : mi_H} (I : IV ch h) : h.length = 69 := by
  obtain ⟨n, zj, za, zc, ze, zp, zx, zu, zm, zk, zr, rfl, _⟩ := I
  rfl
theorem wl_bd {n : st_N} (ok : gn_ok n) (s : Nat) : rf_ws n.2.2.1 n.1 s < 2 ^ 31 := by
  have hn := ok.1.1
  have h := mi_it_le (f := fun v t => if s.testBit v then t + n.2.2.1 v else t) (b := 1000) (fun i t => by
    have := ok.2.2.2.2 i
    split <;> omega) n.1 0 0
  have : n.1 * 1000 ≤ 16 * 1000 := Nat.mul_le_mul_right _ hn
  unfold rf_ws
  omega
theorem mxj_lt {n : st_N} (ok : nt_ok n) {z : st_X} (h : ∀ v, z.1 v < 65536) : ∀ v, (mx_ref_j n z).1 v < 65536 := by
  unfold mx_ref_j
  by_cases e : z.2.2.2 = nI n.2.1
  · rw [if_pos e]; exact h
  · rw [if_neg e]
    intro v
    unfold mx_new_j mx_put
    dsimp only
    rw [mi_it_up]
    split
    · exact ok.2.1 v
    · exact h v
theorem mxa_lt {n : st_N} (ok : nt_ok n) {z : st_X} (h : ∀ v, z.1 v < 65536) : ∀ v, (mx_ref_a n z).1 v < 65536 := by
  have hpw : 2 ^ n.1 ≤ 2 ^ 16 := Nat.pow_le_pow_right (by decide) ok.1
  unfold mx_ref_a
  by_cases e : z.2.2.2 = nI n.2.1
  · rw [if_pos e]; exact h
  · rw [if_neg e]
    intro v
    unfold mx_new_a mx_put
    dsimp only
    rw [mi_it_up]
    split
    · exact nm_d_lt (nm_d_lt (by omega))
    · exact h v
/-! the calls -/
theorem op_node {ch : Nat} {h : mi_H} (hch : ch + 1 < 2 ^ 31) (I : IV ch h) (w : Int32) : ∃ h2, IV (ch + 1) h2 ∧ op 0 83 [.inl w] h h2 := by
  obtain ⟨n, zj, za, zc, ze, zp, zx, zu, zm, zk, zr, rfl, i0, ⟨e1, e2, e3⟩, i2, i3, i4, i5, i6, i7, i8, i9⟩ := I
  have hn := i0.1.1.1
  cases hw : cl_w w
  · exact ⟨_, ⟨n, zj, za, zc, ze, zp, zx, zu, zm, zk, (0, zr.2.1, zr.2.2.1, zr.2.2.2.1, zr.2.2.2.2.1, zr.2.2.2.2.2.1, zr.2.2.2.2.2.2.1, zr.2.2.2.2.2.2.2.1, zr.2.2.2.2.2.2.2.2.1, zr.2.2.2.2.2.2.2.2.2.1, zr.2.2.2.2.2.2.2.2.2.2.1, zr.2.2.2.2.2.2.2.2.2.2.2.1, zr.2.2.2.2.2.2.2.2.2.2.2.2.1, zr.2.2.2.2.2.2.2.2.2.2.2.2.2.1, zr.2.2.2.2.2.2.2.2.2.2.2.2.2.2.1, zr.2.2.2.2.2.2.2.2.2.2.2.2.2.2.2.1, zr.2.2.2.2.2.2.2.2.2.2.2.2.2.2.2.2.1, zr.2.2.2.2.2.2.2.2.2.2.2.2.2.2.2.2.2), rfl, ⟨i0.1, by omega⟩, ⟨e1, e2, e3⟩, i2, i3, i4, i5, i6, i7, i8, i9⟩, op_mk ((g_nodeF (d := 30) hw).mpr rfl) ((m_nodeF (d := 30) hw).mpr rfl) rfl⟩
  · obtain ⟨i, h1, h2, rfl⟩ := cl_wN.mp hw
    by_cases h16 : n.1 = 16
    · exact ⟨_, ⟨n, zj, za, zc, ze, zp, zx, zu, zm, zk, (0, zr.2.1, zr.2.2.1, zr.2.2.2.1, zr.2.2.2.2.1, zr.2.2.2.2.2.1, zr.2.2.2.2.2.2.1, zr.2.2.2.2.2.2.2.1, zr.2.2.2.2.2.2.2.2.1, zr.2.2.2.2.2.2.2.2.2.1, zr.2.2.2.2.2.2.2.2.2.2.1, zr.2.2.2.2.2.2.2.2.2.2.2.1, zr.2.2.2.2.2.2.2.2.2.2.2.2.1, zr.2.2.2.2.2.2.2.2.2.2.2.2.2.1, zr.2.2.2.2.2.2.2.2.2.2.2.2.2.2.1, zr.2.2.2.2.2.2.2.2.2.2.2.2.2.2.2.1, zr.2.2.2.2.2.2.2.2.2.2.2.2.2.2.2.2.1, zr.2.2.2.2.2.2.2.2.2.2.2.2.2.2.2.2.2), rfl, ⟨i0.1, by omega⟩, ⟨e1, e2, e3⟩, i2, i3, i4, i5, i6, i7, i8, i9⟩, op_mk ((g_nodeG (d := 30) h1 h2 h16).mpr rfl) ((m_nodeG (d := 30) h1 h2 (e1.trans h16)).mpr rfl) rfl⟩
    · have hlt : n.1 < 16 := by omega
      have hc : n.2.1 + 1 < 2 ^ 31 := by omega
      have hL : up_N n.2.2.2 n.1 0 = n.2.2.2 := funext fun j => by
        by_cases e : j = n.1
        · rw [e, up_N_eq, i0.1.1.2.2 n.1 (Nat.le_refl _)]
        · rw [up_N_ne e]
      refine ⟨_, ⟨(n.1 + 1, n.2.1 + 1, up_N n.2.2.1 n.1 i, up_N n.2.2.2 n.1 0), zj, za, zc, ze, zp, zx, zu, zm, zk, (0, zr.2.1 + 1, up_N zr.2.2.1 zr.2.1 i, zr.2.2.2.1, zr.2.2.2.2.1, zr.2.2.2.2.2.1, zr.2.2.2.2.2.2.1, zr.2.2.2.2.2.2.2.1, zr.2.2.2.2.2.2.2.2.1, zr.2.2.2.2.2.2.2.2.2.1, zr.2.2.2.2.2.2.2.2.2.2.1, zr.2.2.2.2.2.2.2.2.2.2.2.1, zr.2.2.2.2.2.2.2.2.2.2.2.2.1, zr.2.2.2.2.2.2.2.2.2.2.2.2.2.1, zr.2.2.2.2.2.2.2.2.2.2.2.2.2.2.1, zr.2.2.2.2.2.2.2.2.2.2.2.2.2.2.2.1, zr.2.2.2.2.2.2.2.2.2.2.2.2.2.2.2.2.1, zr.2.2.2.2.2.2.2.2.2.2.2.2.2.2.2.2.2), rfl, ⟨⟨⟨by dsimp only; omega, fun v => ?_, fun v hv => ?_⟩, fun a b => ?_, fun a => ?_, fun a ha => ?_, fun a => ?_⟩, by dsimp only; omega⟩, ⟨by dsimp only; rw [e1], by dsimp only; rw [hL, e2], by dsimp only; rw [e1, e3]⟩, ⟨i2.1, cx_old hc i2.2⟩, ⟨i3.1, cx_old hc i3.2⟩, cx_old hc i4, cx_old hc i5, i6, i7, i8, i9⟩, op_mk ((g_nodeT (d := 30) h1 h2 hlt).mpr rfl) ((m_nodeT (d := 30) h1 h2 (by rw [e1]; exact hlt)).mpr rfl) (by rw [e1])⟩
      · dsimp only; rw [hL]; exact i0.1.1.2.1 v
      · dsimp only at hv ⊢; rw [hL]; exact i0.1.1.2.2 v (by omega)
      · dsimp only; rw [hL]; exact i0.1.2.1 a b
      · dsimp only; rw [hL]; exact i0.1.2.2.1 a
      · try dsimp only at ha ⊢
        by_cases e : a = n.1
        · rw [e, up_N_eq]; exact h1
        · rw [up_N_ne e]; exact i0.1.2.2.2.1 a (by omega)
      · try dsimp only
        by_cases e : a = n.1
        · rw [e, up_N_eq]; exact h2
        · rw [up_N_ne e]; exact i0.1.2.2.2.2 a
theorem ed_on {L : Nat → Nat} {a b : Nat} (hab : a ≠ b) (x y : Nat) : (up_N (up_N L a (L a ||| 2 ^ b)) b (up_N L a (L a ||| 2 ^ b) b ||| 2 ^ a) x).testBit y = true ↔ ((L x).testBit y = true ∨ (x = a ∧ y = b) ∨ (x = b ∧ y = a)) := by
  rw [up_N_ne (f := L) (k := a) (j := b) (fun e => hab e.symm)]
  by_cases e1 : x = b
  · subst e1
    rw [up_N_eq, Nat.testBit_or, Bool.or_eq_true, nm_2t, decide_eq_true_eq]
    constructor
    · rintro (h | h)
      · exact .inl h
      · exact .inr (.inr ⟨rfl, h.symm⟩)
    · rintro (h | h | h)
      · exact .inl h
      · exact absurd h.1.symm hab
      · exact .inr h.2.symm
  · rw [up_N_ne e1]
    by_cases e2 : x = a
    · subst e2
      rw [up_N_eq, Nat.testBit_or, Bool.or_eq_true, nm_2t, decide_eq_true_eq]
      constructor
      · rintro (h | h)
        · exact .inl h
        · exact .inr (.inl ⟨rfl, h.symm⟩)
      · rintro (h | h | h)
        · exact .inl h
        · exact .inr h.2.symm
        · exact absurd h.1 e1
    · rw [up_N_ne e2]
      exact ⟨fun h => .inl h, fun h => h.elim id fun h => h.elim (fun h => absurd h.1 e2) fun h => absurd h.1 e1⟩
theorem ed_off {L : Nat → Nat} {a b : Nat} (hab : a ≠ b) (x y : Nat) : (up_N (up_N L a (nm_d (L a) (2 ^ b))) b (nm_d (up_N L a (nm_d (L a) (2 ^ b)) b) (2 ^ a)) x).testBit y = true ↔ ((L x).testBit y = true ∧ ¬ (x = a ∧ y = b) ∧ ¬ (x = b ∧ y = a)) := by
  rw [up_N_ne (f := L) (k := a) (j := b) (fun e => hab e.symm)]
  by_cases e1 : x = b
  · subst e1
    rw [up_N_eq, nm_d_t, Bool.and_eq_true, nm_2t, Bool.not_eq_true', decide_eq_false_iff_not]
    exact ⟨fun h => ⟨h.1, fun h' => hab h'.1.symm, fun h' => h.2 h'.2.symm⟩, fun h => ⟨h.1, fun e => h.2.2 ⟨rfl, e.symm⟩⟩⟩
  · rw [up_N_ne e1]
    by_cases e2 : x = a
    · subst e2
      rw [up_N_eq, nm_d_t, Bool.and_eq_true, nm_2t, Bool.not_eq_true', decide_eq_false_iff_not]
      exact ⟨fun h => ⟨h.1, fun h' => h.2 h'.2.symm, fun h' => e1 h'.1⟩, fun h => ⟨h.1, fun e => h.2.1 ⟨rfl, e.symm⟩⟩⟩
    · rw [up_N_ne e2]
      exact ⟨fun h => ⟨h, fun h' => e2 h'.1, fun h' => e1 h'.1⟩, fun h => h.1⟩
theorem ed_ok {n : st_N} (ok : gn_ok n) {c : Nat} {L' : Nat → Nat} {a b : Nat} (ha : a < n.1) (hb : b < n.1) (hab : a ≠ b) (h : (∀ x y, (L' x).testBit y = true ↔ ((n.2.2.2 x).testBit y = true ∨ (x = a ∧ y = b) ∨ (x = b ∧ y = a))) ∨ (∀ x y, (L' x).testBit y = true ↔ ((n.2.2.2 x).testBit y = true ∧ ¬ (x = a ∧ y = b) ∧ ¬ (x = b ∧ y = a)))) : gn_ok (n.1, c, n.2.2.1, L') := by
  have hn := ok.1.1
  have hJ := nt_ends_in ok
  have hend : ∀ x y, (L' x).testBit y = true → x < n.1 ∧ y < n.1 := fun x y hxy => by
    rcases h with h | h
    · rcases (h x y).mp hxy with h1 | h1 | h1
      · exact hJ x y h1
      · rw [h1.1, h1.2]; exact ⟨ha, hb⟩
      · rw [h1.1, h1.2]; exact ⟨hb, ha⟩
    · exact hJ x y ((h x y).mp hxy).1
  refine ⟨⟨hn, fun v => nm_lo fun i hi => ?_, fun v hv => nm_e0.mpr fun i => ?_⟩, fun i j => ?_, fun i => ?_, ok.2.2.2.1, ok.2.2.2.2⟩
  · cases hb' : (L' v).testBit i
    · rfl
    · have := (hend v i hb').2; omega
  · cases hb' : (L' v).testBit i
    · rfl
    · have := (hend v i hb').1
      try dsimp only at hv
      omega
  · show (L' i).testBit j = (L' j).testBit i
    rw [Bool.eq_iff_iff]
    have hs : (n.2.2.2 i).testBit j = true ↔ (n.2.2.2 j).testBit i = true := by rw [ok.2.1]
    rcases h with h | h
    · rw [h, h, hs]
      constructor
      · rintro (h1 | h1 | h1)
        · exact .inl h1
        · exact .inr (.inr ⟨h1.2, h1.1⟩)
        · exact .inr (.inl ⟨h1.2, h1.1⟩)
      · rintro (h1 | h1 | h1)
        · exact .inl h1
        · exact .inr (.inr ⟨h1.2, h1.1⟩)
        · exact .inr (.inl ⟨h1.2, h1.1⟩)
    · rw [h, h, hs]
      exact ⟨fun h1 => ⟨h1.1, fun h2 => h1.2.2 ⟨h2.2, h2.1⟩, fun h2 => h1.2.1 ⟨h2.2, h2.1⟩⟩, fun h1 => ⟨h1.1, fun h2 => h1.2.2 ⟨h2.2, h2.1⟩, fun h2 => h1.2.1 ⟨h2.2, h2.1⟩⟩⟩
  · show (L' i).testBit i = false
    rw [← Bool.not_eq_true]
    intro hi
    rcases h with h | h
    · rcases (h i i).mp hi with h1 | h1 | h1
      · rw [ok.2.2.1] at h1; cases h1
      · exact hab (h1.1.symm.trans h1.2)
      · exact hab (h1.2.symm.trans h1.1)
    · have := ((h i i).mp hi).1
      rw [ok.2.2.1] at this
      cases this
theorem op_edge {ch : Nat} {h : mi_H} (hch : ch + 1 < 2 ^ 31) (I : IV ch h) (a b : Int32) {o : Nat} (ho : o = 0 ∨ o = 1) : ∃ h2, IV (ch + 1) h2 ∧ op 4 85 [.inl a, .inl b, .inl (nI o)] h h2 := by
  obtain ⟨n, zj, za, zc, ze, zp, zx, zu, zm, zk, zr, rfl, i0, ⟨e1, e2, e3⟩, i2, i3, i4, i5, i6, i7, i8, i9⟩ := I
  have hn := i0.1.1.1
  cases hc : (cl_h n.1 a && cl_h n.1 b && !decide (a = b))
  · exact ⟨_, ⟨n, zj, za, zc, ze, zp, zx, zu, zm, zk, (0, zr.2.1, zr.2.2.1, zr.2.2.2.1, zr.2.2.2.2.1, zr.2.2.2.2.2.1, zr.2.2.2.2.2.2.1, zr.2.2.2.2.2.2.2.1, zr.2.2.2.2.2.2.2.2.1, zr.2.2.2.2.2.2.2.2.2.1, zr.2.2.2.2.2.2.2.2.2.2.1, zr.2.2.2.2.2.2.2.2.2.2.2.1, zr.2.2.2.2.2.2.2.2.2.2.2.2.1, zr.2.2.2.2.2.2.2.2.2.2.2.2.2.1, zr.2.2.2.2.2.2.2.2.2.2.2.2.2.2.1, zr.2.2.2.2.2.2.2.2.2.2.2.2.2.2.2.1, zr.2.2.2.2.2.2.2.2.2.2.2.2.2.2.2.2.1, zr.2.2.2.2.2.2.2.2.2.2.2.2.2.2.2.2.2), rfl, ⟨i0.1, by omega⟩, ⟨e1, e2, e3⟩, i2, i3, i4, i5, i6, i7, i8, i9⟩, op_mk ((g_edgeB (d := 30) hc).mpr rfl) ((m_edgeB (d := 30) (by rw [e1]; exact hn) (by rw [e1]; exact hc)).mpr rfl) rfl⟩
  · simp only [Bool.and_eq_true, Bool.not_eq_true', decide_eq_false_iff_not] at hc
    obtain ⟨x, hx, rfl⟩ := (cl_hN hn).mp hc.1.1
    obtain ⟨y, hy, rfl⟩ := (cl_hN hn).mp hc.1.2
    have hxy : x ≠ y := fun e => hc.2 (by rw [e])
    have hcc : n.2.1 + 1 < 2 ^ 31 := by omega
    refine ⟨_, ⟨(n.1, n.2.1 + 1, n.2.2.1, if o = 1 then up_N (up_N n.2.2.2 x (n.2.2.2 x ||| 2 ^ y)) y (up_N n.2.2.2 x (n.2.2.2 x ||| 2 ^ y) y ||| 2 ^ x) else up_N (up_N n.2.2.2 x (nm_d (n.2.2.2 x) (2 ^ y))) y (nm_d (up_N n.2.2.2 x (nm_d (n.2.2.2 x) (2 ^ y)) y) (2 ^ x))), zj, za, zc, ze, zp, zx, zu, zm, zk, (0, zr.2.1, zr.2.2.1, (if o = 1 then up_N (up_N zr.2.2.2.1 x (zr.2.2.2.1 x ||| 2 ^ y)) y (up_N zr.2.2.2.1 x (zr.2.2.2.1 x ||| 2 ^ y) y ||| 2 ^ x) else up_N (up_N zr.2.2.2.1 x (nm_d (zr.2.2.2.1 x) (2 ^ y))) y (nm_d (up_N zr.2.2.2.1 x (nm_d (zr.2.2.2.1 x) (2 ^ y)) y) (2 ^ x))), zr.2.2.2.2.1, zr.2.2.2.2.2.1, zr.2.2.2.2.2.2.1, zr.2.2.2.2.2.2.2.1, zr.2.2.2.2.2.2.2.2.1, zr.2.2.2.2.2.2.2.2.2.1, zr.2.2.2.2.2.2.2.2.2.2.1, zr.2.2.2.2.2.2.2.2.2.2.2.1, zr.2.2.2.2.2.2.2.2.2.2.2.2.1, zr.2.2.2.2.2.2.2.2.2.2.2.2.2.1, zr.2.2.2.2.2.2.2.2.2.2.2.2.2.2.1, zr.2.2.2.2.2.2.2.2.2.2.2.2.2.2.2.1, zr.2.2.2.2.2.2.2.2.2.2.2.2.2.2.2.2.1, zr.2.2.2.2.2.2.2.2.2.2.2.2.2.2.2.2.2), rfl, ⟨ed_ok i0.1 hx hy hxy ?_, by dsimp only; omega⟩, ⟨e1, by dsimp only; rw [e2], e3⟩, ⟨i2.1, cx_old hcc i2.2⟩, ⟨i3.1, cx_old hcc i3.2⟩, cx_old hcc i4, cx_old hcc i5, i6, i7, i8, i9⟩, op_mk ((g_edge (d := 30) i0.1.1 hx hy hxy ho).mpr rfl) ((m_edge (d := 30) (by rw [e1]; exact hn) (by rw [e1]; exact hx) (by rw [e1]; exact hy) hxy ho).mpr rfl) (by rw [e2])⟩
    rcases ho with e | e
    · rw [if_neg (by omega)]
      exact .inr (ed_off hxy)
    · rw [if_pos e]
      exact .inl (ed_on hxy)
theorem op_weight {ch : Nat} {h : mi_H} (I : IV ch h) (v w : Int32) : ∃ h2, IV (ch + 1) h2 ∧ op 9 87 [.inl v, .inl w] h h2 := by
  obtain ⟨n, zj, za, zc, ze, zp, zx, zu, zm, zk, zr, rfl, i0, ⟨e1, e2, e3⟩, i2, i3, i4, i5, i6, i7, i8, i9⟩ := I
  have hn := i0.1.1.1
  cases hc : (cl_h n.1 v && cl_w w)
  · exact ⟨_, ⟨n, zj, za, zc, ze, zp, zx, zu, zm, zk, (0, zr.2.1, zr.2.2.1, zr.2.2.2.1, zr.2.2.2.2.1, zr.2.2.2.2.2.1, zr.2.2.2.2.2.2.1, zr.2.2.2.2.2.2.2.1, zr.2.2.2.2.2.2.2.2.1, zr.2.2.2.2.2.2.2.2.2.1, zr.2.2.2.2.2.2.2.2.2.2.1, zr.2.2.2.2.2.2.2.2.2.2.2.1, zr.2.2.2.2.2.2.2.2.2.2.2.2.1, zr.2.2.2.2.2.2.2.2.2.2.2.2.2.1, zr.2.2.2.2.2.2.2.2.2.2.2.2.2.2.1, zr.2.2.2.2.2.2.2.2.2.2.2.2.2.2.2.1, zr.2.2.2.2.2.2.2.2.2.2.2.2.2.2.2.2.1, zr.2.2.2.2.2.2.2.2.2.2.2.2.2.2.2.2.2), rfl, ⟨i0.1, by omega⟩, ⟨e1, e2, e3⟩, i2, i3, i4, i5, i6, i7, i8, i9⟩, op_mk ((g_weightB (d := 30) hc).mpr rfl) ((m_weightB (d := 30) (by rw [e1]; exact hn) (by rw [e1]; exact hc)).mpr rfl) rfl⟩
  · rw [Bool.and_eq_true] at hc
    obtain ⟨x, hx, rfl⟩ := (cl_hN hn).mp hc.1
    obtain ⟨y, h1, h2, rfl⟩ := cl_wN.mp hc.2
    refine ⟨_, ⟨(n.1, n.2.1, up_N n.2.2.1 x y, n.2.2.2), zj, za, zc, ze, zp, zx, zu, zm, zk, (0, zr.2.1, up_N zr.2.2.1 x y, zr.2.2.2.1, zr.2.2.2.2.1, zr.2.2.2.2.2.1, zr.2.2.2.2.2.2.1, zr.2.2.2.2.2.2.2.1, zr.2.2.2.2.2.2.2.2.1, zr.2.2.2.2.2.2.2.2.2.1, zr.2.2.2.2.2.2.2.2.2.2.1, zr.2.2.2.2.2.2.2.2.2.2.2.1, zr.2.2.2.2.2.2.2.2.2.2.2.2.1, zr.2.2.2.2.2.2.2.2.2.2.2.2.2.1, zr.2.2.2.2.2.2.2.2.2.2.2.2.2.2.1, zr.2.2.2.2.2.2.2.2.2.2.2.2.2.2.2.1, zr.2.2.2.2.2.2.2.2.2.2.2.2.2.2.2.2.1, zr.2.2.2.2.2.2.2.2.2.2.2.2.2.2.2.2.2), rfl, ⟨⟨i0.1.1, i0.1.2.1, i0.1.2.2.1, fun a ha => ?_, fun a => ?_⟩, by dsimp only; omega⟩, ⟨e1, e2, by dsimp only; rw [e3]⟩, i2, i3, i4, i5, i6, i7, i8, i9⟩, op_mk ((g_weight (d := 30) hn hx h1 h2).mpr rfl) ((m_weight (d := 30) (by rw [e1]; exact hn) (by rw [e1]; exact hx) h1 h2).mpr rfl) (by rw [e3])⟩
    · try dsimp only at ha ⊢
      by_cases e : a = x
      · rw [e, up_N_eq]; exact h1
      · rw [up_N_ne e]; exact i0.1.2.2.2.1 a ha
    · try dsimp only
      by_cases e : a = x
      · rw [e, up_N_eq]; exact h2
      · rw [up_N_ne e]; exact i0.1.2.2.2.2 a
theorem op_neighbours {ch : Nat} {h : mi_H} (I : IV ch h) (v : Int32) : ∃ h2, IV (ch + 1) h2 ∧ op 11 88 [.inl v] h h2 := by
  obtain ⟨n, zj, za, zc, ze, zp, zx, zu, zm, zk, zr, rfl, i0, ⟨e1, e2, e3⟩, i2, i3, i4, i5, i6, i7, i8, i9⟩ := I
  have hn := i0.1.1.1
  refine ⟨_, ⟨n, zj, za, zc, ze, zp, zx, zu, zm, zk, (0, zr.2.1, zr.2.2.1, zr.2.2.2.1, zr.2.2.2.2.1, zr.2.2.2.2.2.1, zr.2.2.2.2.2.2.1, zr.2.2.2.2.2.2.2.1, zr.2.2.2.2.2.2.2.2.1, zr.2.2.2.2.2.2.2.2.2.1, zr.2.2.2.2.2.2.2.2.2.2.1, zr.2.2.2.2.2.2.2.2.2.2.2.1, zr.2.2.2.2.2.2.2.2.2.2.2.2.1, zr.2.2.2.2.2.2.2.2.2.2.2.2.2.1, zr.2.2.2.2.2.2.2.2.2.2.2.2.2.2.1, zr.2.2.2.2.2.2.2.2.2.2.2.2.2.2.2.1, zr.2.2.2.2.2.2.2.2.2.2.2.2.2.2.2.2.1, zr.2.2.2.2.2.2.2.2.2.2.2.2.2.2.2.2.2), rfl, ⟨i0.1, by omega⟩, ⟨e1, e2, e3⟩, i2, i3, i4, i5, i6, i7, i8, i9⟩, ?_⟩
  cases hc : cl_h n.1 v
  · exact op_mk ((g_neighboursB (d := 30) hc).mpr rfl) ((m_neighboursB (d := 30) (by rw [e1]; exact hn) (by rw [e1]; exact hc)).mpr rfl) rfl
  · obtain ⟨x, hx, rfl⟩ := (cl_hN hn).mp hc
    exact op_mk ((g_neighbours (d := 30) i0.1.1 hx).mpr rfl) ((m_neighbours (d := 30) (by rw [e1]; exact hn) (by rw [e1]; exact hx)).mpr rfl) (by rw [e2])

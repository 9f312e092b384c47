/-! the code's row of maximal sets -/
theorem mr_ml {E E' : Nat → Nat} {cd op : Nat} (h : ∀ v, cd.testBit v = true → E v = E' v) : mx_ml E cd op = mx_ml E' cd op := by
  unfold mx_ml
  refine mi_it_congr (fun v b _ => ?_) 0
  cases hv : cd.testBit v
  · rw [if_neg (fun h => by cases h.1), if_neg (fun h => by cases h.1)]
  · rw [h v hv]
theorem mr_gl {E E' : Nat → Nat} {A : Nat} (h : ∀ v, A.testBit v = true → E v = E' v) : ∀ (k set op sh : Nat), (∀ v, op.testBit v = true → A.testBit v = true) → (∀ v, sh.testBit v = true → A.testBit v = true) → mx_gl E k set op sh = mx_gl E' k set op sh := by
  intro k
  induction k with
  | zero => intro set op sh _ _; rfl
  | succ k ih =>
    intro set op sh h1 h2
    rw [mx_gl, mx_gl]
    have e1 : mx_ml E (op ||| sh) op = mx_ml E' (op ||| sh) op := mr_ml fun v hv => by
      rw [Nat.testBit_or, Bool.or_eq_true] at hv
      rcases hv with hv | hv
      · exact h v (h1 v hv)
      · exact h v (h2 v hv)
    by_cases h0 : op = 0
    · rw [if_pos h0, if_pos h0]
    · rw [if_neg h0, if_neg h0, e1]
      have key := mi_it_rel (n := 16) (f := fun v (q : Nat × Nat × List Nat) => if (nm_d op (mx_ml E' (op ||| sh) op)).testBit v = true then (nm_d q.1 (2 ^ v), q.2.1 ||| 2 ^ v, q.2.2 ++ mx_gl E k (set ||| 2 ^ v) (q.1 &&& E v) (q.2.1 &&& E v)) else q) (g := fun v (q : Nat × Nat × List Nat) => if (nm_d op (mx_ml E' (op ||| sh) op)).testBit v = true then (nm_d q.1 (2 ^ v), q.2.1 ||| 2 ^ v, q.2.2 ++ mx_gl E' k (set ||| 2 ^ v) (q.1 &&& E' v) (q.2.1 &&& E' v)) else q) (R := fun _ q q' => q = q' ∧ (∀ v, q.1.testBit v = true → A.testBit v = true) ∧ ∀ v, q.2.1.testBit v = true → A.testBit v = true) (fun v q q' _ hq => by
        obtain ⟨e, a, b⟩ := hq
        subst e
        cases hv : (nm_d op (mx_ml E' (op ||| sh) op)).testBit v
        · rw [if_neg (by decide), if_neg (by decide)]
          exact ⟨rfl, a, b⟩
        · rw [if_pos rfl, if_pos rfl]
          rw [nm_d_t, Bool.and_eq_true] at hv
          have hA := h1 v hv.1
          rw [h v hA, ih (set ||| 2 ^ v) (q.1 &&& E' v) (q.2.1 &&& E' v) (fun i hi => by
            rw [Nat.testBit_and, Bool.and_eq_true] at hi
            exact a i hi.1) (fun i hi => by
            rw [Nat.testBit_and, Bool.and_eq_true] at hi
            exact b i hi.1)]
          refine ⟨rfl, fun i hi => ?_, fun i hi => ?_⟩
          · dsimp only at hi
            rw [nm_d_t, Bool.and_eq_true] at hi
            exact a i hi.1
          · dsimp only at hi
            rw [Nat.testBit_or, Bool.or_eq_true, nm_2t, decide_eq_true_eq] at hi
            rcases hi with hi | hi
            · exact b i hi
            · rw [← hi]; exact hA) 16 0 (op, sh, []) (op, sh, []) (by omega) ⟨rfl, h1, h2⟩
      exact congrArg (fun q : Nat × Nat × List Nat => q.2.2) key.1
theorem mr_row {E : Nat → Nat} {n : Nat} (hn : n ≤ 16) (hsym : ∀ i j, (E i).testBit j = (E j).testBit i) (hirr : ∀ i, (E i).testBit i = false) (f : Nat → Nat) : so_ok ((mx_gl E 16 0 (2 ^ n - 1) 0).foldl mx_ins (f, 0)) ∧ (∀ x, so_in ((mx_gl E 16 0 (2 ^ n - 1) 0).foldl mx_ins (f, 0)) x ↔ gq_mx E (2 ^ n - 1) x) ∧ ((mx_gl E 16 0 (2 ^ n - 1) 0).foldl mx_ins (f, 0)).2 ≤ 324 := by
  have hpw : 2 ^ n ≤ 2 ^ 16 := Nat.pow_le_pow_right (by decide) hn
  have hp1 : 1 ≤ 2 ^ n := Nat.one_le_two_pow
  have hA : 2 ^ n - 1 < 65536 := by omega
  obtain ⟨g1, g2, g3⟩ := mx_gl_is (E := E) (A := 2 ^ n - 1) hsym hirr hA 16 0 (2 ^ n - 1) 0 (fun i j hi => by rw [Nat.zero_testBit] at hi; cases hi) (fun i hi => by rw [Nat.zero_testBit] at hi; cases hi) (fun v => by
    rw [Nat.zero_testBit]
    constructor
    · rintro (h | h)
      · exact ⟨h, rfl, fun u hu => by rw [Nat.zero_testBit] at hu; cases hu⟩
      · cases h
    · exact fun h => .inl h.1) (fun v _ => Nat.zero_testBit v) (nm_c_le 16 _)
  have hlen : (mx_gl E 16 0 (2 ^ n - 1) 0).length ≤ 324 := by
    rw [nm_c_full, Nat.min_eq_right hn] at g3
    exact Nat.le_trans g3 (mg_mono 16 (by decide) n hn)
  obtain ⟨k1, k2, k3⟩ := mx_all (mx_gl E 16 0 (2 ^ n - 1) 0) (f, 0) ⟨fun i h => absurd h (Nat.not_lt_zero _), fun i j _ h => absurd h (Nat.not_lt_zero _)⟩ (fun x hx => by
    have := ((g1 x).mp hx).1.2.1
    refine nm_lo fun i hi => ?_
    cases hb : x.testBit i
    · rfl
    · have h2 := this i hb
      rw [nm_hi hA hi] at h2
      cases h2) g2 (fun x _ h => by obtain ⟨i, a, -⟩ := h; exact absurd a (Nat.not_lt_zero _)) (by omega)
  refine ⟨k1, fun x => ?_, by rw [k3]; omega⟩
  rw [k2, g1]
  constructor
  · rintro (h | ⟨i, a, -⟩)
    · exact h.1
    · exact absurd a (Nat.not_lt_zero _)
  · exact fun h => .inl ⟨h, fun i hi => (by rw [Nat.zero_testBit] at hi; cases hi), fun i hi => (by rw [Nat.zero_testBit] at hi; cases hi)⟩

/-! cliques by size -/
def cq_s (op m : Nat) : Bool := decide (nm_d m op = 0)
theorem cq_s_iff {op m : Nat} : cq_s op m = true ↔ ∀ i, m.testBit i = true → op.testBit i = true := by
  unfold cq_s
  rw [decide_eq_true_eq, nm_e0]
  constructor
  · intro h i hi
    have := h i
    rw [nm_d_t, hi] at this
    simpa using this
  · intro h i
    rw [nm_d_t]
    cases hi : m.testBit i
    · rfl
    · rw [h i hi]; rfl
def cq_n (J : Nat → Nat) (n op j : Nat) : Nat := ct_n n (fun m => cq_s op m && (decide (nm_c 16 m = j) && rf_cl J n m))
theorem cq_add {m v : Nat} (hv : v < 16) (h : m.testBit v = false) : nm_c 16 (m ||| 2 ^ v) = nm_c 16 m + 1 := by
  rw [nm_c_add 16 (fun i _ hi => by
    rw [nm_2t]
    refine decide_eq_false fun e => ?_
    subst e
    rw [h] at hi
    cases hi), nm_c_2, if_pos hv]
theorem cq_split {J : Nat → Nat} {n op v j : Nat} (hn : n ≤ 16) (hsym : ∀ i j, (J i).testBit j = (J j).testBit i) (hirr : ∀ i, (J i).testBit i = false) (hv : v < n) (ho : op.testBit v = true) : cq_n J n op j = cq_n J n (nm_d op (2 ^ v)) j + (if j = 0 then 0 else cq_n J n (op &&& J v) (j - 1)) := by
  have hin : ∀ m, m < 2 ^ n → m ||| 2 ^ v < 2 ^ n := fun m hm => Nat.or_lt_two_pow hm (Nat.pow_lt_pow_right (by decide) hv)
  unfold cq_n
  rw [ct_split _ hv]
  congr 1
  · refine ct_congr n _ _ fun m hm => ?_
    rw [Bool.eq_iff_iff]
    simp only [Bool.and_eq_true, Bool.not_eq_true', cq_s_iff]
    constructor
    · rintro ⟨h1, h2, h3⟩
      refine ⟨fun i hi => ?_, h3⟩
      rw [nm_d_t, h2 i hi, nm_2t, decide_eq_false (fun e => by rw [e, hi] at h1; cases h1)]
      rfl
    · rintro ⟨h2, h3⟩
      refine ⟨?_, fun i hi => ?_, h3⟩
      · cases h : m.testBit v
        · rfl
        · have := h2 v h
          rw [nm_d_t, nm_2t, decide_eq_true rfl] at this
          simp at this
      · have := h2 i hi
        rw [nm_d_t, Bool.and_eq_true] at this
        exact this.1
  · by_cases hj : j = 0
    · rw [if_pos hj]
      rw [ct_congr n _ (fun _ => false) (fun m hm => by
        rw [← Bool.not_eq_true]
        simp only [Bool.and_eq_true, Bool.not_eq_true', decide_eq_true_eq]
        rintro ⟨h1, -, h2, -⟩
        rw [cq_add (by omega) h1] at h2
        omega)]
      exact ct_none n
    · rw [if_neg hj]
      refine ct_congr n _ _ fun m hm => ?_
      rw [Bool.eq_iff_iff]
      simp only [Bool.and_eq_true, Bool.not_eq_true', cq_s_iff, decide_eq_true_eq]
      rw [mq_cl hirr hm, mq_cl hirr (hin m hm)]
      constructor
      · rintro ⟨h1, h2, h3, h4⟩
        rw [cq_add (by omega) h1] at h3
        have h5 := or_new h1
        refine ⟨fun i hi => ?_, by omega, fun i k hi hk => h4 i k (h5.1 i hi) (h5.1 k hk)⟩
        rw [Nat.testBit_and, h2 i (h5.1 i hi), h4 v i h5.2.1 (h5.1 i hi) (fun e => by rw [e, hi] at h1; cases h1)]
        rfl
      · rintro ⟨h2, h3, h4⟩
        have h1 : m.testBit v = false := by
          cases h : m.testBit v
          · rfl
          · have := h2 v h
            rw [Nat.testBit_and, hirr] at this
            simp at this
        refine ⟨h1, fun i hi => ?_, by rw [cq_add (by omega) h1]; omega, gq_add hsym h4 fun u hu _ => ?_⟩
        · rw [Nat.testBit_or, Bool.or_eq_true, nm_2t, decide_eq_true_eq] at hi
          rcases hi with hi | hi
          · have := h2 i hi
            rw [Nat.testBit_and, Bool.and_eq_true] at this
            exact this.1
          · rw [← hi]; exact ho
        · have := h2 u hu
          rw [Nat.testBit_and, Bool.and_eq_true] at this
          rw [hsym]
          exact this.2

/-! sets of nodes as numbers: how many, subsets, cliques -/
theorem nm_2t (v i : Nat) : (2 ^ v).testBit i = decide (v = i) := Nat.testBit_two_pow
theorem nm_hi {m i : Nat} (h : m < 65536) (hi : 16 ≤ i) : m.testBit i = false := Nat.testBit_lt_two_pow (Nat.lt_of_lt_of_le h (Nat.pow_le_pow_right (n := 2) (by decide) hi))
theorem nm_lo {m : Nat} (h : ∀ i, 16 ≤ i → m.testBit i = false) : m < 65536 := Nat.lt_pow_two_of_testBit (n := 16) m h
theorem nm_d_lt {a b : Nat} (h : a < 65536) : nm_d a b < 65536 := nm_lo fun i hi => by rw [nm_d_t, nm_hi h hi]; rfl
theorem nm_e0 {m : Nat} : m = 0 ↔ ∀ i, m.testBit i = false := ⟨fun h i => by rw [h]; exact Nat.zero_testBit i, fun h => Nat.eq_of_testBit_eq fun i => by rw [h i, Nat.zero_testBit]⟩
theorem nm_n0 {m : Nat} (h : m ≠ 0) : ∃ i, m.testBit i = true := by
  refine Classical.byContradiction fun hc => h (nm_e0.mpr fun i => ?_)
  cases hb : m.testBit i
  · rfl
  · exact (hc ⟨i, hb⟩).elim
theorem nm_n0s {m : Nat} (h : m ≠ 0) (hm : m < 65536) : ∃ i, i < 16 ∧ m.testBit i = true := by
  obtain ⟨i, hi⟩ := nm_n0 h
  refine ⟨i, Nat.not_le.mp fun h16 => ?_, hi⟩
  rw [nm_hi hm h16] at hi
  cases hi
theorem nm_c_congr {a b : Nat} : ∀ k, (∀ i, i < k → a.testBit i = b.testBit i) → nm_c k a = nm_c k b := by
  intro k
  induction k with
  | zero => exact fun _ => rfl
  | succ k ih =>
    intro h
    show nm_c k a + (a.testBit k).toNat = nm_c k b + (b.testBit k).toNat
    rw [ih fun i hi => h i (by omega), h k (by omega)]
theorem nm_c_mono {a b : Nat} : ∀ k, (∀ i, i < k → a.testBit i = true → b.testBit i = true) → nm_c k a ≤ nm_c k b := by
  intro k
  induction k with
  | zero => exact fun _ => Nat.le_refl _
  | succ k ih =>
    intro h
    have h1 := ih fun i hi => h i (by omega)
    have h2 := h k (by omega)
    show nm_c k a + (a.testBit k).toNat ≤ nm_c k b + (b.testBit k).toNat
    cases ha : a.testBit k
    · simp only [Bool.toNat_false]
      omega
    · rw [h2 ha]
      omega
theorem nm_c_add {a b : Nat} : ∀ k, (∀ i, i < k → a.testBit i = true → b.testBit i = false) → nm_c k (a ||| b) = nm_c k a + nm_c k b := by
  intro k
  induction k with
  | zero => exact fun _ => rfl
  | succ k ih =>
    intro h
    have h1 := ih fun i hi => h i (by omega)
    have h2 := h k (by omega)
    show nm_c k (a ||| b) + ((a ||| b).testBit k).toNat = nm_c k a + (a.testBit k).toNat + (nm_c k b + (b.testBit k).toNat)
    rw [h1, Nat.testBit_or]
    cases ha : a.testBit k
    · simp only [Bool.false_or, Bool.toNat_false]
      omega
    · rw [h2 ha]
      simp only [Bool.or_false, Bool.toNat_false, Bool.toNat_true]
      omega
theorem nm_c_2 {v : Nat} : ∀ k, nm_c k (2 ^ v) = if v < k then 1 else 0 := by
  intro k
  induction k with
  | zero => rfl
  | succ k ih =>
    show nm_c k (2 ^ v) + ((2 ^ v).testBit k).toNat = _
    rw [ih, nm_2t]
    by_cases h1 : v = k
    · subst h1
      simp
    · by_cases h2 : v < k
      · simp [h1, h2, Nat.lt_succ_of_lt h2]
      · simp [h1, h2, show ¬ v < k + 1 by omega]
theorem nm_c_d (a b k : Nat) : nm_c k (nm_d a b) + nm_c k (a &&& b) = nm_c k a := by
  rw [← nm_c_add k fun i _ h => ?_]
  · apply nm_c_congr
    intro i _
    rw [Nat.testBit_or, nm_d_t, Nat.testBit_and]
    cases a.testBit i <;> cases b.testBit i <;> rfl
  · rw [nm_d_t] at h
    rw [Nat.testBit_and]
    cases hb : b.testBit i
    · simp
    · simp [hb] at h
theorem nm_c_0 {a : Nat} : ∀ k, nm_c k a = 0 ↔ ∀ i, i < k → a.testBit i = false := by
  intro k
  induction k with
  | zero => exact ⟨fun _ i hi => absurd hi (Nat.not_lt_zero i), fun _ => rfl⟩
  | succ k ih =>
    show nm_c k a + (a.testBit k).toNat = 0 ↔ _
    rw [Nat.add_eq_zero_iff, ih]
    constructor
    · rintro ⟨h1, h2⟩ i hi
      by_cases hk : i = k
      · subst hk
        cases hb : a.testBit i
        · rfl
        · rw [hb] at h2
          cases h2
      · exact h1 i (by omega)
    · intro h
      refine ⟨fun i hi => h i (by omega), ?_⟩
      rw [h k (by omega)]
      rfl
/-! the order of sets: the first unlike node -/
def od_lt (a b : Nat) : Prop := ∃ i, a.testBit i = true ∧ b.testBit i = false ∧ ∀ j, j < i → a.testBit j = b.testBit j
theorem od_irr (a : Nat) : ¬ od_lt a a := by
  rintro ⟨i, h1, h2, _⟩
  rw [h1] at h2
  cases h2
theorem od_tri {a b : Nat} (h : a ≠ b) : od_lt a b ∨ od_lt b a := by
  have hex : ∃ i, a.testBit i ≠ b.testBit i := by
    refine Classical.byContradiction fun hc => h (Nat.eq_of_testBit_eq fun i => ?_)
    exact Classical.byContradiction fun hi => hc ⟨i, hi⟩
  obtain ⟨i, hi, hm⟩ : ∃ i, a.testBit i ≠ b.testBit i ∧ ∀ j, j < i → a.testBit j = b.testBit j := by
    obtain ⟨i, hi⟩ := hex
    induction i using Nat.strongRecOn with
    | ind i ih =>
      by_cases hj : ∃ j, j < i ∧ a.testBit j ≠ b.testBit j
      · obtain ⟨j, h1, h2⟩ := hj
        exact ih j h1 h2
      · exact ⟨i, hi, fun j hj' => Classical.byContradiction fun hc => hj ⟨j, hj', hc⟩⟩
  cases ha : a.testBit i
  · right
    refine ⟨i, ?_, ha, fun j hj => (hm j hj).symm⟩
    cases hb : b.testBit i
    · exact (hi (by rw [ha, hb])).elim
    · rfl
  · left
    refine ⟨i, ha, ?_, hm⟩
    cases hb : b.testBit i
    · rfl
    · exact (hi (by rw [ha, hb])).elim
theorem od_tr {a b c : Nat} (h1 : od_lt a b) (h2 : od_lt b c) : od_lt a c := by
  obtain ⟨i, a1, a2, a3⟩ := h1
  obtain ⟨j, b1, b2, b3⟩ := h2
  rcases Nat.lt_trichotomy i j with h | h | h
  · exact ⟨i, a1, (b3 i h) ▸ a2, fun k hk => (a3 k hk).trans (b3 k (by omega))⟩
  · subst h
    rw [a2] at b1
    cases b1
  · exact ⟨j, (a3 j h).symm ▸ b1, b2, fun k hk => (a3 k (by omega)).trans (b3 k hk)⟩
theorem od_as {a b : Nat} (h1 : od_lt a b) (h2 : od_lt b a) : False := od_irr a (od_tr h1 h2)
theorem mx_pre_iff {a b : Nat} (ha : a < 65536) (hb : b < 65536) : mx_pre a b = true ↔ od_lt a b := by
  have hx : ∀ i, i < 32 → ((nI a &&& nI (a ^^^ b)) &&& -(nI (a ^^^ b))).toBitVec.getLsbD i = (a.testBit i && (a ^^^ b).testBit i && !decide (∃ j, j < i ∧ (a ^^^ b).testBit j = true)) := by
    intro i hi
    have hj : (∃ j, j < i ∧ (nI (a ^^^ b)).toBitVec.getLsbD j = true) ↔ ∃ j, j < i ∧ (a ^^^ b).testBit j = true := by
      constructor
      · rintro ⟨j, h1, h2⟩
        rw [nm_g] at h2
        simp at h2
        exact ⟨j, h1, by simpa using h2.2⟩
      · rintro ⟨j, h1, h2⟩
        refine ⟨j, h1, ?_⟩
        rw [nm_g, h2]
        simp
        omega
    rw [Int32.toBitVec_and, Int32.toBitVec_and, Int32.toBitVec_neg, BitVec.getLsbD_and, BitVec.getLsbD_and, BitVec.getLsbD_neg, decide_eq_decide.mpr hj, nm_g, nm_g]
    simp only [hi, decide_true, Bool.true_and]
    cases a.testBit i <;> cases (a ^^^ b).testBit i <;> cases decide (∃ j, j < i ∧ (a ^^^ b).testBit j = true) <;> rfl
  unfold mx_pre
  rw [Bool.not_eq_true', decide_eq_false_iff_not]
  constructor
  · intro h
    have hex : ∃ i, i < 32 ∧ ((nI a &&& nI (a ^^^ b)) &&& -(nI (a ^^^ b))).toBitVec.getLsbD i = true := by
      refine Classical.byContradiction fun hc => h (nm_bv fun i hi => ?_)
      have h0 : (nI 0).toBitVec.getLsbD i = false := by rw [nm_g]; simp
      rw [h0]
      cases hb : ((nI a &&& nI (a ^^^ b)) &&& -(nI (a ^^^ b))).toBitVec.getLsbD i
      · rfl
      · exact (hc ⟨i, hi, hb⟩).elim
    obtain ⟨i, hi, h1⟩ := hex
    rw [hx i hi] at h1
    simp only [Bool.and_eq_true, Bool.not_eq_true', decide_eq_false_iff_not, Nat.testBit_xor] at h1
    obtain ⟨⟨h1, h2⟩, h3⟩ := h1
    refine ⟨i, h1, ?_, fun j hj => ?_⟩
    · rw [h1] at h2
      simpa using h2
    · refine Classical.byContradiction fun hc => h3 ⟨j, hj, ?_⟩
      revert hc
      cases a.testBit j <;> cases b.testBit j <;> simp
  · rintro ⟨i, h1, h2, h3⟩ h0
    have hi : i < 16 := Nat.not_le.mp fun h16 => by rw [nm_hi ha h16] at h1; cases h1
    have h4 := hx i (by omega)
    rw [h0, nm_g, h1, Nat.testBit_xor, h1, h2] at h4
    have h5 : ¬ ∃ j, j < i ∧ (a ^^^ b).testBit j = true := by
      rintro ⟨j, hj, h6⟩
      rw [Nat.testBit_xor, h3 j hj] at h6
      simp at h6
    rw [decide_eq_false h5] at h4
    simp at h4

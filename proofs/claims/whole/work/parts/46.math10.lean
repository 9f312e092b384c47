/-! maximal sets: the reference's against the mathematics' -/
theorem mq_cl {J : Nat → Nat} {n s : Nat} (hirr : ∀ i, (J i).testBit i = false) (hs : s < 2 ^ n) : rf_cl J n s = true ↔ gq_cl J s := by
  have hb : ∀ i, s.testBit i = true → i < n := fun i hi => Nat.lt_of_not_le fun h => by rw [ct_lt hs h] at hi; cases hi
  unfold rf_cl
  rw [ra_iff]
  constructor
  · intro h i j hi hj hne
    have h1 := h i (Nat.zero_le _) (by have := hb i hi; omega)
    rw [hi] at h1
    have h2 : nm_d s (J i) = 2 ^ i := of_decide_eq_true h1
    have h3 : (nm_d s (J i)).testBit j = (2 ^ i).testBit j := by rw [h2]
    rw [nm_d_t, hj, nm_2t, decide_eq_false hne] at h3
    simpa using h3
  · intro h v _ hv
    cases hsv : s.testBit v
    · rfl
    · refine decide_eq_true (Nat.eq_of_testBit_eq fun i => ?_)
      rw [nm_d_t, nm_2t]
      by_cases e : v = i
      · rw [← e, hsv, hirr, decide_eq_true rfl]; rfl
      · rw [decide_eq_false e]
        cases hsi : s.testBit i
        · rfl
        · rw [h v i hsv hsi e]; rfl
theorem mq_mx {J : Nat → Nat} {n s : Nat} (hsym : ∀ i j, (J i).testBit j = (J j).testBit i) (hirr : ∀ i, (J i).testBit i = false) (hs : s < 2 ^ n) : rf_mx J n s = true ↔ gq_mx J (2 ^ n - 1) s := by
  have hb : ∀ i, s.testBit i = true → i < n := fun i hi => Nat.lt_of_not_le fun h => by rw [ct_lt hs h] at hi; cases hi
  unfold rf_mx gq_mx
  rw [Bool.and_eq_true, mq_cl hirr hs, ra_iff]
  have key : ∀ v, s.testBit v = false → gq_cl J s → (nm_d s (J v) = 0 ↔ gq_cl J (s ||| 2 ^ v)) := fun v hv hc => by
    constructor
    · intro h
      refine gq_add hsym hc fun u hu _ => ?_
      have h1 := nm_e0.mp h u
      rw [nm_d_t, hu] at h1
      rw [hsym]
      simpa using h1
    · intro h
      refine nm_e0.mpr fun u => ?_
      rw [nm_d_t]
      cases hu : s.testBit u
      · rfl
      · have h1 := gq_adj h u hu (fun e => by rw [e, hv] at hu; cases hu)
        rw [hsym, h1]; rfl
  constructor
  · rintro ⟨h1, h2⟩
    refine ⟨h1, fun i hi => by rw [nm_full]; exact decide_eq_true (hb i hi), fun v hv hsv hx => ?_⟩
    rw [nm_full] at hv
    have h3 := h2 v (Nat.zero_le _) (by have := of_decide_eq_true hv; omega)
    rw [hsv, (key v hsv h1).mpr hx] at h3
    simp at h3
  · rintro ⟨h1, -, h2⟩
    refine ⟨h1, fun v _ hv => ?_⟩
    cases hsv : s.testBit v
    · have h3 : ¬ nm_d s (J v) = 0 := fun e => h2 v (by rw [nm_full]; exact decide_eq_true (by omega)) hsv ((key v hsv h1).mp e)
      rw [decide_eq_false h3]; rfl
    · rfl
theorem mq_inc {J : Nat → Nat} {A a b : Nat} (ha : gq_mx J A a) (hb : gq_mx J A b) (hne : a ≠ b) : in_c a b := by
  have key : ∀ a b, gq_mx J A a → gq_mx J A b → a ≠ b → ∃ i, a.testBit i = true ∧ b.testBit i = false := fun a b ha hb hne => by
    refine Classical.byContradiction fun h => ?_
    have hsub : ∀ i, a.testBit i = true → b.testBit i = true := fun i hi => by
      cases hx : b.testBit i
      · exact (h ⟨i, hi, hx⟩).elim
      · rfl
    have hex : ∃ v, b.testBit v = true ∧ a.testBit v = false := Classical.byContradiction fun h2 => hne (Nat.eq_of_testBit_eq fun i => by
      cases hi : a.testBit i
      · cases hx : b.testBit i
        · rfl
        · exact (h2 ⟨i, hx, hi⟩).elim
      · exact (hsub i hi).symm)
    obtain ⟨v, hv1, hv2⟩ := hex
    refine ha.2.2 v (hb.2.1 v hv1) hv2 fun i j hi hj hij => hb.1 i j ?_ ?_ hij
    · rw [Nat.testBit_or, Bool.or_eq_true, nm_2t, decide_eq_true_eq] at hi
      rcases hi with hi | hi
      · exact hsub i hi
      · rw [← hi]; exact hv1
    · rw [Nat.testBit_or, Bool.or_eq_true, nm_2t, decide_eq_true_eq] at hj
      rcases hj with hj | hj
      · exact hsub j hj
      · rw [← hj]; exact hv1
  exact ⟨key a b ha hb hne, key b a hb ha (fun e => hne e.symm)⟩

/-! the reference: its order, its best set -/
theorem ra_iff {p : Nat → Bool} : ∀ k v, rf_all p k v = true ↔ ∀ i, v ≤ i → i < v + k → p i = true := by
  intro k
  induction k with
  | zero => exact fun v => ⟨fun _ i a b => absurd b (by omega), fun _ => rfl⟩
  | succ k ih =>
    intro v
    rw [rf_all]
    cases hp : p v
    · rw [if_neg (by decide)]
      exact ⟨fun h => (by cases h), fun h => (by rw [h v (by omega) (by omega)] at hp; cases hp)⟩
    · rw [if_pos rfl, ih]
      constructor
      · intro h i a b
        by_cases e : i = v
        · rw [e, hp]
        · exact h i (by omega) (by omega)
      · exact fun h i a b => h i (by omega) (by omega)
def in_c (a b : Nat) : Prop := (∃ i, a.testBit i = true ∧ b.testBit i = false) ∧ ∃ i, b.testBit i = true ∧ a.testBit i = false
theorem rb_shr {x v i : Nat} (h : x.testBit i = true) (hv : v ≤ i) : x >>> v ≠ 0 := fun e => by
  have h1 : (x >>> v).testBit (i - v) = x.testBit i := by rw [Nat.testBit_shiftRight]; congr 1; omega
  rw [e, Nat.zero_testBit, h] at h1
  cases h1
theorem rb_A {a b : Nat} (ha : a < 65536) (hb : b < 65536) (h : in_c a b) : ∀ k v, v + k = 16 → (∀ j, j < v → a.testBit j = b.testBit j) → (rf_bA a b k v = true ↔ od_lt a b) := by
  obtain ⟨⟨i, hi1, hi2⟩, ⟨j, hj1, hj2⟩⟩ := h
  have hi : i < 16 := Nat.lt_of_not_le fun h => by rw [nm_hi ha h] at hi1; cases hi1
  intro k
  induction k with
  | zero =>
    intro v e h
    have := h i (by omega)
    rw [hi1, hi2] at this
    cases this
  | succ k ih =>
    intro v e h
    have h1 : v ≤ i := Nat.le_of_not_lt fun x => by have := h i x; rw [hi1, hi2] at this; cases this
    have h2 : v ≤ j := Nat.le_of_not_lt fun x => by have := h j x; rw [hj1, hj2] at this; cases this
    rw [rf_bA]
    by_cases hc : a.testBit v = b.testBit v
    · rw [if_pos hc]
      refine ih (v + 1) (by omega) fun j hj => ?_
      by_cases e2 : j = v
      · rw [e2, hc]
      · exact h j (by omega)
    · rw [if_neg hc]
      cases hav : a.testBit v
      · have hbv : b.testBit v = true := by
          cases hbv : b.testBit v
          · rw [hav, hbv] at hc; exact absurd rfl hc
          · rfl
        rw [if_neg (by decide), decide_eq_false (rb_shr hi1 h1)]
        exact ⟨fun x => (by cases x), fun x => (od_as x ⟨v, hbv, hav, fun j hj => (h j hj).symm⟩).elim⟩
      · have hbv : b.testBit v = false := by
          cases hbv : b.testBit v
          · rfl
          · rw [hav, hbv] at hc; exact absurd rfl hc
        rw [if_pos rfl, decide_eq_false (rb_shr hj1 h2)]
        exact ⟨fun _ => ⟨v, hav, hbv, h⟩, fun _ => rfl⟩
theorem rb_iff {a b : Nat} (ha : a < 65536) (hb : b < 65536) (h : in_c a b) : rf_b a b = true ↔ od_lt a b := rb_A ha hb h 16 0 (by omega) (fun j h => absurd h (Nat.not_lt_zero _))
theorem rb_self (a : Nat) : rf_b a a = false := by
  have : ∀ k v, rf_bA a a k v = false := by
    intro k
    induction k with
    | zero => exact fun v => rfl
    | succ k ih => intro v; rw [rf_bA, if_pos rfl]; exact ih (v + 1)
  exact this 16 0
theorem nm_sub_eq {a b : Nat} (ha : a < 65536) (hb : b < 65536) (hc : nm_c 16 a = nm_c 16 b) (h : ∀ i, a.testBit i = true → b.testBit i = true) : a = b := by
  have h1 := nm_c_d b a 16
  have h2 : b &&& a = a := Nat.eq_of_testBit_eq fun i => by
    rw [Nat.testBit_and]
    cases hi : a.testBit i
    · rw [Bool.and_false]
    · rw [h i hi]; rfl
  rw [h2] at h1
  have h3 := (nm_c_0 16).mp (show nm_c 16 (nm_d b a) = 0 by omega)
  apply Nat.eq_of_testBit_eq
  intro i
  by_cases hi : i < 16
  · have h4 := h3 i hi
    rw [nm_d_t] at h4
    cases h5 : a.testBit i
    · rw [h5] at h4
      simpa using h4.symm
    · exact (h i h5).symm
  · rw [nm_hi ha (by omega), nm_hi hb (by omega)]
theorem in_size {a b : Nat} (ha : a < 65536) (hb : b < 65536) (hne : a ≠ b) (hc : nm_c 16 a = nm_c 16 b) : in_c a b := by
  constructor
  · refine Classical.byContradiction fun h => hne (nm_sub_eq ha hb hc fun i hi => ?_)
    cases hx : b.testBit i
    · exact (h ⟨i, hi, hx⟩).elim
    · rfl
  · refine Classical.byContradiction fun h => hne (nm_sub_eq hb ha hc.symm fun i hi => ?_).symm
    cases hx : a.testBit i
    · exact (h ⟨i, hi, hx⟩).elim
    · rfl
def bs_is (P : Nat → Prop) (sz : Nat → Nat) (s : Nat) : Prop := P s ∧ ∀ t, P t → sz t < sz s ∨ (sz t = sz s ∧ (t = s ∨ od_lt s t))
theorem bs_un {P : Nat → Prop} {sz : Nat → Nat} {s t : Nat} (h1 : bs_is P sz s) (h2 : bs_is P sz t) : s = t := by
  rcases h1.2 t h2.1 with h3 | ⟨h3, h4⟩
  · rcases h2.2 s h1.1 with h5 | ⟨h5, -⟩ <;> omega
  · rcases h4 with h4 | h4
    · exact h4.symm
    · rcases h2.2 s h1.1 with h5 | ⟨h5, h6⟩
      · omega
      · rcases h6 with h6 | h6
        · exact h6
        · exact (od_as h4 h6).elim
theorem bs_loop {n : Nat} {J w : Nat → Nat} {sort : Nat} (hn : n ≤ 16) (hinc : ∀ a b, a < 2 ^ n → b < 2 ^ n → a ≠ b → rf_is n J sort a = true → rf_is n J sort b = true → rf_sz n w sort a = rf_sz n w sort b → in_c a b) : (∀ s z, rf_best n J w sort = some (s, z) → z = rf_sz n w sort s ∧ bs_is (fun t => t < 2 ^ n ∧ rf_is n J sort t = true) (rf_sz n w sort) s) ∧ (rf_best n J w sort = none → ∀ t, t < 2 ^ n → rf_is n J sort t = false) := by
  have hpw : 2 ^ n ≤ 2 ^ 16 := Nat.pow_le_pow_right (by decide) hn
  have h := mi_it_ind (n := 2 ^ n) (f := rf_bs n J w sort) (P := fun i o => (∀ s z, o = some (s, z) → z = rf_sz n w sort s ∧ s < 2 ^ n ∧ bs_is (fun t => t < i ∧ rf_is n J sort t = true) (rf_sz n w sort) s) ∧ (o = none → ∀ t, t < i → rf_is n J sort t = false)) (fun i o hi h => by
    obtain ⟨h1, h2⟩ := h
    cases hs : rf_is n J sort i
    · have e : rf_bs n J w sort i o = o := by
        unfold rf_bs
        rw [if_neg (fun h => by rw [hs] at h; cases h.2)]
      rw [e]
      refine ⟨fun s z hz => ?_, fun hz t ht => ?_⟩
      · obtain ⟨g1, g0, g2, g3⟩ := h1 s z hz
        refine ⟨g1, g0, ⟨Nat.lt_succ_of_lt g2.1, g2.2⟩, fun t ht => g3 t ⟨?_, ht.2⟩⟩
        have ht1 : t < i + 1 := ht.1
        have ht2 : rf_is n J sort t = true := ht.2
        have : t ≠ i := fun e => by rw [e, hs] at ht2; cases ht2
        omega
      · by_cases e : t = i
        · rw [e, hs]
        · exact h2 hz t (by omega)
    · cases o with
      | none =>
        have e : rf_bs n J w sort i none = some (i, rf_sz n w sort i) := by
          unfold rf_bs
          rw [if_pos ⟨rfl, hs⟩]
        rw [e]
        refine ⟨fun s z hz => ?_, fun hz => by cases hz⟩
        cases hz
        refine ⟨rfl, hi, ⟨Nat.lt_succ_self i, hs⟩, fun t ht => ?_⟩
        by_cases e : t = i
        · exact .inr ⟨by rw [e], .inl e⟩
        · have ht2 : rf_is n J sort t = true := ht.2
          have ht1 : t < i + 1 := ht.1
          rw [h2 rfl t (by omega)] at ht2
          cases ht2
      | some q =>
        obtain ⟨s0, z0⟩ := q
        obtain ⟨g1, g0, g2, g3⟩ := h1 s0 z0 rfl
        have hne : i ≠ s0 := by have := g2.1; omega
        have ep : (rf_sz n w sort s0 < rf_sz n w sort i ∨ (rf_sz n w sort i = rf_sz n w sort s0 ∧ od_lt i s0)) → rf_bs n J w sort i (some (s0, z0)) = some (i, rf_sz n w sort i) := fun hc => by
          unfold rf_bs
          rw [if_pos]
          refine ⟨?_, hs⟩
          dsimp only
          rw [g1, Bool.or_eq_true, Bool.and_eq_true, decide_eq_true_eq, decide_eq_true_eq]
          rcases hc with hc | hc
          · exact .inl hc
          · exact .inr ⟨hc.1, (rb_iff (by omega) (by omega) (hinc i s0 hi g0 hne hs g2.2 hc.1)).mpr hc.2⟩
        have en : ¬ (rf_sz n w sort s0 < rf_sz n w sort i ∨ (rf_sz n w sort i = rf_sz n w sort s0 ∧ od_lt i s0)) → rf_bs n J w sort i (some (s0, z0)) = some (s0, z0) := fun hc => by
          unfold rf_bs
          rw [if_neg]
          rintro ⟨hx, -⟩
          dsimp only at hx
          rw [g1, Bool.or_eq_true, Bool.and_eq_true, decide_eq_true_eq, decide_eq_true_eq] at hx
          rcases hx with hx | hx
          · exact hc (.inl hx)
          · exact hc (.inr ⟨hx.1, (rb_iff (by omega) (by omega) (hinc i s0 hi g0 hne hs g2.2 hx.1)).mp hx.2⟩)
        by_cases hc : rf_sz n w sort s0 < rf_sz n w sort i ∨ (rf_sz n w sort i = rf_sz n w sort s0 ∧ od_lt i s0)
        · rw [ep hc]
          refine ⟨fun s z hz => ?_, fun hz => by cases hz⟩
          cases hz
          refine ⟨rfl, hi, ⟨Nat.lt_succ_self i, hs⟩, fun t ht => ?_⟩
          by_cases e : t = i
          · exact .inr ⟨by rw [e], .inl e⟩
          · have ht1 : t < i + 1 := ht.1
            have := g3 t ⟨by omega, ht.2⟩
            rcases hc with hc | ⟨hc1, hc2⟩
            · exact .inl (by omega)
            · rcases this with h5 | ⟨h5, h6⟩
              · exact .inl (by omega)
              · refine .inr ⟨by omega, .inr ?_⟩
                rcases h6 with h6 | h6
                · rw [h6]; exact hc2
                · exact od_tr hc2 h6
        · rw [en hc]
          refine ⟨fun s z hz => ?_, fun hz => by cases hz⟩
          cases hz
          refine ⟨g1, g0, ⟨Nat.lt_succ_of_lt g2.1, g2.2⟩, fun t ht => ?_⟩
          by_cases e : t = i
          · subst e
            by_cases h5 : rf_sz n w sort t < rf_sz n w sort s0
            · exact .inl h5
            · have h6 : rf_sz n w sort t = rf_sz n w sort s0 := by
                have : ¬ rf_sz n w sort s0 < rf_sz n w sort t := fun h => hc (.inl h)
                omega
              refine .inr ⟨h6, .inr ?_⟩
              rcases od_tri hne with h7 | h7
              · exact (hc (.inr ⟨h6, h7⟩)).elim
              · exact h7
          · have ht1 : t < i + 1 := ht.1
            exact g3 t ⟨by omega, ht.2⟩) (2 ^ n) 0 none (by omega) ⟨fun s z hz => (by cases hz), fun _ t ht => absurd ht (Nat.not_lt_zero _)⟩
  exact ⟨fun s z hz => ⟨(h.1 s z hz).1, (h.1 s z hz).2.2⟩, h.2⟩

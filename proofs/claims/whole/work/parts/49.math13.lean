/-! the first greatest set of a row is the best -/
theorem gt_ext {E : Nat → Nat} {A : Nat} {sz : Nat → Nat} (hA : A < 65536) (hmono : ∀ t v, (∀ i, t.testBit i = true → A.testBit i = true) → A.testBit v = true → t.testBit v = false → sz t < sz (t ||| 2 ^ v)) : ∀ k t, nm_c 16 (nm_d A t) ≤ k → gq_cl E t → (∀ i, t.testBit i = true → A.testBit i = true) → ∃ m, gq_mx E A m ∧ (t = m ∨ sz t < sz m) := by
  intro k
  induction k with
  | zero =>
    intro t hk hc ht
    refine ⟨t, ⟨hc, ht, fun v hv hn _ => ?_⟩, .inl rfl⟩
    have hv16 : v < 16 := Nat.lt_of_not_le fun h => by rw [nm_hi hA h] at hv; cases hv
    have h0 := (nm_c_0 16).mp (Nat.le_zero.mp hk) v hv16
    rw [nm_d_t, hv, hn] at h0
    cases h0
  | succ k ih =>
    intro t hk hc ht
    by_cases hm : gq_mx E A t
    · exact ⟨t, hm, .inl rfl⟩
    · have hex : ∃ v, A.testBit v = true ∧ t.testBit v = false ∧ gq_cl E (t ||| 2 ^ v) := Classical.byContradiction fun h => hm ⟨hc, ht, fun v a b c => h ⟨v, a, b, c⟩⟩
      obtain ⟨v, a, b, c⟩ := hex
      have hv16 : v < 16 := Nat.lt_of_not_le fun h => by rw [nm_hi hA h] at a; cases a
      have h1 := hmono t v ht a b
      have h2 := nm_c_drop (s := nm_d A t) hv16 (by rw [nm_d_t, a, b]; rfl)
      have h3 : nm_d A (t ||| 2 ^ v) = nm_d (nm_d A t) (2 ^ v) := Nat.eq_of_testBit_eq fun i => by
        rw [nm_d_t, nm_d_t, nm_d_t, Nat.testBit_or]
        cases A.testBit i <;> cases t.testBit i <;> rfl
      obtain ⟨m, m1, m2⟩ := ih (t ||| 2 ^ v) (by rw [h3]; omega) c (fun i hi => by
        rw [Nat.testBit_or, Bool.or_eq_true, nm_2t, decide_eq_true_eq] at hi
        rcases hi with hi | hi
        · exact ht i hi
        · rw [← hi]; exact a)
      refine ⟨m, m1, .inr ?_⟩
      rcases m2 with m2 | m2
      · rw [← m2]; exact h1
      · omega
theorem gt_fold {f : Nat → Nat} {c : Nat} {sz : Nat → Nat} (hz : ∀ i, i < c → sz (f i) = 0 → f i = 0) (h0 : sz 0 = 0) (hs : ∀ i j, i < j → j < c → od_lt (f i) (f j)) : (mi_it (fun k b => if sz b < sz (f k) then f k else b) c 0 0 = 0 ∨ ∃ j, j < c ∧ f j = mi_it (fun k b => if sz b < sz (f k) then f k else b) c 0 0) ∧ ∀ j, j < c → sz (f j) < sz (mi_it (fun k b => if sz b < sz (f k) then f k else b) c 0 0) ∨ (sz (f j) = sz (mi_it (fun k b => if sz b < sz (f k) then f k else b) c 0 0) ∧ (f j = mi_it (fun k b => if sz b < sz (f k) then f k else b) c 0 0 ∨ od_lt (mi_it (fun k b => if sz b < sz (f k) then f k else b) c 0 0) (f j))) := by
  refine mi_it_ind (n := c) (f := fun k b => if sz b < sz (f k) then f k else b) (P := fun i b => (b = 0 ∨ ∃ j, j < i ∧ f j = b) ∧ ∀ j, j < i → sz (f j) < sz b ∨ (sz (f j) = sz b ∧ (f j = b ∨ od_lt b (f j)))) (fun i b hi h => ?_) c 0 0 (by omega) ⟨.inl rfl, fun j h => absurd h (Nat.not_lt_zero _)⟩
  obtain ⟨h1, h2⟩ := h
  by_cases hc : sz b < sz (f i)
  · rw [if_pos hc]
    refine ⟨.inr ⟨i, by omega, rfl⟩, fun j hj => ?_⟩
    by_cases e : j = i
    · exact .inr ⟨by rw [e], .inl (by rw [e])⟩
    · rcases h2 j (by omega) with h3 | h3
      · exact .inl (by omega)
      · exact .inl (by omega)
  · rw [if_neg hc]
    refine ⟨?_, fun j hj => ?_⟩
    · rcases h1 with h1 | ⟨j, a, b⟩
      · exact .inl h1
      · exact .inr ⟨j, by omega, b⟩
    · by_cases e : j = i
      · rw [e]
        by_cases h5 : sz (f i) < sz b
        · exact .inl h5
        · have h6 : sz (f i) = sz b := by omega
          refine .inr ⟨h6, ?_⟩
          rcases h1 with h1 | ⟨k, a, b⟩
          · rw [h1, h0] at h6
            exact .inl (by rw [h1]; exact hz i hi h6)
          · rw [← b]
            exact .inr (hs k i a hi)
      · exact h2 j (by omega)
theorem gt_best {E : Nat → Nat} {A : Nat} {sz : Nat → Nat} {q : (Nat → Nat) × Nat} (hA : A < 65536) (hmono : ∀ t v, (∀ i, t.testBit i = true → A.testBit i = true) → A.testBit v = true → t.testBit v = false → sz t < sz (t ||| 2 ^ v)) (h0 : sz 0 = 0) (hz : ∀ t, (∀ i, t.testBit i = true → A.testBit i = true) → sz t = 0 → t = 0) (ok : so_ok q) (hq : ∀ x, so_in q x ↔ gq_mx E A x) : bs_is (fun t => gq_cl E t ∧ ∀ i, t.testBit i = true → A.testBit i = true) sz (mi_it (fun k b => if sz b < sz (q.1 k) then q.1 k else b) q.2 0 0) := by
  obtain ⟨h1, h2⟩ := gt_fold (f := q.1) (c := q.2) (sz := sz) (fun i hi h => hz _ ((hq _).mp ⟨i, hi, rfl⟩).2.1 h) h0 ok.2
  generalize mi_it (fun k b => if sz b < sz (q.1 k) then q.1 k else b) q.2 0 0 = b at h1 h2 ⊢
  constructor
  · rcases h1 with h1 | ⟨j, a, e⟩
    · rw [h1]
      exact ⟨fun i j hi => (by rw [Nat.zero_testBit] at hi; cases hi), fun i hi => (by rw [Nat.zero_testBit] at hi; cases hi)⟩
    · have := (hq b).mp ⟨j, a, e⟩
      exact ⟨this.1, this.2.1⟩
  · rintro t ⟨ht1, ht2⟩
    obtain ⟨m, m1, m2⟩ := gt_ext (E := E) hA hmono _ t (Nat.le_refl _) ht1 ht2
    obtain ⟨j, a, e⟩ := (hq m).mpr m1
    have h3 := h2 j a
    rw [e] at h3
    rcases m2 with m2 | m2
    · rw [m2]; exact h3
    · rcases h3 with h3 | h3
      · exact .inl (by omega)
      · exact .inl (by omega)

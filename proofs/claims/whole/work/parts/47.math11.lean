/-! the reference's row of maximal sets -/
theorem so_put {f g : Nat → Nat} {c c0 s : Nat} (ok : so_ok (f, c)) (hs : s < 65536) (hc : c0 ≤ c) (h1 : ∀ i, i < c0 → od_lt (f i) s) (h2 : ∀ i, c0 ≤ i → i < c → od_lt s (f i)) (g1 : ∀ j, j < c0 → g j = f j) (g2 : g c0 = s) (g3 : ∀ j, c0 ≤ j → j < c → g (j + 1) = f j) : so_ok (g, c + 1) ∧ ∀ x, so_in (g, c + 1) x ↔ (x = s ∨ so_in (f, c) x) := by
  have hg : ∀ j, j < c + 1 → (j < c0 ∧ g j = f j) ∨ (j = c0 ∧ g j = s) ∨ (c0 < j ∧ g j = f (j - 1)) := fun j hj => by
    by_cases e1 : j < c0
    · exact .inl ⟨e1, g1 j e1⟩
    · by_cases e2 : j = c0
      · exact .inr (.inl ⟨e2, by rw [e2, g2]⟩)
      · refine .inr (.inr ⟨by omega, ?_⟩)
        have := g3 (j - 1) (by omega) (by omega)
        rw [show j - 1 + 1 = j by omega] at this
        exact this
  obtain ⟨k1, k2⟩ := ok
  dsimp only at k1 k2
  refine ⟨⟨fun i hi => ?_, fun i j hij hj => ?_⟩, fun x => ?_⟩
  · dsimp only at hi ⊢
    rcases hg i hi with ⟨a, b⟩ | ⟨a, b⟩ | ⟨a, b⟩
    · rw [b]; exact k1 i (by omega)
    · rw [b]; exact hs
    · rw [b]; exact k1 (i - 1) (by omega)
  · dsimp only at hj ⊢
    rcases hg i (by omega) with ⟨a, b⟩ | ⟨a, b⟩ | ⟨a, b⟩
    · rcases hg j hj with ⟨a2, b2⟩ | ⟨a2, b2⟩ | ⟨a2, b2⟩
      · rw [b, b2]; exact k2 i j hij (by omega)
      · rw [b, b2]; exact h1 i a
      · rw [b, b2]; exact k2 i (j - 1) (by omega) (by omega)
    · rcases hg j hj with ⟨a2, b2⟩ | ⟨a2, b2⟩ | ⟨a2, b2⟩
      · omega
      · omega
      · rw [b, b2]; exact h2 (j - 1) (by omega) (by omega)
    · rcases hg j hj with ⟨a2, b2⟩ | ⟨a2, b2⟩ | ⟨a2, b2⟩
      · omega
      · omega
      · rw [b, b2]; exact k2 (i - 1) (j - 1) (by omega) (by omega)
  · constructor
    · rintro ⟨i, hi, e⟩
      dsimp only at hi e
      rcases hg i hi with ⟨a, b⟩ | ⟨a, b⟩ | ⟨a, b⟩
      · exact .inr ⟨i, by dsimp only; omega, by dsimp only; rw [← b, e]⟩
      · exact .inl (by rw [← e, b])
      · exact .inr ⟨i - 1, by dsimp only; omega, by dsimp only; rw [← b, e]⟩
    · rintro (e | ⟨i, hi, e⟩)
      · exact ⟨c0, by dsimp only; omega, by dsimp only; rw [g2, e]⟩
      · dsimp only at hi e
        by_cases h : i < c0
        · exact ⟨i, by dsimp only; omega, by dsimp only; rw [g1 i h, e]⟩
        · exact ⟨i + 1, by dsimp only; omega, by dsimp only; rw [g3 i (by omega) hi, e]⟩
theorem rs_sh {s c0 : Nat} : ∀ (i : Nat) (f : Nat → Nat), c0 ≤ i → (∀ j, j < c0 → rf_b s (f j) = false) → (∀ j, c0 ≤ j → j < i → rf_b s (f j) = true) → (rf_sh s i f).2 = c0 ∧ (∀ j, j < c0 → (rf_sh s i f).1 j = f j) ∧ (∀ j, c0 ≤ j → j < i → (rf_sh s i f).1 (j + 1) = f j) ∧ ∀ j, i < j → (rf_sh s i f).1 j = f j := by
  intro i
  induction i with
  | zero =>
    intro f h _ _
    have e : c0 = 0 := by omega
    subst e
    exact ⟨rfl, fun j h => rfl, fun j _ h => absurd h (Nat.not_lt_zero _), fun j _ => rfl⟩
  | succ i ih =>
    intro f h h1 h2
    rw [rf_sh]
    by_cases e : c0 = i + 1
    · rw [if_neg (by rw [h1 i (by omega)]; decide)]
      exact ⟨e.symm, fun j _ => rfl, fun j a b => by omega, fun j _ => rfl⟩
    · rw [if_pos (h2 i (by omega) (by omega))]
      obtain ⟨k1, k2, k3, k4⟩ := ih (up_N f (i + 1) (f i)) (by omega) (fun j hj => by rw [up_N_ne (by omega)]; exact h1 j hj) (fun j a b => by rw [up_N_ne (by omega)]; exact h2 j a (by omega))
      refine ⟨k1, fun j hj => by rw [k2 j hj, up_N_ne (by omega)], fun j a b => ?_, fun j hj => by rw [k4 j (by omega), up_N_ne (by omega)]⟩
      by_cases e2 : j = i
      · subst e2
        rw [k4 (j + 1) (by omega), up_N_eq]
      · rw [k3 j a (by omega), up_N_ne (by omega)]
theorem rs_ins {q : (Nat → Nat) × Nat} {s : Nat} (ok : so_ok q) (hs : s < 65536) (hi : ∀ x, so_in q x → in_c s x) : so_ok (rf_ins s q) ∧ ∀ x, so_in (rf_ins s q) x ↔ (x = s ∨ so_in q x) := by
  obtain ⟨f, c⟩ := q
  have hne : ∀ i, i < c → f i ≠ s := fun i h e => by
    obtain ⟨⟨j, a, b⟩, -⟩ := hi (f i) ⟨i, h, rfl⟩
    rw [e, a] at b
    cases b
  obtain ⟨c0, hc, h1, h2⟩ := so_cut c ok.2 hne
  have hb : ∀ i, i < c → (rf_b s (f i) = true ↔ od_lt s (f i)) := fun i h => rb_iff hs (ok.1 i h) (hi (f i) ⟨i, h, rfl⟩)
  obtain ⟨k1, k2, k3, -⟩ := rs_sh (s := s) (c0 := c0) c f hc (fun j hj => by
    rw [← Bool.not_eq_true, hb j (by omega)]
    exact fun h => od_as h (h1 j hj)) (fun j a b => (hb j b).mpr (h2 j a b))
  refine so_put ok hs hc h1 h2 (fun j hj => ?_) ?_ fun j a b => ?_
  · show up_N (rf_sh s c f).1 (rf_sh s c f).2 s j = f j
    rw [k1, up_N_ne (by omega), k2 j hj]
  · show up_N (rf_sh s c f).1 (rf_sh s c f).2 s c0 = s
    rw [k1, up_N_eq]
  · show up_N (rf_sh s c f).1 (rf_sh s c f).2 s (j + 1) = f j
    rw [k1, up_N_ne (by omega), k3 j a b]
theorem rs_ml {J : Nat → Nat} {n : Nat} (hn : n ≤ 16) (hsym : ∀ i j, (J i).testBit j = (J j).testBit i) (hirr : ∀ i, (J i).testBit i = false) (f : Nat → Nat) : so_ok (rf_ml J n f) ∧ (∀ x, so_in (rf_ml J n f) x ↔ gq_mx J (2 ^ n - 1) x) ∧ (rf_ml J n f).2 = rf_mc J n := by
  have hpw : 2 ^ n ≤ 2 ^ 16 := Nat.pow_le_pow_right (by decide) hn
  have h := mi_it_rel (n := 2 ^ n) (f := fun s q => if rf_mx J n s then rf_ins s q else q) (g := fun s t => if rf_mx J n s then t + 1 else t) (R := fun i q t => so_ok q ∧ (∀ x, so_in q x ↔ (x < i ∧ rf_mx J n x = true)) ∧ q.2 = t) (fun i q t hi h => by
    obtain ⟨h1, h2, h3⟩ := h
    cases hm : rf_mx J n i
    · rw [if_neg (by decide), if_neg (by decide)]
      refine ⟨h1, fun x => ?_, h3⟩
      rw [h2]
      constructor
      · exact fun h => ⟨by omega, h.2⟩
      · rintro ⟨a, b⟩
        have : x ≠ i := fun e => by rw [e, hm] at b; cases b
        exact ⟨by omega, b⟩
    · rw [if_pos rfl, if_pos rfl]
      obtain ⟨k1, k2⟩ := rs_ins (q := q) (s := i) h1 (by omega) (fun x hx => by
        obtain ⟨a, b⟩ := (h2 x).mp hx
        exact mq_inc ((mq_mx hsym hirr hi).mp hm) ((mq_mx hsym hirr (by omega)).mp b) (by omega))
      refine ⟨k1, fun x => ?_, by show q.2 + 1 = t + 1; rw [h3]⟩
      rw [k2, h2]
      constructor
      · rintro (e | ⟨a, b⟩)
        · exact ⟨by omega, by rw [e, hm]⟩
        · exact ⟨by omega, b⟩
      · rintro ⟨a, b⟩
        by_cases e : x = i
        · exact .inl e
        · exact .inr ⟨by omega, b⟩) (2 ^ n) 0 (f, 0) 0 (by omega) ⟨⟨fun i h => absurd h (Nat.not_lt_zero _), fun i j _ h => absurd h (Nat.not_lt_zero _)⟩, fun x => ⟨fun h => (by obtain ⟨i, a, -⟩ := h; exact absurd a (Nat.not_lt_zero _)), fun h => absurd h.1 (Nat.not_lt_zero _)⟩, rfl⟩
  refine ⟨h.1, fun x => ?_, h.2.2⟩
  show so_in (mi_it _ _ _ _) x ↔ _
  rw [h.2.1]
  constructor
  · exact fun h => (mq_mx hsym hirr h.1).mp h.2
  · intro h
    have hx : x < 2 ^ n := by
      refine Nat.lt_pow_two_of_testBit x fun i hi => ?_
      cases hb : x.testBit i
      · rfl
      · have := h.2.1 i hb
        rw [nm_full] at this
        have := of_decide_eq_true this
        omega
    exact ⟨hx, (mq_mx hsym hirr hx).mpr h⟩

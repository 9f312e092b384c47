/-! code and reference: colours -/
theorem co_us {J f : Nat → Nat} {v : Nat} : ∀ c, (rf_us J f v).testBit c = true ↔ ∃ u, u < v ∧ (J v).testBit u = true ∧ f u = c := by
  unfold rf_us
  have h := mi_it_ind (n := v) (f := fun u t => if (J v).testBit u then t ||| 2 ^ f u else t) (P := fun i t => ∀ c, t.testBit c = true ↔ ∃ u, u < i ∧ (J v).testBit u = true ∧ f u = c) (fun i t hi h c => by
    cases hj : (J v).testBit i
    · rw [if_neg (by decide), h]
      constructor
      · rintro ⟨u, a, b, e⟩
        exact ⟨u, by omega, b, e⟩
      · rintro ⟨u, a, b, e⟩
        by_cases hu : u = i
        · subst hu; rw [hj] at b; cases b
        · exact ⟨u, by omega, b, e⟩
    · rw [if_pos rfl, Nat.testBit_or, Bool.or_eq_true, h, nm_2t, decide_eq_true_eq]
      constructor
      · rintro (⟨u, a, b, e⟩ | e)
        · exact ⟨u, by omega, b, e⟩
        · exact ⟨i, by omega, hj, e⟩
      · rintro ⟨u, a, b, e⟩
        by_cases hu : u = i
        · subst hu; exact .inr e
        · exact .inl ⟨u, by omega, b, e⟩) v 0 0 (by omega) (fun c => by
      rw [Nat.zero_testBit]
      constructor
      · intro h; cases h
      · rintro ⟨u, a, -⟩; omega)
  exact h
theorem co_first {f : Nat → Nat} {l used i : Nat} (h : ∀ c, 1 ≤ c → c ≤ i + 1 → (f c &&& l = 0 ↔ used.testBit c = false)) (hu : used.testBit (i + 1) = false) : ∀ k' k c, 1 ≤ c → c + k' = i + 1 → i + 2 ≤ c + k → nt_lfA f l k c = rf_lc used k' c := by
  intro k'
  induction k' with
  | zero =>
    intro k c hc e hk
    have e1 : c = i + 1 := by omega
    subst e1
    cases k with
    | zero => omega
    | succ k => rw [nt_lfA, if_pos ((h _ hc (by omega)).mpr hu)]; rfl
  | succ k' ih =>
    intro k c hc e hk
    cases k with
    | zero => omega
    | succ k =>
      rw [nt_lfA, rf_lc]
      cases hb : used.testBit c
      · rw [if_pos ((h c hc (by omega)).mpr hb), if_neg (by decide)]
      · rw [if_neg (fun h2 => by rw [(h c hc (by omega)).mp h2] at hb; cases hb), if_pos rfl]
        exact ih k (c + 1) (by omega) (by omega) (by omega)
theorem co_lc {used : Nat} : ∀ k c, c ≤ rf_lc used k c ∧ rf_lc used k c ≤ c + k := by
  intro k
  induction k with
  | zero => exact fun c => ⟨Nat.le_refl _, Nat.le_refl _⟩
  | succ k ih =>
    intro c
    rw [rf_lc]
    split
    · have := ih (c + 1)
      omega
    · omega
def co_R (s : Nat) (i : Nat) (q r : (Nat → Nat) × Nat) : Prop := q.2 = r.2 ∧ (∀ c v, 1 ≤ c → c ≤ 16 → ((q.1 c).testBit v = true ↔ (v < i ∧ s.testBit v = true ∧ r.1 v = c))) ∧ (∀ v, v < i → s.testBit v = false → r.1 v = 0) ∧ (∀ v, v < i → s.testBit v = true → 1 ≤ r.1 v ∧ r.1 v ≤ r.2) ∧ ∀ v, v < i → r.1 v ≤ v + 1
theorem co_step {L : Nat → Nat} {s i : Nat} {q r : (Nat → Nat) × Nat} (hi : i < 16) (h : co_R s i q r) : co_R s (i + 1) (nt_ps L s i q) (rf_cs L s i r) := by
  obtain ⟨h1, h2, h3, h4, h5⟩ := h
  unfold nt_ps rf_cs
  cases hs : s.testBit i
  · rw [if_neg (by decide), if_neg (by decide)]
    refine ⟨h1, fun c v a b => ?_, fun v hv hsv => ?_, fun v hv hsv => ?_, fun v hv => ?_⟩
    · rw [h2 c v a b]
      dsimp only
      constructor
      · rintro ⟨x, y, z⟩
        exact ⟨by omega, y, by rw [up_N_ne (by omega)]; exact z⟩
      · rintro ⟨x, y, z⟩
        by_cases e : v = i
        · subst e; rw [hs] at y; cases y
        · rw [up_N_ne e] at z
          exact ⟨by omega, y, z⟩
    · dsimp only
      by_cases e : v = i
      · subst e; exact up_N_eq
      · rw [up_N_ne e]; exact h3 v (by omega) hsv
    · dsimp only
      have e : v ≠ i := fun e => by subst e; rw [hs] at hsv; cases hsv
      rw [up_N_ne e]; exact h4 v (by omega) hsv
    · dsimp only
      by_cases e : v = i
      · subst e; rw [up_N_eq]; omega
      · rw [up_N_ne e]; exact h5 v (by omega)
  · rw [if_pos rfl, if_pos rfl]
    have hus : ∀ c, (rf_us L (up_N r.1 i 0) i).testBit c = true ↔ ∃ u, u < i ∧ (L i).testBit u = true ∧ r.1 u = c := fun c => by
      rw [co_us]
      constructor
      · rintro ⟨u, a, b, e⟩
        rw [up_N_ne (by omega)] at e
        exact ⟨u, a, b, e⟩
      · rintro ⟨u, a, b, e⟩
        exact ⟨u, a, b, by rw [up_N_ne (by omega)]; exact e⟩
    have hc : nt_lf q.1 (L i) = rf_lc (rf_us L (up_N r.1 i 0) i) i 1 := by
      unfold nt_lf
      refine co_first (i := i) (fun c a b => ?_) ?_ i 16 1 (by omega) (by omega) (by omega)
      · rw [nm_e0, ← Bool.not_eq_true, hus]
        constructor
        · rintro h ⟨u, x, y, z⟩
          have h6 := h u
          rw [Nat.testBit_and, y, Bool.and_true] at h6
          have hsu : s.testBit u = true := by
            cases hsu : s.testBit u
            · have := h3 u x hsu
              omega
            · rfl
          rw [(h2 c u a (by omega)).mpr ⟨x, hsu, z⟩] at h6
          cases h6
        · intro h u
          rw [← Bool.not_eq_true, Nat.testBit_and, Bool.and_eq_true]
          rintro ⟨x, y⟩
          obtain ⟨x1, x2, x3⟩ := (h2 c u a (by omega)).mp x
          exact h ⟨u, x1, y, x3⟩
      · rw [← Bool.not_eq_true, hus]
        rintro ⟨u, x, -, z⟩
        have := h5 u x
        omega
    rw [hc]
    have hl := @co_lc (rf_us L (up_N r.1 i 0) i) i 1
    generalize rf_lc (rf_us L (up_N r.1 i 0) i) i 1 = x at hl ⊢
    refine ⟨by dsimp only; rw [h1], fun c v a b => ?_, fun v hv hsv => ?_, fun v hv hsv => ?_, fun v hv => ?_⟩
    · dsimp only
      by_cases e : v = i
      · subst e
        rw [up_N_eq]
        by_cases e2 : c = x
        · subst e2
          rw [up_N_eq, Nat.testBit_or, nm_2t, decide_eq_true rfl, Bool.or_true]
          exact ⟨fun _ => ⟨by omega, hs, rfl⟩, fun _ => rfl⟩
        · rw [up_N_ne e2, h2 c v a b]
          exact ⟨fun h => absurd h.1 (Nat.lt_irrefl _), fun h => absurd h.2.2.symm e2⟩
      · rw [up_N_ne e, up_N_ne e]
        have : (up_N q.1 x (q.1 x ||| 2 ^ i) c).testBit v = (q.1 c).testBit v := by
          by_cases e2 : c = x
          · subst e2
            rw [up_N_eq, Nat.testBit_or, nm_2t, decide_eq_false (fun h => e h.symm), Bool.or_false]
          · rw [up_N_ne e2]
        rw [this, h2 c v a b]
        constructor
        · rintro ⟨x, y, z⟩; exact ⟨by omega, y, z⟩
        · rintro ⟨x, y, z⟩; exact ⟨by omega, y, z⟩
    · dsimp only
      have e : v ≠ i := fun e => by subst e; rw [hs] at hsv; cases hsv
      rw [up_N_ne e, up_N_ne e]; exact h3 v (by omega) hsv
    · dsimp only
      by_cases e : v = i
      · subst e; rw [up_N_eq]; omega
      · rw [up_N_ne e, up_N_ne e]
        have := h4 v (by omega) hsv
        omega
    · dsimp only
      by_cases e : v = i
      · subst e; rw [up_N_eq]; omega
      · rw [up_N_ne e, up_N_ne e]; exact h5 v (by omega)
theorem co_eq {n : st_N} (hn : n.1 ≤ 16) (s : Nat) (f g : Nat → Nat) : co_R s n.1 (nt_paint n s f) (rf_ca n.2.2.2 n.1 s g) :=
  mi_it_rel (n := n.1) (R := co_R s) (fun i q r hi h => co_step (by omega) h) n.1 0 (fun i => if i < 17 then 0 else f i, 0) (g, 0) (by omega) ⟨rfl, fun c v a b => (by
    dsimp only
    rw [if_pos (by omega), Nat.zero_testBit]
    exact ⟨fun h => (by cases h), fun h => absurd h.1 (Nat.not_lt_zero _)⟩), fun v h => absurd h (Nat.not_lt_zero _), fun v h => absurd h (Nat.not_lt_zero _), fun v h => absurd h (Nat.not_lt_zero _)⟩
theorem co_col {f : Nat → Nat} {v x : Nat} (hb : ∀ c, 1 ≤ c → c ≤ 16 → ((f c).testBit v = true ↔ x = c)) (hx : x ≤ 16) : ∀ k c, 1 ≤ c → c ≤ x → x < c + k → c + k ≤ 17 → cl_colA f v k c = nI x := by
  intro k
  induction k with
  | zero => intro c a b d; omega
  | succ k ih =>
    intro c a b d e
    rw [cl_colA]
    by_cases h : x = c
    · rw [if_pos ((hb c a (by omega)).mpr h), h]
    · rw [if_neg (fun h2 => h ((hb c a (by omega)).mp h2))]
      exact ih (c + 1) (by omega) (by omega) (by omega) (by omega)
theorem co_colour {n : st_N} (hn : n.1 ≤ 16) {s v : Nat} (f g : Nat → Nat) (hv : v < n.1) (hs : s.testBit v = true) : cl_colA (nt_paint n s f).1 v (nt_paint n s f).2 1 = nI ((rf_ca n.2.2.2 n.1 s g).1 v) := by
  obtain ⟨h1, h2, h3, h4, h5⟩ := co_eq hn s f g
  have h6 := h4 v hv hs
  have h7 := (nt_paint_is hn s f).2
  refine co_col (fun c a b => ?_) (by omega) _ 1 (by omega) (by omega) (by omega) (by omega)
  rw [h2 c v a b]
  exact ⟨fun h => h.2.2, fun h => ⟨hv, hs, h⟩⟩

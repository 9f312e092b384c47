/-! the search for a path: the code's steps -/
def qk (m : st_M) : Prop := m.2.2.2.2.1 = nm_c 16 m.2.2.2.2.2 ∧ ∀ v, m.2.2.2.2.2.testBit v = true ↔ ∃ j, j < m.2.2.2.2.1 ∧ m.2.2.2.1 j = v
def ex (m m' : st_M) : Prop := m'.1 = m.1 ∧ (∀ x, m.2.2.2.2.2.testBit x = true → m'.2.2.2.2.2.testBit x = true) ∧ (∀ j, j < m.2.2.2.2.1 → m'.2.2.2.1 j = m.2.2.2.1 j) ∧ m.2.2.2.2.1 ≤ m'.2.2.2.2.1 ∧ (∀ x, m.2.1 x ≠ none → m'.2.1 x ≠ none) ∧ ∀ x y, m.2.2.2.2.2.testBit x = true → m.2.2.2.2.2.testBit y = true → m.2.2.1 x = m.2.2.1 y → m'.2.2.1 x = m'.2.2.1 y
theorem ex_r {m : st_M} : ex m m := ⟨rfl, fun _ h => h, fun _ _ => rfl, Nat.le_refl _, fun _ h => h, fun _ _ _ _ h => h⟩
theorem ex_t {m m' m'' : st_M} (h1 : ex m m') (h2 : ex m' m'') : ex m m'' := ⟨h2.1.trans h1.1, fun x h => h2.2.1 x (h1.2.1 x h), fun j h => (h2.2.2.1 j (Nat.lt_of_lt_of_le h h1.2.2.2.1)).trans (h1.2.2.1 j h), Nat.le_trans h1.2.2.2.1 h2.2.2.2.1, fun x h => h2.2.2.2.2.1 x (h1.2.2.2.2.1 x h), fun x y hx hy e => h2.2.2.2.2.2 x y (h1.2.1 x hx) (h1.2.1 y hy) (h1.2.2.2.2.2 x y hx hy e)⟩
theorem enq_is {m : st_M} (h : qk m) {v : Nat} (hv : v < 16) : (ma_enq m v).1 = m.1 ∧ (ma_enq m v).2.1 = m.2.1 ∧ (ma_enq m v).2.2.1 = m.2.2.1 ∧ qk (ma_enq m v) ∧ (∀ x, (ma_enq m v).2.2.2.2.2.testBit x = true ↔ (m.2.2.2.2.2.testBit x = true ∨ x = v)) ∧ (∀ j, j < m.2.2.2.2.1 → (ma_enq m v).2.2.2.1 j = m.2.2.2.1 j) ∧ m.2.2.2.2.1 ≤ (ma_enq m v).2.2.2.2.1 := by
  obtain ⟨mt, fr, bs, q, c, Q⟩ := m
  obtain ⟨h1, h2⟩ := h
  try dsimp only at h1 h2
  unfold ma_enq
  try dsimp only
  cases hq : Q.testBit v
  · have hc := nm_c_lt hv hq
    rw [if_pos ⟨by omega, rfl⟩]
    have hQ : ∀ x, (Q ||| 2 ^ v).testBit x = true ↔ (Q.testBit x = true ∨ x = v) := fun x => by
      rw [Nat.testBit_or, Bool.or_eq_true, nm_2t, decide_eq_true_eq]
      exact ⟨fun h => h.imp id Eq.symm, fun h => h.imp id Eq.symm⟩
    refine ⟨rfl, rfl, rfl, ⟨?_, fun x => ?_⟩, hQ, fun j hj => up_N_ne (by omega), Nat.le_succ c⟩
    · try dsimp only
      rw [cq_add hv hq, h1]
    · try dsimp only
      rw [hQ, h2]
      constructor
      · rintro (⟨j, j1, j2⟩ | e)
        · exact ⟨j, by omega, by rw [up_N_ne (by omega)]; exact j2⟩
        · exact ⟨c, by omega, by rw [up_N_eq, e]⟩
      · rintro ⟨j, j1, j2⟩
        by_cases e : j = c
        · rw [e, up_N_eq] at j2
          exact .inr j2.symm
        · rw [up_N_ne e] at j2
          exact .inl ⟨j, by omega, j2⟩
  · rw [if_neg (fun h => by cases h.2)]
    refine ⟨rfl, rfl, rfl, ⟨h1, h2⟩, fun x => ⟨fun h => .inl h, fun h => h.elim id fun e => by rw [e]; exact hq⟩, fun _ _ => rfl, Nat.le_refl c⟩
theorem c_is {s bl : Nat} : ∀ k v (m : st_M), v + k ≤ 16 → qk m → (ma_c s bl k v m).1 = m.1 ∧ (ma_c s bl k v m).2.1 = m.2.1 ∧ (∀ x, v ≤ x → x < v + k → bl.testBit (m.2.2.1 x) = true → (ma_c s bl k v m).2.2.1 x = s) ∧ (∀ x, ¬ (v ≤ x ∧ x < v + k ∧ bl.testBit (m.2.2.1 x) = true) → (ma_c s bl k v m).2.2.1 x = m.2.2.1 x) ∧ qk (ma_c s bl k v m) ∧ (∀ x, (ma_c s bl k v m).2.2.2.2.2.testBit x = true ↔ (m.2.2.2.2.2.testBit x = true ∨ (v ≤ x ∧ x < v + k ∧ bl.testBit (m.2.2.1 x) = true))) ∧ (∀ j, j < m.2.2.2.2.1 → (ma_c s bl k v m).2.2.2.1 j = m.2.2.2.1 j) ∧ m.2.2.2.2.1 ≤ (ma_c s bl k v m).2.2.2.2.1 := by
  intro k
  induction k with
  | zero =>
    intro v m _ h
    exact ⟨rfl, rfl, fun x h1 h2 => absurd h2 (by omega), fun _ _ => rfl, h, fun x => ⟨fun h => .inl h, fun h => h.elim id fun h => absurd h.2.1 (by omega)⟩, fun _ _ => rfl, Nat.le_refl _⟩
  | succ k ih =>
    intro v m hk h
    rw [ma_c]
    have key : (ma_c1 s bl m v).1 = m.1 ∧ (ma_c1 s bl m v).2.1 = m.2.1 ∧ (bl.testBit (m.2.2.1 v) = true → (ma_c1 s bl m v).2.2.1 v = s) ∧ (∀ x, ¬ (x = v ∧ bl.testBit (m.2.2.1 x) = true) → (ma_c1 s bl m v).2.2.1 x = m.2.2.1 x) ∧ qk (ma_c1 s bl m v) ∧ (∀ x, (ma_c1 s bl m v).2.2.2.2.2.testBit x = true ↔ (m.2.2.2.2.2.testBit x = true ∨ (x = v ∧ bl.testBit (m.2.2.1 x) = true))) ∧ (∀ j, j < m.2.2.2.2.1 → (ma_c1 s bl m v).2.2.2.1 j = m.2.2.2.1 j) ∧ m.2.2.2.2.1 ≤ (ma_c1 s bl m v).2.2.2.2.1 := by
      unfold ma_c1
      by_cases hb : bl.testBit (m.2.2.1 v) = true
      · rw [if_pos hb]
        have e := enq_is (m := (m.1, m.2.1, up_N m.2.2.1 v s, m.2.2.2.1, m.2.2.2.2.1, m.2.2.2.2.2)) h (v := v) (by omega)
        refine ⟨e.1, e.2.1, fun _ => ?_, fun x hx => ?_, e.2.2.2.1, fun x => ?_, e.2.2.2.2.2.1, e.2.2.2.2.2.2⟩
        · rw [e.2.2.1]; exact up_N_eq
        · rw [e.2.2.1]; exact up_N_ne fun e => hx ⟨e, by rw [e]; exact hb⟩
        · rw [e.2.2.2.2.1]
          exact ⟨fun h => h.imp id fun e => ⟨e, by rw [e]; exact hb⟩, fun h => h.imp id fun e => e.1⟩
      · rw [if_neg hb]
        exact ⟨rfl, rfl, fun h => absurd h hb, fun _ _ => rfl, h, fun x => ⟨fun h => .inl h, fun h => h.elim id fun e => absurd (by rw [← e.1]; exact e.2) hb⟩, fun _ _ => rfl, Nat.le_refl _⟩
    obtain ⟨k1, k2, k3, k4, k5, k6, k7, k8⟩ := key
    obtain ⟨i1, i2, i3, i4, i5, i6, i7, i8⟩ := ih (v + 1) (ma_c1 s bl m v) (by omega) k5
    have hbs : ∀ x, v + 1 ≤ x → (ma_c1 s bl m v).2.2.1 x = m.2.2.1 x := fun x hx => k4 x fun h => by omega
    refine ⟨i1.trans k1, i2.trans k2, fun x h1 h2 h3 => ?_, fun x hx => ?_, i5, fun x => ?_, fun j hj => (i7 j (by omega)).trans (k7 j hj), Nat.le_trans k8 i8⟩
    · by_cases e : x = v
      · subst e
        rw [i4 x fun h => by omega]
        exact k3 h3
      · exact i3 x (by omega) (by omega) (by rw [hbs x (by omega)]; exact h3)
    · rw [i4 x fun h => hx ⟨by omega, by omega, by rw [← hbs x h.1]; exact h.2.2⟩]
      exact k4 x fun h => hx ⟨by omega, by omega, h.2⟩
    · rw [i6, k6]
      constructor
      · rintro ((h1 | h1) | h1)
        · exact .inl h1
        · exact .inr ⟨by omega, by omega, h1.2⟩
        · exact .inr ⟨by omega, by omega, by rw [← hbs x h1.1]; exact h1.2.2⟩
      · rintro (h1 | h1)
        · exact .inl (.inl h1)
        · by_cases e : x = v
          · exact .inl (.inr ⟨e, h1.2.2⟩)
          · exact .inr ⟨by omega, by omega, by rw [hbs x (by omega)]; exact h1.2.2⟩
/-- distinct firsts: few pairs -/
theorem pw_len : ∀ (L : List (Nat × Nat)) (X : Nat), L.Pairwise gR → (∀ p, p ∈ L → p.1 < 16 ∧ X.testBit p.1 = false) → nm_c 16 X + L.length ≤ 16 := by
  intro L
  induction L with
  | nil => intro X _ _; exact nm_c_le 16 X
  | cons p L ih =>
    intro X hp hX
    have h1 := List.pairwise_cons.mp hp
    have h2 := hX p List.mem_cons_self
    have := ih (X ||| 2 ^ p.1) h1.2 (fun q hq => by
      have h3 := hX q (List.mem_cons_of_mem p hq)
      refine ⟨h3.1, ?_⟩
      rw [Nat.testBit_or, h3.2, nm_2t, decide_eq_false (h1.1 q hq).1]
      rfl)
    rw [cq_add h2.1 h2.2] at this
    rw [List.length_cons]
    omega
theorem bn_some {F : Nat → Option Nat} : ∀ S u, bn F S (some u) → ∀ p, p ∈ S → F p.1 ≠ none := by
  intro S
  induction S with
  | nil => intro u _ p hp; cases hp
  | cons a S ih =>
    intro u h p hp
    rcases List.mem_cons.mp hp with e | e
    · rw [e, h.1]; exact fun e => by cases e
    · exact ih _ h.2 p e
theorem w1_t {m : st_M} : ∀ k p b g, (ma_w1 m k p (some b)).testBit g = true ↔ (p.testBit g = true ∨ ∃ j, j < k ∧ an (uq m.1 m.2.1 m.2.2.1) j b g) := by
  intro k
  induction k with
  | zero => exact fun p b g => ⟨fun h => .inl h, fun h => h.elim id fun ⟨j, h, _⟩ => absurd h (Nat.not_lt_zero j)⟩
  | succ k ih =>
    intro p b g
    rw [ma_w1]
    cases hu : ma_up m b with
    | none =>
      have e : ma_w1 m k (p ||| 2 ^ b) none = p ||| 2 ^ b := by cases k <;> rfl
      rw [e, Nat.testBit_or, Bool.or_eq_true, nm_2t, decide_eq_true_eq]
      constructor
      · rintro (h | h)
        · exact .inl h
        · exact .inr ⟨0, by omega, h⟩
      · rintro (h | ⟨j, h1, h2⟩)
        · exact .inl h
        · cases j with
          | zero => exact .inr h2
          | succ j =>
            obtain ⟨e, h3, _⟩ := h2
            have h3 : ma_up m b = some e := h3
            rw [hu] at h3
            cases h3
    | some c =>
      rw [ih, Nat.testBit_or, Bool.or_eq_true, nm_2t, decide_eq_true_eq]
      constructor
      · rintro ((h | h) | ⟨j, h1, h2⟩)
        · exact .inl h
        · exact .inr ⟨0, by omega, h⟩
        · exact .inr ⟨j + 1, by omega, c, hu, h2⟩
      · rintro (h | ⟨j, h1, h2⟩)
        · exact .inl (.inl h)
        · cases j with
          | zero => exact .inl (.inr h2)
          | succ j =>
            obtain ⟨e, h3, h4⟩ := h2
            have h3 : ma_up m b = some e := h3
            rw [hu] at h3
            cases h3
            exact .inr ⟨j, by omega, h4⟩
theorem w2_is {m : st_M} {p : Nat} : ∀ k b, (∃ j g, j < k ∧ an (uq m.1 m.2.1 m.2.2.1) j b g ∧ p.testBit g = true) → ∃ s, ma_w2 m p k (some b) = some s ∧ p.testBit s = true ∧ ac (uq m.1 m.2.1 m.2.2.1) b s ∧ ∀ g, ac (uq m.1 m.2.1 m.2.2.1) b g → p.testBit g = true → ac (uq m.1 m.2.1 m.2.2.1) s g := by
  intro k
  induction k with
  | zero => rintro b ⟨j, g, h, _⟩; omega
  | succ k ih =>
    rintro b ⟨j, g, h1, h2, h3⟩
    rw [ma_w2]
    by_cases hb : p.testBit b = true
    · rw [if_pos hb]
      exact ⟨b, rfl, hb, ac_r, fun g h _ => h⟩
    · rw [if_neg hb]
      cases j with
      | zero =>
        have e : b = g := h2
        rw [e] at hb
        exact absurd h3 hb
      | succ j =>
        obtain ⟨c, h4, h5⟩ := h2
        have h6 : ma_up m b = some c := h4
        rw [h6]
        obtain ⟨s, s1, s2, s3, s4⟩ := ih c ⟨j, g, by omega, h5, h3⟩
        refine ⟨s, s1, s2, ac_s h4 s3, fun g' hg' hp' => ?_⟩
        rcases ac_c hg' with e | ⟨c', e1, e2⟩
        · rw [← e] at hp'; exact absurd hp' hb
        · rw [h4] at e1
          cases e1
          exact s4 g' e2 hp'
def SI (J : Nat → Nat) (n : Nat) (mt : Nat → Option Nat) (r : Nat) (d : Nat → Nat) (m : st_M) : Prop := m.1 = mt ∧ si J n mt r d m.2.1 m.2.2.1 m.2.2.2.2.2 ∧ qk m
section
variable {J : Nat → Nat} {n : Nat} {mt : Nat → Option Nat} {r : Nat} {d : Nat → Nat}
theorem meet_is (hv : mv J mt) (hr : mt r = none) {m : st_M} (h : SI J n mt r d m) {a b : Nat} (ha : m.2.2.2.2.2.testBit a = true) (hb : m.2.2.2.2.2.testBit b = true) : ∃ s, ma_meet m a b = some s ∧ ac (uq mt m.2.1 m.2.2.1) (m.2.2.1 a) s ∧ ac (uq mt m.2.1 m.2.2.1) (m.2.2.1 b) s ∧ ∀ g, ac (uq mt m.2.1 m.2.2.1) (m.2.2.1 a) g → ac (uq mt m.2.1 m.2.2.1) (m.2.2.1 b) g → ac (uq mt m.2.1 m.2.2.1) s g := by
  obtain ⟨h1, h2, h3⟩ := h
  subst h1
  have hj : ∀ x j g, m.2.2.2.2.2.testBit x = true → an (uq m.1 m.2.1 m.2.2.1) j (m.2.2.1 x) g → j < 16 := fun x j g hx hj => by
    have b1 := h2.bas x hx
    have b2 := an_q hv hr h2 j _ g b1.1 b1.2 hj
    have b3 := h2.dep _ b1.1 b1.2
    have b4 := nm_c_le 16 m.2.2.2.2.2
    omega
  have hw : ∀ g, (ma_w1 m 16 0 (some (m.2.2.1 a))).testBit g = true ↔ ac (uq m.1 m.2.1 m.2.2.1) (m.2.2.1 a) g := fun g => by
    rw [w1_t]
    constructor
    · rintro (h | ⟨j, _, h⟩)
      · rw [Nat.zero_testBit] at h; cases h
      · exact ⟨j, h⟩
    · rintro ⟨j, h⟩
      exact .inr ⟨j, hj a j g ha h, h⟩
  have ra := h2.bas a ha
  have rb := h2.bas b hb
  obtain ⟨j, hjr⟩ := ac_root hv h2 _ (m.2.2.1 b) (Nat.lt_succ_self _) rb.1 rb.2
  obtain ⟨s, s1, s2, s3, s4⟩ := w2_is (m := m) (p := ma_w1 m 16 0 (some (m.2.2.1 a))) 16 (m.2.2.1 b) ⟨j, r, hj b j r hb hjr, hjr, (hw r).mpr (ac_root hv h2 _ (m.2.2.1 a) (Nat.lt_succ_self _) ra.1 ra.2)⟩
  exact ⟨s, s1, (hw s).mp s2, s3, fun g g1 g2 => s4 g g2 ((hw g).mpr g1)⟩
theorem cb_is (hn : n ≤ 16) (hJ : ∀ u i, (J u).testBit i = true → u < n ∧ i < n) (hirr : ∀ i, (J i).testBit i = false) (hsym : ∀ i j, (J i).testBit j = (J j).testBit i) (hv : mv J mt) (hr : mt r = none) {m : st_M} (h : SI J n mt r d m) {a b : Nat} (ha : m.2.2.2.2.2.testBit a = true) (hb : m.2.2.2.2.2.testBit b = true) (hab : (J a).testBit b = true) : ∃ m', ma_cb n m a b = some m' ∧ SI J n mt r d m' ∧ ex m m' ∧ m'.2.2.1 a = m'.2.2.1 b := by
  obtain ⟨s, s1, s2, s3, s4⟩ := meet_is hv hr h ha hb
  obtain ⟨h1, h2, h3⟩ := h
  obtain ⟨mt', fr, bs, q, c, Q⟩ := m
  try dsimp only at h1 h2 s2 s3 s4 ha hb
  subst h1
  obtain ⟨La, a1, a2⟩ := h2.path a ha
  obtain ⟨Lb, b1, b2⟩ := h2.path b hb
  obtain ⟨Sa, Ta, za, a3, a4, a5⟩ := sp_split hr h2 La a a1 s2
  obtain ⟨Sb, Tb, zb, b3, b4, b5⟩ := sp_split hr h2 Lb b b1 s3
  subst a3 b3
  have t : st mt' fr bs Q r s a b Sa Ta Sb Tb := ⟨⟨za, a4, a5⟩, a1, a2, ⟨zb, b4, b5⟩, b1, b2, s4⟩
  have hne : ∀ p, mt' p.1 = some p.2 → p.1 ≠ (p : Nat × Nat).2 := fun p hp e => by
    have := (hv _ _ hp).2
    rw [← e, hirr] at this
    cases this
  have hsa := fun p hp => (st_a hv hr h2 t p hp)
  have hsb := fun p hp => (st_a hv hr h2 (st_sym t) p hp)
  have hlen : ∀ S T v, (S ++ T).Pairwise gR → gp mt' fr bs Q r v (S ++ T) → S.length ≤ 16 := fun S T v hpw hg => by
    have := pw_len S 0 (List.pairwise_append.mp hpw).1 (fun p hp => ⟨by
      have := h2.inn _ (gp_mt _ v p hg (List.mem_append.mpr (.inl hp))).2
      omega, Nat.zero_testBit _⟩)
    omega
  have e1 := bb_is Sa 16 fr 0 a (some b) za a4 (List.pairwise_append.mp a2).1 (fun p hp => ⟨rfl, hne p (hsa p hp).1⟩) (hlen Sa Ta a a2 a1)
  have e2 := bb_is Sb 16 (bd Sa (some b) fr) 0 b (some a) zb b4 (List.pairwise_append.mp b2).1 (fun p hp => ⟨bd_ne Sa _ _ _ fun p' hp' e => (st_dis hv hr h2 t p' p hp' (List.mem_append.mpr (.inl hp))).2.1 e, hne p (hsb p hp).1⟩) (hlen Sb Tb b b2 b1)
  have hbl : ∀ g, (bt bs Sa 0 ||| bt bs Sb 0).testBit g = true ↔ ∃ p, (p ∈ Sa ∨ p ∈ Sb) ∧ (g = bs p.1 ∨ g = bs p.2) := fun g => by
    rw [Nat.testBit_or, Bool.or_eq_true, bt_t, bt_t, Nat.zero_testBit]
    constructor
    · rintro ((h | ⟨p, h1, h2⟩) | (h | ⟨p, h1, h2⟩))
      · cases h
      · exact ⟨p, .inl h1, h2⟩
      · cases h
      · exact ⟨p, .inr h1, h2⟩
    · rintro ⟨p, h1 | h1, h2⟩
      · exact .inl (.inr ⟨p, h1, h2⟩)
      · exact .inr (.inr ⟨p, h1, h2⟩)
  have hcb : ma_cb n (mt', fr, bs, q, c, Q) a b = some (ma_c s (bt bs Sa 0 ||| bt bs Sb 0) n 0 (mt', bd Sb (some a) (bd Sa (some b) fr), bs, q, c, Q)) := by
    unfold ma_cb
    rw [s1]
    try dsimp only
    rw [e1, e2]
  have hc := c_is (s := s) (bl := bt bs Sa 0 ||| bt bs Sb 0) n 0 (mt', bd Sb (some a) (bd Sa (some b) fr), bs, q, c, Q) (by omega) h3
  rw [hcb]
  refine ⟨_, rfl, ?_⟩
  generalize ma_c s (bt bs Sa 0 ||| bt bs Sb 0) n 0 (mt', bd Sb (some a) (bd Sa (some b) fr), bs, q, c, Q) = m' at hc
  obtain ⟨c1, c2, c3, c4, c5, c6, c7, c8⟩ := hc
  try dsimp only at c1 c2 c3 c4 c6 c7 c8
  have w : nw n mt' fr bs Q s a b Sa Sb m'.2.1 m'.2.2.1 m'.2.2.2.2.2 := by
    rw [c2]
    refine ⟨fun x hx => ?_, bn_cg Sa _ (fun p hp => bd_ne Sb _ _ _ fun p' hp' e => (st_dis hv hr h2 t p p' hp (List.mem_append.mpr (.inl hp'))).1 e.symm) (bd_bn Sa _ _ (List.pairwise_append.mp a2).1), bd_bn Sb _ _ (List.pairwise_append.mp b2).1, fun x hx hc => c3 x (Nat.zero_le x) (by omega) ((hbl _).mpr hc), fun x hx hc => c4 x fun h => hc ((hbl _).mp h.2.2), fun x hx => c4 x fun h => by omega, fun x => ?_⟩
    · rw [bd_ne Sb _ _ _ fun p hp e => hx ⟨p, .inr hp, e⟩, bd_ne Sa _ _ _ fun p hp e => hx ⟨p, .inl hp, e⟩]
    · rw [c6]
      constructor
      · rintro (h | h)
        · exact .inl h
        · exact .inr ⟨by omega, (hbl _).mp h.2.2⟩
      · rintro (h | h)
        · exact .inl h
        · exact .inr ⟨Nat.zero_le x, by omega, (hbl _).mpr h.2⟩
  have hbaseA := h2.bas a ha
  obtain ⟨k, hk⟩ := s2
  have hsQ := an_q hv hr h2 k _ s hbaseA.1 hbaseA.2 hk
  have hsi := nw_si hn hJ hirr hsym hv hr h2 t w hab ⟨hsQ.1, hsQ.2.1⟩
  refine ⟨⟨c1, hsi, c5⟩, ⟨c1, fun x hx => (c6 x).mpr (.inl hx), c7, c8, fun x hx => ?_, fun x y hx hy e => nw_eq w (h2.inn x hx) (h2.inn y hy) e⟩, ?_⟩
  · by_cases hc : ∃ p, (p ∈ Sa ∨ p ∈ Sb) ∧ p.1 = x
    · obtain ⟨p, hp, e⟩ := hc
      rw [← e]
      rcases hp with hp | hp
      · exact bn_some Sa b w.2.1 p hp
      · exact bn_some Sb a w.2.2.1 p hp
    · rw [w.1 x hc]
      exact hx
  · exact (nw_seg hn hJ hv hr h2 t w).2.1.trans (nw_seg hn hJ hv hr h2 (st_sym t) (nw_sym w)).2.1.symm
end

/-! pairs: the reference's table -/
def pd_r (J : Nat → Nat) (n s : Nat) (g : Nat → Nat) : Nat := mi_it (rf_pp J g (rf_lb s) (nm_d s (2 ^ rf_lb s))) (n - (rf_lb s + 1)) (rf_lb s + 1) (g (nm_d s (2 ^ rf_lb s)))
theorem nm_d_lt1 {s v : Nat} (h : s.testBit v = true) : nm_d s (2 ^ v) < s := nm_d_lt2 h
theorem pd_cg {J : Nat → Nat} {n s : Nat} {g g' : Nat → Nat} (hn : n ≤ 16) (h0 : s ≠ 0) (hs : s < 2 ^ n) (h : ∀ t, t < s → g t = g' t) : pd_r J n s g = pd_r J n s g' := by
  have hlo : s < 65536 := Nat.lt_of_lt_of_le hs (Nat.pow_le_pow_right (n := 2) (by decide) hn)
  have hl := rf_lb_is h0 hlo
  have h1 := nm_d_lt1 hl.2.1
  have hbn : rf_lb s < n := Nat.not_le.mp fun hc => by
    have := ct_lt hs hc
    rw [hl.2.1] at this
    cases this
  unfold pd_r
  rw [h _ h1]
  refine mi_it_rel (n := n) (R := fun _ a b => a = b) (fun u a b hu e => ?_) _ _ _ _ (by omega) rfl
  subst e
  unfold rf_pp
  by_cases hc : ((nm_d s (2 ^ rf_lb s)).testBit u && (J (rf_lb s)).testBit u) = true
  · rw [if_pos hc, if_pos hc, h _ (Nat.lt_of_le_of_lt (nm_d_le _ _) h1)]
  · rw [if_neg hc, if_neg hc]
theorem pd_is {J : Nat → Nat} {n : Nat} (hn : n ≤ 16) (f : Nat → Nat) : rf_pr J n f 0 = 0 ∧ ∀ s, s ≠ 0 → s < 2 ^ n → rf_pr J n f s = pd_r J n s (rf_pr J n f) := by
  have h1 : 1 ≤ 2 ^ n := Nat.one_le_two_pow
  have key := mi_it_ind (n := 2 ^ n) (f := rf_pd J n) (fun i (g : Nat → Nat) => 1 ≤ i ∧ (g 0 = 0 ∧ ∀ s, s ≠ 0 → s < i → g s = pd_r J n s g)) (fun i g hi ⟨hi1, h⟩ => by
    refine ⟨by omega, ?_⟩
    have hg := h
    have hi0 : i ≠ 0 := by omega
    · have e : rf_pd J n i g = up_N g i (pd_r J n i g) := rfl
      rw [e]
      refine ⟨by rw [up_N_ne (fun e => hi0 e.symm)]; exact hg.1, fun s h0 hs => ?_⟩
      by_cases hsi : s = i
      · subst hsi
        rw [up_N_eq]
        exact pd_cg hn h0 hi fun t ht => (up_N_ne (by omega)).symm
      · rw [up_N_ne hsi, hg.2 s h0 (by omega)]
        exact pd_cg hn h0 (by omega) fun t ht => (up_N_ne (by omega)).symm) (2 ^ n - 1) 1 (up_N f 0 0) (by omega) ⟨Nat.le_refl 1, up_N_eq, fun s h0 hs => absurd hs (by omega)⟩
  exact key.2
theorem pp_le {J g : Nat → Nat} {v rest C : Nat} (hc : ∀ u, rest.testBit u = true → (J v).testBit u = true → 1 + g (nm_d rest (2 ^ u)) ≤ C) : ∀ k i m, m ≤ C → mi_it (rf_pp J g v rest) k i m ≤ C := by
  intro k
  induction k with
  | zero => exact fun i m h => h
  | succ k ih =>
    intro i m h
    rw [mi_it_s]
    refine ih _ _ ?_
    unfold rf_pp
    by_cases hb : (rest.testBit i && (J v).testBit i) = true
    · rw [if_pos hb]
      rw [Bool.and_eq_true] at hb
      exact Nat.max_le.mpr ⟨h, hc i hb.1 hb.2⟩
    · rw [if_neg hb]; exact h
theorem pp_ge {J g : Nat → Nat} {v rest : Nat} : ∀ k i m, m ≤ mi_it (rf_pp J g v rest) k i m ∧ ∀ u, i ≤ u → u < i + k → rest.testBit u = true → (J v).testBit u = true → 1 + g (nm_d rest (2 ^ u)) ≤ mi_it (rf_pp J g v rest) k i m := by
  intro k
  induction k with
  | zero => exact fun i m => ⟨Nat.le_refl m, fun u h1 h2 => absurd h2 (by omega)⟩
  | succ k ih =>
    intro i m
    rw [mi_it_s]
    have h := ih (i + 1) (rf_pp J g v rest i m)
    have hm : m ≤ rf_pp J g v rest i m := by
      unfold rf_pp
      split
      · exact Nat.le_max_left _ _
      · exact Nat.le_refl _
    refine ⟨Nat.le_trans hm h.1, fun u h1 h2 h3 h4 => ?_⟩
    by_cases e : u = i
    · subst e
      refine Nat.le_trans ?_ h.1
      unfold rf_pp
      rw [if_pos (by rw [h3, h4]; rfl)]
      exact Nat.le_max_right _ _
    · exact h.2 u (by omega) (by omega) h3 h4
/-- a bound that falls with each pair bounds the table -/
theorem pd_up {J : Nat → Nat} {n : Nat} (hn : n ≤ 16) (f : Nat → Nat) {B : Nat → Nat} (hm : ∀ s v, B (nm_d s (2 ^ v)) ≤ B s) (he : ∀ s a b, s < 2 ^ n → s.testBit a = true → s.testBit b = true → a ≠ b → (J a).testBit b = true → 1 + B (nm_d (nm_d s (2 ^ a)) (2 ^ b)) ≤ B s) : ∀ s, s < 2 ^ n → rf_pr J n f s ≤ B s := by
  have hpd := pd_is (J := J) hn f
  intro s
  induction s using Nat.strongRecOn with
  | ind s ih =>
    intro hs
    by_cases h0 : s = 0
    · rw [h0, hpd.1]; exact Nat.zero_le _
    · have hlo : s < 65536 := Nat.lt_of_lt_of_le hs (Nat.pow_le_pow_right (n := 2) (by decide) hn)
      have hl := rf_lb_is h0 hlo
      have h1 := nm_d_lt1 hl.2.1
      rw [hpd.2 s h0 hs]
      refine pp_le (fun u hu hj => ?_) _ _ _ (Nat.le_trans (ih _ h1 (by omega)) (hm s _))
      have h2 := nm_d_lt1 hu
      refine Nat.le_trans (Nat.add_le_add_left (ih _ (by omega) (by omega)) 1) ?_
      rw [nm_d_t, Bool.and_eq_true, nm_2t, Bool.not_eq_true', decide_eq_false_iff_not] at hu
      exact he s _ u hs hl.2.1 hu.1 hu.2 hj
/-- a matching inside counts -/
def mv (J : Nat → Nat) (m : Nat → Option Nat) : Prop := ∀ x y, m x = some y → m y = some x ∧ (J x).testBit y = true
def mc (m : Nat → Option Nat) (S : Nat) : Prop := ∀ x, S.testBit x = true → ∃ y, m x = some y ∧ S.testBit y = true
theorem nm_c_two {S a b : Nat} (ha : a < 16) (hb : b < 16) (h1 : S.testBit a = true) (h2 : S.testBit b = true) (hab : a ≠ b) : nm_c 16 (nm_d (nm_d S (2 ^ a)) (2 ^ b)) + 2 = nm_c 16 S := by
  have e1 := nm_c_drop ha h1
  have e2 := nm_c_drop (s := nm_d S (2 ^ a)) hb (by rw [nm_d_t, h2, nm_2t, decide_eq_false hab]; rfl)
  omega
theorem mc_two {J : Nat → Nat} {m : Nat → Option Nat} {S a b : Nat} (hv : mv J m) (h : mc m S) (hm : m a = some b) : mc m (nm_d (nm_d S (2 ^ a)) (2 ^ b)) := fun x hx => by
  have hx' : S.testBit x = true ∧ x ≠ a ∧ x ≠ b := by
    rw [nm_d_t, nm_d_t, nm_2t, nm_2t] at hx
    simp only [Bool.and_eq_true, Bool.not_eq_true', decide_eq_false_iff_not] at hx
    exact ⟨hx.1.1, fun e => hx.1.2 e.symm, fun e => hx.2 e.symm⟩
  obtain ⟨y, h1, h2⟩ := h x hx'.1
  refine ⟨y, h1, ?_⟩
  have h3 := (hv x y h1).1
  have h4 := (hv a b hm).1
  rw [nm_d_t, nm_d_t, nm_2t, nm_2t, h2, decide_eq_false (fun e => by
    subst e
    rw [hm] at h3
    cases h3
    exact hx'.2.2 rfl), decide_eq_false (fun e => by
    subst e
    rw [h4] at h3
    cases h3
    exact hx'.2.1 rfl)]
  rfl
theorem pd_lo {J : Nat → Nat} {n : Nat} (hn : n ≤ 16) (hirr : ∀ i, (J i).testBit i = false) (f : Nat → Nat) {m : Nat → Option Nat} (hv : mv J m) : ∀ s, s < 2 ^ n → ∀ S, (∀ i, S.testBit i = true → s.testBit i = true) → mc m S → nm_c 16 S ≤ 2 * rf_pr J n f s := by
  have hpd := pd_is (J := J) hn f
  intro s
  induction s using Nat.strongRecOn with
  | ind s ih =>
    intro hs S hS hc
    by_cases h0 : s = 0
    · have : S = 0 := nm_e0.mpr fun i => by
        cases hi : S.testBit i
        · rfl
        · have := hS i hi
          rw [h0, Nat.zero_testBit] at this
          cases this
      rw [this, cz_0]
      exact Nat.zero_le _
    · have hlo : s < 65536 := Nat.lt_of_lt_of_le hs (Nat.pow_le_pow_right (n := 2) (by decide) hn)
      have hl := rf_lb_is h0 hlo
      have h1 := nm_d_lt1 hl.2.1
      have hbn : rf_lb s < n := Nat.not_le.mp fun hc => by
        have := ct_lt hs hc
        rw [hl.2.1] at this
        cases this
      rw [hpd.2 s h0 hs]
      have hge := pp_ge (J := J) (g := rf_pr J n f) (v := rf_lb s) (rest := nm_d s (2 ^ rf_lb s)) (n - (rf_lb s + 1)) (rf_lb s + 1) (rf_pr J n f (nm_d s (2 ^ rf_lb s)))
      unfold pd_r
      cases hb : S.testBit (rf_lb s)
      · have := ih _ h1 (by omega) S (fun i hi => by
          rw [nm_d_t, hS i hi, nm_2t, decide_eq_false (fun e => by rw [e, hi] at hb; cases hb)]
          rfl) hc
        have := hge.1
        omega
      · obtain ⟨u, hu1, hu2⟩ := hc _ hb
        have hj := (hv _ u hu1).2
        have hne : rf_lb s ≠ u := fun e => by rw [← e, hirr] at hj; cases hj
        have hsu := hS u hu2
        have hun : u < n := Nat.not_le.mp fun hc => by
          have := ct_lt hs hc
          rw [hsu] at this
          cases this
        have hlt : rf_lb s < u := Nat.lt_of_le_of_ne (Nat.not_lt.mp fun h => by
          rw [hl.2.2.1 u h] at hsu
          cases hsu) hne
        have hru : (nm_d s (2 ^ rf_lb s)).testBit u = true := by rw [nm_d_t, hsu, nm_2t, decide_eq_false hne]; rfl
        have g1 := hge.2 u (by omega) (by omega) hru hj
        have h2 := nm_d_lt1 hru
        have g2 := ih (nm_d (nm_d s (2 ^ rf_lb s)) (2 ^ u)) (by omega) (by omega) (nm_d (nm_d S (2 ^ rf_lb s)) (2 ^ u)) (fun i hi => by
          rw [nm_d_t, nm_d_t, Bool.and_eq_true, Bool.and_eq_true] at hi ⊢
          exact ⟨⟨hS i hi.1.1, hi.1.2⟩, hi.2⟩) (mc_two hv hc hu1)
        have g3 := nm_c_two hl.1 (by omega) hb hu2 hne
        omega

/-! code and reference: the search -/
def sr_I (t p work : Nat) (W : Nat → Nat → Nat) : (Nat × se_T) ⊕ se_T → (Nat × rf_T) ⊕ rf_T → Prop
  | .inl a, .inl b => a.1 = b.1 ∧ a.2.2 = b.2.2 ∧ (∀ i, a.1.testBit i = true → p.testBit i = true) ∧ a.2.2.2.1 ≤ work ∧ ∀ j, j ≤ t → a.2.1 j = W j
  | .inr a, .inr b => a.2 = b.2 ∧ a.2.2.1 ≤ work ∧ ∀ j, j ≤ t → a.1 j = W j
  | _, _ => False
theorem sr_in {n : st_N} {t cl c p work : Nat} {W : Nat → Nat → Nat} {col : Nat → Nat} {rc : Nat → Nat → se_T → se_T} {rd : Nat → Nat → rf_T → rf_T} (ht : nm_c 16 cl = t) (hW : ∀ v, v < n.1 → ((W t c).testBit v = true ↔ (p.testBit v = true ∧ col v = c))) (hrc : ∀ v x s s', p.testBit v = true → (∀ i, x.testBit i = true → p.testBit i = true) → s.2 = s'.2 → s.2.2.1 ≤ work → (rc (cl ||| 2 ^ v) (x &&& n.2.2.2 v) s).2 = (rd (cl ||| 2 ^ v) (x &&& n.2.2.2 v) s').2 ∧ (rc (cl ||| 2 ^ v) (x &&& n.2.2.2 v) s).2.2.1 ≤ work ∧ ∀ j, j ≤ t → (rc (cl ||| 2 ^ v) (x &&& n.2.2.2 v) s).1 j = s.1 j) : ∀ v (q : Nat × se_T) (q' : Nat × rf_T), v ≤ n.1 → sr_I t p work W (.inl q) (.inl q') → sr_I t p work W (se_in n t cl c rc v q) (rf_in n.2.2.2 col cl p c rd v q') := by
  intro v
  induction v with
  | zero => intro q q' _ h; exact h
  | succ v ih =>
    intro q q' hv h
    obtain ⟨h1, h2, h3, h4, h5⟩ := h
    have hw := hW v (by omega)
    rw [se_in, rf_in, h5 t (Nat.le_refl t)]
    cases hb : (W t c).testBit v
    · rw [if_pos rfl, if_neg (fun h => by rw [hb] at hw; exact Bool.noConfusion (hw.mpr h))]
      exact ih q q' (by omega) ⟨h1, h2, h3, h4, h5⟩
    · have hp := hw.mp hb
      rw [if_neg (by decide), if_pos hp, ht, ← h1, ← h2]
      by_cases hc : t + c ≤ nm_c 16 q.2.2.1
      · rw [if_pos hc, if_pos hc]
        exact ⟨rfl, h4, h5⟩
      · rw [if_neg hc, if_neg hc]
        obtain ⟨g1, g2, g3⟩ := hrc v q.1 q.2 q'.2 hp.1 h3 h2 h4
        rw [← g1]
        have g4 : ∀ j, j ≤ t → (rc (cl ||| 2 ^ v) (q.1 &&& n.2.2.2 v) q.2).1 j = W j := fun j hj => by rw [g3 j hj, h5 j hj]
        generalize rd (cl ||| 2 ^ v) (q.1 &&& n.2.2.2 v) q'.2 = y at g1 ⊢
        generalize rc (cl ||| 2 ^ v) (q.1 &&& n.2.2.2 v) q.2 = x at g1 g2 g3 g4 ⊢
        by_cases hz : x.2.2.2.2 = 0
        · rw [if_pos hz, if_pos hz]
          exact ih (nm_d q.1 (2 ^ v), x) (nm_d q.1 (2 ^ v), y) (by omega) ⟨rfl, g1, fun i hi => h3 i (by rw [nm_d_t, Bool.and_eq_true] at hi; exact hi.1), g2, g4⟩
        · rw [if_neg hz, if_neg hz]
          exact ⟨g1, g2, g4⟩
theorem sr_skip {n : st_N} {t cl c : Nat} {rc : Nat → Nat → se_T → se_T} {q : Nat × se_T} {m : Nat} (h : ∀ v, m ≤ v → (q.2.1 t c).testBit v = false) : ∀ k, se_in n t cl c rc (m + k) q = se_in n t cl c rc m q := by
  intro k
  induction k with
  | zero => rfl
  | succ k ih =>
    rw [show m + (k + 1) = (m + k) + 1 from rfl, se_in, if_pos (h (m + k) (by omega))]
    exact ih
theorem sr_out {n : st_N} {t cl p work : Nat} {W : Nat → Nat → Nat} {col : Nat → Nat} {rc : Nat → Nat → se_T → se_T} {rd : Nat → Nat → rf_T → rf_T} (hn : n.1 ≤ 16) (ht : nm_c 16 cl = t) (hW : ∀ c v, 1 ≤ c → c ≤ 16 → ((W t c).testBit v = true ↔ (v < n.1 ∧ p.testBit v = true ∧ col v = c))) (hrc : ∀ v x s s', p.testBit v = true → (∀ i, x.testBit i = true → p.testBit i = true) → s.2 = s'.2 → s.2.2.1 ≤ work → (rc (cl ||| 2 ^ v) (x &&& n.2.2.2 v) s).2 = (rd (cl ||| 2 ^ v) (x &&& n.2.2.2 v) s').2 ∧ (rc (cl ||| 2 ^ v) (x &&& n.2.2.2 v) s).2.2.1 ≤ work ∧ ∀ j, j ≤ t → (rc (cl ||| 2 ^ v) (x &&& n.2.2.2 v) s).1 j = s.1 j) : ∀ c (q : Nat × se_T) (q' : Nat × rf_T), c ≤ 16 → sr_I t p work W (.inl q) (.inl q') → (se_out n t cl rc c q).2 = (rf_out n.2.2.2 n.1 col cl p rd c q').2 ∧ (se_out n t cl rc c q).2.2.1 ≤ work ∧ ∀ j, j ≤ t → (se_out n t cl rc c q).1 j = W j := by
  intro c
  induction c with
  | zero =>
    intro q q' _ h
    exact ⟨h.2.1, h.2.2.2.1, h.2.2.2.2⟩
  | succ c ih =>
    intro q q' hc h
    have hs : se_in n t cl (c + 1) rc 16 q = se_in n t cl (c + 1) rc n.1 q := by
      have := sr_skip (n := n) (t := t) (cl := cl) (c := c + 1) (rc := rc) (q := q) (m := n.1) (fun v hv => by
        rw [h.2.2.2.2 t (Nat.le_refl t), ← Bool.not_eq_true, hW (c + 1) v (by omega) hc]
        exact fun h => by omega) (16 - n.1)
      rw [show n.1 + (16 - n.1) = 16 by omega] at this
      exact this
    have hi := sr_in (n := n) (c := c + 1) ht (fun v hv => by
      rw [hW (c + 1) v (by omega) hc]
      exact ⟨fun h => h.2, fun h => ⟨hv, h⟩⟩) hrc n.1 q q' (Nat.le_refl _) h
    rw [se_out, rf_out, hs]
    generalize se_in n t cl (c + 1) rc n.1 q = x at hi ⊢
    generalize rf_in n.2.2.2 col cl p (c + 1) rd n.1 q' = y at hi ⊢
    cases x with
    | inl a =>
      cases y with
      | inl b => exact ih a b (by omega) hi
      | inr b => exact hi.elim
    | inr a =>
      cases y with
      | inl b => exact hi.elim
      | inr b => exact hi
theorem up_T_eq {f : Nat → Nat → Nat} {k : Nat} {x : Nat → Nat} : up_T f k x k = x := by unfold up_T; rw [if_pos rfl]
theorem up_T_ne {f : Nat → Nat → Nat} {k j : Nat} {x : Nat → Nat} (h : j ≠ k) : up_T f k x j = f j := by unfold up_T; rw [if_neg h]
theorem sr_br {n : st_N} (ok : gn_ok n) {work : Nat} : ∀ (k cl p : Nat) (s : se_T) (s' : rf_T), k ≤ 17 → nm_c 16 cl + k = 17 → nm_c 16 p < k → (∀ i, p.testBit i = true → i < n.1 ∧ cl.testBit i = false) → s.2 = s'.2 → s.2.2.1 ≤ work → (se_br n work k cl p s).2 = (rf_br n.2.2.2 n.1 work k cl p s').2 ∧ (se_br n work k cl p s).2.2.1 ≤ work ∧ ∀ j, j < 17 - k → (se_br n work k cl p s).1 j = s.1 j := by
  have hn := ok.1.1
  intro k
  induction k with
  | zero => intro cl p s s' _ _ h; omega
  | succ k ih =>
    intro cl p s s' hk hc hp hd he hw
    rw [se_br, rf_br]
    obtain ⟨s1, s2⟩ := s
    obtain ⟨r1, r2⟩ := s'
    dsimp only at he hw ⊢
    subst he
    by_cases hb : work ≤ s2.2.1
    · rw [if_pos hb, if_pos (show s2.2.1 = work by omega)]
      exact ⟨rfl, hw, fun j _ => rfl⟩
    · rw [if_neg hb, if_neg (show ¬ s2.2.1 = work by omega)]
      by_cases h0 : p = 0
      · rw [if_pos h0, if_pos h0, show 17 - (k + 1) = nm_c 16 cl by omega]
        exact ⟨rfl, by dsimp only; omega, fun j _ => rfl⟩
      · rw [if_neg h0, if_neg h0]
        obtain ⟨t, ht⟩ : ∃ t, t = 17 - (k + 1) := ⟨_, rfl⟩
        rw [← ht]
        have htc : nm_c 16 cl = t := by omega
        obtain ⟨c1, c2, c3, c4, c5⟩ := co_eq hn p (s1 t) r1
        have hmx := (nt_paint_is hn p (s1 t)).2
        rw [← c1]
        have key := sr_out (n := n) (t := t) (cl := cl) (p := p) (work := work) (W := up_T s1 t (nt_paint n p (s1 t)).1) (col := (rf_ca n.2.2.2 n.1 p r1).1) (rc := se_br n work k) (rd := rf_br n.2.2.2 n.1 work k) hn htc (fun c v a b => by rw [up_T_eq]; exact c2 c v a b) (fun v x s s' hv hx he hw => by
          have hv16 := hd v hv
          have a1 : nm_c 16 (cl ||| 2 ^ v) = nm_c 16 cl + 1 := by
            rw [nm_c_add 16 (fun i _ hi => by
              rw [nm_2t]
              refine decide_eq_false fun e => ?_
              subst e
              rw [hv16.2] at hi
              cases hi), nm_c_2, if_pos (by omega)]
          have a2 : nm_c 16 (x &&& n.2.2.2 v) < k := by
            have e5 := nm_c_add (a := x &&& n.2.2.2 v) (b := 2 ^ v) 16 (fun i _ h => by
              rw [nm_2t]
              refine decide_eq_false fun e => ?_
              subst e
              rw [Nat.testBit_and, ok.2.2.1] at h
              simp at h)
            have e6 : nm_c 16 ((x &&& n.2.2.2 v) ||| 2 ^ v) ≤ nm_c 16 p := nm_c_mono 16 fun i _ h => by
              rw [Nat.testBit_or, Nat.testBit_and, nm_2t] at h
              simp only [Bool.or_eq_true, Bool.and_eq_true, decide_eq_true_eq] at h
              rcases h with h | h
              · exact hx i h.1
              · rw [← h]
                exact hv
            rw [nm_c_2, if_pos (by omega)] at e5
            omega
          have := ih (cl ||| 2 ^ v) (x &&& n.2.2.2 v) s s' (by omega) (by omega) a2 (fun i hi => by
            rw [Nat.testBit_and, Bool.and_eq_true] at hi
            have h7 := hd i (hx i hi.1)
            refine ⟨h7.1, ?_⟩
            rw [Nat.testBit_or, h7.2, nm_2t, Bool.false_or]
            refine decide_eq_false fun e => ?_
            subst e
            rw [ok.2.2.1] at hi
            cases hi.2) he hw
          exact ⟨this.1, this.2.1, fun j hj => this.2.2 j (by omega)⟩) (nt_paint n p (s1 t)).2 (p, up_T s1 t (nt_paint n p (s1 t)).1, s2.1, s2.2.1 + 1, s2.2.2.1, s2.2.2.2) (p, (rf_ca n.2.2.2 n.1 p r1).1, s2.1, s2.2.1 + 1, s2.2.2.1, s2.2.2.2) hmx ⟨rfl, rfl, fun i h => h, by dsimp only; omega, fun j _ => rfl⟩
        exact ⟨key.1, key.2.1, fun j hj => by rw [key.2.2 j (by omega), up_T_ne (by omega)]⟩
theorem sr_eq {n : st_N} (ok : gn_ok n) (w : Nat) (f : Nat → Nat → Nat) (g : Nat → Nat) : (se_br n w 17 0 (2 ^ n.1 - 1) (f, 0, 0, 0, 0)).2 = (rf_br n.2.2.2 n.1 w 17 0 (2 ^ n.1 - 1) (g, 0, 0, 0, 0)).2 := by
  have hn := ok.1.1
  refine (sr_br ok 17 0 (2 ^ n.1 - 1) (f, 0, 0, 0, 0) (g, 0, 0, 0, 0) (Nat.le_refl _) ?_ ?_ (fun i hi => ?_) rfl (Nat.zero_le _)).1
  · rw [(nm_c_0 16).mpr fun i _ => Nat.zero_testBit i]
  · rw [nm_c_full]; omega
  · rw [nm_full] at hi
    exact ⟨of_decide_eq_true hi, Nat.zero_testBit i⟩

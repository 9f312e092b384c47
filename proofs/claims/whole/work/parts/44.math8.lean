/-! code and reference: what is sure -/
theorem su_fwA {L : Nat → Nat} {n l : Nat} {lo hi : Int32} (hl : ∀ i, l.testBit i = true → i < n) : ∀ j v, n ≤ v → su_lwA L l lo hi j v = none := by
  intro j
  induction j with
  | zero => intro v _; rfl
  | succ j ih =>
    intro v hv
    rw [su_lwA, if_neg (fun h => by have := hl v h.1; omega)]
    exact ih (v + 1) (by omega)
theorem su_fwB {L : Nat → Nat} {n l j : Nat} {lo hi : Int32} (hl : ∀ i, l.testBit i = true → i < n) (hn : n ≤ 16) : ∀ k v, v + k = n → su_lwA L l lo hi (k + j) v = if rf_fwA L l lo hi k v < 16 then some (rf_fwA L l lo hi k v) else none := by
  intro k
  induction k with
  | zero =>
    intro v hv
    rw [Nat.zero_add, su_fwA hl j v (by omega), rf_fwA, if_neg (by decide)]
  | succ k ih =>
    intro v hv
    rw [show k + 1 + j = (k + j) + 1 by omega, su_lwA, rf_fwA]
    have hc : (l.testBit v = true ∧ ¬ nI (nm_c 16 (L v &&& l)) < lo ∧ ¬ hi < nI (nm_c 16 (L v &&& l))) ↔ (l.testBit v = true ∧ cl_r (nI (nm_c 16 (l &&& L v))) lo hi = true) := by
      rw [Nat.and_comm l (L v)]
      unfold cl_r
      generalize nI (nm_c 16 (L v &&& l)) = x
      simp only [Bool.and_eq_true, Bool.not_eq_true', decide_eq_false_iff_not]
    by_cases h : l.testBit v = true ∧ cl_r (nI (nm_c 16 (l &&& L v))) lo hi = true
    · rw [if_pos (hc.mpr h), if_pos h, if_pos (by omega)]
    · rw [if_neg (fun x => h (hc.mp x)), if_neg h]
      exact ih (v + 1) (by omega)
theorem su_fw {L : Nat → Nat} {n l : Nat} {lo hi : Int32} (hl : ∀ i, l.testBit i = true → i < n) (hn : n ≤ 16) : su_lw L l lo hi = if rf_fw L n l lo hi < 16 then some (rf_fw L n l lo hi) else none := by
  have h := su_fwB (L := L) (lo := lo) (hi := hi) (j := 16 - n) hl hn n 0 (by omega)
  rw [show n + (16 - n) = 16 by omega] at h
  exact h
theorem nm_one {x : Nat} (hx : x < 65536) (h : nm_c 16 x = 1) : x = 2 ^ rf_lb x := by
  have h0 : x ≠ 0 := fun e => by
    subst e
    rw [(nm_c_0 16).mpr fun i _ => Nat.zero_testBit i] at h
    cases h
  obtain ⟨h1, h2, -, -⟩ := rf_lb_is h0 hx
  have h3 := nm_c_drop h1 h2
  have h4 := (nm_c_0 16).mp (show nm_c 16 (nm_d x (2 ^ rf_lb x)) = 0 by omega)
  apply Nat.eq_of_testBit_eq
  intro i
  rw [nm_2t]
  by_cases e : rf_lb x = i
  · rw [← e, h2, decide_eq_true rfl]
  · rw [decide_eq_false e]
    by_cases hi : i < 16
    · have h5 := h4 i hi
      rw [nm_d_t, nm_2t, decide_eq_false e] at h5
      simpa using h5
    · exact nm_hi hx (by omega)
def su_R (tk : Nat × Int32) (x : Int32 × st_U) : Option (Nat × Nat × Nat) → Prop
  | none => x.1 = -2 ∧ x.2.2.2.2 = tk
  | some q => x = (nI q.1, q.1, q.2.1, nI q.2.2, q.2.1, nI q.2.2)
theorem su_none {n : st_N} {z : st_U} (h : z.2.2.1 < nI 0) : su_end n z = (-2, z) := by
  unfold su_end
  rw [if_pos (.inl h)]
theorem su_false {L : Nat → Nat} {z : st_U} : ∀ k, su_run L k z false = z := by
  intro k
  cases k with
  | zero => rfl
  | succ k => rw [su_run, if_neg (fun h => by cases h.1)]
theorem su_sub {n l : Nat} {x : Nat} (hl : ∀ i, l.testBit i = true → i < n) : ∀ i, (nm_d l x).testBit i = true → i < n := fun i hi => by
  rw [nm_d_t, Bool.and_eq_true] at hi
  exact hl i hi.1
theorem su_neg : nI 0 - nI 1 < nI 0 := by decide +kernel
theorem su_eq {n : st_N} (ok : gn_ok n) (tk : Nat × Int32) : ∀ (f l ch M : Nat), nm_c 16 l < f → (∀ i, l.testBit i = true → i < n.1) → M ≤ 17 → su_R tk (su_end n (su_run n.2.2.2 f (l, ch, nI M - nI 1, tk) true)) (rf_su n.2.2.2 n.1 f l ch M) := by
  have hn := ok.1.1
  intro f
  induction f with
  | zero => intro l ch M h; omega
  | succ f ih =>
    intro l ch M hc hl hM
    cases M with
    | zero =>
      rw [su_run, if_neg (fun h => h.2 su_neg), su_none (z := (l, ch, nI 0 - nI 1, tk)) su_neg, rf_su]
      exact ⟨rfl, rfl⟩
    | succ m =>
      have e1 : nI (m + 1) - nI 1 = nI m := cn_sub (by omega)
      rw [e1, su_run, rf_su, if_pos ⟨rfl, fun h => (cn_lt0 (by omega)).mp h⟩]
      unfold su_st
      dsimp only
      rw [show nI m + nI 1 = nI (m + 1) from nI_add m 1, su_fw hl hn, su_fw hl hn, su_fw hl hn]
      have f1 := (rf_fwA_is (J := n.2.2.2) (s := l) (lo := nI 0) (hi := nI 0) n.1 0 (by omega)).2
      have f2 := (rf_fwA_is (J := n.2.2.2) (s := l) (lo := nI (m + 1)) (hi := nI 16) n.1 0 (by omega)).2
      have f3 := (rf_fwA_is (J := n.2.2.2) (s := l) (lo := nI 1) (hi := nI 1) n.1 0 (by omega)).2
      rw [show rf_fwA n.2.2.2 l (nI 0) (nI 0) n.1 0 = rf_fw n.2.2.2 n.1 l (nI 0) (nI 0) from rfl] at f1
      rw [show rf_fwA n.2.2.2 l (nI (m + 1)) (nI 16) n.1 0 = rf_fw n.2.2.2 n.1 l (nI (m + 1)) (nI 16) from rfl] at f2
      rw [show rf_fwA n.2.2.2 l (nI 1) (nI 1) n.1 0 = rf_fw n.2.2.2 n.1 l (nI 1) (nI 1) from rfl] at f3
      generalize rf_fw n.2.2.2 n.1 l (nI 0) (nI 0) = a at f1 ⊢
      generalize rf_fw n.2.2.2 n.1 l (nI (m + 1)) (nI 16) = b at f2 ⊢
      generalize rf_fw n.2.2.2 n.1 l (nI 1) (nI 1) = c at f3 ⊢
      by_cases ha : a < 16
      · rw [if_pos ha, if_pos ha, ← e1]
        have := nm_c_drop ha (f1 ha).1
        exact ih (nm_d l (2 ^ a)) ch (m + 1) (by omega) (su_sub hl) (by omega)
      · rw [if_neg ha, if_neg ha]
        by_cases hb : b < 16
        · rw [if_pos hb, if_pos hb]
          have := nm_c_drop hb (f2 hb).1
          exact ih (nm_d l (2 ^ b)) (ch ||| 2 ^ b) m (by omega) (su_sub hl) (by omega)
        · rw [if_neg hb, if_neg hb]
          by_cases hd : c < 16
          · rw [if_pos hd, if_pos hd]
            have g1 := (f3 hd).2
            have g2 : nm_c 16 (l &&& n.2.2.2 c) = 1 := by
              have := nm_c_le 16 (l &&& n.2.2.2 c)
              unfold cl_r at g1
              rw [Bool.and_eq_true, Bool.not_eq_true', Bool.not_eq_true', decide_eq_false_iff_not, decide_eq_false_iff_not, nI_ltI (by omega) (by omega), nI_ltI (by omega) (by omega)] at g1
              omega
            have g3 := nm_one (Nat.lt_of_le_of_lt Nat.and_le_right (ok.1.2.1 c)) g2
            have g4 : nm_c 16 (nm_d l (2 ^ rf_lb (l &&& n.2.2.2 c))) < f := by
              have h1 := nm_c_d l (l &&& n.2.2.2 c) 16
              have h2 : l &&& (l &&& n.2.2.2 c) = l &&& n.2.2.2 c := by rw [← Nat.and_assoc, Nat.and_self]
              rw [h2, g2] at h1
              rw [← g3]
              omega
            dsimp only
            rw [Nat.and_comm (n.2.2.2 c) l]
            have g5 := ih (nm_d l (2 ^ rf_lb (l &&& n.2.2.2 c))) (ch ||| 2 ^ rf_lb (l &&& n.2.2.2 c)) m g4 (su_sub hl) (by omega)
            rw [← g3] at g5 ⊢
            exact g5
          · rw [if_neg hd, if_neg hd]
            dsimp only
            rw [su_false]
            unfold su_end
            dsimp only
            have h6 := nt_ends_le n l hn
            have h7 : m * m ≤ 16 * 16 := Nat.mul_le_mul (by omega) (by omega)
            rw [cn_mul, ct_ends]
            rw [ct_ends] at h6
            by_cases he : m * m < rf_en n.2.2.2 n.1 l / 2
            · rw [if_pos (.inr ((nI_ltI (by omega) (by omega)).mpr he)), if_pos he]
              exact ⟨rfl, rfl⟩
            · rw [if_neg (fun h => by
                rcases h with h | h
                · exact (cn_lt0 (by omega)).mp h
                · exact he ((nI_ltI (by omega) (by omega)).mp h)), if_neg he]
              rfl

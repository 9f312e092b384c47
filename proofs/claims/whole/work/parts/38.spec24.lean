/-! numbers in a long (rows that began as kit/laws/BITS.to-paste) -/
theorem wb_tb (n : Nat) : (lN n).toBitVec = BitVec.ofNat 64 n := rfl
theorem wb_inj {a b : Int64} (h : a.toBitVec = b.toBitVec) : a = b := Int64.toBitVec_inj.mp h
theorem wb_tn {n : Nat} (h : n < 2 ^ 64) : (lN n).toBitVec.toNat = n := by rw [wb_tb, BitVec.toNat_ofNat, Nat.mod_eq_of_lt h]
theorem wb_c : ∀ k, k < 64 → ((nI k).toInt64 &&& 63) = lN k := by decide +kernel
theorem wb_sm : ∀ k, k < 64 → (BitVec.ofNat 64 k).smod 64 = BitVec.ofNat 64 k := by decide +kernel
theorem wb_shl (n : Nat) {k : Nat} (hk : k < 64) : lN n <<< ((nI k).toInt64 &&& 63) = lN (n * 2 ^ k) := by
  rw [wb_c k hk]
  apply wb_inj
  rw [Int64.toBitVec_shiftLeft, wb_tb, wb_tb, wb_tb, wb_sm k hk]
  apply BitVec.eq_of_toNat_eq
  rw [BitVec.shiftLeft_eq', BitVec.toNat_shiftLeft, BitVec.toNat_ofNat, BitVec.toNat_ofNat, BitVec.toNat_ofNat, Nat.mod_eq_of_lt (show k < 2 ^ 64 by omega), Nat.shiftLeft_eq, Nat.mul_mod, Nat.mod_mod, ← Nat.mul_mod]
theorem wb_or {a b : Nat} (ha : a < 2 ^ 64) (hb : b < 2 ^ 64) : lN a ||| lN b = lN (a ||| b) := by
  apply wb_inj
  rw [Int64.toBitVec_or, wb_tb, wb_tb, wb_tb]
  apply BitVec.eq_of_toNat_eq
  rw [BitVec.toNat_or, BitVec.toNat_ofNat, BitVec.toNat_ofNat, BitVec.toNat_ofNat, Nat.mod_eq_of_lt ha, Nat.mod_eq_of_lt hb, Nat.mod_eq_of_lt (Nat.or_lt_two_pow ha hb)]
theorem lb_shr {R k : Nat} (hk : k + 4 ≤ 64) : (lN R >>> ((nI k).toInt64 &&& 63)) &&& 15 = lN (R / 2 ^ k % 16) := by
  rw [wb_c k (by omega)]
  apply wb_inj
  apply BitVec.eq_of_getLsbD_eq
  intro i hi
  have h15 : (15 : Int64).toBitVec.getLsbD i = decide (i < 4) := (by decide +kernel : ∀ i, i < 64 → (15 : Int64).toBitVec.getLsbD i = decide (i < 4)) i hi
  have hr : (lN (R / 2 ^ k % 16)).toBitVec.getLsbD i = (decide (i < 4) && R.testBit (k + i)) := by
    rw [wb_tb, BitVec.getLsbD_ofNat, show (16 : Nat) = 2 ^ 4 from rfl, Nat.testBit_mod_two_pow, Nat.testBit_div_two_pow]
    simp [hi, Nat.add_comm]
  rw [hr, Int64.toBitVec_and, BitVec.getLsbD_and, h15, Int64.toBitVec_shiftRight, wb_tb, wb_tb, wb_sm k (by omega), BitVec.sshiftRight_eq', BitVec.toNat_ofNat, Nat.mod_eq_of_lt (show k < 2 ^ 64 by omega), BitVec.getLsbD_sshiftRight]
  by_cases h4 : i < 4
  · simp [h4, hi, show ¬ 64 ≤ i by omega, show k + i < 64 by omega]
    rw [← BitVec.getLsbD_eq_getElem, BitVec.getLsbD_ofNat]
    simp [show k + i < 64 by omega]
  · simp [h4]
theorem lb_cmp {a b : Nat} (ha : a < 2 ^ 31) (hb : b < 2 ^ 31) : (lg_cmp (lN a) (lN b) = nI 0) ↔ a = b := by
  unfold lg_cmp
  by_cases h1 : b < a
  · rw [if_pos (show lN a > lN b from (lN_lt hb ha).mpr h1)]
    exact ⟨fun h => absurd h (by decide), fun h => by omega⟩
  · rw [if_neg (fun h => h1 ((lN_lt hb ha).mp h))]
    by_cases h2 : a = b
    · rw [if_pos (by rw [h2])]
      exact ⟨fun _ => h2, fun _ => rfl⟩
    · rw [if_neg (fun h => h2 ((lN_eq ha hb).mp h))]
      exact ⟨fun h => absurd h (by decide), fun h => (h2 h).elim⟩
def rf_rw (col : Nat → Nat) (p n : Nat) : Nat := mi_it (fun v t => if p.testBit v then t ||| (col v - 1) * 2 ^ (4 * v) else t) n 0 0
theorem rf_rw_is {col : Nat → Nat} {p n : Nat} (hn : n ≤ 16) (hc : ∀ v, v < n → p.testBit v = true → col v ≤ 16) : rf_rw col p n < 2 ^ 64 ∧ ∀ v, v < n → p.testBit v = true → rf_rw col p n / 2 ^ (4 * v) % 16 = col v - 1 := by
  have key : rf_rw col p n < 2 ^ 64 ∧ ∀ j, (rf_rw col p n).testBit j = (decide (j / 4 < n) && (p.testBit (j / 4) && (col (j / 4) - 1).testBit (j % 4))) := by
    unfold rf_rw
    refine mi_it_ind (n := n) (fun i t => t < 2 ^ 64 ∧ ∀ j, t.testBit j = (decide (j / 4 < i) && (p.testBit (j / 4) && (col (j / 4) - 1).testBit (j % 4)))) ?_ n 0 0 (by omega) ⟨by decide, fun j => by simp⟩
    rintro i t hi ⟨h1, h2⟩
    cases hb : p.testBit i
    · rw [if_neg (by decide)]
      refine ⟨h1, fun j => ?_⟩
      rw [h2]
      by_cases e : j / 4 = i
      · rw [e, hb]
        simp
      · rw [decide_eq_decide.mpr (show j / 4 < i ↔ j / 4 < i + 1 by omega)]
    · rw [if_pos rfl]
      have hci := hc i hi hb
      have hlt : (col i - 1) * 2 ^ (4 * i) < 2 ^ 64 := by
        have e1 : (col i - 1) * 2 ^ (4 * i) < 2 ^ 4 * 2 ^ (4 * i) := Nat.mul_lt_mul_of_pos_right (by omega) (Nat.two_pow_pos _)
        have e2 : 2 ^ 4 * 2 ^ (4 * i) ≤ 2 ^ 64 := by
          rw [← Nat.pow_add]
          exact Nat.pow_le_pow_right (by decide) (by omega)
        omega
      refine ⟨Nat.or_lt_two_pow h1 hlt, fun j => ?_⟩
      rw [Nat.testBit_or, h2, Nat.mul_comm, Nat.testBit_two_pow_mul]
      by_cases e : j / 4 = i
      · have ej : j - 4 * i = j % 4 := by omega
        rw [e, hb, ej]
        simp [show 4 * i ≤ j by omega]
      · by_cases hl : j / 4 < i
        · have : ¬ 4 * i ≤ j := by omega
          simp [this, hl, show j / 4 < i + 1 by omega]
        · have hz : (col i - 1).testBit (j - 4 * i) = false ∨ ¬ 4 * i ≤ j := by
            left
            exact Nat.testBit_lt_two_pow (Nat.lt_of_lt_of_le (show col i - 1 < 2 ^ 4 by omega) (Nat.pow_le_pow_right (by decide) (by omega)))
          rcases hz with hz | hz
          · simp [hz, hl, show ¬ j / 4 < i + 1 by omega]
          · omega
  refine ⟨key.1, fun v hv hb => ?_⟩
  apply Nat.eq_of_testBit_eq
  intro i
  have hci := hc v hv hb
  rw [show (16 : Nat) = 2 ^ 4 from rfl, Nat.testBit_mod_two_pow, Nat.testBit_div_two_pow, key.2]
  by_cases h4 : i < 4
  · rw [show (i + 4 * v) / 4 = v by omega, show (i + 4 * v) % 4 = i by omega, hb]
    simp [h4, hv]
  · rw [Nat.testBit_lt_two_pow (Nat.lt_of_lt_of_le (show col v - 1 < 2 ^ 4 by omega) (Nat.pow_le_pow_right (n := 2) (by decide) (show 4 ≤ i by omega)))]
    simp [h4]
theorem rf_lc_ge {used : Nat} : ∀ k c, c ≤ rf_lc used k c := by
  intro k
  induction k with
  | zero => intro c; exact Nat.le_refl _
  | succ k ih =>
    intro c
    unfold rf_lc
    split
    · have := ih (c + 1)
      omega
    · exact Nat.le_refl _
theorem rf_ca_is {J : Nat → Nat} {n set : Nat} {f : Nat → Nat} (hn : n ≤ 16) : (rf_ca J n set f).2 ≤ 16 ∧ ∀ v, v < n → (rf_ca J n set f).1 v ≤ 16 ∧ (set.testBit v = true → 1 ≤ (rf_ca J n set f).1 v) := by
  have key : (rf_ca J n set f).2 ≤ 16 ∧ ∀ v, v < n → (rf_ca J n set f).1 v ≤ v + 1 ∧ (set.testBit v = true → 1 ≤ (rf_ca J n set f).1 v) := by
    unfold rf_ca
    refine mi_it_ind (n := n) (fun i (q : (Nat → Nat) × Nat) => q.2 ≤ 16 ∧ ∀ v, v < i → q.1 v ≤ v + 1 ∧ (set.testBit v = true → 1 ≤ q.1 v)) ?_ n 0 (f, 0) (by omega) ⟨Nat.zero_le _, fun v h => absurd h (Nat.not_lt_zero v)⟩
    rintro i q hi ⟨h1, h2⟩
    have hl := rf_lc_le (used := rf_us J (up_N q.1 i 0) i) i 1
    have hg := rf_lc_ge (used := rf_us J (up_N q.1 i 0) i) i 1
    unfold rf_cs
    generalize rf_lc (rf_us J (up_N q.1 i 0) i) i 1 = c at hl hg ⊢
    split
    · refine ⟨by dsimp only; omega, fun v hv => ?_⟩
      dsimp only
      by_cases e : v = i
      · subst e
        rw [up_s]
        exact ⟨by omega, fun _ => hg⟩
      · rw [up_n e, up_n e]
        exact h2 v (by omega)
    · rename_i hb
      refine ⟨h1, fun v hv => ?_⟩
      dsimp only
      by_cases e : v = i
      · subst e
        rw [up_s]
        exact ⟨Nat.zero_le _, fun h => (hb h).elim⟩
      · rw [up_n e]
        exact h2 v (by omega)
  refine ⟨key.1, fun v hv => ⟨?_, (key.2 v hv).2⟩⟩
  have := (key.2 v hv).1
  omega
abbrev rf_T : Type := (Nat → Nat) × Nat × Nat × Nat × Nat
/-- colours, BEST, begun, cut, whether it was ended -/
def rf_in (J : Nat → Nat) (col : Nat → Nat) (cl p kk : Nat) (rc : Nat → Nat → rf_T → rf_T) : Nat → Nat × rf_T → (Nat × rf_T) ⊕ rf_T
  | 0, q => .inl q
  | v + 1, q => if p.testBit v = true ∧ col v = kk then
    if nm_c 16 cl + kk ≤ nm_c 16 q.2.2.1 then .inr (q.2.1, q.2.2.1, q.2.2.2.1, q.2.2.2.2.1 + 1, q.2.2.2.2.2) else
    if (rc (cl ||| 2 ^ v) (q.1 &&& J v) q.2).2.2.2.2 = 0 then rf_in J col cl p kk rc v (nm_d q.1 (2 ^ v), rc (cl ||| 2 ^ v) (q.1 &&& J v) q.2) else .inr (rc (cl ||| 2 ^ v) (q.1 &&& J v) q.2)
    else rf_in J col cl p kk rc v q
def rf_out (J : Nat → Nat) (n : Nat) (col : Nat → Nat) (cl p : Nat) (rc : Nat → Nat → rf_T → rf_T) : Nat → Nat × rf_T → rf_T
  | 0, q => q.2
  | c + 1, q => match rf_in J col cl p (c + 1) rc n q with
    | .inl q' => rf_out J n col cl p rc c q'
    | .inr s => s
def rf_br (J : Nat → Nat) (n work : Nat) : Nat → Nat → Nat → rf_T → rf_T
  | 0, _, _, s => s
  | k + 1, cl, p, s => if s.2.2.1 = work then (s.1, s.2.1, s.2.2.1, s.2.2.2.1, 1) else
    if p = 0 then (s.1, if nm_c 16 s.2.1 < nm_c 16 cl then cl else s.2.1, s.2.2.1 + 1, s.2.2.2.1, s.2.2.2.2) else
    rf_out J n (rf_ca J n p s.1).1 cl p (rf_br J n work k) (rf_ca J n p s.1).2 (p, (rf_ca J n p s.1).1, s.2.1, s.2.2.1 + 1, s.2.2.2.1, s.2.2.2.2)
def rf_ok (work : Nat) (s : rf_T) : Prop := s.2.1 < 65536 ∧ s.2.2.1 ≤ work ∧ s.2.2.2.2 ≤ 1
theorem rf_in_ok {J col : Nat → Nat} {work cl p kk : Nat} {rc : Nat → Nat → rf_T → rf_T} (hcl : cl < 65536) (hrc : ∀ a b s, a < 65536 → b < 65536 → rf_ok work s → rf_ok work (rc a b s)) : ∀ v (q : Nat × rf_T), v ≤ 16 → q.1 < 65536 → rf_ok work q.2 → (∀ q', rf_in J col cl p kk rc v q = .inl q' → q'.1 < 65536 ∧ rf_ok work q'.2 ∧ ∀ i, q'.1.testBit i = true → q.1.testBit i = true) ∧ (∀ s, rf_in J col cl p kk rc v q = .inr s → rf_ok work s) := by
  intro v
  induction v with
  | zero =>
    intro q _ h1 h2
    refine ⟨fun q' e => ?_, fun s e => ?_⟩
    · cases e
      exact ⟨h1, h2, fun i h => h⟩
    · cases e
  | succ v ih =>
    intro q hv h1 h2
    have hx := hrc (cl ||| 2 ^ v) (q.1 &&& J v) q.2 (nm_or_lt hcl (nm_2_lt (by omega))) (Nat.lt_of_le_of_lt Nat.and_le_left h1) h2
    unfold rf_in
    split
    · split
      · refine ⟨fun q' e => by (cases e), fun s e => ?_⟩
        cases e
        exact h2
      · split
        · obtain ⟨b1, b2⟩ := ih (nm_d q.1 (2 ^ v), _) (by omega) (nm_d_lt h1) hx
          refine ⟨fun q' e => ?_, b2⟩
          obtain ⟨c1, c2, c3⟩ := b1 q' e
          refine ⟨c1, c2, fun i hi => ?_⟩
          have := c3 i hi
          rw [nm_d_t, Bool.and_eq_true] at this
          exact this.1
        · refine ⟨fun q' e => by (cases e), fun s e => ?_⟩
          cases e
          exact hx
    · exact ih q (by omega) h1 h2
theorem rf_out_ok {J : Nat → Nat} {n : Nat} {col : Nat → Nat} {work cl p : Nat} {rc : Nat → Nat → rf_T → rf_T} (hn : n ≤ 16) (hcl : cl < 65536) (hrc : ∀ a b s, a < 65536 → b < 65536 → rf_ok work s → rf_ok work (rc a b s)) : ∀ c (q : Nat × rf_T), q.1 < 65536 → rf_ok work q.2 → rf_ok work (rf_out J n col cl p rc c q) := by
  intro c
  induction c with
  | zero => exact fun q _ h => h
  | succ c ih =>
    intro q h1 h2
    obtain ⟨a1, a2⟩ := rf_in_ok (J := J) (col := col) (p := p) (kk := c + 1) hcl hrc n q hn h1 h2
    unfold rf_out
    split
    · rename_i q' e
      obtain ⟨b1, b2, -⟩ := a1 q' e
      exact ih q' b1 b2
    · rename_i s e
      exact a2 s e
theorem rf_br_ok {J : Nat → Nat} {n work : Nat} (hn : n ≤ 16) : ∀ k cl p s, cl < 65536 → p < 65536 → rf_ok work s → rf_ok work (rf_br J n work k cl p s) := by
  intro k
  induction k with
  | zero => exact fun cl p s _ _ h => h
  | succ k ih =>
    intro cl p s hcl hp h
    unfold rf_br
    split
    · exact ⟨h.1, h.2.1, Nat.le_refl 1⟩
    · rename_i hw
      have hw2 : s.2.2.1 + 1 ≤ work := by have := h.2.1; omega
      split
      · refine ⟨?_, hw2, h.2.2⟩
        show (if _ then _ else _) < _
        split
        · exact hcl
        · exact h.1
      · exact rf_out_ok hn hcl ih _ _ hp ⟨h.1, hw2, h.2.2⟩

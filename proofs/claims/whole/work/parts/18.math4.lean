/-! how many sets: counted by bits -/
def ct_n : Nat → (Nat → Bool) → Nat
  | 0, p => (p 0).toNat
  | n + 1, p => ct_n n p + ct_n n (fun m => p (m + 2 ^ n))
theorem ct_congr : ∀ n (p q : Nat → Bool), (∀ m, m < 2 ^ n → p m = q m) → ct_n n p = ct_n n q := by
  intro n
  induction n with
  | zero =>
    intro p q h
    show (p 0).toNat = (q 0).toNat
    rw [h 0 (by decide)]
  | succ n ih =>
    intro p q h
    have e : 2 ^ (n + 1) = 2 ^ n + 2 ^ n := by rw [Nat.pow_succ]; omega
    show ct_n n p + ct_n n _ = ct_n n q + ct_n n _
    rw [ih p q fun m hm => h m (by omega), ih (fun m => p (m + 2 ^ n)) (fun m => q (m + 2 ^ n)) fun m hm => h (m + 2 ^ n) (by omega)]
theorem ct_none : ∀ n, ct_n n (fun _ => false) = 0 := by
  intro n
  induction n with
  | zero => rfl
  | succ n ih =>
    show ct_n n _ + ct_n n _ = 0
    rw [ih]
theorem ct_add : ∀ n (p q : Nat → Bool), (∀ m, m < 2 ^ n → p m = true → q m = false) → ct_n n (fun m => p m || q m) = ct_n n p + ct_n n q := by
  intro n
  induction n with
  | zero =>
    intro p q h
    have h0 := h 0 (by decide)
    show (p 0 || q 0).toNat = (p 0).toNat + (q 0).toNat
    cases hp : p 0
    · simp
    · rw [h0 hp]
      rfl
  | succ n ih =>
    intro p q h
    have e : 2 ^ (n + 1) = 2 ^ n + 2 ^ n := by rw [Nat.pow_succ]; omega
    show ct_n n _ + ct_n n _ = ct_n n p + ct_n n _ + (ct_n n q + ct_n n _)
    rw [ih p q fun m hm => h m (by omega), ih (fun m => p (m + 2 ^ n)) (fun m => q (m + 2 ^ n)) fun m hm => h (m + 2 ^ n) (by omega)]
    omega
theorem ct_tn {n m : Nat} (h : m < 2 ^ n) : (m + 2 ^ n).testBit n = true := by
  rw [Nat.add_comm, Nat.testBit_two_pow_add_eq, Nat.testBit_lt_two_pow h]
  rfl
theorem ct_tl {n m i : Nat} (h : i < n) : (m + 2 ^ n).testBit i = m.testBit i := by
  rw [Nat.add_comm]
  exact Nat.testBit_two_pow_add_gt h m
theorem ct_lt {n m i : Nat} (h : m < 2 ^ n) (hi : n ≤ i) : m.testBit i = false := Nat.testBit_lt_two_pow (Nat.lt_of_lt_of_le h (Nat.pow_le_pow_right (n := 2) (by decide) hi))
/-- those that have a node, by those that lack it -/
theorem ct_bit : ∀ n v (p : Nat → Bool), v < n → ct_n n (fun m => p m && m.testBit v) = ct_n n (fun m => !m.testBit v && p (m ||| 2 ^ v)) := by
  intro n
  induction n with
  | zero => exact fun v _ h => absurd h (Nat.not_lt_zero v)
  | succ n ih =>
    intro v p hv
    show ct_n n _ + ct_n n _ = ct_n n _ + ct_n n _
    by_cases hvn : v = n
    · subst hvn
      rw [ct_congr v (fun m => p m && m.testBit v) (fun _ => false) fun m hm => by rw [ct_lt hm (Nat.le_refl v), Bool.and_false]]
      rw [ct_congr v (fun m => !(m + 2 ^ v).testBit v && p ((m + 2 ^ v) ||| 2 ^ v)) (fun _ => false) fun m hm => by rw [ct_tn hm]; rfl]
      rw [ct_none, Nat.zero_add, Nat.add_zero]
      refine ct_congr v _ _ fun m hm => ?_
      have e : m ||| 2 ^ v = m + 2 ^ v := by
        rw [Nat.or_comm, Nat.add_comm]
        have := Nat.two_pow_add_eq_or_of_lt hm 1
        simpa using this.symm
      show (p (m + 2 ^ v) && (m + 2 ^ v).testBit v) = _
      rw [ct_tn hm, ct_lt hm (Nat.le_refl v), e]
      simp
    · have hlt : v < n := by omega
      rw [ih v p hlt]
      congr 1
      rw [ct_congr n (fun m => p (m + 2 ^ n) && (m + 2 ^ n).testBit v) (fun m => (fun m => p (m + 2 ^ n)) m && m.testBit v) fun m _ => by rw [ct_tl hlt]]
      rw [ih v (fun m => p (m + 2 ^ n)) hlt]
      refine ct_congr n _ _ fun m hm => ?_
      have e : (m ||| 2 ^ v) + 2 ^ n = (m + 2 ^ n) ||| 2 ^ v := by
        have h1 : m ||| 2 ^ v < 2 ^ n := Nat.or_lt_two_pow hm (Nat.pow_lt_pow_right (by decide) hlt)
        have h2 := Nat.two_pow_add_eq_or_of_lt h1 1
        have h3 := Nat.two_pow_add_eq_or_of_lt hm 1
        simp only [Nat.mul_one] at h2 h3
        rw [Nat.add_comm, h2, Nat.add_comm m, h3, Nat.or_assoc]
      dsimp only
      rw [ct_tl hlt, e]
theorem ct_split {n v : Nat} (p : Nat → Bool) (hv : v < n) : ct_n n p = ct_n n (fun m => !m.testBit v && p m) + ct_n n (fun m => !m.testBit v && p (m ||| 2 ^ v)) := by
  rw [← ct_bit n v p hv, ← ct_add]
  · refine ct_congr n _ _ fun m _ => ?_
    cases m.testBit v <;> cases p m <;> rfl
  · intro m _ h
    cases hb : m.testBit v
    · simp
    · rw [hb] at h
      simp at h
/-- a loop over all sets -/
theorem ct_loop : ∀ n (p : Nat → Bool) a t, mi_it (fun m s => s + (p m).toNat) (2 ^ n) a t = t + ct_n n (fun m => p (a + m)) := by
  have app : ∀ k l i (s : Nat) (f : Nat → Nat → Nat), mi_it f (k + l) i s = mi_it f l (i + k) (mi_it f k i s) := by
    intro k
    induction k with
    | zero => intro l i s f; rw [Nat.zero_add]; rfl
    | succ k ih =>
      intro l i s f
      rw [show k + 1 + l = (k + l) + 1 by omega, mi_it_s, ih, mi_it_s]
      congr 1
      omega
  intro n
  induction n with
  | zero =>
    intro p a t
    show t + (p a).toNat = t + (p (a + 0)).toNat
    rfl
  | succ n ih =>
    intro p a t
    rw [show 2 ^ (n + 1) = 2 ^ n + 2 ^ n by rw [Nat.pow_succ]; omega, app, ih, ih]
    show _ = t + (ct_n n (fun m => p (a + m)) + ct_n n (fun m => p (a + (m + 2 ^ n))))
    have e : (fun m => p (a + 2 ^ n + m)) = fun m => p (a + (m + 2 ^ n)) := by
      funext m
      congr 1
      omega
    rw [e]
    omega

/-! cliques by size: the code counts as the reference does -/
theorem ll_min {n : st_N} (ok : gn_ok n) {s w : Nat} (h : (nt_ll n s).1 = some w) : ∀ j, j < n.1 → s.testBit j = true → nm_c 16 (n.2.2.2 w &&& s) ≤ nm_c 16 (n.2.2.2 j &&& s) := by
  have h16 := ok.1.1
  have key : (∀ w, (nt_ll n s).1 = some w → (nt_ll n s).2 = nm_c 16 (n.2.2.2 w &&& s)) ∧ ∀ j, j < n.1 → s.testBit j = true → (nt_ll n s).2 ≤ nm_c 16 (n.2.2.2 j &&& s) := by
    unfold nt_ll
    refine mi_it_ind (n := n.1) (fun i (q : Option Nat × Nat) => (∀ w, q.1 = some w → q.2 = nm_c 16 (n.2.2.2 w &&& s)) ∧ ∀ j, j < i → s.testBit j = true → q.2 ≤ nm_c 16 (n.2.2.2 j &&& s)) ?_ n.1 0 (none, 16) (by omega) ⟨fun w h => (by cases h), fun j h => absurd h (Nat.not_lt_zero j)⟩
    rintro i ⟨q1, q2⟩ hi ⟨h1, h2⟩
    try dsimp only at h1 h2 ⊢
    split
    · rename_i hc
      refine ⟨fun w h => (by cases h; rfl), fun j hj hs => ?_⟩
      try dsimp only
      by_cases e : j = i
      · subst e; exact Nat.le_refl _
      · have := h2 j (by omega) hs
        omega
    · rename_i hc
      refine ⟨h1, fun j hj hs => ?_⟩
      by_cases e : j = i
      · subst e
        exact Nat.not_lt.mp fun hlt => hc ⟨hs, hlt⟩
      · exact h2 j (by omega) hs
  intro j hj hs
  rw [← key.1 w h]
  exact key.2 j hj hs
theorem sc_ch0 {m : Nat} : ∀ k, m < k → sc_ch m k = 0 := by
  intro k
  induction k with
  | zero => intro h; omega
  | succ k ih =>
    intro h
    rw [sc_ch]
    by_cases e : m < k
    · rw [ih e, Nat.zero_mul, Nat.zero_div]
    · rw [show m - k = 0 by omega, Nat.mul_zero, Nat.zero_div]
theorem sc_pas : ∀ m, m < 16 → ∀ j, j < 17 → sc_ch m j + (if j = 0 then 0 else sc_ch m (j - 1)) = sc_ch (m + 1) j := by decide +kernel
theorem ct_one : ∀ n, ct_n n (fun m => decide (m = 0)) = 1 := by
  intro n
  induction n with
  | zero => rfl
  | succ n ih =>
    show ct_n n _ + ct_n n _ = 1
    rw [ih, ct_congr n _ (fun _ => false) (fun m hm => by
      have : 1 ≤ 2 ^ n := Nat.one_le_two_pow
      exact decide_eq_false (by omega)), ct_none]
theorem cq_n0 {J : Nat → Nat} {n j : Nat} (hirr : ∀ i, (J i).testBit i = false) : cq_n J n 0 j = sc_ch 0 j := by
  unfold cq_n
  by_cases hj : j = 0
  · subst hj
    rw [ct_congr n _ (fun m => decide (m = 0)) (fun m hm => by
      rw [Bool.eq_iff_iff]
      simp only [Bool.and_eq_true, decide_eq_true_eq, cq_s_iff]
      constructor
      · rintro ⟨h1, -, -⟩
        exact nm_e0.mpr fun i => by
          cases hi : m.testBit i
          · rfl
          · have := h1 i hi
            rw [Nat.zero_testBit] at this
            cases this
      · intro h
        subst h
        refine ⟨fun i hi => hi, by decide +kernel, (mq_cl hirr hm).mpr fun i j hi => ?_⟩
        rw [Nat.zero_testBit] at hi
        cases hi), ct_one]
    rfl
  · rw [ct_congr n _ (fun _ => false) (fun m hm => by
      rw [← Bool.not_eq_true]
      simp only [Bool.and_eq_true, decide_eq_true_eq, cq_s_iff]
      rintro ⟨h1, h2, -⟩
      have : m = 0 := nm_e0.mpr fun i => by
        cases hi : m.testBit i
        · rfl
        · have := h1 i hi
          rw [Nat.zero_testBit] at this
          cases this
      subst this
      exact hj (h2.symm.trans (by decide +kernel))), ct_none, sc_ch0 _ (by omega)]
theorem cq_full {J : Nat → Nat} {n : Nat} (hn : n ≤ 16) (hsym : ∀ i j, (J i).testBit j = (J j).testBit i) (hirr : ∀ i, (J i).testBit i = false) : ∀ m op, nm_c 16 op = m → (∀ i, op.testBit i = true → i < n) → gq_cl J op → ∀ j, j ≤ 16 → cq_n J n op j = sc_ch m j := by
  intro m
  induction m with
  | zero =>
    intro op h0 hop hcl j hj
    have : op = 0 := nm_e0.mpr fun i => by
      cases hi : op.testBit i
      · rfl
      · have h1 := hop i hi
        have := (nm_c_0 16).mp h0 i (by omega)
        rw [hi] at this
        cases this
    subst this
    exact cq_n0 hirr
  | succ m ih =>
    intro op hm hop hcl j hj
    have hne : op ≠ 0 := fun e => by
      rw [e] at hm
      exact absurd (hm.symm.trans ((nm_c_0 (a := 0) 16).mpr fun i _ => Nat.zero_testBit i)) (by omega)
    obtain ⟨v, hv⟩ := nm_n0 hne
    have hvn := hop v hv
    have hdr := nm_c_drop (show v < 16 by omega) hv
    have hle := nm_c_le 16 op
    have hsub : ∀ i, (nm_d op (2 ^ v)).testBit i = true → op.testBit i = true ∧ i ≠ v := fun i hi => by
      rw [nm_d_t, Bool.and_eq_true, nm_2t] at hi
      refine ⟨hi.1, fun e => ?_⟩
      subst e
      simp at hi
    have hJ : op &&& J v = nm_d op (2 ^ v) := Nat.eq_of_testBit_eq fun i => by
      rw [Nat.testBit_and, nm_d_t, nm_2t]
      cases hi : op.testBit i
      · rfl
      · by_cases e : v = i
        · subst e; rw [hirr, decide_eq_true rfl]; rfl
        · rw [hcl v i hv hi e, decide_eq_false e]; rfl
    have ih1 := ih (nm_d op (2 ^ v)) (by omega) (fun i hi => hop i (hsub i hi).1) (fun a b ha hb hab => hcl a b (hsub a ha).1 (hsub b hb).1 hab)
    rw [cq_split hn hsym hirr hvn hv, hJ, ih1 j hj]
    rw [← sc_pas m (by omega) j (by omega)]
    congr 1
    by_cases e : j = 0
    · rw [if_pos e, if_pos e]
    · rw [if_neg e, if_neg e, ih1 (j - 1) (by omega)]
theorem sc_add_at (f : Nat → Nat) (size m : Nat) : ∀ x, sc_add f size m x = f x + (if size ≤ x ∧ x < size + (m + 1) then sc_ch m (x - size) else 0) := by
  unfold sc_add
  refine mi_it_ind (n := m + 1) (fun i (g : Nat → Nat) => ∀ x, g x = f x + (if size ≤ x ∧ x < size + i then sc_ch m (x - size) else 0)) ?_ (m + 1) 0 f (by omega) (fun x => by rw [if_neg (by omega)]; rfl)
  intro i g hi h x
  by_cases e : x = size + i
  · subst e
    rw [up_N_eq, h, if_neg (show ¬ (size ≤ size + i ∧ size + i < size + i) by omega), if_pos (show size ≤ size + i ∧ size + i < size + (i + 1) by omega), show size + i - size = i by omega]
    rfl
  · rw [up_N_ne e, h]
    congr 1
    by_cases h1 : size ≤ x ∧ x < size + i
    · rw [if_pos h1, if_pos (show size ≤ x ∧ x < size + (i + 1) by omega)]
    · rw [if_neg h1, if_neg (show ¬ (size ≤ x ∧ x < size + (i + 1)) by omega)]
theorem sc_add_j (f : Nat → Nat) (size m : Nat) : (∀ x, x < size → sc_add f size m x = f x) ∧ ∀ j, sc_add f size m (size + j) = f (size + j) + sc_ch m j := by
  refine ⟨fun x hx => ?_, fun j => ?_⟩
  · rw [sc_add_at, if_neg (show ¬ (size ≤ x ∧ x < size + (m + 1)) by omega)]; rfl
  · rw [sc_add_at]
    congr 1
    by_cases h : j ≤ m
    · rw [if_pos (show size ≤ size + j ∧ size + j < size + (m + 1) by omega), show size + j - size = j by omega]
    · rw [if_neg (show ¬ (size ≤ size + j ∧ size + j < size + (m + 1)) by omega), sc_ch0 _ (by omega)]
theorem sc_tl_is {n : st_N} (ok : gn_ok n) : ∀ k size op f, (∀ i, op.testBit i = true → i < n.1) → nm_c 16 op < k → (∀ x, x < size → sc_tl n k size op f x = f x) ∧ ∀ j, j ≤ 16 → sc_tl n k size op f (size + j) = f (size + j) + cq_n n.2.2.2 n.1 op j := by
  have hn := ok.1.1
  have hsym := ok.2.1
  have hirr := ok.2.2.1
  intro k
  induction k with
  | zero => intro size op f _ h; omega
  | succ k ih =>
    intro size op f hop hk
    have hl := pl_ll ok op
    have hfull : gq_cl n.2.2.2 op → (∀ x, x < size → sc_add f size (nm_c 16 op) x = f x) ∧ ∀ j, j ≤ 16 → sc_add f size (nm_c 16 op) (size + j) = f (size + j) + cq_n n.2.2.2 n.1 op j := fun hcl => by
      have h1 := sc_add_j f size (nm_c 16 op)
      refine ⟨h1.1, fun j hj => ?_⟩
      rw [h1.2, cq_full hn hsym hirr _ op rfl hop hcl j hj]
    rw [sc_tl]
    cases hw : (nt_ll n op).1 with
    | none =>
      try dsimp only
      refine hfull fun i j hi => ?_
      exact absurd hw (hl.2.2 i (hop i hi) hi)
    | some v =>
      try dsimp only
      have hv := hl.2.1 v hw
      have hv16 : v < 16 := by omega
      have hdr := nm_c_drop hv16 hv.2
      by_cases hc : nm_c 16 (n.2.2.2 v &&& op) = nm_c 16 (nm_d op (2 ^ v))
      · rw [if_pos hc]
        refine hfull fun i j hi hj hij => ?_
        have hin := hop i hi
        have hjn := hop j hj
        have hm := ll_min ok hw i hin hi
        have hdi := nm_c_drop (show i < 16 by omega) hi
        have hlo : op < 65536 := nm_lo fun b hb => by
          cases hob : op.testBit b
          · rfl
          · have := hop b hob; omega
        have hsub : ∀ b, (n.2.2.2 i &&& op).testBit b = true → (nm_d op (2 ^ i)).testBit b = true := fun b hb => by
          rw [Nat.testBit_and, Bool.and_eq_true] at hb
          rw [nm_d_t, hb.2, nm_2t, decide_eq_false (fun e => by rw [← e, hirr] at hb; cases hb.1)]
          rfl
        have hle := nm_c_mono 16 (fun b _ hb => hsub b hb)
        have he := nm_sub_eq (a := n.2.2.2 i &&& op) (b := nm_d op (2 ^ i)) (Nat.lt_of_le_of_lt Nat.and_le_right hlo) (nm_d_lt hlo) (by omega) hsub
        have h1 : (nm_d op (2 ^ i)).testBit j = true := by
          rw [nm_d_t, hj, nm_2t, decide_eq_false hij]; rfl
        rw [← he, Nat.testBit_and, Bool.and_eq_true] at h1
        exact h1.1
      · rw [if_neg hc]
        have hd : ∀ i, (nm_d op (2 ^ v)).testBit i = true → op.testBit i = true := fun i hi => by
          rw [nm_d_t, Bool.and_eq_true] at hi
          exact hi.1
        have ha : ∀ i, (op &&& n.2.2.2 v).testBit i = true → (nm_d op (2 ^ v)).testBit i = true := fun i hi => by
          rw [Nat.testBit_and, Bool.and_eq_true] at hi
          rw [nm_d_t, hi.1, nm_2t, decide_eq_false (fun e => by rw [← e, hirr] at hi; cases hi.2)]
          rfl
        have hle := nm_c_mono 16 (fun b _ hb => ha b hb)
        have i1 := ih size (nm_d op (2 ^ v)) f (fun i hi => hop i (hd i hi)) (by omega)
        have i2 := ih (size + 1) (op &&& n.2.2.2 v) (sc_tl n k size (nm_d op (2 ^ v)) f) (fun i hi => hop i (hd i (ha i hi))) (by omega)
        refine ⟨fun x hx => ?_, fun j hj => ?_⟩
        · rw [i2.1 x (by omega), i1.1 x hx]
        · rw [cq_split hn hsym hirr hv.1 hv.2]
          cases j with
          | zero =>
            rw [if_pos rfl, i2.1 _ (by omega), i1.2 0 hj]
            rfl
          | succ j =>
            rw [if_neg (by omega), show size + (j + 1) = size + 1 + j by omega, i2.2 j (by omega), show size + 1 + j = size + (j + 1) by omega, i1.2 (j + 1) hj, Nat.add_assoc]
            rfl
theorem rq_is {J : Nat → Nat} {n k : Nat} : rf_cq J n k = cq_n J n (2 ^ n - 1) k := by
  unfold rf_cq cq_n
  rw [mi_it_congr (g := fun m s => s + ((fun s => decide (nm_c 16 s = k) && rf_cl J n s) m).toNat) (fun i s hi => by
    try dsimp only
    cases (decide (nm_c 16 i = k) && rf_cl J n i) <;> rfl), ct_loop n _ 0 0, Nat.zero_add]
  refine ct_congr n _ _ fun m hm => ?_
  rw [Nat.zero_add, cq_s_iff.mpr fun i hi => ?_]
  · rfl
  · rw [nm_full]
    refine decide_eq_true (Nat.not_le.mp fun h => ?_)
    rw [ct_lt hm h] at hi
    cases hi
def sc_R (n : st_N) (z : st_C) : Prop := ∀ k, k ≤ 16 → z.1 k = rf_cq n.2.2.2 n.1 k
theorem sc_refR {n : st_N} (ok : gn_ok n) {z : st_C} (h : cx_ok z.2 n.2.1 (sc_R n z)) : sc_R n (sc_ref n z) ∧ (sc_ref n z).2 = nI n.2.1 := by
  unfold sc_ref
  by_cases e : z.2 = nI n.2.1
  · rw [if_pos e]
    exact ⟨h.2 e, e⟩
  · rw [if_neg e]
    refine ⟨fun k hk => ?_, rfl⟩
    have h1 := (sc_tl_is ok 17 0 (2 ^ n.1 - 1) (fun i => if i < 17 then 0 else z.1 i) (fun i hi => by rw [nm_full] at hi; exact of_decide_eq_true hi) (Nat.lt_succ_of_le (nm_c_le 16 _))).2 k hk
    rw [rq_is]
    try dsimp only at h1 ⊢
    rw [Nat.zero_add, if_pos (show k < 17 by omega), Nat.zero_add] at h1
    exact h1

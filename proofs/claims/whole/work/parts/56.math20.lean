/-! near sets -/
def nh_l (J : Nat → Nat) (S u : Nat) : Nat := nm_c 16 (nm_d (nm_d S (J u)) (2 ^ u))
def nh_n (J : Nat → Nat) (sl S : Nat) : Prop := ∀ v, S.testBit v = true → nh_l J S v ≤ sl
theorem nh_mono {J : Nat → Nat} {S T u : Nat} (h : ∀ i, S.testBit i = true → T.testBit i = true) : nh_l J S u ≤ nh_l J T u := by
  unfold nh_l
  refine nm_c_mono 16 fun i _ hi => ?_
  rw [nm_d_t, nm_d_t] at hi ⊢
  simp only [Bool.and_eq_true] at hi ⊢
  exact ⟨⟨h i hi.1.1, hi.1.2⟩, hi.2⟩
theorem nh_sub {J : Nat → Nat} {sl S T : Nat} (hT : nh_n J sl T) (h : ∀ i, S.testBit i = true → T.testBit i = true) : nh_n J sl S := fun v hv => Nat.le_trans (nh_mono h) (hT v (h v hv))
theorem nh_add {J : Nat → Nat} {S v u : Nat} (hv : v < 16) (h : S.testBit v = false) : nh_l J (S ||| 2 ^ v) u = nh_l J S u + (if u ≠ v ∧ (J u).testBit v = false then 1 else 0) := by
  unfold nh_l
  by_cases hc : u ≠ v ∧ (J u).testBit v = false
  · rw [if_pos hc, show nm_d (nm_d (S ||| 2 ^ v) (J u)) (2 ^ u) = nm_d (nm_d S (J u)) (2 ^ u) ||| 2 ^ v from Nat.eq_of_testBit_eq fun i => by
      simp only [nm_d_t, Nat.testBit_or, nm_2t]
      by_cases e : v = i
      · subst e
        simp [h, hc.1, hc.2]
      · simp [e]]
    refine cq_add hv ?_
    rw [nm_d_t, nm_d_t, h]
    rfl
  · rw [if_neg hc, Nat.add_zero, show nm_d (nm_d (S ||| 2 ^ v) (J u)) (2 ^ u) = nm_d (nm_d S (J u)) (2 ^ u) from Nat.eq_of_testBit_eq fun i => by
      simp only [nm_d_t, Nat.testBit_or, nm_2t]
      by_cases e : v = i
      · subst e
        simp only [h, decide_true, Bool.or_true, Bool.true_and, Bool.false_and]
        by_cases e2 : u = v
        · simp [e2]
        · cases hj : (J u).testBit v
          · exact absurd ⟨e2, hj⟩ hc
          · rfl
      · simp [e]]
theorem nh_one {J : Nat → Nat} {S v : Nat} (hv : v < 16) (hirr : (J v).testBit v = false) (h : S.testBit v = true) : nm_c 16 (nm_d S (J v)) = nh_l J S v + 1 := by
  unfold nh_l
  rw [nm_c_drop hv]
  rw [nm_d_t, h, hirr]
  rfl
theorem nh_rf {J : Nat → Nat} {n sl S : Nat} (hn : n ≤ 16) (hirr : ∀ i, (J i).testBit i = false) (hs : S < 2 ^ n) : rf_nr J n S (sl + 1) = true ↔ nh_n J sl S := by
  unfold rf_nr
  rw [ra_iff]
  constructor
  · intro h v hv
    have hvn : v < n := Nat.not_le.mp fun h => by rw [ct_lt hs h] at hv; cases hv
    have h1 := h v (Nat.zero_le v) (by omega)
    rw [hv, nh_one (by omega) (hirr v) hv] at h1
    simp only [Bool.not_true, Bool.false_or, decide_eq_true_eq] at h1
    omega
  · intro h v _ hv
    cases hc : S.testBit v
    · rfl
    · have := h v hc
      rw [nh_one (by omega) (hirr v) hc]
      simp only [Bool.not_true, Bool.false_or, decide_eq_true_eq]
      omega
/-- the table of a set: who lacks how many of it -/
def nh_t (J : Nat → Nat) (n S : Nat) (b : Nat → Nat) : Prop := ∀ j u, j ≤ 4 → ((b j).testBit u = true ↔ (u < n ∧ j ≤ nh_l J S u))
theorem nh_cl {n : st_N} {S v : Nat} {b g : Nat → Nat} (hn : n.1 ≤ 16) (hsym : ∀ i j, (n.2.2.2 i).testBit j = (n.2.2.2 j).testBit i) (hv : v < n.1) (hS : S.testBit v = false) (h : nh_t n.2.2.2 n.1 S b) : nh_t n.2.2.2 n.1 (S ||| 2 ^ v) (nr_cl n v b g) := by
  have e : ∀ j, j ≤ 4 → nr_cl n v b g j = if j = 0 then b 0 else b j ||| nm_d (nm_d (b (j - 1)) (n.2.2.2 v)) (2 ^ v) := by
    intro j hj
    unfold nr_cl nr_cs
    have : j = 0 ∨ j = 1 ∨ j = 2 ∨ j = 3 ∨ j = 4 := by omega
    rcases this with e | e | e | e | e <;> subst e <;> rfl
  intro j u hj
  rw [e j hj, nh_add (by omega) hS]
  by_cases hj0 : j = 0
  · subst hj0
    rw [if_pos rfl, h 0 u (by omega)]
    exact ⟨fun h => ⟨h.1, Nat.zero_le _⟩, fun h => ⟨h.1, Nat.zero_le _⟩⟩
  · rw [if_neg hj0, Nat.testBit_or, Bool.or_eq_true, h j u hj, nm_d_t, nm_d_t, nm_2t, hsym v u]
    simp only [Bool.and_eq_true, h (j - 1) u (by omega), Bool.not_eq_true', decide_eq_false_iff_not]
    constructor
    · rintro (h1 | ⟨⟨h1, h2⟩, h3⟩)
      · exact ⟨h1.1, by omega⟩
      · rw [if_pos ⟨fun e => h3 e.symm, h2⟩]
        exact ⟨h1.1, by omega⟩
    · rintro ⟨h1, h2⟩
      by_cases hc : u ≠ v ∧ (n.2.2.2 u).testBit v = false
      · rw [if_pos hc] at h2
        exact .inr ⟨⟨⟨h1, by omega⟩, hc.2⟩, fun e => hc.1 e.symm⟩
      · rw [if_neg hc] at h2
        exact .inl ⟨h1, by omega⟩
theorem nh_fitT {L : Nat → Nat} {S op : Nat} {b : Nat → Nat} {sl u : Nat} : (nr_fit L S op b sl).testBit u = true ↔ op.testBit u = true ∧ (b (sl + 1)).testBit u = false ∧ ∀ v, v < 16 → S.testBit v = true → (b sl).testBit v = true → (L v).testBit u = true := by
  have key := mi_it_ind (n := 16) (f := fun v f => if (S &&& b sl).testBit v then f &&& L v else f) (fun i (f : Nat) => f.testBit u = true ↔ (nm_d op (b (sl + 1))).testBit u = true ∧ ∀ v, v < i → (S &&& b sl).testBit v = true → (L v).testBit u = true) (fun i f hi h => by
    try dsimp only
    by_cases hc : (S &&& b sl).testBit i = true
    · rw [if_pos hc, Nat.testBit_and, Bool.and_eq_true, h]
      constructor
      · rintro ⟨⟨h1, h2⟩, h3⟩
        refine ⟨h1, fun v hv hs => ?_⟩
        by_cases e : v = i
        · subst e; exact h3
        · exact h2 v (by omega) hs
      · rintro ⟨h1, h2⟩
        exact ⟨⟨h1, fun v hv hs => h2 v (by omega) hs⟩, h2 i (by omega) hc⟩
    · rw [if_neg hc, h]
      constructor
      · rintro ⟨h1, h2⟩
        refine ⟨h1, fun v hv hs => ?_⟩
        by_cases e : v = i
        · subst e; exact absurd hs hc
        · exact h2 v (by omega) hs
      · rintro ⟨h1, h2⟩
        exact ⟨h1, fun v hv hs => h2 v (by omega) hs⟩) 16 0 (nm_d op (b (sl + 1))) (by decide) ⟨fun h => ⟨h, fun v hv => absurd hv (Nat.not_lt_zero v)⟩, fun h => h.1⟩
  unfold nr_fit
  rw [key, nm_d_t]
  simp only [Bool.and_eq_true, Nat.testBit_and, Bool.not_eq_true', and_imp, and_assoc]
theorem nh_fit {n : st_N} {S op : Nat} {b : Nat → Nat} {sl : Nat} (hn : n.1 ≤ 16) (hsl : sl ≤ 3) (ht : nh_t n.2.2.2 n.1 S b) (hS : nh_n n.2.2.2 sl S) (hSn : ∀ i, S.testBit i = true → i < n.1) (hop : ∀ i, op.testBit i = true → i < n.1 ∧ S.testBit i = false) (u : Nat) : (nr_fit n.2.2.2 S op b sl).testBit u = true ↔ op.testBit u = true ∧ nh_n n.2.2.2 sl (S ||| 2 ^ u) := by
  rw [nh_fitT]
  constructor
  · rintro ⟨h1, h2, h3⟩
    have hu := hop u h1
    refine ⟨h1, fun v hv => ?_⟩
    rw [nh_add (by omega) hu.2]
    rw [Nat.testBit_or, Bool.or_eq_true, nm_2t, decide_eq_true_eq] at hv
    have h4 : ¬ sl + 1 ≤ nh_l n.2.2.2 S u := fun h => by
      rw [(ht (sl + 1) u (by omega)).mpr ⟨hu.1, h⟩] at h2
      cases h2
    rcases hv with hv | hv
    · have h5 := hS v hv
      by_cases hc : v ≠ u ∧ (n.2.2.2 v).testBit u = false
      · rw [if_pos hc]
        by_cases h6 : sl ≤ nh_l n.2.2.2 S v
        · have := h3 v (by have := hSn v hv; omega) hv ((ht sl v (by omega)).mpr ⟨hSn v hv, h6⟩)
          rw [hc.2] at this
          cases this
        · omega
      · rw [if_neg hc]
        omega
    · subst hv
      rw [if_neg (fun h => h.1 rfl)]
      omega
  · rintro ⟨h1, h2⟩
    have hu := hop u h1
    refine ⟨h1, ?_, fun v hv hs hb => ?_⟩
    · rw [← Bool.not_eq_true, ht (sl + 1) u (by omega)]
      rintro ⟨_, h3⟩
      have h4 := h2 u (by rw [Nat.testBit_or, nm_2t, decide_eq_true rfl, Bool.or_true])
      rw [nh_add (by omega) hu.2, if_neg (fun h => h.1 rfl)] at h4
      omega
    · have h3 := ((ht sl v (by omega)).mp hb).2
      have h4 := h2 v (by rw [Nat.testBit_or, hs]; rfl)
      rw [nh_add (by omega) hu.2] at h4
      cases hj : (n.2.2.2 v).testBit u
      · rw [if_pos ⟨fun e => (by rw [e, hu.2] at hs; cases hs), hj⟩] at h4
        omega
      · rfl
/-- the colours bound a near set -/
theorem nh_lfA {f : Nat → Nat} {l : Nat} : ∀ k c, nt_lfA f l k c = 0 ∨ f (nt_lfA f l k c) &&& l = 0 := by
  intro k
  induction k with
  | zero => exact fun c => .inl rfl
  | succ k ih =>
    intro c
    rw [nt_lfA]
    by_cases h : f c &&& l = 0
    · rw [if_pos h]; exact .inr h
    · rw [if_neg h]; exact ih (c + 1)
theorem nh_ind {n : st_N} (hsym : ∀ i j, (n.2.2.2 i).testBit j = (n.2.2.2 j).testBit i) (hirr : ∀ i, (n.2.2.2 i).testBit i = false) (s : Nat) (f : Nat → Nat) : ∀ c, 1 ≤ c → c ≤ 16 → ∀ u v, ((nt_paint n s f).1 c).testBit u = true → ((nt_paint n s f).1 c).testBit v = true → (n.2.2.2 u).testBit v = false := by
  unfold nt_paint
  refine mi_it_ind (n := n.1) (fun _ (q : (Nat → Nat) × Nat) => ∀ c, 1 ≤ c → c ≤ 16 → ∀ u v, (q.1 c).testBit u = true → (q.1 c).testBit v = true → (n.2.2.2 u).testBit v = false) ?_ n.1 0 (fun i => if i < 17 then 0 else f i, 0) (by omega) (fun c h1 h2 u v hu => by
    try dsimp only at hu
    rw [if_pos (by omega), Nat.zero_testBit] at hu
    cases hu)
  intro i q hi h c h1 h2 u v hu hv
  unfold nt_ps at hu hv
  by_cases hs : s.testBit i = true
  · rw [if_pos hs] at hu hv
    try dsimp only at hu hv
    by_cases e : c = nt_lf q.1 (n.2.2.2 i)
    · have h3 : q.1 c &&& n.2.2.2 i = 0 := by
        rcases nh_lfA (f := q.1) (l := n.2.2.2 i) 16 1 with h | h
        · exact absurd (e.trans h) (by omega)
        · rw [e]; exact h
      have h4 : ∀ w, (q.1 c).testBit w = true → (n.2.2.2 i).testBit w = false := fun w hw => by
        have := nm_e0.mp h3 w
        rw [Nat.testBit_and, hw] at this
        simpa using this
      rw [← e, up_N_eq, Nat.testBit_or, Bool.or_eq_true, nm_2t, decide_eq_true_eq] at hu hv
      rcases hu with hu | hu
      · rcases hv with hv | hv
        · exact h c h1 h2 u v hu hv
        · subst hv; rw [hsym]; exact h4 u hu
      · subst hu
        rcases hv with hv | hv
        · exact h4 v hv
        · subst hv; exact hirr _
    · rw [up_N_ne e] at hu hv
      exact h c h1 h2 u v hu hv
  · rw [if_neg hs] at hu hv
    exact h c h1 h2 u v hu hv
theorem nh_lim {n : st_N} (ok : gn_ok n) {T sl : Nat} (hT : nh_n n.2.2.2 sl T) (hTn : ∀ i, T.testBit i = true → i < n.1) (ze : st_E) (he : ze.2.2.1 = sl) : nm_c 16 T ≤ nr_lim n ze := by
  have hn := ok.1.1
  have hco := co_eq hn (2 ^ n.1 - 1) ze.2.1 (fun _ => 0)
  have hin := nh_ind (n := n) ok.2.1 ok.2.2.1 (2 ^ n.1 - 1) ze.2.1
  unfold nr_lim
  rw [he]
  have hsub16 : (nr_pt n ze.2.1).2 ≤ 16 := by
    unfold nr_pt
    rw [hco.1]
    exact (rf_ca_is hn).1
  refine (mi_it_ind (n := (nr_pt n ze.2.1).2 + 1) (f := fun c t => t + min (sl + 1) (nm_c 16 ((nr_pt n ze.2.1).1 c))) (fun c t => 1 ≤ c ∧ ∀ X, (∀ i, X.testBit i = true → T.testBit i = true ∧ (rf_ca n.2.2.2 n.1 (2 ^ n.1 - 1) (fun _ => 0)).1 i < c) → nm_c 16 X ≤ t) ?_ (nr_pt n ze.2.1).2 1 0 (by omega) ⟨Nat.le_refl 1, ?_⟩).2 T ?_
  · rintro c t hc ⟨hc1, h⟩
    refine ⟨by omega, fun X hX => ?_⟩
    try dsimp only
    · have h1 := h (nm_d X ((nr_pt n ze.2.1).1 c)) (fun i hi => by
        rw [nm_d_t, Bool.and_eq_true] at hi
        have h2 := hX i hi.1
        refine ⟨h2.1, ?_⟩
        refine Nat.lt_of_le_of_ne (by omega) fun e => ?_
        have : ((nr_pt n ze.2.1).1 c).testBit i = true := (hco.2.1 c i hc1 (by omega)).mpr ⟨hTn i h2.1, by rw [nm_full]; exact decide_eq_true (hTn i h2.1), e⟩
        rw [this] at hi
        cases hi.2)
      have h2 := nm_c_d X ((nr_pt n ze.2.1).1 c) 16
      have h3 : nm_c 16 (X &&& (nr_pt n ze.2.1).1 c) ≤ nm_c 16 ((nr_pt n ze.2.1).1 c) := nm_c_mono 16 fun i _ hi => by
        rw [Nat.testBit_and, Bool.and_eq_true] at hi
        exact hi.2
      have h4 : nm_c 16 (X &&& (nr_pt n ze.2.1).1 c) ≤ sl + 1 := by
        by_cases hz : nm_c 16 (X &&& (nr_pt n ze.2.1).1 c) = 0
        · omega
        · have hne : X &&& (nr_pt n ze.2.1).1 c ≠ 0 := fun e => by
            rw [e] at hz
            exact hz cz_0
          obtain ⟨v, hv⟩ := nm_n0 hne
          rw [Nat.testBit_and, Bool.and_eq_true] at hv
          have hvT := (hX v hv.1).1
          have h5 := hT v hvT
          have h6 := nh_one (J := n.2.2.2) (by have := hTn v hvT; omega) (ok.2.2.1 v) hvT
          refine Nat.le_trans (nm_c_mono (b := nm_d T (n.2.2.2 v)) 16 fun i _ hi => ?_) (by omega)
          rw [Nat.testBit_and, Bool.and_eq_true] at hi
          rw [nm_d_t, (hX i hi.1).1, hin c hc1 (by omega) v i hv.2 hi.2]
          rfl
      omega
  · intro X hX
    have : X = 0 := nm_e0.mpr fun i => by
      cases hi : X.testBit i
      · rfl
      · have h1 := hX i hi
        have h2 := (hco.2.2.2.1 i (hTn i h1.1) (by rw [nm_full]; exact decide_eq_true (hTn i h1.1))).1
        omega
    rw [this, cz_0]
    exact Nat.le_refl 0
  · intro i hi
    refine ⟨hi, ?_⟩
    have h2 := (hco.2.2.2.1 i (hTn i hi) (by rw [nm_full]; exact decide_eq_true (hTn i hi))).2
    have h3 : (nr_pt n ze.2.1).2 = (rf_ca n.2.2.2 n.1 (2 ^ n.1 - 1) (fun _ => 0)).2 := hco.1
    omega

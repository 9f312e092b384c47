/-! closures: parts and sides -/
theorem nt_ends_in {n : st_N} (ok : gn_ok n) : ∀ u i, (n.2.2.2 u).testBit i = true → u < n.1 ∧ i < n.1 := by
  have h0 : ∀ u i, (n.2.2.2 u).testBit i = true → u < n.1 := fun u i h => Nat.not_le.mp fun hu => by
    rw [ok.1.2.2 u hu, Nat.zero_testBit] at h
    cases h
  exact fun u i h => ⟨h0 u i h, h0 i u (by rw [ok.2.1]; exact h)⟩
theorem ne_loa {n : st_N} {s i : Nat} : (nt_loa n s).testBit i = true ↔ ∃ u, u < n.1 ∧ s.testBit u = true ∧ (n.2.2.2 u).testBit i = true := by
  unfold nt_loa
  refine mi_it_ind (n := n.1) (fun k (t : Nat) => t.testBit i = true ↔ ∃ u, u < k ∧ s.testBit u = true ∧ (n.2.2.2 u).testBit i = true) ?_ n.1 0 0 (by omega) ⟨fun h => (by rw [Nat.zero_testBit] at h; cases h), fun ⟨u, h, _⟩ => absurd h (Nat.not_lt_zero u)⟩
  intro k t hk h
  rw [Nat.testBit_or, Bool.or_eq_true, h]
  constructor
  · rintro (⟨u, h1, h2⟩ | h1)
    · exact ⟨u, by omega, h2⟩
    · by_cases hs : s.testBit k = true
      · rw [if_pos hs] at h1
        exact ⟨k, by omega, hs, h1⟩
      · rw [if_neg hs, Nat.zero_testBit] at h1
        cases h1
  · rintro ⟨u, h1, h2, h3⟩
    by_cases e : u = k
    · subst e
      rw [if_pos h2]
      exact .inr h3
    · exact .inl ⟨u, by omega, h2, h3⟩
theorem ne_px {J : Nat → Nat} {n s i : Nat} : (rf_px J n s).testBit i = true ↔ s.testBit i = true ∨ ∃ u, u < n ∧ s.testBit u = true ∧ (J u).testBit i = true := by
  unfold rf_px
  refine mi_it_ind (n := n) (fun k (t : Nat) => t.testBit i = true ↔ s.testBit i = true ∨ ∃ u, u < k ∧ s.testBit u = true ∧ (J u).testBit i = true) ?_ n 0 s (by omega) ⟨fun h => .inl h, fun h => h.elim id fun ⟨u, h, _⟩ => absurd h (Nat.not_lt_zero u)⟩
  intro k t hk h
  by_cases hs : s.testBit k = true
  · rw [if_pos hs, Nat.testBit_or, Bool.or_eq_true, h]
    constructor
    · rintro ((h1 | ⟨u, h1, h2⟩) | h1)
      · exact .inl h1
      · exact .inr ⟨u, by omega, h2⟩
      · exact .inr ⟨k, by omega, hs, h1⟩
    · rintro (h1 | ⟨u, h1, h2, h3⟩)
      · exact .inl (.inl h1)
      · by_cases e : u = k
        · subst e; exact .inr h3
        · exact .inl (.inr ⟨u, by omega, h2, h3⟩)
  · rw [if_neg hs, h]
    constructor
    · rintro (h1 | ⟨u, h1, h2⟩)
      · exact .inl h1
      · exact .inr ⟨u, by omega, h2⟩
    · rintro (h1 | ⟨u, h1, h2, h3⟩)
      · exact .inl h1
      · by_cases e : u = k
        · subst e; exact absurd h2 hs
        · exact .inr ⟨u, by omega, h2, h3⟩
theorem ne_nx {J : Nat → Nat} {n s i : Nat} : (rf_nx J n s).testBit i = true ↔ ∃ u, u < n ∧ s.testBit u = true ∧ (J u).testBit i = true := by
  unfold rf_nx
  refine mi_it_ind (n := n) (fun k (t : Nat) => t.testBit i = true ↔ ∃ u, u < k ∧ s.testBit u = true ∧ (J u).testBit i = true) ?_ n 0 0 (by omega) ⟨fun h => (by rw [Nat.zero_testBit] at h; cases h), fun ⟨u, h, _⟩ => absurd h (Nat.not_lt_zero u)⟩
  intro k t hk h
  by_cases hs : s.testBit k = true
  · rw [if_pos hs, Nat.testBit_or, Bool.or_eq_true, h]
    constructor
    · rintro (⟨u, h1, h2⟩ | h1)
      · exact ⟨u, by omega, h2⟩
      · exact ⟨k, by omega, hs, h1⟩
    · rintro ⟨u, h1, h2, h3⟩
      by_cases e : u = k
      · subst e; exact .inr h3
      · exact .inl ⟨u, by omega, h2, h3⟩
  · rw [if_neg hs, h]
    constructor
    · rintro ⟨u, h1, h2⟩
      exact ⟨u, by omega, h2⟩
    · rintro ⟨u, h1, h2, h3⟩
      by_cases e : u = k
      · subst e; exact absurd h2 hs
      · exact ⟨u, by omega, h2, h3⟩
def ne_c (J : Nat → Nat) (X Y : Nat) : Prop := ∀ u i, X.testBit u = true → (J u).testBit i = true → Y.testBit i = true
theorem ne_grow {a b : Nat} (ha : a < 65536) (hb : b < 65536) (h : ∀ i, a.testBit i = true → b.testBit i = true) (hne : a ≠ b) : nm_c 16 a < nm_c 16 b := nh_big hb h (fun e => hne e.symm) ha
theorem ne_low {n X : Nat} (hn : n ≤ 16) (h : ∀ i, X.testBit i = true → i < n) : X < 65536 := nm_lo fun i hi => by
  cases hb : X.testBit i
  · rfl
  · have := h i hb; omega
theorem ne_pt {J : Nat → Nat} {n : Nat} (hn : n ≤ 16) (hJ : ∀ u i, (J u).testBit i = true → u < n ∧ i < n) : ∀ k s was, (∀ i, s.testBit i = true → i < n) → (s = was → rf_px J n s = s) → (17 ≤ nm_c 16 s + k ∨ rf_px J n s = s) → (∀ i, s.testBit i = true → (rf_pt J n k s was).testBit i = true) ∧ ne_c J (rf_pt J n k s was) (rf_pt J n k s was) ∧ ∀ X, (∀ i, s.testBit i = true → X.testBit i = true) → ne_c J X X → ∀ i, (rf_pt J n k s was).testBit i = true → X.testBit i = true := by
  have hcl : ∀ s, rf_px J n s = s → ne_c J s s := fun s h u i hu hj => by
    rw [← h]
    exact ne_px.mpr (.inr ⟨u, (hJ u i hj).1, hu, hj⟩)
  intro k
  induction k with
  | zero =>
    intro s was hs h1 h2
    have h3 : rf_px J n s = s := h2.resolve_left (by have := nm_c_le 16 s; omega)
    exact ⟨fun i h => h, hcl s h3, fun X hX _ i hi => hX i hi⟩
  | succ k ih =>
    intro s was hs h1 h2
    rw [rf_pt]
    by_cases e : s = was
    · rw [if_pos e]
      exact ⟨fun i h => h, hcl s (h1 e), fun X hX _ i hi => hX i hi⟩
    · rw [if_neg e]
      have hsub : ∀ i, s.testBit i = true → (rf_px J n s).testBit i = true := fun i hi => ne_px.mpr (.inl hi)
      have hin : ∀ i, (rf_px J n s).testBit i = true → i < n := fun i hi => by
        rcases ne_px.mp hi with h | ⟨u, _, _, h⟩
        · exact hs i h
        · exact (hJ u i h).2
      have := ih (rf_px J n s) s hin (fun e2 => by rw [e2, e2]) (by
        by_cases e2 : rf_px J n s = s
        · exact .inr (by rw [e2, e2])
        · have := ne_grow (ne_low hn hs) (ne_low hn hin) hsub (fun e3 => e2 e3.symm)
          rcases h2 with h2 | h2
          · exact .inl (by omega)
          · exact absurd h2 e2)
      refine ⟨fun i hi => this.1 i (hsub i hi), this.2.1, fun X hX hc => this.2.2 X (fun i hi => ?_) hc⟩
      rcases ne_px.mp hi with h | ⟨u, _, h3, h4⟩
      · exact hX i h
      · exact hc u i (hX u h3) h4
/-- the part of a node: the least closed set that has it -/
def ne_P (J : Nat → Nat) (n v : Nat) : Nat := rf_pt J n 17 (2 ^ v) 0
theorem ne_part {J : Nat → Nat} {n v : Nat} (hn : n ≤ 16) (hJ : ∀ u i, (J u).testBit i = true → u < n ∧ i < n) (hv : v < n) : (ne_P J n v).testBit v = true ∧ ne_c J (ne_P J n v) (ne_P J n v) ∧ ∀ X, X.testBit v = true → ne_c J X X → ∀ i, (ne_P J n v).testBit i = true → X.testBit i = true := by
  have h2 : ∀ i, (2 ^ v).testBit i = true → i = v := fun i hi => by
    rw [nm_2t, decide_eq_true_eq] at hi
    exact hi.symm
  have := ne_pt hn hJ 17 (2 ^ v) 0 (fun i hi => by rw [h2 i hi]; exact hv) (fun e => absurd e (Nat.ne_of_gt (Nat.two_pow_pos v))) (.inl (by omega))
  exact ⟨this.1 v (by rw [nm_2t, decide_eq_true rfl]), this.2.1, fun X hX => this.2.2 X fun i hi => by rw [h2 i hi]; exact hX⟩
theorem ne_psym {J : Nat → Nat} {n u v : Nat} (hn : n ≤ 16) (hJ : ∀ u i, (J u).testBit i = true → u < n ∧ i < n) (hsym : ∀ i j, (J i).testBit j = (J j).testBit i) (hu : u < n) (hv : v < n) (h : (ne_P J n v).testBit u = true) : (ne_P J n u).testBit v = true := by
  have pv := ne_part hn hJ hv
  have pu := ne_part hn hJ hu
  cases hc : (ne_P J n u).testBit v
  · have h1 := pv.2.2 (nm_d (ne_P J n v) (ne_P J n u)) (by rw [nm_d_t, pv.1, hc]; rfl) (fun a b ha hab => by
      rw [nm_d_t, Bool.and_eq_true, Bool.not_eq_true'] at ha ⊢
      refine ⟨pv.2.1 a b ha.1 hab, ?_⟩
      cases hb : (ne_P J n u).testBit b
      · rfl
      · have := pu.2.1 b a hb (by rw [hsym]; exact hab)
        rw [ha.2] at this
        cases this) u h
    rw [nm_d_t, pu.1] at h1
    simp at h1
  · rfl
theorem ne_ptr {J : Nat → Nat} {n u v : Nat} (hn : n ≤ 16) (hJ : ∀ u i, (J u).testBit i = true → u < n ∧ i < n) (hu : u < n) (hv : v < n) (h : (ne_P J n v).testBit u = true) : ∀ i, (ne_P J n u).testBit i = true → (ne_P J n v).testBit i = true :=
  (ne_part hn hJ hu).2.2 (ne_P J n v) h (ne_part hn hJ hv).2.1
theorem ne_pin {J : Nat → Nat} {n v : Nat} (hn : n ≤ 16) (hJ : ∀ u i, (J u).testBit i = true → u < n ∧ i < n) (hv : v < n) : ∀ i, (ne_P J n v).testBit i = true → i < n := fun i hi => by
  have := (ne_part hn hJ hv).2.2 (2 ^ n - 1) (by rw [nm_full]; exact decide_eq_true hv) (fun u j _ hj => by rw [nm_full]; exact decide_eq_true (hJ u j hj).2) i hi
  rw [nm_full] at this
  exact of_decide_eq_true this
/-- reach: the least closed pair -/
theorem ne_reach {n : st_N} (ok : gn_ok n) {v : Nat} (hv : v < n.1) : (nt_reach n v).1.testBit v = true ∧ ne_c n.2.2.2 (nt_reach n v).1 (nt_reach n v).2 ∧ ne_c n.2.2.2 (nt_reach n v).2 (nt_reach n v).1 ∧ ∀ X Y, X.testBit v = true → ne_c n.2.2.2 X Y → ne_c n.2.2.2 Y X → (∀ i, (nt_reach n v).1.testBit i = true → X.testBit i = true) ∧ ∀ i, (nt_reach n v).2.testBit i = true → Y.testBit i = true := by
  have hn := ok.1.1
  have hJ := nt_ends_in ok
  have hloa : ∀ s i, (nt_loa n s).testBit i = true ↔ ∃ u, s.testBit u = true ∧ (n.2.2.2 u).testBit i = true := fun s i => by
    rw [ne_loa]
    exact ⟨fun ⟨u, _, h⟩ => ⟨u, h⟩, fun ⟨u, h1, h2⟩ => ⟨u, (hJ u i h2).1, h1, h2⟩⟩
  have hor : ∀ a b i : Nat, (a ||| b).testBit i = true ↔ (a.testBit i = true ∨ b.testBit i = true) := fun a b i => by rw [Nat.testBit_or, Bool.or_eq_true]
  have key := mi_it_ind (n := 16) (f := fun _ (q : Nat × Nat) => (q.1 ||| nt_loa n (q.2 ||| nt_loa n q.1), q.2 ||| nt_loa n q.1)) (fun i (q : Nat × Nat) => (∀ j, q.1.testBit j = true → j < n.1) ∧ (∀ j, q.2.testBit j = true → j < n.1) ∧ q.1.testBit v = true ∧ ne_c n.2.2.2 q.2 q.1 ∧ (ne_c n.2.2.2 q.1 q.2 ∨ 2 * i + 1 ≤ nm_c 16 q.1 + nm_c 16 q.2) ∧ ∀ X Y, X.testBit v = true → ne_c n.2.2.2 X Y → ne_c n.2.2.2 Y X → (∀ i, q.1.testBit i = true → X.testBit i = true) ∧ ∀ i, q.2.testBit i = true → Y.testBit i = true) (fun i q hi h => by
    obtain ⟨e, o⟩ := q
    obtain ⟨h1, h2, h3, h4, h5, h6⟩ := h
    try dsimp only at h1 h2 h3 h4 h5 h6 ⊢
    have ho' : ∀ j, (o ||| nt_loa n e).testBit j = true ↔ (o.testBit j = true ∨ ∃ u, e.testBit u = true ∧ (n.2.2.2 u).testBit j = true) := fun j => by rw [hor, hloa]
    generalize o ||| nt_loa n e = o' at ho'
    have he' : ∀ j, (e ||| nt_loa n o').testBit j = true ↔ (e.testBit j = true ∨ ∃ u, o'.testBit u = true ∧ (n.2.2.2 u).testBit j = true) := fun j => by rw [hor, hloa]
    generalize e ||| nt_loa n o' = e' at he'
    have b1 : ∀ j, e'.testBit j = true → j < n.1 := fun j hj => by
      rcases (he' j).mp hj with h | ⟨u, _, h⟩
      · exact h1 j h
      · exact (hJ u j h).2
    have b2 : ∀ j, o'.testBit j = true → j < n.1 := fun j hj => by
      rcases (ho' j).mp hj with h | ⟨u, _, h⟩
      · exact h2 j h
      · exact (hJ u j h).2
    refine ⟨b1, b2, (he' v).mpr (.inl h3), fun u j hu hj => (he' j).mpr (.inr ⟨u, hu, hj⟩), ?_, ?_⟩
    · rcases h5 with h5 | h5
      · left
        intro u j hu hj
        rw [ho']
        rcases (he' u).mp hu with h | ⟨w, hw, hwu⟩
        · exact .inr ⟨u, h, hj⟩
        · have hwo : o.testBit w = true := by
            rcases (ho' w).mp hw with h | ⟨x, hx, hxw⟩
            · exact h
            · exact h5 x w hx hxw
          exact .inr ⟨u, h4 w u hwo hwu, hj⟩
      · by_cases hoo : o' = o
        · left
          have hce : ne_c n.2.2.2 e o := fun u j hu hj => by
            rw [← hoo]
            exact (ho' j).mpr (.inr ⟨u, hu, hj⟩)
          intro u j hu hj
          rw [ho']
          rcases (he' u).mp hu with h | ⟨w, hw, hwu⟩
          · exact .inr ⟨u, h, hj⟩
          · rw [hoo] at hw
            exact .inr ⟨u, h4 w u hw hwu, hj⟩
        · have g1 := ne_grow (ne_low hn h2) (ne_low hn b2) (fun j hj => (ho' j).mpr (.inl hj)) (fun e => hoo e.symm)
          by_cases hee : e' = e
          · left
            rw [hee]
            exact fun u j hu hj => (ho' j).mpr (.inr ⟨u, hu, hj⟩)
          · have g2 := ne_grow (ne_low hn h1) (ne_low hn b1) (fun j hj => (he' j).mpr (.inl hj)) (fun e => hee e.symm)
            right
            omega
    · intro X Y hX hXY hYX
      have h7 := h6 X Y hX hXY hYX
      have h8 : ∀ j, o'.testBit j = true → Y.testBit j = true := fun j hj => by
        rcases (ho' j).mp hj with h | ⟨u, hu, huj⟩
        · exact h7.2 j h
        · exact hXY u j (h7.1 u hu) huj
      refine ⟨fun j hj => ?_, h8⟩
      rcases (he' j).mp hj with h | ⟨u, hu, huj⟩
      · exact h7.1 j h
      · exact hYX u j (h8 u hu) huj) 16 0 (2 ^ v, 0) (by decide) ⟨fun j hj => (by
        rw [nm_2t, decide_eq_true_eq] at hj
        omega), fun j hj => (by rw [Nat.zero_testBit] at hj; cases hj), (by rw [nm_2t, decide_eq_true rfl]), fun u j hu => (by rw [Nat.zero_testBit] at hu; cases hu), .inr (by rw [nm_c_2, if_pos (by omega)]; omega), fun X Y hX _ _ => ⟨fun j hj => (by
        rw [nm_2t, decide_eq_true_eq] at hj
        rw [← hj]; exact hX), fun j hj => (by rw [Nat.zero_testBit] at hj; cases hj)⟩⟩
  refine ⟨key.2.2.1, ?_, key.2.2.2.1, key.2.2.2.2.2⟩
  rcases key.2.2.2.2.1 with h | h
  · exact h
  · have a1 := nm_c_le 16 (nt_reach n v).1
    have a2 := nm_c_le 16 (nt_reach n v).2
    exact absurd h (by unfold nt_reach at a1 a2; omega)
theorem ne_rp {n : st_N} (ok : gn_ok n) {v : Nat} (hv : v < n.1) : (nt_reach n v).1 ||| (nt_reach n v).2 = ne_P n.2.2.2 n.1 v := by
  have hn := ok.1.1
  have hJ := nt_ends_in ok
  have r := ne_reach ok hv
  have p := ne_part hn hJ hv
  refine Nat.eq_of_testBit_eq fun i => ?_
  rw [Bool.eq_iff_iff, Nat.testBit_or, Bool.or_eq_true]
  constructor
  · have := r.2.2.2 _ _ p.1 p.2.1 p.2.1
    rintro (h | h)
    · exact this.1 i h
    · exact this.2 i h
  · intro h
    have := p.2.2 ((nt_reach n v).1 ||| (nt_reach n v).2) (by rw [Nat.testBit_or, r.1]; rfl) (fun a b ha hab => by
      rw [Nat.testBit_or, Bool.or_eq_true] at ha ⊢
      rcases ha with ha | ha
      · exact .inr (r.2.1 a b ha hab)
      · exact .inl (r.2.2.1 a b ha hab)) i h
    rw [Nat.testBit_or, Bool.or_eq_true] at this
    exact this
/-- a root: none below it in its part -/
theorem ne_root {J : Nat → Nat} {n v seen : Nat} (hn : n ≤ 16) (hJ : ∀ u i, (J u).testBit i = true → u < n ∧ i < n) (hsym : ∀ i j, (J i).testBit j = (J j).testBit i) (hv : v < n) (hs : ∀ i, seen.testBit i = true ↔ ∃ u, u < v ∧ (ne_P J n u).testBit i = true) : seen.testBit v = true ↔ ¬ (ne_P J n v &&& (2 ^ v - 1) = 0) := by
  rw [hs]
  constructor
  · rintro ⟨u, hu, h⟩ h0
    have h1 := ne_psym hn hJ hsym hv (by omega) h
    have := nm_e0.mp h0 u
    rw [Nat.testBit_and, h1, nm_full, decide_eq_true hu] at this
    cases this
  · intro h
    obtain ⟨u, hu⟩ := nm_n0 h
    rw [Nat.testBit_and, Bool.and_eq_true, nm_full] at hu
    have huv := of_decide_eq_true hu.2
    exact ⟨u, huv, ne_psym hn hJ hsym (by omega) hv hu.1⟩
theorem ne_seen {J : Nat → Nat} {n v seen : Nat} (hn : n ≤ 16) (hJ : ∀ u i, (J u).testBit i = true → u < n ∧ i < n) (hv : v < n) (hs : ∀ i, seen.testBit i = true ↔ ∃ u, u < v ∧ (ne_P J n u).testBit i = true) : (seen.testBit v = true → ∀ i, seen.testBit i = true ↔ ∃ u, u < v + 1 ∧ (ne_P J n u).testBit i = true) ∧ ∀ i, (seen ||| ne_P J n v).testBit i = true ↔ ∃ u, u < v + 1 ∧ (ne_P J n u).testBit i = true := by
  refine ⟨fun h i => ?_, fun i => ?_⟩
  · obtain ⟨w, hw, hwv⟩ := (hs v).mp h
    rw [hs]
    constructor
    · rintro ⟨u, hu, h⟩
      exact ⟨u, by omega, h⟩
    · rintro ⟨u, hu, hui⟩
      by_cases e : u = v
      · rw [e] at hui
        exact ⟨w, hw, ne_ptr hn hJ (by omega) (by omega) hwv i hui⟩
      · exact ⟨u, by omega, hui⟩
  · rw [Nat.testBit_or, Bool.or_eq_true, hs]
    constructor
    · rintro (⟨u, hu, h⟩ | h)
      · exact ⟨u, by omega, h⟩
      · exact ⟨v, by omega, h⟩
    · rintro ⟨u, hu, h⟩
      by_cases e : u = v
      · subst e; exact .inr h
      · exact .inl ⟨u, by omega, h⟩
theorem ne_parts {n : st_N} (ok : gn_ok n) : (nt_parts n).1 = rf_pc n.2.2.2 n.1 := by
  have hn := ok.1.1
  have hJ := nt_ends_in ok
  unfold nt_parts rf_pc
  refine (mi_it_rel (n := n.1) (R := fun v (q : Nat × Nat) t => q.1 = t ∧ ∀ i, q.2.testBit i = true ↔ ∃ u, u < v ∧ (ne_P n.2.2.2 n.1 u).testBit i = true) (fun v q t hv h => ?_) n.1 0 (0, 0) 0 (by omega) ⟨rfl, fun i => ⟨fun h => (by rw [Nat.zero_testBit] at h; cases h), fun ⟨u, h, _⟩ => absurd h (Nat.not_lt_zero u)⟩⟩).1
  obtain ⟨q1, q2⟩ := q
  obtain ⟨h1, h2⟩ := h
  try dsimp only at h1 h2 ⊢
  have hr := ne_root hn hJ ok.2.1 hv h2
  have hs := ne_seen hn hJ hv h2
  rw [ne_rp ok hv]
  show _ ∧ _
  unfold ne_P at hr
  by_cases hc : q2.testBit v = true
  · rw [if_pos hc, if_neg (hr.mp hc)]
    exact ⟨h1, hs.1 hc⟩
  · rw [if_neg hc, if_pos (Classical.byContradiction fun h => hc (hr.mpr h))]
    exact ⟨by rw [h1], hs.2⟩
/-- levels -/
theorem ne_bf {J : Nat → Nat} {n v E O : Nat} (hn : n ≤ 16) (hJ : ∀ u i, (J u).testBit i = true → u < n ∧ i < n) (hEO : ne_c J E O) (hOE : ne_c J O E) (hno : ∀ i, E.testBit i = true → O.testBit i = true → False) (hl : ∀ X Y, X.testBit v = true → ne_c J X Y → ne_c J Y X → (∀ i, E.testBit i = true → X.testBit i = true) ∧ ∀ i, O.testBit i = true → Y.testBit i = true) : ∀ f seen now odd k, (17 ≤ nm_c 16 seen + f ∨ now = 0) → (∀ i, seen.testBit i = true → i < n) → (∀ i, now.testBit i = true → seen.testBit i = true) → (∀ u i, seen.testBit u = true → now.testBit u = false → (J u).testBit i = true → seen.testBit i = true) → (∀ i, odd.testBit i = true → O.testBit i = true ∧ seen.testBit i = true) → (∀ i, seen.testBit i = true → odd.testBit i = false → E.testBit i = true) → (k % 2 = 1 → ∀ i, now.testBit i = true → E.testBit i = true) → (k % 2 = 0 → ∀ i, now.testBit i = true → O.testBit i = true) → seen.testBit v = true → E.testBit v = true → rf_bf J n f seen now odd k = O := by
  have hend : ∀ seen odd : Nat, (∀ u i, seen.testBit u = true → (J u).testBit i = true → seen.testBit i = true) → (∀ i, odd.testBit i = true → O.testBit i = true ∧ seen.testBit i = true) → (∀ i, seen.testBit i = true → odd.testBit i = false → E.testBit i = true) → seen.testBit v = true → E.testBit v = true → odd = O := by
    intro seen odd h1 h2 h3 h4 h5
    have hv : odd.testBit v = false := by
      cases h : odd.testBit v
      · rfl
      · exact (hno v h5 (h2 v h).1).elim
    have := hl (nm_d seen odd) odd (by rw [nm_d_t, h4, hv]; rfl) (fun u i hu hj => by
      rw [nm_d_t, Bool.and_eq_true, Bool.not_eq_true'] at hu
      have e1 := h1 u i hu.1 hj
      have e2 := hEO u i (h3 u hu.1 hu.2) hj
      cases h : odd.testBit i
      · exact (hno i (h3 i e1 h) e2).elim
      · rfl) (fun u i hu hj => by
      have e0 := h2 u hu
      have e1 := h1 u i e0.2 hj
      have e2 := hOE u i e0.1 hj
      rw [nm_d_t, e1]
      cases h : odd.testBit i
      · rfl
      · exact (hno i e2 (h2 i h).1).elim)
    exact Nat.eq_of_testBit_eq fun i => by
      rw [Bool.eq_iff_iff]
      exact ⟨fun h => (h2 i h).1, this.2 i⟩
  intro f
  induction f with
  | zero =>
    intro seen now odd k h1 h2 h3 h4 h5 h6 _ _ h7 h8
    have h0 : now = 0 := h1.resolve_left (by have := nm_c_le 16 seen; omega)
    exact hend seen odd (fun u i hu => h4 u i hu (by rw [h0]; exact Nat.zero_testBit u)) h5 h6 h7 h8
  | succ f ih =>
    intro seen now odd k h1 h2 h3 h4 h5 h6 ho he h7 h8
    rw [rf_bf]
    by_cases h0 : now = 0
    · rw [if_pos h0]
      exact hend seen odd (fun u i hu => h4 u i hu (by rw [h0]; exact Nat.zero_testBit u)) h5 h6 h7 h8
    · rw [if_neg h0]
      have hf : ∀ i, (nm_d (rf_nx J n now) seen).testBit i = true ↔ ((∃ u, now.testBit u = true ∧ (J u).testBit i = true) ∧ seen.testBit i = false) := fun i => by
        rw [nm_d_t, Bool.and_eq_true, Bool.not_eq_true', ne_nx]
        exact ⟨fun ⟨⟨u, _, h⟩, h'⟩ => ⟨⟨u, h⟩, h'⟩, fun ⟨⟨u, h, h''⟩, h'⟩ => ⟨⟨u, (hJ u i h'').1, h, h''⟩, h'⟩⟩
      generalize nm_d (rf_nx J n now) seen = fr at hf
      have hs' : ∀ i, (seen ||| fr).testBit i = true ↔ (seen.testBit i = true ∨ fr.testBit i = true) := fun i => by rw [Nat.testBit_or, Bool.or_eq_true]
      have hin : ∀ i, (seen ||| fr).testBit i = true → i < n := fun i hi => by
        rcases (hs' i).mp hi with h | h
        · exact h2 i h
        · obtain ⟨⟨u, _, hu⟩, _⟩ := (hf i).mp h
          exact (hJ u i hu).2
      refine ih (seen ||| fr) fr _ (k + 1) ?_ hin (fun i hi => (hs' i).mpr (.inr hi)) (fun u i hu hn' hj => ?_) ?_ ?_ ?_ ?_ ((hs' v).mpr (.inl h7)) h8
      · by_cases hz : fr = 0
        · exact .inr hz
        · left
          have := ne_grow (ne_low hn h2) (ne_low hn hin) (fun i hi => (hs' i).mpr (.inl hi)) (fun e => hz (nm_e0.mpr fun i => by
            cases hi : fr.testBit i
            · rfl
            · have e1 := ((hf i).mp hi).2
              have e2 := (hs' i).mpr (.inr hi)
              rw [← e, e1] at e2
              cases e2))
          rcases h1 with h1 | h1
          · omega
          · exact absurd h1 h0
      · rcases (hs' u).mp hu with h | h
        · cases hnu : now.testBit u
          · exact (hs' i).mpr (.inl (h4 u i h hnu hj))
          · rw [hs']
            cases hsi : seen.testBit i
            · exact .inr ((hf i).mpr ⟨⟨u, hnu, hj⟩, hsi⟩)
            · exact .inl rfl
        · rw [hn'] at h; cases h
      · intro i hi
        by_cases hk : k - k / 2 * 2 = 1
        · rw [if_pos hk, Nat.testBit_or, Bool.or_eq_true] at hi
          rcases hi with h | h
          · exact ⟨(h5 i h).1, (hs' i).mpr (.inl (h5 i h).2)⟩
          · obtain ⟨⟨u, hu, huj⟩, _⟩ := (hf i).mp h
            exact ⟨hEO u i (ho (by omega) u hu) huj, (hs' i).mpr (.inr h)⟩
        · rw [if_neg hk] at hi
          exact ⟨(h5 i hi).1, (hs' i).mpr (.inl (h5 i hi).2)⟩
      · intro i hi hno'
        by_cases hk : k - k / 2 * 2 = 1
        · rw [if_pos hk, Nat.testBit_or, Bool.or_eq_false_iff] at hno'
          rcases (hs' i).mp hi with h | h
          · exact h6 i h hno'.1
          · rw [hno'.2] at h; cases h
        · rw [if_neg hk] at hno'
          rcases (hs' i).mp hi with h | h
          · exact h6 i h hno'
          · obtain ⟨⟨u, hu, huj⟩, _⟩ := (hf i).mp h
            exact hOE u i (he (by omega) u hu) huj
      · intro hk i hi
        obtain ⟨⟨u, hu, huj⟩, _⟩ := (hf i).mp hi
        exact hOE u i (he (by omega) u hu) huj
      · intro hk i hi
        obtain ⟨⟨u, hu, huj⟩, _⟩ := (hf i).mp hi
        exact hEO u i (ho (by omega) u hu) huj
theorem ne_bf0 {n : st_N} (ok : gn_ok n) {v : Nat} (hv : v < n.1) (h0 : (nt_reach n v).1 &&& (nt_reach n v).2 = 0) : rf_bf n.2.2.2 n.1 18 (2 ^ v) (2 ^ v) 0 1 = (nt_reach n v).2 := by
  have r := ne_reach ok hv
  have h2 : ∀ i, (2 ^ v).testBit i = true → i = v := fun i hi => by
    rw [nm_2t, decide_eq_true_eq] at hi
    exact hi.symm
  exact ne_bf ok.1.1 (nt_ends_in ok) r.2.1 r.2.2.1 (fun i h1 h2 => by
    have := nm_e0.mp h0 i
    rw [Nat.testBit_and, h1, h2] at this
    cases this) r.2.2.2 18 (2 ^ v) (2 ^ v) 0 1 (.inl (by omega)) (fun i hi => by rw [h2 i hi]; exact hv) (fun i h => h) (fun u i hu hn => by rw [hu] at hn; cases hn) (fun i hi => by rw [Nat.zero_testBit] at hi; cases hi) (fun i hi _ => by rw [h2 i hi]; exact r.1) (fun _ i hi => by rw [h2 i hi]; exact r.1) (fun h => by omega) (by rw [nm_2t, decide_eq_true rfl]) r.1

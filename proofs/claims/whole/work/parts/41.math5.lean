/-! code and reference: counts, peeling, colours -/
theorem mi_it_rel {σ τ : Type} {f : Nat → σ → σ} {g : Nat → τ → τ} {n : Nat} (R : Nat → σ → τ → Prop) (h : ∀ i s t, i < n → R i s t → R (i + 1) (f i s) (g i t)) : ∀ k i s t, i + k = n → R i s t → R n (mi_it f k i s) (mi_it g k i t) := by
  intro k
  induction k with
  | zero =>
    intro i s t e hr
    have e1 : i = n := by omega
    subst e1
    exact hr
  | succ k ih =>
    intro i s t e hr
    rw [mi_it_s, mi_it_s]
    exact ih (i + 1) (f i s) (g i t) (by omega) (h i s t (by omega) hr)
theorem mi_it_congr {σ : Type} {f g : Nat → σ → σ} {n : Nat} (h : ∀ i s, i < n → f i s = g i s) (s : σ) : mi_it f n 0 s = mi_it g n 0 s :=
  mi_it_rel (R := fun _ s t => s = t) (fun i s t hi e => by subst e; exact h i s hi) n 0 s s (by omega) rfl
def gn_ok (n : st_N) : Prop := nt_ok n ∧ (∀ i j, (n.2.2.2 i).testBit j = (n.2.2.2 j).testBit i) ∧ (∀ i, (n.2.2.2 i).testBit i = false) ∧ (∀ i, i < n.1 → 1 ≤ n.2.2.1 i) ∧ ∀ i, n.2.2.1 i ≤ 1000
theorem nm_c_lt {m v : Nat} (hv : v < 16) (h : m.testBit v = false) : nm_c 16 m < 16 := by
  have h1 : nm_c 16 (m ||| 2 ^ v) = nm_c 16 m + nm_c 16 (2 ^ v) := nm_c_add 16 fun i _ hi => by
    rw [nm_2t]
    by_cases e : v = i
    · subst e
      rw [h] at hi
      cases hi
    · simp only [e, decide_false]
  rw [nm_c_2, if_pos hv] at h1
  have := nm_c_le 16 (m ||| 2 ^ v)
  omega
theorem gn_deg {n : st_N} (ok : gn_ok n) {v : Nat} (hv : v < 16) (s : Nat) : nm_c 16 (n.2.2.2 v &&& s) < 16 := nm_c_lt hv (by rw [Nat.testBit_and, ok.2.2.1 v, Bool.false_and])
theorem ct_ends (n : st_N) (s : Nat) : nt_ends n s = rf_en n.2.2.2 n.1 s := by
  unfold nt_ends rf_en
  refine mi_it_congr (fun v t _ => ?_) 0
  split
  · rw [Nat.and_comm]
  · rfl
theorem ct_wsum (n : st_N) (s : Nat) : nt_wsum n s = rf_ws n.2.2.1 n.1 s := by
  unfold nt_wsum rf_ws
  refine mi_it_congr (fun v t _ => ?_) 0
  split <;> rfl
theorem rf_pb_n {J : Nat → Nat} {s v : Nat} : rf_pb J s v none = if s.testBit v = true then some v else none := by
  unfold rf_pb
  cases s.testBit v <;> rfl
theorem rf_pb_s {J : Nat → Nat} {s v w : Nat} : rf_pb J s v (some w) = if s.testBit v = true ∧ nm_c 16 (J v &&& s) < nm_c 16 (J w &&& s) then some v else some w := by
  have e : ∀ x, nm_c 16 (s &&& J x) = nm_c 16 (J x &&& s) := fun x => congrArg (nm_c 16) (Nat.and_comm _ _)
  unfold rf_pb
  simp only [e, decide_eq_true_eq]
def pl_R (n : st_N) (s i : Nat) (q : Option Nat × Nat) (b : Option Nat) : Prop := q.1 = b ∧ (match q.1 with | none => q.2 = 16 | some w => q.2 = nm_c 16 (n.2.2.2 w &&& s)) ∧ (∀ w, q.1 = some w → w < n.1 ∧ s.testBit w = true) ∧ ∀ j, j < i → s.testBit j = true → q.1 ≠ none
theorem pl_step {n : st_N} {s i : Nat} {q : Option Nat × Nat} {b : Option Nat} (hd : nm_c 16 (n.2.2.2 i &&& s) < 16) (hi : i < n.1) (h : pl_R n s i q b) : pl_R n s (i + 1) (if s.testBit i = true ∧ nm_c 16 (n.2.2.2 i &&& s) < q.2 then (some i, nm_c 16 (n.2.2.2 i &&& s)) else q) (rf_pb n.2.2.2 s i b) := by
  obtain ⟨q1, q2⟩ := q
  obtain ⟨e, h2, h3, h4⟩ := h
  dsimp only at e h2 h3 h4
  subst e
  cases hs : s.testBit i
  · have e1 : rf_pb n.2.2.2 s i q1 = q1 := by
      cases q1 with
      | none => rw [rf_pb_n, hs]; rfl
      | some w => rw [rf_pb_s, if_neg (fun h => by rw [hs] at h; cases h.1)]
    rw [e1, if_neg (fun h => by cases h.1)]
    refine ⟨rfl, h2, h3, fun j hj hsj => ?_⟩
    by_cases e : j = i
    · subst e; rw [hs] at hsj; cases hsj
    · exact h4 j (by omega) hsj
  · cases q1 with
    | none =>
      dsimp only at h2
      rw [rf_pb_n, hs, if_pos ⟨rfl, by omega⟩, if_pos rfl]
      exact ⟨rfl, rfl, fun w h => (by cases h; exact ⟨hi, hs⟩), fun j _ _ h => (by cases h)⟩
    | some w =>
      dsimp only at h2
      rw [rf_pb_s, hs]
      dsimp only
      rw [h2]
      by_cases hlt : nm_c 16 (n.2.2.2 i &&& s) < nm_c 16 (n.2.2.2 w &&& s)
      · rw [if_pos ⟨rfl, hlt⟩, if_pos ⟨rfl, hlt⟩]
        exact ⟨rfl, rfl, fun w h => (by cases h; exact ⟨hi, hs⟩), fun j _ _ h => (by cases h)⟩
      · rw [if_neg (fun h => hlt h.2), if_neg (fun h => hlt h.2)]
        exact ⟨rfl, rfl, h3, fun j _ _ h => (by cases h)⟩
theorem pl_ll {n : st_N} (ok : gn_ok n) (s : Nat) : (nt_ll n s).1 = mi_it (rf_pb n.2.2.2 s) n.1 0 none ∧ (∀ w, (nt_ll n s).1 = some w → w < n.1 ∧ s.testBit w = true) ∧ ∀ j, j < n.1 → s.testBit j = true → (nt_ll n s).1 ≠ none := by
  have h16 := ok.1.1
  have h := mi_it_rel (n := n.1) (R := pl_R n s) (fun i q b hi h => pl_step (gn_deg ok (show i < 16 by omega) s) hi h) n.1 0 (none, 16) none (by omega) ⟨rfl, rfl, fun w h => (by cases h), fun j h => (by omega)⟩
  exact ⟨h.1, h.2.2.1, h.2.2.2⟩
theorem up_N_eq {f : Nat → Nat} {k x : Nat} : up_N f k x k = x := by unfold up_N; rw [if_pos rfl]
theorem up_N_ne {f : Nat → Nat} {k x j : Nat} (h : j ≠ k) : up_N f k x j = f j := by unfold up_N; rw [if_neg h]
theorem nm_c_drop {s v : Nat} (hv : v < 16) (h : s.testBit v = true) : nm_c 16 (nm_d s (2 ^ v)) + 1 = nm_c 16 s := by
  have h1 := nm_c_d s (2 ^ v) 16
  have h2 : s &&& 2 ^ v = 2 ^ v := Nat.eq_of_testBit_eq fun i => by
    rw [Nat.testBit_and, nm_2t]
    by_cases e : v = i
    · subst e; rw [h]; rfl
    · simp only [e, decide_false, Bool.and_false]
  rw [h2, nm_c_2, if_pos hv] at h1
  exact h1
theorem nm_full (n i : Nat) : (2 ^ n - 1).testBit i = decide (i < n) := Nat.testBit_two_pow_sub_one n i
theorem nm_c_full : ∀ k n, nm_c k (2 ^ n - 1) = min k n := by
  intro k n
  induction k with
  | zero => rw [Nat.zero_min]; rfl
  | succ k ih =>
    rw [nm_c, ih, nm_full]
    by_cases h : k < n
    · simp only [h, decide_true, Bool.toNat_true]; omega
    · simp only [h, decide_false, Bool.toNat_false]; omega
theorem pl_eq {n : st_N} (ok : gn_ok n) (z : st_P) (g c : Nat → Nat) : ∀ k, k < n.1 → (pe_new n z).2.2.1 k = (rf_pl n.2.2.2 n.1 g c).2.2.1 k ∧ (pe_new n z).2.2.2 k = (rf_pl n.2.2.2 n.1 g c).2.2.2 k := by
  have h16 := ok.1.1
  have := mi_it_rel (n := n.1) (f := pe_st n) (g := rf_ps n.2.2.2 n.1) (R := fun i q r => q.1 = r.1 ∧ q.2.1 = r.2.1 ∧ (∀ k, k < i → q.2.2.1 k = r.2.2.1 k) ∧ (∀ v, v < n.1 → q.1.testBit v = false → q.2.2.2 v = r.2.2.2 v) ∧ nm_c 16 q.1 + i = n.1 ∧ ∀ j, q.1.testBit j = true → j < n.1) (fun i q r hi h => by
    obtain ⟨q1, q2, q3, q4⟩ := q
    obtain ⟨r1, r2, r3, r4⟩ := r
    obtain ⟨h1, h2, h3, h4, h5, h6⟩ := h
    dsimp only at h1 h2 h3 h4 h5 h6
    subst h1 h2
    have hl := pl_ll ok q1
    have hne : ∃ w, (nt_ll n q1).1 = some w := by
      cases hw : (nt_ll n q1).1 with
      | some w => exact ⟨w, rfl⟩
      | none =>
        have : nm_c 16 q1 = 0 := (nm_c_0 16).mpr fun j _ => by
          cases hj : q1.testBit j
          · rfl
          · exact absurd hw (hl.2.2 j (h6 j hj) hj)
        omega
    obtain ⟨w, hw⟩ := hne
    have hw2 := hl.2.1 w hw
    have hrw : rf_pw n.2.2.2 n.1 q1 = w := by
      unfold rf_pw
      rw [← hl.1, hw]
      rfl
    unfold pe_st rf_ps
    dsimp only
    rw [hw, hrw]
    dsimp only
    rw [Nat.and_comm q1]
    have hdr := nm_c_drop (s := q1) (show w < 16 by omega) hw2.2
    refine ⟨rfl, rfl, fun k hk => ?_, fun v hv hb => ?_, by omega, fun j hj => ?_⟩
    · by_cases e : k = i
      · subst e; rw [up_N_eq, up_N_eq]
      · rw [up_N_ne e, up_N_ne e]; exact h3 k (by omega)
    · by_cases e : v = w
      · subst e; rw [up_N_eq, up_N_eq]
      · rw [up_N_ne e, up_N_ne e]
        refine h4 v hv ?_
        rw [nm_d_t, nm_2t, decide_eq_false (fun h => e h.symm)] at hb
        simpa using hb
    · rw [nm_d_t] at hj
      exact h6 j (Bool.and_eq_true_iff.mp hj).1) n.1 0 (2 ^ n.1 - 1, 0, z.1, z.2.1) (2 ^ n.1 - 1, 0, g, c) (by omega) ⟨rfl, rfl, fun k h => (by omega), fun v hv h => (by
      dsimp only at h
      rw [nm_full, decide_eq_true hv] at h
      cases h), (by dsimp only; rw [nm_c_full]; omega), fun j hj => (by
      dsimp only at hj
      rw [nm_full] at hj
      exact of_decide_eq_true hj)⟩
  intro k hk
  refine ⟨this.2.2.1 k hk, this.2.2.2.1 k hk ?_⟩
  have h5 := this.2.2.2.2.1
  have h0 : nm_c 16 (mi_it (pe_st n) n.1 0 (2 ^ n.1 - 1, 0, z.1, z.2.1)).1 = 0 := by omega
  exact (nm_c_0 16).mp h0 k (by omega)

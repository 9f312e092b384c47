/-! apart and cover -/
def ap_E (n : Nat) (J : Nat → Nat) (v : Nat) : Nat := if v < n then nm_d (nm_d (2 ^ n - 1) (J v)) (2 ^ v) else 0
theorem ap_t {n : Nat} {J : Nat → Nat} {v i : Nat} : (ap_E n J v).testBit i = true ↔ v < n ∧ i < n ∧ (J v).testBit i = false ∧ v ≠ i := by
  unfold ap_E
  by_cases hv : v < n
  · rw [if_pos hv, nm_d_t, nm_d_t, nm_full, nm_2t]
    simp only [Bool.and_eq_true, decide_eq_true_eq, Bool.not_eq_true', decide_eq_false_iff_not]
    exact ⟨fun h => ⟨hv, h.1.1, h.1.2, h.2⟩, fun h => ⟨⟨h.2.1, h.2.2.1⟩, h.2.2.2⟩⟩
  · rw [if_neg hv, Nat.zero_testBit]
    exact ⟨fun h => (by cases h), fun h => absurd h.1 hv⟩
theorem ap_sym {n : Nat} {J : Nat → Nat} (hsym : ∀ i j, (J i).testBit j = (J j).testBit i) : ∀ i j, (ap_E n J i).testBit j = (ap_E n J j).testBit i := fun i j => by
  rw [Bool.eq_iff_iff, ap_t, ap_t, hsym i j]
  exact ⟨fun h => ⟨h.2.1, h.1, h.2.2.1, fun e => h.2.2.2 e.symm⟩, fun h => ⟨h.2.1, h.1, h.2.2.1, fun e => h.2.2.2 e.symm⟩⟩
theorem ap_irr {n : Nat} {J : Nat → Nat} : ∀ i, (ap_E n J i).testBit i = false := fun i => by
  rw [← Bool.not_eq_true, ap_t]
  exact fun h => h.2.2.2 rfl
theorem ap_cl {n s : Nat} {J : Nat → Nat} (hirr : ∀ i, (J i).testBit i = false) (hs : s < 2 ^ n) : rf_ap J n s = true ↔ gq_cl (ap_E n J) s := by
  have hb : ∀ i, s.testBit i = true → i < n := fun i hi => Nat.lt_of_not_le fun h => by rw [ct_lt hs h] at hi; cases hi
  unfold rf_ap
  rw [ra_iff]
  constructor
  · intro h i j hi hj hne
    have h1 := h i (Nat.zero_le _) (by have := hb i hi; omega)
    rw [hi] at h1
    have h2 : s &&& J i = 0 := of_decide_eq_true h1
    have h3 := nm_e0.mp h2 j
    rw [Nat.testBit_and, hj, Bool.true_and] at h3
    exact ap_t.mpr ⟨hb i hi, hb j hj, h3, hne⟩
  · intro h v _ hv
    cases hsv : s.testBit v
    · rfl
    · refine decide_eq_true (nm_e0.mpr fun i => ?_)
      rw [Nat.testBit_and]
      cases hsi : s.testBit i
      · rfl
      · by_cases e : v = i
        · rw [← e, hirr]; rfl
        · rw [(ap_t.mp (h v i hsv hsi e)).2.2.1]; rfl
theorem gb_apart {n : Nat} {J w : Nat → Nat} {q : (Nat → Nat) × Nat} (hn : n ≤ 16) (hirr : ∀ i, (J i).testBit i = false) (ok : so_ok q) (hq : ∀ x, so_in q x ↔ gq_mx (ap_E n J) (2 ^ n - 1) x) : (rf_best n J w 2).map (fun q => q.1) = some (mi_it (fun k b => if nm_c 16 b < nm_c 16 (q.1 k) then q.1 k else b) q.2 0 0) := by
  have hpw : 2 ^ n ≤ 2 ^ 16 := Nat.pow_le_pow_right (by decide) hn
  have hp1 : 1 ≤ 2 ^ n := Nat.one_le_two_pow
  have hA : 2 ^ n - 1 < 65536 := by omega
  refine gb_best hn (fun a b ha hb hne _ _ he => in_size (by omega) (by omega) hne he) (bs_cg (fun t => ?_) (fun t _ => rfl) (gt_best (E := ap_E n J) hA (cz_mono hA) cz_0 (cz_z hA) ok hq))
  rw [← gb_in]
  constructor
  · exact fun h => ⟨h.2, (ap_cl hirr h.2).mpr h.1⟩
  · exact fun h => ⟨(ap_cl hirr h.1).mp h.2, h.1⟩
theorem gl_fold {f : Nat → Nat} {c : Nat} {sz : Nat → Nat} (h0 : sz 0 = 0) (hs : ∀ i j, i < j → j < c → od_lt (f i) (f j)) (hc : 0 < c) : (∃ j, j < c ∧ f j = mi_it (fun k b => if sz b ≤ sz (f k) then f k else b) c 0 0) ∧ ∀ j, j < c → sz (f j) < sz (mi_it (fun k b => if sz b ≤ sz (f k) then f k else b) c 0 0) ∨ (sz (f j) = sz (mi_it (fun k b => if sz b ≤ sz (f k) then f k else b) c 0 0) ∧ (f j = mi_it (fun k b => if sz b ≤ sz (f k) then f k else b) c 0 0 ∨ od_lt (f j) (mi_it (fun k b => if sz b ≤ sz (f k) then f k else b) c 0 0))) := by
  have key := mi_it_ind (n := c) (f := fun k b => if sz b ≤ sz (f k) then f k else b) (P := fun i b => ((i = 0 ∧ b = 0) ∨ ∃ j, j < i ∧ f j = b) ∧ ∀ j, j < i → sz (f j) < sz b ∨ (sz (f j) = sz b ∧ (f j = b ∨ od_lt (f j) b))) (fun i b hi h => by
    obtain ⟨h1, h2⟩ := h
    by_cases hc : sz b ≤ sz (f i)
    · rw [if_pos hc]
      refine ⟨.inr ⟨i, by omega, rfl⟩, fun j hj => ?_⟩
      by_cases e : j = i
      · exact .inr ⟨by rw [e], .inl (by rw [e])⟩
      · rcases h2 j (by omega) with h3 | h3
        · exact .inl (by omega)
        · by_cases h4 : sz (f j) < sz (f i)
          · exact .inl h4
          · exact .inr ⟨by omega, .inr (hs j i (by omega) hi)⟩
    · rw [if_neg hc]
      refine ⟨?_, fun j hj => ?_⟩
      · rcases h1 with h1 | ⟨j, a, b⟩
        · rw [h1.2, h0] at hc
          omega
        · exact .inr ⟨j, by omega, b⟩
      · by_cases e : j = i
        · rw [e]
          exact .inl (by omega)
        · exact h2 j (by omega)) c 0 0 (by omega) ⟨.inl ⟨rfl, rfl⟩, fun j h => absurd h (Nat.not_lt_zero _)⟩
  refine ⟨?_, key.2⟩
  rcases key.1 with h | h
  · omega
  · exact h
theorem cv_t {n c i : Nat} : (nm_d (2 ^ n - 1) c).testBit i = (decide (i < n) && !c.testBit i) := by rw [nm_d_t, nm_full]
theorem cv_lt {n c : Nat} : nm_d (2 ^ n - 1) c < 2 ^ n := gb_in.mpr fun i hi => by
  rw [cv_t, Bool.and_eq_true] at hi
  rw [nm_full]
  exact hi.1
theorem cv_cv {n c : Nat} (hc : c < 2 ^ n) : nm_d (2 ^ n - 1) (nm_d (2 ^ n - 1) c) = c := Nat.eq_of_testBit_eq fun i => by
  rw [cv_t, cv_t]
  by_cases h : i < n
  · rw [decide_eq_true h]; simp
  · rw [decide_eq_false h, ct_lt hc (by omega)]; rfl
theorem cv_sz {n c : Nat} (hn : n ≤ 16) (hc : c < 2 ^ n) : n - nm_c 16 c = nm_c 16 (nm_d (2 ^ n - 1) c) ∧ nm_c 16 c ≤ n := by
  have h1 := nm_c_d (2 ^ n - 1) c 16
  have h2 : (2 ^ n - 1) &&& c = c := Nat.eq_of_testBit_eq fun i => by
    rw [Nat.testBit_and, nm_full]
    by_cases h : i < n
    · rw [decide_eq_true h]; rfl
    · rw [ct_lt hc (by omega), Bool.and_false]
  rw [h2, nm_c_full, Nat.min_eq_right hn] at h1
  omega
theorem cv_od {n a b : Nat} (h : od_lt a b) (ha : a < 2 ^ n) : od_lt (nm_d (2 ^ n - 1) b) (nm_d (2 ^ n - 1) a) := by
  obtain ⟨i, h1, h2, h3⟩ := h
  have hi : i < n := Nat.lt_of_not_le fun h => by rw [ct_lt ha h] at h1; cases h1
  refine ⟨i, ?_, ?_, fun j hj => ?_⟩
  · rw [cv_t, h2, decide_eq_true hi]; rfl
  · rw [cv_t, h1, decide_eq_true hi]; rfl
  · rw [cv_t, cv_t, h3 j hj]
theorem gb_cover {n : Nat} {J w : Nat → Nat} {q : (Nat → Nat) × Nat} (hn : n ≤ 16) (hirr : ∀ i, (J i).testBit i = false) (ok : so_ok q) (hq : ∀ x, so_in q x ↔ gq_mx (ap_E n J) (2 ^ n - 1) x) : (rf_best n J w 3).map (fun q => q.1) = some (nm_d (2 ^ n - 1) (mi_it (fun k b => if nm_c 16 b ≤ nm_c 16 (q.1 k) then q.1 k else b) q.2 0 0)) := by
  have hpw : 2 ^ n ≤ 2 ^ 16 := Nat.pow_le_pow_right (by decide) hn
  have hp1 : 1 ≤ 2 ^ n := Nat.one_le_two_pow
  have hA : 2 ^ n - 1 < 65536 := by omega
  have hne : 0 < q.2 := by
    obtain ⟨m, m1, -⟩ := gt_ext (E := ap_E n J) (sz := nm_c 16) hA (cz_mono hA) _ 0 (Nat.le_refl _) (fun i j hi => by rw [Nat.zero_testBit] at hi; cases hi) (fun i hi => by rw [Nat.zero_testBit] at hi; cases hi)
    obtain ⟨j, hj, -⟩ := (hq m).mpr m1
    omega
  obtain ⟨⟨j0, hj0, e0⟩, h2⟩ := gl_fold (f := q.1) (c := q.2) (sz := nm_c 16) cz_0 ok.2 hne
  generalize mi_it (fun k b => if nm_c 16 b ≤ nm_c 16 (q.1 k) then q.1 k else b) q.2 0 0 = b at e0 h2 ⊢
  have hbm := (hq b).mp ⟨j0, hj0, e0⟩
  have hb : b < 2 ^ n := gb_in.mpr hbm.2.1
  refine gb_best hn (fun x y hx hy hxy _ _ he => in_size (by omega) (by omega) hxy ?_) ⟨⟨cv_lt, ?_⟩, fun c hc => ?_⟩
  · have he : n - nm_c 16 x = n - nm_c 16 y := he
    have h3 := cv_sz hn hx
    have h4 := cv_sz hn hy
    omega
  · show rf_ap J n (nm_d (2 ^ n - 1) (nm_d (2 ^ n - 1) b)) = true
    rw [cv_cv hb]
    exact (ap_cl hirr hb).mpr hbm.1
  · show n - nm_c 16 c < n - nm_c 16 (nm_d (2 ^ n - 1) b) ∨ (n - nm_c 16 c = n - nm_c 16 (nm_d (2 ^ n - 1) b) ∧ (c = nm_d (2 ^ n - 1) b ∨ od_lt (nm_d (2 ^ n - 1) b) c))
    have hc1 : c < 2 ^ n := hc.1
    have hc2 : rf_ap J n (nm_d (2 ^ n - 1) c) = true := hc.2
    rw [(cv_sz hn hc1).1, (cv_sz hn cv_lt).1, cv_cv hb]
    obtain ⟨m, m1, m2⟩ := gt_ext (E := ap_E n J) (sz := nm_c 16) hA (cz_mono hA) _ (nm_d (2 ^ n - 1) c) (Nat.le_refl _) ((ap_cl hirr cv_lt).mp hc2) (gb_in.mp cv_lt)
    obtain ⟨j, hj, e⟩ := (hq m).mpr m1
    have h3 := h2 j hj
    rw [e] at h3
    rcases m2 with m2 | m2
    · rw [← m2] at h3
      rcases h3 with h3 | ⟨h3, h4⟩
      · exact .inl h3
      · refine .inr ⟨h3, ?_⟩
        rcases h4 with h4 | h4
        · exact .inl (by rw [← h4, cv_cv hc1])
        · refine .inr ?_
          have := cv_od h4 cv_lt
          rw [cv_cv hc1] at this
          exact this
    · rcases h3 with h3 | h3
      · exact .inl (by omega)
      · exact .inl (by omega)

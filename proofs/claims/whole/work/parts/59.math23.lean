/-! two sides -/
def ne_rt (J : Nat → Nat) (n v : Nat) : Prop := ne_P J n v &&& (2 ^ v - 1) = 0
theorem ne_hasroot {J : Nat → Nat} {n v : Nat} (hn : n ≤ 16) (hJ : ∀ u i, (J u).testBit i = true → u < n ∧ i < n) (hsym : ∀ i j, (J i).testBit j = (J j).testBit i) (hv : v < n) : ∃ r, r < n ∧ ne_rt J n r ∧ (ne_P J n r).testBit v = true := by
  have p := ne_part hn hJ hv
  have hmin : ∃ r, (ne_P J n v).testBit r = true ∧ ∀ x, x < r → (ne_P J n v).testBit x = false := by
    have h : ∃ r, (ne_P J n v).testBit r = true := ⟨v, p.1⟩
    obtain ⟨r, hr⟩ := h
    induction r using Nat.strongRecOn with
    | ind r ih =>
      by_cases hc : ∃ x, x < r ∧ (ne_P J n v).testBit x = true
      · obtain ⟨x, h1, h2⟩ := hc
        exact ih x h1 h2
      · exact ⟨r, hr, fun x hx => by
          cases h : (ne_P J n v).testBit x
          · rfl
          · exact absurd ⟨x, hx, h⟩ hc⟩
  obtain ⟨r, hr, hm⟩ := hmin
  have hrn := ne_pin hn hJ hv r hr
  refine ⟨r, hrn, nm_e0.mpr fun x => ?_, ne_psym hn hJ hsym hrn hv hr⟩
  rw [Nat.testBit_and, nm_full]
  by_cases hx : x < r
  · cases h : (ne_P J n r).testBit x
    · rfl
    · have := ne_ptr hn hJ hrn hv hr x h
      rw [hm x hx] at this
      cases this
  · rw [decide_eq_false hx, Bool.and_false]
theorem ne_oneroot {J : Nat → Nat} {n u w y : Nat} (hn : n ≤ 16) (hJ : ∀ u i, (J u).testBit i = true → u < n ∧ i < n) (hsym : ∀ i j, (J i).testBit j = (J j).testBit i) (hu : u < n) (hw : w < n) (h1 : (ne_P J n u).testBit y = true) (h2 : (ne_P J n w).testBit y = true) (r1 : ne_rt J n u) (r2 : ne_rt J n w) : u = w := by
  have hy := ne_pin hn hJ hu y h1
  have a1 := ne_ptr hn hJ hy hu h1 w (ne_psym hn hJ hsym hy hw h2)
  have a2 := ne_ptr hn hJ hy hw h2 u (ne_psym hn hJ hsym hy hu h1)
  have e1 := nm_e0.mp r1 w
  have e2 := nm_e0.mp r2 u
  rw [Nat.testBit_and, a1, nm_full, Bool.true_and, decide_eq_false_iff_not] at e1
  rw [Nat.testBit_and, a2, nm_full, Bool.true_and, decide_eq_false_iff_not] at e2
  omega
theorem ne_sd {n : st_N} (ok : gn_ok n) : ∀ k v (q : Nat × Nat) t, v + k = n.1 → q.1 = t → (∀ i, q.2.testBit i = true ↔ ∃ u, u < v ∧ (ne_P n.2.2.2 n.1 u).testBit i = true) → (∀ i, q.1.testBit i = true ↔ ∃ u, u < v ∧ ne_rt n.2.2.2 n.1 u ∧ (nt_reach n u).2.testBit i = true) → (∀ u, u < v → ne_rt n.2.2.2 n.1 u → (nt_reach n u).1 &&& (nt_reach n u).2 = 0) → match mi_its (cl_sd n) k v q with
    | .inl q' => q'.1 = mi_it (fun v one => if rf_pt n.2.2.2 n.1 17 (2 ^ v) 0 &&& (2 ^ v - 1) = 0 then one ||| rf_bf n.2.2.2 n.1 18 (2 ^ v) (2 ^ v) 0 1 else one) k v t ∧ (∀ i, q'.1.testBit i = true ↔ ∃ u, u < n.1 ∧ ne_rt n.2.2.2 n.1 u ∧ (nt_reach n u).2.testBit i = true) ∧ ∀ u, u < n.1 → ne_rt n.2.2.2 n.1 u → (nt_reach n u).1 &&& (nt_reach n u).2 = 0
    | .inr _ => ∃ u, u < n.1 ∧ ¬ ((nt_reach n u).1 &&& (nt_reach n u).2 = 0) := by
  have hn := ok.1.1
  have hJ := nt_ends_in ok
  intro k
  induction k with
  | zero =>
    intro v q t e h1 h2 h3 h4
    have e1 : v = n.1 := by omega
    subst e1
    exact ⟨h1, h3, h4⟩
  | succ k ih =>
    intro v q t e h1 h2 h3 h4
    have hv : v < n.1 := by omega
    have hr := ne_root hn hJ ok.2.1 hv h2
    have hs := ne_seen hn hJ hv h2
    rw [mi_it_s, mi_its]
    have hstep : ∀ x : Nat → Prop, (∃ u, u < v + 1 ∧ ne_rt n.2.2.2 n.1 u ∧ x u) ↔ ((∃ u, u < v ∧ ne_rt n.2.2.2 n.1 u ∧ x u) ∨ (ne_rt n.2.2.2 n.1 v ∧ x v)) := fun x => by
      constructor
      · rintro ⟨u, hu, h⟩
        by_cases e : u = v
        · subst e; exact .inr h
        · exact .inl ⟨u, by omega, h⟩
      · rintro (⟨u, hu, h⟩ | h)
        · exact ⟨u, by omega, h⟩
        · exact ⟨v, by omega, h⟩
    unfold cl_sd
    by_cases hc : q.2.testBit v = true
    · have hnr : ¬ ne_rt n.2.2.2 n.1 v := hr.mp hc
      rw [if_pos hc]
      have hg : (if rf_pt n.2.2.2 n.1 17 (2 ^ v) 0 &&& (2 ^ v - 1) = 0 then t ||| rf_bf n.2.2.2 n.1 18 (2 ^ v) (2 ^ v) 0 1 else t) = t := if_neg hnr
      rw [hg]
      refine ih (v + 1) q t (by omega) h1 (hs.1 hc) (fun i => ?_) (fun u hu hru => ?_)
      · rw [h3 i]
        refine Iff.trans ?_ (hstep (fun u => (nt_reach n u).2.testBit i = true)).symm
        exact ⟨fun h => .inl h, fun h => h.elim id fun h => absurd h.1 hnr⟩
      · by_cases e : u = v
        · subst e; exact absurd hru hnr
        · exact h4 u (by omega) hru
    · have hrt : ne_rt n.2.2.2 n.1 v := Classical.byContradiction fun h => hc (hr.mpr h)
      rw [if_neg hc]
      by_cases h0 : (nt_reach n v).1 &&& (nt_reach n v).2 = 0
      · rw [if_pos h0]
        have hg : (if rf_pt n.2.2.2 n.1 17 (2 ^ v) 0 &&& (2 ^ v - 1) = 0 then t ||| rf_bf n.2.2.2 n.1 18 (2 ^ v) (2 ^ v) 0 1 else t) = t ||| (nt_reach n v).2 := by
          have hrt' : rf_pt n.2.2.2 n.1 17 (2 ^ v) 0 &&& (2 ^ v - 1) = 0 := hrt
          rw [if_pos hrt', ne_bf0 ok hv h0]
        rw [hg]
        refine ih (v + 1) (q.1 ||| (nt_reach n v).2, q.2 ||| ((nt_reach n v).1 ||| (nt_reach n v).2)) _ (by omega) (by rw [h1]) (by rw [ne_rp ok hv]; exact hs.2) (fun i => ?_) (fun u hu hru => ?_)
        · try dsimp only
          rw [Nat.testBit_or, Bool.or_eq_true, h3 i]
          refine Iff.trans ?_ (hstep (fun u => (nt_reach n u).2.testBit i = true)).symm
          exact ⟨fun h => h.imp id fun h => ⟨hrt, h⟩, fun h => h.imp id fun h => h.2⟩
        · by_cases e : u = v
          · subst e; exact h0
          · exact h4 u (by omega) hru
      · rw [if_neg h0]
        exact ⟨v, hv, h0⟩
theorem ne_sides {n : st_N} (ok : gn_ok n) : (match mi_its (cl_sd n) n.1 0 (0, 0) with | .inl q => nI q.1 | .inr _ => -2) = if rf_s2 n.2.2.2 n.1 (rf_s1 n.2.2.2 n.1) = true then nI (rf_s1 n.2.2.2 n.1) else -2 := by
  have hn := ok.1.1
  have hJ := nt_ends_in ok
  have key := ne_sd ok n.1 0 (0, 0) 0 (by omega) rfl (fun i => ⟨fun h => (by rw [Nat.zero_testBit] at h; cases h), fun ⟨u, h, _⟩ => absurd h (Nat.not_lt_zero u)⟩) (fun i => ⟨fun h => (by rw [Nat.zero_testBit] at h; cases h), fun ⟨u, h, _⟩ => absurd h (Nat.not_lt_zero u)⟩) (fun u h => absurd h (Nat.not_lt_zero u))
  cases hm : mi_its (cl_sd n) n.1 0 (0, 0) with
  | inl q =>
    rw [hm] at key
    obtain ⟨h1, h2, h3⟩ := key
    have h1' : q.1 = rf_s1 n.2.2.2 n.1 := h1
    have hin : ∀ u i, u < n.1 → ((nt_reach n u).1.testBit i = true ∨ (nt_reach n u).2.testBit i = true) → (ne_P n.2.2.2 n.1 u).testBit i = true := fun u i hu h => by
      rw [← ne_rp ok hu, Nat.testBit_or, Bool.or_eq_true]
      exact h
    have hs2 : rf_s2 n.2.2.2 n.1 (rf_s1 n.2.2.2 n.1) = true := by
      rw [← h1']
      unfold rf_s2
      rw [ra_iff]
      intro v _ hv
      have hv : v < n.1 := by omega
      rw [decide_eq_true_eq]
      refine nm_e0.mpr fun y => ?_
      rw [Nat.testBit_and]
      cases hy : (n.2.2.2 v).testBit y
      · rfl
      · rw [Bool.true_and]
        have hyn := (hJ v y hy).2
        cases hov : q.1.testBit v
        · rw [if_neg (by decide)]
          obtain ⟨r, hr, hrt, hrv⟩ := ne_hasroot hn hJ ok.2.1 hv
          rw [← ne_rp ok hr, Nat.testBit_or, Bool.or_eq_true] at hrv
          have hE : (nt_reach n r).1.testBit v = true := hrv.resolve_right fun h => by
            rw [(h2 v).mpr ⟨r, hr, hrt, h⟩] at hov
            cases hov
          have hO := (ne_reach ok hr).2.1 v y hE hy
          rw [cv_t, (h2 y).mpr ⟨r, hr, hrt, hO⟩]
          simp
        · rw [if_pos rfl]
          obtain ⟨r, hr, hrt, hrv⟩ := (h2 v).mp hov
          have hE := (ne_reach ok hr).2.2.1 v y hrv hy
          cases hoy : q.1.testBit y
          · rfl
          · obtain ⟨w, hw, hwt, hwy⟩ := (h2 y).mp hoy
            have e := ne_oneroot hn hJ ok.2.1 hr hw (hin r y hr (.inl hE)) (hin w y hw (.inr hwy)) hrt hwt
            subst e
            have := nm_e0.mp (h3 r hr hrt) y
            rw [Nat.testBit_and, hE, hwy] at this
            cases this
    try dsimp only
    rw [if_pos hs2, h1']
  | inr x =>
    rw [hm] at key
    obtain ⟨v, hv, h0⟩ := key
    try dsimp only
    rw [if_neg]
    intro hs2
    unfold rf_s2 at hs2
    generalize rf_s1 n.2.2.2 n.1 = one at hs2
    rw [ra_iff] at hs2
    have r := ne_reach ok hv
    have hside : ∀ u i, (n.2.2.2 u).testBit i = true → one.testBit i = !one.testBit u := fun u i hui => by
      have hu := hJ u i hui
      have h1 := hs2 u (Nat.zero_le u) (by omega)
      rw [decide_eq_true_eq] at h1
      have h2 := nm_e0.mp h1 i
      rw [Nat.testBit_and, hui, Bool.true_and] at h2
      cases hou : one.testBit u
      · rw [hou, if_neg (by decide), cv_t, decide_eq_true hu.2] at h2
        simpa using h2
      · rw [hou, if_pos rfl] at h2
        rw [h2]
        rfl
    have hc : ne_c n.2.2.2 one (nm_d (2 ^ n.1 - 1) one) := fun u i hu hui => by
      rw [cv_t, hside u i hui, hu, decide_eq_true (hJ u i hui).2]
      rfl
    have hc' : ne_c n.2.2.2 (nm_d (2 ^ n.1 - 1) one) one := fun u i hu hui => by
      rw [cv_t, Bool.and_eq_true, Bool.not_eq_true'] at hu
      rw [hside u i hui, hu.2]
      rfl
    obtain ⟨y, hy⟩ := nm_n0 h0
    rw [Nat.testBit_and, Bool.and_eq_true] at hy
    cases hov : one.testBit v
    · have := r.2.2.2 (nm_d (2 ^ n.1 - 1) one) one (by rw [cv_t, hov, decide_eq_true hv]; rfl) hc' hc
      have a1 := this.1 y hy.1
      have a2 := this.2 y hy.2
      rw [cv_t, a2] at a1
      simp at a1
    · have := r.2.2.2 one (nm_d (2 ^ n.1 - 1) one) hov hc hc'
      have a1 := this.1 y hy.1
      have a2 := this.2 y hy.2
      rw [cv_t, a1] at a2
      simp at a2

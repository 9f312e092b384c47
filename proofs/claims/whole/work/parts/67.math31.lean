/-! pairs: the code counts as the reference does -/
theorem st_is {J : Nat → Nat} {n r : Nat} {m : st_M} (hn : n ≤ 16) (hv : mv J m.1) (hr : m.1 r = none) (hrn : r < n) (hf : ∀ i, 16 ≤ i → m.2.1 i = none) : SI J n m.1 r (fun _ => 0) (ma_st m r) ∧ sq J (ma_st m r) 0 := by
  have hfr : (fun i => if i < 16 then none else m.2.1 i) = fun _ => none := funext fun i => by
    by_cases h : i < 16
    · rw [if_pos h]
    · rw [if_neg h]; exact hf i (by omega)
  unfold ma_st
  rw [ma_it_id, hfr]
  have e := enq_is (m := (m.1, (fun _ => none), (fun j => if j < 16 then j else m.2.2.1 j), m.2.2.2.1, 0, 0)) ⟨cz_0.symm, fun v => ⟨fun h => (by rw [Nat.zero_testBit] at h; cases h), fun ⟨j, h, _⟩ => absurd h (Nat.not_lt_zero j)⟩⟩ (v := r) (by omega)
  generalize ma_enq (m.1, (fun _ => none), (fun j => if j < 16 then j else m.2.2.1 j), m.2.2.2.1, 0, 0) r = m' at e
  obtain ⟨e1, e2, e3, e4, e5, e6, e7⟩ := e
  try dsimp only at e1 e2 e3 e5
  have hQ : ∀ x, m'.2.2.2.2.2.testBit x = true ↔ x = r := fun x => by
    rw [e5, Nat.zero_testBit]
    exact ⟨fun h => h.resolve_left (by decide), fun h => .inr h⟩
  have hb : ∀ x, x < 16 → (if x < 16 then x else m.2.2.1 x) = x := fun x hx => if_pos hx
  refine ⟨⟨e1, ?_, e4⟩, fun j hj => absurd hj (Nat.not_lt_zero j)⟩
  rw [e2, e3]
  refine ⟨⟨(hQ r).mpr rfl, hb r (by omega)⟩, fun x hx => by rw [(hQ x).mp hx]; exact hrn, fun x hx => ?_, fun x hx _ => hb x hx, fun x u _ h => (by cases h), fun x hx _ hne => absurd ((hQ x).mp hx) hne, fun x hx hne => ?_, fun x u h => (by cases h), fun _ _ _ => rfl, fun x hx => ⟨[], (hQ x).mp hx, List.Pairwise.nil⟩, fun x hx _ => ?_⟩
  · have := (hQ x).mp hx
    subst this
    try dsimp only
    rw [hb x (by omega)]
    exact ⟨hx, hb x (by omega)⟩
  · have := (hQ x).mp hx
    subst this
    exact absurd (hb x (by omega)) hne
  · have : nm_c 16 m'.2.2.2.2.2 = 1 := by
      rw [nm_c_congr (b := 2 ^ r) 16 fun i _ => by
        rw [Bool.eq_iff_iff, hQ, nm_2t, decide_eq_true_eq]
        exact ⟨Eq.symm, Eq.symm⟩, nm_c_2, if_pos (by omega)]
    rw [this]
    exact Nat.zero_lt_one
theorem ft_is {J : Nat → Nat} {n r : Nat} {mt : Nat → Option Nat} {d : Nat → Nat} {m : st_M} (hn : n ≤ 16) (hJ : ∀ u i, (J u).testBit i = true → u < n ∧ i < n) (hv : mv J mt) (hr : mt r = none) (h : SI J n mt r d m) (hs : sq J m m.2.2.2.2.1) : ft J n mt r m.2.2.2.2.2 (bm (fun x => !m.2.2.2.2.2.testBit x && (m.2.1 x).isSome) n) m.2.2.1 := by
  obtain ⟨h1, h2, h3⟩ := h
  have hI : ∀ x, (bm (fun x => !m.2.2.2.2.2.testBit x && (m.2.1 x).isSome) n).testBit x = true ↔ (x < n ∧ m.2.2.2.2.2.testBit x = false ∧ m.2.1 x ≠ none) := fun x => by
    rw [bm_t, Bool.and_eq_true, Bool.not_eq_true']
    cases m.2.1 x with
    | none => exact ⟨fun h => (by cases h.2.2), fun h => absurd rfl h.2.2⟩
    | some u => exact ⟨fun h => ⟨h.1, h.2.1, fun e => (by cases e)⟩, fun h => ⟨h.1, h.2.1, rfl⟩⟩
  refine ⟨h2.inn, fun i hi => ⟨((hI i).mp hi).1, ((hI i).mp hi).2.1⟩, fun v x hvQ hj => ?_, fun i hi => ?_, h2.blos, fun v hvQ hb hne => ?_, fun v hvQ => ?_, h2.rt.1, h2.rt.2, hr⟩
  · obtain ⟨j, j1, j2⟩ := (h3.2 v).mp hvQ
    subst j2
    have hs1 := hs j j1 x hj
    cases hx : m.2.2.2.2.2.testBit x
    · exact .inl ((hI x).mpr ⟨(hJ _ _ hj).2, hx, hs1.2 hx⟩)
    · obtain ⟨j', j3, j4⟩ := (h3.2 x).mp hx
      exact .inr ⟨rfl, hs1.1 j' j3 j4⟩
  · obtain ⟨i1, i2, i3⟩ := (hI i).mp hi
    cases hf : m.2.1 i with
    | none => exact absurd hf i3
    | some u =>
      obtain ⟨w, w1, w2, w3, _⟩ := h2.inner i u i2 hf
      exact ⟨w, w1, w2, w3⟩
  · obtain ⟨i, i1, i2, i3⟩ := h2.base v hvQ hb hne
    exact ⟨i, i1, (hI i).mpr ⟨(hJ _ _ (hv _ _ i1).2).2, i2, i3⟩⟩
  · have := h2.inn _ (h2.bas v hvQ).1
    omega
def sl_I (J : Nat → Nat) (n v c : Nat) (m : st_M) : Prop := ma_ok m ∧ mv J m.1 ∧ (∀ i, 16 ≤ i → m.2.1 i = none) ∧ nm_c 16 (um m.1 n) + 2 * c = n ∧ ∃ A Ls U k, cv J n A Ls U k ∧ nm_c 16 (U &&& um m.1 n) ≤ k ∧ (∀ x, U.testBit x = true → m.1 x = none → x < v) ∧ ∀ x, x < v → m.1 x ≠ none ∨ U.testBit x = true
theorem sl_is {nn : st_N} (ok : gn_ok nn) : ∀ k v c m, v + k = nn.1 → sl_I nn.2.2.2 nn.1 v c m → ∃ c' m', ma_sl nn k v c m = some (c', m') ∧ sl_I nn.2.2.2 nn.1 nn.1 c' m' := by
  have hn := ok.1.1
  have hJ := nt_ends_in ok
  have hirr := ok.2.2.1
  have hsym := ok.2.1
  intro k
  induction k with
  | zero =>
    intro v c m e h
    have e1 : v = nn.1 := by omega
    subst e1
    exact ⟨c, m, rfl, h⟩
  | succ k ih =>
    intro v c m e h
    obtain ⟨h0, h1, h2, h3, A, Ls, U, kk, h4, h5, h6, h7⟩ := h
    rw [ma_sl]
    by_cases hm : m.1 v = none
    · rw [if_pos hm]
      have hvn : v < nn.1 := by omega
      have hst := st_is hn h1 hm hvn h2
      have hok := ma_st_ok h0 (root := v) (by omega)
      rcases wl_is ok h1 hm 16 0 (fun _ => 0) (ma_st m v) (by omega) (Nat.zero_le _) hst.1 hst.2 with ⟨m', d', g1, g2, g3⟩ | ⟨e', m', g1, g2⟩
      · rw [g1]
        have hok' := (ma_wl_ok hn 16 0 (ma_st m v) none m' hok g1).1
        have hft := ft_is hn hJ h1 hm g2 g3
        have hUv : U.testBit v = false := by
          cases hU : U.testBit v
          · rfl
          · exact absurd (h6 v hU hm) (Nat.lt_irrefl v)
        obtain ⟨A', Ls', U', c1, c2, c3⟩ := cv_next hn hJ hirr hsym h1 h4 h5 hft hUv
        have hm1 : m'.1 = m.1 := g2.1
        refine ih (v + 1) c m' (by omega) ⟨hok', by rw [hm1]; exact h1, fun i hi => ?_, by rw [hm1]; exact h3, A', Ls', U', kk + 1, c1, by rw [hm1]; exact c2, fun x hx hx2 => ?_, fun x hx => ?_⟩
        · cases hf : m'.2.1 i with
          | none => rfl
          | some u =>
            have := (hJ _ _ (g2.2.1.frm i u hf).1).1
            omega
        · rw [hm1] at hx2
          rcases (c3 x).mp hx with h8 | h8 | h8
          · have := h6 x h8 hx2
            omega
          · by_cases hxv : x = v
            · omega
            · by_cases hb : m'.2.2.1 x = x
              · obtain ⟨i, i1, _⟩ := hft.bases x h8 hb hxv
                rw [hx2] at i1
                cases i1
              · obtain ⟨i, i1, _⟩ := hft.bloss x h8 hb
                rw [hx2] at i1
                cases i1
          · obtain ⟨i, i1, _⟩ := hft.inner x h8
            rw [hx2] at i1
            cases i1
        · rw [hm1]
          by_cases hxv : x = v
          · rw [hxv]
            exact .inr ((c3 v).mpr (.inr (.inl hft.rt.1)))
          · exact (h7 x (by omega)).imp id fun h8 => (c3 x).mpr (.inl h8)
      · rw [g1]
        have hok' := ma_wl_ok hn 16 0 (ma_st m v) (some e') m' hok g1
        have f := fd_is hn hJ hirr hsym h1 hm g2
        obtain ⟨f1, f2, f3, f4, f5, f6⟩ := f
        have hum : ∀ x, (um (ma_flm m' e').1 nn.1).testBit x = true ↔ ((um m.1 nn.1).testBit x = true ∧ x ≠ e' ∧ x ≠ v) := fun x => by
          rw [um_t, um_t, f2]
          exact ⟨fun h => ⟨⟨h.1, h.2.1⟩, h.2.2⟩, fun h => ⟨h.1.1, h.1.2, h.2⟩⟩
        refine ih (v + 1) (c + 1) (ma_flm m' e') (by omega) ⟨ma_flm_ok hok'.1 (by omega), f1, f6, ?_, A, Ls, U, kk, h4, ?_, fun x hx hx2 => ?_, fun x hx => ?_⟩
        · have := nm_c_two (S := um m.1 nn.1) (show e' < 16 by omega) (show v < 16 by omega) (um_t.mpr ⟨f4, f5⟩) (um_t.mpr ⟨hvn, hm⟩) f3
          rw [nm_c_congr (a := um (ma_flm m' e').1 nn.1) (b := nm_d (nm_d (um m.1 nn.1) (2 ^ e')) (2 ^ v)) 16 fun i _ => by rw [Bool.eq_iff_iff, hum, d2_t]]
          omega
        · refine Nat.le_trans (nm_c_mono 16 fun i _ hi => ?_) h5
          rw [Nat.testBit_and, Bool.and_eq_true, hum] at hi
          rw [Nat.testBit_and, Bool.and_eq_true]
          exact ⟨hi.1, hi.2.1⟩
        · have := h6 x hx ((f2 x).mp hx2).1
          omega
        · by_cases hxv : x = v
          · left
            rw [hxv]
            exact fun h8 => ((f2 v).mp h8).2.2 rfl
          · exact (h7 x (by omega)).imp (fun h8 h9 => h8 ((f2 x).mp h9).1) id
    · rw [if_neg hm]
      refine ih (v + 1) c m (by omega) ⟨h0, h1, h2, h3, A, Ls, U, kk, h4, h5, fun x hx hx2 => by have := h6 x hx hx2; omega, fun x hx => ?_⟩
      by_cases hxv : x = v
      · rw [hxv]; exact .inl hm
      · exact h7 x (by omega)
theorem pr_is {nn : st_N} (ok : gn_ok nn) {zm : st_M} (hz : ma_ok zm) (h1 : ∀ i, 16 ≤ i → zm.1 i = none) (h2 : ∀ i, 16 ≤ i → zm.2.1 i = none) (f : Nat → Nat) : ∃ m', ma_size nn zm = some (rf_pr nn.2.2.2 nn.1 f (2 ^ nn.1 - 1), m') ∧ ma_ok m' ∧ (∀ i, 16 ≤ i → m'.1 i = none) ∧ ∀ i, 16 ≤ i → m'.2.1 i = none := by
  have hn := ok.1.1
  have hJ := nt_ends_in ok
  have hirr := ok.2.2.1
  have hsym := ok.2.1
  have hp1 : 1 ≤ 2 ^ nn.1 := Nat.one_le_two_pow
  have hmt : (fun i => if i < 16 then none else zm.1 i) = fun _ => none := funext fun i => by
    by_cases h : i < 16
    · rw [if_pos h]
    · rw [if_neg h]; exact h1 i (by omega)
  have hum : nm_c 16 (um (fun _ => none) nn.1) = nn.1 := by
    rw [nm_c_congr (b := 2 ^ nn.1 - 1) 16 fun i _ => by
      rw [Bool.eq_iff_iff, um_t, nm_full, decide_eq_true_eq]
      exact ⟨fun h => h.1, fun h => ⟨h, rfl⟩⟩, nm_c_full, Nat.min_eq_right hn]
  have hz0 : ∀ i, (0 : Nat).testBit i = true → False := fun i h => by rw [Nat.zero_testBit] at h; cases h
  unfold ma_size
  rw [hmt]
  obtain ⟨c, m', g1, g2, g3, g4, g5, A, Ls, U, k, g6, g7, g8, g9⟩ := sl_is ok nn.1 0 0 ((fun _ => none), zm.2) (by omega) ⟨⟨fun i v h => (by cases h), hz.2⟩, fun x y h => (by cases h), h2, by dsimp only; omega, 0, [], 0, 0, ⟨fun i h => (hz0 i h).elim, fun i h => (hz0 i h).elim, fun L h => (by cases h), fun u x h => (hz0 u h).elim, by
    unfold bo bl_s
    rw [Nat.zero_and, cz_0]
    decide⟩, by rw [Nat.zero_and, cz_0]; exact Nat.le_refl 0, fun x h => (hz0 x h).elim, fun x h => absurd h (Nat.not_lt_zero x)⟩
  have hle : nm_c 16 (um m'.1 nn.1) ≤ k := Nat.le_trans (nm_c_mono 16 fun i _ hi => by
    rw [Nat.testBit_and, hi, Bool.and_true]
    have := um_t.mp hi
    exact (g9 i this.1).resolve_left fun h => h this.2) g7
  have hup := cv_end (c := c) hn hJ hsym g6 (by omega) f
  have hlo := pd_lo hn hirr f g3 (2 ^ nn.1 - 1) (by omega) (nm_d (2 ^ nn.1 - 1) (um m'.1 nn.1)) (fun i hi => by
    rw [nm_d_t, Bool.and_eq_true] at hi
    exact hi.1) (fun x hx => by
    rw [nm_d_t, Bool.and_eq_true, nm_full, decide_eq_true_eq, Bool.not_eq_true'] at hx
    cases hm : m'.1 x with
    | none =>
      rw [um_t.mpr ⟨hx.1, hm⟩] at hx
      cases hx.2
    | some y =>
      refine ⟨y, rfl, ?_⟩
      have hy := g3 x y hm
      rw [nm_d_t, nm_full, decide_eq_true (hJ _ _ hy.2).2, Bool.true_and, Bool.not_eq_true', ← Bool.not_eq_true, um_t]
      rintro ⟨_, h⟩
      rw [hy.1] at h
      cases h)
  have hcnt := nm_c_d (2 ^ nn.1 - 1) (um m'.1 nn.1) 16
  rw [nm_c_full, Nat.min_eq_right hn] at hcnt
  have hsame : nm_c 16 ((2 ^ nn.1 - 1) &&& um m'.1 nn.1) = nm_c 16 (um m'.1 nn.1) := nm_c_congr 16 fun i _ => by
    rw [Bool.eq_iff_iff, Nat.testBit_and, Bool.and_eq_true, nm_full, decide_eq_true_eq]
    exact ⟨fun h => h.2, fun h => ⟨(um_t.mp h).1, h⟩⟩
  have e : c = rf_pr nn.2.2.2 nn.1 f (2 ^ nn.1 - 1) := by omega
  rw [← e]
  refine ⟨m', g1, g2, fun i hi => ?_, g4⟩
  cases hm : m'.1 i with
  | none => rfl
  | some y =>
    have := (hJ _ _ (g3 i y hm).2).1
    omega

/-! greatest, heaviest, apart: the row's first is the reference's best -/
theorem bs_cg {P P' : Nat → Prop} {sz sz' : Nat → Nat} {s : Nat} (h : ∀ t, P t ↔ P' t) (hz : ∀ t, P t → sz t = sz' t) (hb : bs_is P sz s) : bs_is P' sz' s := by
  refine ⟨(h s).mp hb.1, fun t ht => ?_⟩
  have h1 := (h t).mpr ht
  rw [← hz t h1, ← hz s hb.1]
  exact hb.2 t h1
theorem gb_best {n : Nat} {J w : Nat → Nat} {sort s0 : Nat} (hn : n ≤ 16) (hinc : ∀ a b, a < 2 ^ n → b < 2 ^ n → a ≠ b → rf_is n J sort a = true → rf_is n J sort b = true → rf_sz n w sort a = rf_sz n w sort b → in_c a b) (h : bs_is (fun t => t < 2 ^ n ∧ rf_is n J sort t = true) (rf_sz n w sort) s0) : (rf_best n J w sort).map (fun q => q.1) = some s0 := by
  obtain ⟨h1, h2⟩ := bs_loop hn hinc
  cases hb : rf_best n J w sort with
  | none =>
    have := h2 hb s0 h.1.1
    rw [h.1.2] at this
    cases this
  | some q =>
    obtain ⟨s, z⟩ := q
    have := bs_un (h1 s z hb).2 h
    rw [this]
    rfl
theorem gb_in {n s : Nat} : s < 2 ^ n ↔ ∀ i, s.testBit i = true → (2 ^ n - 1).testBit i = true := by
  constructor
  · intro h i hi
    rw [nm_full]
    refine decide_eq_true (Nat.lt_of_not_le fun hx => ?_)
    rw [ct_lt h hx] at hi
    cases hi
  · intro h
    refine Nat.lt_pow_two_of_testBit s fun i hi => ?_
    cases hb : s.testBit i
    · rfl
    · have := h i hb
      rw [nm_full] at this
      have := of_decide_eq_true this
      omega
theorem ws_lt {w : Nat → Nat} {n a b : Nat} (hw : ∀ i, i < n → 1 ≤ w i) (hs : ∀ i, a.testBit i = true → b.testBit i = true) : rf_ws w n a ≤ rf_ws w n b ∧ ((∃ j, j < n ∧ b.testBit j = true ∧ a.testBit j = false) → rf_ws w n a < rf_ws w n b) := by
  unfold rf_ws
  refine mi_it_rel (n := n) (f := fun v t => if a.testBit v then t + w v else t) (g := fun v t => if b.testBit v then t + w v else t) (R := fun i x y => x ≤ y ∧ ((∃ j, j < i ∧ b.testBit j = true ∧ a.testBit j = false) → x < y)) (fun i x y hi h => ?_) n 0 0 0 (by omega) ⟨Nat.le_refl _, fun h => (by obtain ⟨j, h, -⟩ := h; exact absurd h (Nat.not_lt_zero _))⟩
  obtain ⟨h1, h2⟩ := h
  have hwi := hw i hi
  cases ha : a.testBit i
  · cases hb : b.testBit i
    · rw [if_neg (by decide), if_neg (by decide)]
      refine ⟨h1, fun h => h2 ?_⟩
      obtain ⟨j, x1, x2, x3⟩ := h
      have : j ≠ i := fun e => by rw [e, hb] at x2; cases x2
      exact ⟨j, by omega, x2, x3⟩
    · rw [if_neg (by decide), if_pos rfl]
      exact ⟨by omega, fun _ => by omega⟩
  · rw [hs i ha, if_pos rfl, if_pos rfl]
    refine ⟨by omega, fun h => ?_⟩
    have := h2 (by
      obtain ⟨j, x1, x2, x3⟩ := h
      have : j ≠ i := fun e => by rw [e, ha] at x3; cases x3
      exact ⟨j, by omega, x2, x3⟩)
    omega
theorem ws_in {w : Nat → Nat} {n a b : Nat} (hw : ∀ i, i < n → 1 ≤ w i) (ha : a < 2 ^ n) (hb : b < 2 ^ n) (hne : a ≠ b) (he : rf_ws w n a = rf_ws w n b) : in_c a b := by
  have key : ∀ a b, a < 2 ^ n → b < 2 ^ n → a ≠ b → rf_ws w n a = rf_ws w n b → ∃ i, a.testBit i = true ∧ b.testBit i = false := fun a b ha hb hne he => by
    refine Classical.byContradiction fun h => ?_
    have hsub : ∀ i, a.testBit i = true → b.testBit i = true := fun i hi => by
      cases hx : b.testBit i
      · exact (h ⟨i, hi, hx⟩).elim
      · rfl
    have hex : ∃ v, b.testBit v = true ∧ a.testBit v = false := Classical.byContradiction fun h2 => hne (Nat.eq_of_testBit_eq fun i => by
      cases hi : a.testBit i
      · cases hx : b.testBit i
        · rfl
        · exact (h2 ⟨i, hx, hi⟩).elim
      · exact (hsub i hi).symm)
    obtain ⟨v, hv1, hv2⟩ := hex
    have hvn : v < n := Nat.lt_of_not_le fun hx => by rw [ct_lt hb hx] at hv1; cases hv1
    have := (ws_lt hw hsub).2 ⟨v, hvn, hv1, hv2⟩
    omega
  exact ⟨key a b ha hb hne he, key b a hb ha (fun e => hne e.symm) he.symm⟩
theorem ws_0 {w : Nat → Nat} {n : Nat} : rf_ws w n 0 = 0 := by
  unfold rf_ws
  refine mi_it_ind (n := n) (P := fun _ t => t = 0) (fun i t _ h => ?_) n 0 0 (by omega) rfl
  rw [Nat.zero_testBit, if_neg (by decide)]
  exact h
theorem or_new {t v : Nat} (h : t.testBit v = false) : (∀ i, t.testBit i = true → (t ||| 2 ^ v).testBit i = true) ∧ (t ||| 2 ^ v).testBit v = true ∧ t.testBit v = false := by
  refine ⟨fun i hi => by rw [Nat.testBit_or, hi]; rfl, by rw [Nat.testBit_or, nm_2t, decide_eq_true rfl, Bool.or_true], h⟩
theorem cz_mono {A : Nat} (hA : A < 65536) : ∀ t v, (∀ i, t.testBit i = true → A.testBit i = true) → A.testBit v = true → t.testBit v = false → nm_c 16 t < nm_c 16 (t ||| 2 ^ v) := fun t v _ hv h => by
  have hv16 : v < 16 := Nat.lt_of_not_le fun x => by rw [nm_hi hA x] at hv; cases hv
  rw [nm_c_add 16 (fun i _ hi => by
    rw [nm_2t]
    refine decide_eq_false fun e => ?_
    subst e
    rw [h] at hi
    cases hi), nm_c_2, if_pos hv16]
  omega
theorem cz_0 : nm_c 16 0 = 0 := (nm_c_0 16).mpr fun i _ => Nat.zero_testBit i
theorem cz_z {A : Nat} (hA : A < 65536) : ∀ t, (∀ i, t.testBit i = true → A.testBit i = true) → nm_c 16 t = 0 → t = 0 := fun t ht h => nm_e0.mpr fun i => by
  by_cases hi : i < 16
  · exact (nm_c_0 16).mp h i hi
  · cases hb : t.testBit i
    · rfl
    · have := ht i hb
      rw [nm_hi hA (by omega)] at this
      cases this
theorem gb_greatest {n : Nat} {J w : Nat → Nat} {q : (Nat → Nat) × Nat} (hn : n ≤ 16) (hirr : ∀ i, (J i).testBit i = false) (ok : so_ok q) (hq : ∀ x, so_in q x ↔ gq_mx J (2 ^ n - 1) x) : (rf_best n J w 0).map (fun q => q.1) = some (mi_it (fun k b => if nm_c 16 b < nm_c 16 (q.1 k) then q.1 k else b) q.2 0 0) := by
  have hpw : 2 ^ n ≤ 2 ^ 16 := Nat.pow_le_pow_right (by decide) hn
  have hp1 : 1 ≤ 2 ^ n := Nat.one_le_two_pow
  have hA : 2 ^ n - 1 < 65536 := by omega
  refine gb_best hn (fun a b ha hb hne _ _ he => in_size (by omega) (by omega) hne he) (bs_cg (fun t => ?_) (fun t _ => rfl) (gt_best (E := J) hA (cz_mono hA) cz_0 (cz_z hA) ok hq))
  rw [← gb_in]
  constructor
  · exact fun h => ⟨h.2, (mq_cl hirr h.2).mpr h.1⟩
  · exact fun h => ⟨(mq_cl hirr h.1).mp h.2, h.1⟩
theorem gb_heaviest {n : Nat} {J w : Nat → Nat} {q : (Nat → Nat) × Nat} (hn : n ≤ 16) (hw : ∀ i, i < n → 1 ≤ w i) (hirr : ∀ i, (J i).testBit i = false) (ok : so_ok q) (hq : ∀ x, so_in q x ↔ gq_mx J (2 ^ n - 1) x) : (rf_best n J w 1).map (fun q => q.1) = some (mi_it (fun k b => if rf_ws w n b < rf_ws w n (q.1 k) then q.1 k else b) q.2 0 0) := by
  have hpw : 2 ^ n ≤ 2 ^ 16 := Nat.pow_le_pow_right (by decide) hn
  have hp1 : 1 ≤ 2 ^ n := Nat.one_le_two_pow
  have hA : 2 ^ n - 1 < 65536 := by omega
  refine gb_best hn (fun a b ha hb hne _ _ he => ws_in hw ha hb hne he) (bs_cg (fun t => ?_) (fun t _ => rfl) (gt_best (E := J) hA (fun t v ht hv h => ?_) ws_0 (fun t ht h => ?_) ok hq))
  · rw [← gb_in]
    constructor
    · exact fun h => ⟨h.2, (mq_cl hirr h.2).mpr h.1⟩
    · exact fun h => ⟨(mq_cl hirr h.1).mp h.2, h.1⟩
  · obtain ⟨h1, h2, h3⟩ := or_new h
    rw [nm_full] at hv
    exact (ws_lt hw h1).2 ⟨v, of_decide_eq_true hv, h2, h3⟩
  · refine nm_e0.mpr fun i => ?_
    cases hb : t.testBit i
    · rfl
    · have h1 := ht i hb
      rw [nm_full] at h1
      have := (ws_lt (a := 0) (b := t) hw (fun i hi => by rw [Nat.zero_testBit] at hi; cases hi)).2 ⟨i, of_decide_eq_true h1, hb, Nat.zero_testBit i⟩
      have h' : rf_ws w n t = 0 := h
      omega

/-! caches -/
theorem mi_it_up {g f : Nat → Nat} : ∀ k j, mi_it (fun v f => up_N f v (g v)) k 0 f j = if j < k then g j else f j := by
  have key : ∀ k i (f : Nat → Nat) j, mi_it (fun v f => up_N f v (g v)) k i f j = if i ≤ j ∧ j < i + k then g j else f j := by
    intro k
    induction k with
    | zero => intro i f j; rw [mi_it, if_neg (by omega)]
    | succ k ih =>
      intro i f j
      rw [mi_it, ih]
      by_cases h : j = i
      · subst h
        rw [if_neg (by omega), if_pos (by omega), up_N_eq]
      · rw [up_N_ne h]
        by_cases h2 : i + 1 ≤ j ∧ j < i + 1 + k
        · rw [if_pos h2, if_pos (by omega)]
        · rw [if_neg h2, if_neg (by omega)]
  intro k j
  rw [key]
  simp only [Nat.zero_le, true_and, Nat.zero_add]
def cx_ok (fa : Int32) (ch : Nat) (P : Prop) : Prop := (fa = -1 ∨ ∃ c, c ≤ ch ∧ fa = nI c) ∧ (fa = nI ch → P)
theorem cx_new {ch : Nat} {P : Prop} (h : P) : cx_ok (nI ch) ch P := ⟨.inr ⟨ch, Nat.le_refl _, rfl⟩, fun _ => h⟩
theorem cx_old {fa : Int32} {ch : Nat} {P Q : Prop} (hc : ch + 1 < 2 ^ 31) (h : cx_ok fa ch P) : cx_ok fa (ch + 1) Q := by
  refine ⟨?_, fun e => ?_⟩
  · rcases h.1 with h | ⟨c, h1, h2⟩
    · exact .inl h
    · exact .inr ⟨c, by omega, h2⟩
  · rcases h.1 with h | ⟨c, h1, h2⟩
    · rw [h] at e
      exact ((cn_m1e hc).mp e).elim
    · rw [h2, nI_eq (by omega) hc] at e
      omega
def mx_R (E : Nat → Nat) (n : Nat) (z : st_X) : Prop := so_ok (z.2.1, z.2.2.1) ∧ (∀ x, so_in (z.2.1, z.2.2.1) x ↔ gq_mx E (2 ^ n - 1) x) ∧ z.2.2.1 ≤ 324
theorem mx_Rnew {E E' : Nat → Nat} {n : Nat} (hn : n ≤ 16) (hsym : ∀ i j, (E i).testBit j = (E j).testBit i) (hirr : ∀ i, (E i).testBit i = false) (he : ∀ v, v < n → E' v = E v) (f : Nat → Nat) (fa : Int32) (g : Nat → Nat) : mx_R E n (mx_put (g, f, 0, fa) (mx_gl E' 16 0 (2 ^ n - 1) 0)) := by
  rw [mr_gl (E := E') (E' := E) (A := 2 ^ n - 1) (fun v hv => he v (by rw [nm_full] at hv; exact of_decide_eq_true hv)) 16 0 (2 ^ n - 1) 0 (fun v h => h) (fun v h => by rw [Nat.zero_testBit] at h; cases h)]
  exact mr_row hn hsym hirr f
theorem mj_ref {n : st_N} (ok : gn_ok n) {z : st_X} (h : cx_ok z.2.2.2 n.2.1 (mx_R n.2.2.2 n.1 z)) : mx_R n.2.2.2 n.1 (mx_ref_j n z) ∧ (mx_ref_j n z).2.2.2 = nI n.2.1 := by
  unfold mx_ref_j
  by_cases e : z.2.2.2 = nI n.2.1
  · rw [if_pos e]
    exact ⟨h.2 e, e⟩
  · rw [if_neg e]
    refine ⟨mx_Rnew ok.1.1 ok.2.1 ok.2.2.1 (fun v hv => ?_) _ _ _, rfl⟩
    rw [mi_it_up, if_pos (by have := ok.1.1; omega)]
theorem ma_ref {n : st_N} (ok : gn_ok n) {z : st_X} (h : cx_ok z.2.2.2 n.2.1 (mx_R (ap_E n.1 n.2.2.2) n.1 z)) : mx_R (ap_E n.1 n.2.2.2) n.1 (mx_ref_a n z) ∧ (mx_ref_a n z).2.2.2 = nI n.2.1 := by
  unfold mx_ref_a
  by_cases e : z.2.2.2 = nI n.2.1
  · rw [if_pos e]
    exact ⟨h.2 e, e⟩
  · rw [if_neg e]
    refine ⟨mx_Rnew ok.1.1 (ap_sym ok.2.1) ap_irr (fun v hv => ?_) _ _ _, rfl⟩
    rw [mi_it_up, if_pos (by have := ok.1.1; omega)]
    unfold ap_E
    rw [if_pos hv]

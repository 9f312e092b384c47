/-! maximal, heaviest -/
theorem mk_eq {J : Nat → Nat} {n : Nat} (hn : n ≤ 16) (hsym : ∀ i j, (J i).testBit j = (J j).testBit i) (hirr : ∀ i, (J i).testBit i = false) {z : st_X} (h : mx_R J n z) (f : Nat → Nat) : (rf_ml J n f).2 = z.2.2.1 ∧ rf_mc J n = z.2.2.1 ∧ ∀ i, i < z.2.2.1 → z.2.1 i = (rf_ml J n f).1 i := by
  have h1 := rs_ml hn hsym hirr f
  have h2 := so_un z.2.2.1 (rf_ml J n f).2 z.2.1 (rf_ml J n f).1 h.1.2 h1.1.2 (fun x => (h.2.1 x).trans (h1.2.1 x).symm)
  exact ⟨h2.1.symm, h1.2.2.symm.trans h2.1.symm, h2.2⟩
theorem mi_it_app {σ : Type} {f : Nat → σ → σ} {l : Nat} : ∀ k i s, mi_it f (k + l) i s = mi_it f l (i + k) (mi_it f k i s) := by
  intro k
  induction k with
  | zero => intro i s; rw [Nat.zero_add]; rfl
  | succ k ih =>
    intro i s
    rw [show k + 1 + l = (k + l) + 1 by omega, mi_it_s, ih, mi_it_s]
    congr 1
    omega
theorem mc_part {J : Nat → Nat} {n : Nat} (h : rf_mc J n ≤ 324) : ∀ i, i ≤ 2 ^ n → mi_it (fun s t => if rf_mx J n s then t + 1 else t) i 0 0 ≤ 324 := by
  have mono : ∀ l i (t : Nat), t ≤ mi_it (fun s t => if rf_mx J n s then t + 1 else t) l i t := by
    intro l
    induction l with
    | zero => exact fun i t => Nat.le_refl t
    | succ l ih =>
      intro i t
      rw [mi_it_s]
      refine Nat.le_trans ?_ (ih (i + 1) _)
      split
      · exact Nat.le_succ t
      · exact Nat.le_refl t
  intro i hi
  refine Nat.le_trans ?_ h
  unfold rf_mc
  rw [show 2 ^ n = i + (2 ^ n - i) by omega, mi_it_app]
  exact mono _ _ _
theorem hv_fold {f g : Nat → Nat} {c : Nat} (h0 : g 0 = 0) : mi_it (fun k (b : Nat × Nat) => if b.2 < g (f k) then (f k, g (f k)) else b) c 0 (0, 0) = (mi_it (fun k b => if g b < g (f k) then f k else b) c 0 0, g (mi_it (fun k b => if g b < g (f k) then f k else b) c 0 0)) :=
  mi_it_rel (n := c) (R := fun _ (q : Nat × Nat) b => q = (b, g b)) (fun i q b hi e => by
    subst e
    try dsimp only
    split <;> rfl) c 0 (0, 0) 0 (by omega) (by rw [h0])

/-! all maximal cliques, by Bron and Kerbosch -/
theorem mi_it_ind {σ : Type} {f : Nat → σ → σ} {n : Nat} (P : Nat → σ → Prop) (h : ∀ i s, i < n → P i s → P (i + 1) (f i s)) : ∀ k i s, i + k = n → P i s → P n (mi_it f k i s) := by
  intro k
  induction k with
  | zero =>
    intro i s e hp
    have e1 : i = n := by omega
    subst e1
    exact hp
  | succ k ih =>
    intro i s e hp
    rw [mi_it_s]
    exact ih (i + 1) (f i s) (by omega) (h i s (by omega) hp)
def gq_cl (E : Nat → Nat) (m : Nat) : Prop := ∀ i j, m.testBit i = true → m.testBit j = true → i ≠ j → (E i).testBit j = true
def gq_mx (E : Nat → Nat) (A m : Nat) : Prop := gq_cl E m ∧ (∀ i, m.testBit i = true → A.testBit i = true) ∧ ∀ v, A.testBit v = true → m.testBit v = false → ¬ gq_cl E (m ||| 2 ^ v)
def mx_ml (E : Nat → Nat) (cd op : Nat) : Nat := mi_it (fun v b => if cd.testBit v = true ∧ nm_c 16 (b &&& op) < nm_c 16 (E v &&& op) then E v else b) 16 0 0
theorem mx_ml_is (E : Nat → Nat) (cd op : Nat) : (mx_ml E cd op = 0 ∨ ∃ u, cd.testBit u = true ∧ mx_ml E cd op = E u) ∧ ∀ v, v < 16 → cd.testBit v = true → nm_c 16 (E v &&& op) ≤ nm_c 16 (mx_ml E cd op &&& op) := by
  unfold mx_ml
  refine mi_it_ind (n := 16) (fun i b => (b = 0 ∨ ∃ u, cd.testBit u = true ∧ b = E u) ∧ ∀ v, v < i → cd.testBit v = true → nm_c 16 (E v &&& op) ≤ nm_c 16 (b &&& op)) ?_ 16 0 0 (by decide) ⟨Or.inl rfl, fun v h => absurd h (Nat.not_lt_zero v)⟩
  rintro i b hi ⟨h1, h2⟩
  split
  · rename_i hc
    refine ⟨Or.inr ⟨i, hc.1, rfl⟩, fun v hv hcv => ?_⟩
    by_cases hvi : v = i
    · subst hvi
      exact Nat.le_refl _
    · have := h2 v (by omega) hcv
      omega
  · rename_i hc
    refine ⟨h1, fun v hv hcv => ?_⟩
    by_cases hvi : v = i
    · subst hvi
      exact Nat.not_lt.mp fun hl => hc ⟨hcv, hl⟩
    · exact h2 v (by omega) hcv
def mx_gl (E : Nat → Nat) : Nat → Nat → Nat → Nat → List Nat
  | 0, set, op, sh => if op = 0 ∧ sh = 0 then [set] else []
  | k + 1, set, op, sh => if op = 0 then (if sh = 0 then [set] else []) else (mi_it (fun v (q : Nat × Nat × List Nat) => if (nm_d op (mx_ml E (op ||| sh) op)).testBit v = true then (nm_d q.1 (2 ^ v), q.2.1 ||| 2 ^ v, q.2.2 ++ mx_gl E k (set ||| 2 ^ v) (q.1 &&& E v) (q.2.1 &&& E v)) else q) 16 0 (op, sh, [])).2.2
/-- the most maximal cliques that so many nodes can have (Moon and Moser) -/
def mg_t (p : Nat) : Nat := [1, 1, 2, 3, 4, 6, 9, 12, 18, 27, 36, 54, 81, 108, 162, 243, 324].getD p 0
theorem mg_mono : ∀ p, p < 17 → ∀ q, q ≤ p → mg_t q ≤ mg_t p := by decide +kernel
theorem mg_step : ∀ p, p < 17 → ∀ q, q < p → (p - q) * mg_t q ≤ mg_t p := by decide +kernel
section mx_bk
variable {E : Nat → Nat} {A : Nat}
theorem gq_add {set v : Nat} (hsym : ∀ i j, (E i).testBit j = (E j).testBit i) (h : gq_cl E set) (hv : ∀ u, set.testBit u = true → u ≠ v → (E u).testBit v = true) : gq_cl E (set ||| 2 ^ v) := by
  intro i j hi hj hij
  rw [Nat.testBit_or, nm_2t] at hi hj
  simp only [Bool.or_eq_true, decide_eq_true_eq] at hi hj
  rcases hi with hi | hi <;> rcases hj with hj | hj
  · exact h i j hi hj hij
  · subst hj
    exact hv i hi hij
  · subst hi
    rw [hsym]
    exact hv j hj (Ne.symm hij)
  · subst hi
    exact (hij hj).elim
theorem gq_adj {set v : Nat} (h : gq_cl E (set ||| 2 ^ v)) : ∀ u, set.testBit u = true → u ≠ v → (E u).testBit v = true := by
  intro u hu huv
  refine h u v ?_ ?_ huv
  · rw [Nat.testBit_or, hu]
    rfl
  · rw [Nat.testBit_or, nm_2t]
    simp
/-- what the rest of a clique is made of -/
theorem mx_rest {set op sh C : Nat} (hcn : ∀ v, (op.testBit v = true ∨ sh.testBit v = true) ↔ (A.testBit v = true ∧ set.testBit v = false ∧ ∀ u, set.testBit u = true → (E u).testBit v = true)) (hC : gq_mx E A C) (hs : ∀ i, set.testBit i = true → C.testBit i = true) {v : Nat} (h1 : C.testBit v = true) (h2 : set.testBit v = false) : op.testBit v = true ∨ sh.testBit v = true := by
  refine (hcn v).mpr ⟨hC.2.1 v h1, h2, fun u hu => hC.1 u v (hs u hu) h1 fun e => ?_⟩
  subst e
  rw [h2] at hu
  cases hu
theorem mx_leaf (hsym : ∀ i j, (E i).testBit j = (E j).testBit i) {set op sh : Nat} (hcl : gq_cl E set) (hsA : ∀ i, set.testBit i = true → A.testBit i = true) (hcn : ∀ v, (op.testBit v = true ∨ sh.testBit v = true) ↔ (A.testBit v = true ∧ set.testBit v = false ∧ ∀ u, set.testBit u = true → (E u).testBit v = true)) (hop : op = 0) :
    (∀ C, C ∈ (if sh = 0 then [set] else []) ↔ (gq_mx E A C ∧ (∀ i, set.testBit i = true → C.testBit i = true) ∧ ∀ i, sh.testBit i = true → C.testBit i = false)) ∧ (if sh = 0 then [set] else []).Nodup ∧ (if sh = 0 then [set] else []).length ≤ 1 := by
  subst hop
  have e : ∀ C, gq_mx E A C → (∀ i, set.testBit i = true → C.testBit i = true) → (∀ i, sh.testBit i = true → C.testBit i = false) → C = set := by
    intro C h1 h2 h3
    apply Nat.eq_of_testBit_eq
    intro i
    cases hi : set.testBit i
    · cases hc : C.testBit i
      · rfl
      · rcases mx_rest hcn h1 h2 hc hi with h | h
        · simp at h
        · rw [h3 i h] at hc
          cases hc
    · exact h2 i hi
  by_cases h0 : sh = 0
  · subst h0
    rw [if_pos rfl]
    refine ⟨fun C => ?_, by simp, by simp⟩
    rw [List.mem_singleton]
    constructor
    · rintro rfl
      refine ⟨⟨hcl, hsA, fun v hv hs hc => ?_⟩, fun i h => h, fun i h => by simp at h⟩
      have := (hcn v).mpr ⟨hv, hs, fun u hu => gq_adj hc u hu fun e => by subst e; rw [hs] at hu; cases hu⟩
      simp at this
    · rintro ⟨h1, h2, h3⟩
      exact e C h1 h2 h3
  · rw [if_neg h0]
    refine ⟨fun C => ?_, by simp, by simp⟩
    constructor
    · intro h
      cases h
    · rintro ⟨h1, h2, h3⟩
      have hC := e C h1 h2 h3
      subst hC
      obtain ⟨v, hv⟩ := nm_n0 h0
      obtain ⟨a1, a2, a3⟩ := (hcn v).mp (Or.inr hv)
      exact absurd (gq_add hsym h1.1 fun u hu _ => a3 u hu) (h1.2.2 v a1 a2)
theorem mx_gl_is (hsym : ∀ i j, (E i).testBit j = (E j).testBit i) (hirr : ∀ i, (E i).testBit i = false) (hA : A < 65536) : ∀ k set op sh : Nat, gq_cl E set → (∀ i, set.testBit i = true → A.testBit i = true) → (∀ v, (op.testBit v = true ∨ sh.testBit v = true) ↔ (A.testBit v = true ∧ set.testBit v = false ∧ ∀ u, set.testBit u = true → (E u).testBit v = true)) → (∀ v, op.testBit v = true → sh.testBit v = false) → nm_c 16 op ≤ k →
    (∀ C, C ∈ mx_gl E k set op sh ↔ (gq_mx E A C ∧ (∀ i, set.testBit i = true → C.testBit i = true) ∧ ∀ i, sh.testBit i = true → C.testBit i = false)) ∧ (mx_gl E k set op sh).Nodup ∧ (mx_gl E k set op sh).length ≤ mg_t (nm_c 16 op) := by
  have hlow : ∀ set op sh : Nat, (∀ v, (op.testBit v = true ∨ sh.testBit v = true) ↔ (A.testBit v = true ∧ set.testBit v = false ∧ ∀ u, set.testBit u = true → (E u).testBit v = true)) → ∀ v, op.testBit v = true → v < 16 := by
    intro set op sh hcn v hv
    refine Nat.not_le.mp fun h16 => ?_
    have := ((hcn v).mp (Or.inl hv)).1
    rw [nm_hi hA h16] at this
    cases this
  intro k
  induction k with
  | zero =>
    intro set op sh hcl hsA hcn hd hk
    have hop : op = 0 := by
      refine nm_e0.mpr fun i => ?_
      cases hb : op.testBit i
      · rfl
      · have h16 := hlow set op sh hcn i hb
        rw [(nm_c_0 16).mp (Nat.le_zero.mp hk) i h16] at hb
        cases hb
    have h := mx_leaf hsym hcl hsA hcn hop
    subst hop
    unfold mx_gl
    simp only [true_and]
    exact ⟨h.1, h.2.1, h.2.2⟩
  | succ k ih =>
    intro set op sh hcl hsA hcn hd hk
    unfold mx_gl
    by_cases hop : op = 0
    · have h := mx_leaf hsym hcl hsA hcn hop
      rw [if_pos hop]
      subst hop
      exact ⟨h.1, h.2.1, h.2.2⟩
    · rw [if_neg hop]
      obtain ⟨hb, hmax⟩ := mx_ml_is E (op ||| sh) op
      generalize mx_ml E (op ||| sh) op = b at hb hmax
      have hT : ∀ v, (nm_d op b).testBit v = true ↔ (op.testBit v = true ∧ b.testBit v = false) := by
        intro v
        rw [nm_d_t]
        simp
      generalize nm_d op b = T at hT
      have hlen : nm_c 16 op ≤ 16 := nm_c_le 16 op
      have key := mi_it_ind (n := 16) (f := fun v (q : Nat × Nat × List Nat) => if T.testBit v = true then (nm_d q.1 (2 ^ v), q.2.1 ||| 2 ^ v, q.2.2 ++ mx_gl E k (set ||| 2 ^ v) (q.1 &&& E v) (q.2.1 &&& E v)) else q)
        (fun i q => (∀ v, q.1.testBit v = true ↔ (op.testBit v = true ∧ ¬ (v < i ∧ T.testBit v = true))) ∧ (∀ v, q.2.1.testBit v = true ↔ (sh.testBit v = true ∨ (v < i ∧ T.testBit v = true))) ∧ (∀ C, C ∈ q.2.2 ↔ (gq_mx E A C ∧ (∀ i, set.testBit i = true → C.testBit i = true) ∧ (∀ i, sh.testBit i = true → C.testBit i = false) ∧ ∃ v, v < i ∧ T.testBit v = true ∧ C.testBit v = true)) ∧ q.2.2.Nodup ∧ q.2.2.length ≤ nm_c i T * mg_t (nm_c 16 (b &&& op))) ?_ 16 0 (op, sh, []) (by decide) ?_
      · obtain ⟨-, -, h3, h4, h5⟩ := key
        refine ⟨fun C => ?_, h4, ?_⟩
        · rw [h3]
          constructor
          · rintro ⟨a1, a2, a3, -⟩
            exact ⟨a1, a2, a3⟩
          · rintro ⟨a1, a2, a3⟩
            refine ⟨a1, a2, a3, ?_⟩
            -- the pivot
            refine Classical.byContradiction fun hno => ?_
            have hin : ∀ v, C.testBit v = true → set.testBit v = false → op.testBit v = true ∧ b.testBit v = true := by
              intro v h1 h2
              rcases mx_rest hcn a1 a2 h1 h2 with h | h
              · refine ⟨h, ?_⟩
                cases hbv : b.testBit v
                · exact (hno ⟨v, hlow set op sh hcn v h, (hT v).mpr ⟨h, hbv⟩, h1⟩).elim
                · rfl
              · rw [a3 v h] at h1
                cases h1
            rcases hb with hb | ⟨u, hu, hb⟩
            · obtain ⟨v, hv⟩ := nm_n0 hop
              obtain ⟨c1, c2, c3⟩ := (hcn v).mp (Or.inl hv)
              have hCs : ∀ w, C.testBit w = true → set.testBit w = true := by
                intro w hw
                cases hs : set.testBit w
                · have := (hin w hw hs).2
                  rw [hb] at this
                  simp at this
                · rfl
              have hvC : C.testBit v = false := by
                cases hc : C.testBit v
                · rfl
                · rw [hCs v hc] at c2
                  cases c2
              exact a1.2.2 v c1 hvC (gq_add hsym a1.1 fun w hw _ => c3 w (hCs w hw))
            · rw [Nat.testBit_or, Bool.or_eq_true] at hu
              obtain ⟨c1, c2, c3⟩ := (hcn u).mp hu
              have hadj : ∀ w, C.testBit w = true → w ≠ u → (E w).testBit u = true := by
                intro w hw _
                cases hs : set.testBit w
                · have := (hin w hw hs).2
                  rw [hb, hsym] at this
                  exact this
                · exact c3 w hs
              cases hc : C.testBit u
              · exact a1.2.2 u c1 hc (gq_add hsym a1.1 hadj)
              · have := (hin u hc c2).2
                rw [hb, hirr] at this
                cases this
        · refine Nat.le_trans h5 ?_
          have e1 := nm_c_d op b 16
          have hTd : nm_c 16 T = nm_c 16 (nm_d op b) := nm_c_congr 16 fun i _ => by
            rw [nm_d_t]
            cases ht : T.testBit i
            · cases ho : op.testBit i
              · rfl
              · cases hb2 : b.testBit i
                · rw [(hT i).mpr ⟨ho, hb2⟩] at ht
                  cases ht
                · rfl
            · obtain ⟨x1, x2⟩ := (hT i).mp ht
              rw [x1, x2]
              rfl
          have e2 : nm_c 16 (b &&& op) = nm_c 16 (op &&& b) := by rw [Nat.and_comm]
          by_cases h0 : nm_c 16 T = 0
          · rw [h0, Nat.zero_mul]
            exact Nat.zero_le _
          have hpos : 0 < nm_c 16 T := Nat.pos_of_ne_zero h0
          rw [hTd, show nm_c 16 (nm_d op b) = nm_c 16 op - nm_c 16 (b &&& op) by omega]
          exact mg_step (nm_c 16 op) (by omega) (nm_c 16 (b &&& op)) (by omega)
      · rintro i ⟨so, ns, l⟩ hi ⟨p1, p2, p3, p4, p5⟩
        dsimp only at p1 p2 p3 p4 p5 ⊢
        by_cases hTi : T.testBit i = true
        · rw [if_pos hTi]
          dsimp only
          obtain ⟨hopi, hbi⟩ := (hT i).mp hTi
          obtain ⟨c1, c2, c3⟩ := (hcn i).mp (Or.inl hopi)
          have q1 : gq_cl E (set ||| 2 ^ i) := gq_add hsym hcl fun u hu _ => c3 u hu
          have hset : ∀ w, (set ||| 2 ^ i).testBit w = true ↔ (set.testBit w = true ∨ w = i) := by
            intro w
            rw [Nat.testBit_or, nm_2t, Bool.or_eq_true, decide_eq_true_eq]
            exact or_congr Iff.rfl eq_comm
          have hop' : ∀ w, (so &&& E i).testBit w = true ↔ (op.testBit w = true ∧ ¬ (w < i ∧ T.testBit w = true)) ∧ (E i).testBit w = true := by
            intro w
            rw [Nat.testBit_and, Bool.and_eq_true, p1]
          have hsh' : ∀ w, (ns &&& E i).testBit w = true ↔ (sh.testBit w = true ∨ (w < i ∧ T.testBit w = true)) ∧ (E i).testBit w = true := by
            intro w
            rw [Nat.testBit_and, Bool.and_eq_true, p2]
          obtain ⟨r1, r2, r3⟩ := ih (set ||| 2 ^ i) (so &&& E i) (ns &&& E i) q1
            (fun w hw => by
              rcases (hset w).mp hw with h | h
              · exact hsA w h
              · subst h
                exact c1)
            (fun w => by
              rw [hop', hsh']
              constructor
              · intro h
                have hor : op.testBit w = true ∨ sh.testBit w = true := by
                  rcases h with ⟨⟨h, -⟩, -⟩ | ⟨h | ⟨-, h⟩, -⟩
                  · exact Or.inl h
                  · exact Or.inr h
                  · exact Or.inl ((hT w).mp h).1
                have hE : (E i).testBit w = true := by
                  rcases h with ⟨-, h⟩ | ⟨-, h⟩ <;> exact h
                obtain ⟨d1, d2, d3⟩ := (hcn w).mp hor
                have hwi : w ≠ i := by
                  intro e
                  subst e
                  rw [hirr] at hE
                  cases hE
                refine ⟨d1, ?_, fun u hu => ?_⟩
                · cases hc : (set ||| 2 ^ i).testBit w
                  · rfl
                  · rcases (hset w).mp hc with h | h
                    · rw [d2] at h
                      cases h
                    · exact (hwi h).elim
                · rcases (hset u).mp hu with h | h
                  · exact d3 u h
                  · subst h
                    exact hE
              · rintro ⟨d1, d2, d3⟩
                have hE := d3 i ((hset i).mpr (Or.inr rfl))
                have d2' : set.testBit w = false := by
                  cases hc : set.testBit w
                  · rfl
                  · rw [(hset w).mpr (Or.inl hc)] at d2
                    cases d2
                have hor := (hcn w).mpr ⟨d1, d2', fun u hu => d3 u ((hset u).mpr (Or.inl hu))⟩
                by_cases ht : w < i ∧ T.testBit w = true
                · exact Or.inr ⟨Or.inr ht, hE⟩
                · rcases hor with h | h
                  · exact Or.inl ⟨⟨h, ht⟩, hE⟩
                  · exact Or.inr ⟨Or.inl h, hE⟩)
            (fun w hw => by
              obtain ⟨⟨h1, h2⟩, -⟩ := (hop' w).mp hw
              cases hc : (ns &&& E i).testBit w
              · rfl
              · rcases ((hsh' w).mp hc).1 with h | h
                · rw [hd w h1] at h
                  cases h
                · exact (h2 h).elim)
            (by
              have hm : nm_c 16 ((so &&& E i) ||| 2 ^ i) ≤ nm_c 16 op := nm_c_mono 16 fun w _ hw => by
                rw [Nat.testBit_or, Bool.or_eq_true, nm_2t, decide_eq_true_eq] at hw
                rcases hw with hw | hw
                · exact ((hop' w).mp hw).1.1
                · subst hw
                  exact hopi
              rw [nm_c_add 16 (fun w _ hw => by
                rw [nm_2t]
                refine decide_eq_false fun e => ?_
                subst e
                have := ((hop' i).mp hw).2
                rw [hirr] at this
                cases this), nm_c_2, if_pos hi] at hm
              omega)
          refine ⟨fun w => ?_, fun w => ?_, fun C => ?_, ?_, ?_⟩
          · rw [nm_d_t, nm_2t, Bool.and_eq_true, p1, Bool.not_eq_true', decide_eq_false_iff_not]
            constructor
            · rintro ⟨⟨h1, h2⟩, h3⟩
              refine ⟨h1, fun h => h2 ⟨?_, h.2⟩⟩
              have : w ≠ i := fun e => h3 e.symm
              omega
            · rintro ⟨h1, h2⟩
              refine ⟨⟨h1, fun h => h2 ⟨by omega, h.2⟩⟩, fun e => h2 ⟨by omega, ?_⟩⟩
              subst e
              exact hTi
          · rw [Nat.testBit_or, nm_2t, Bool.or_eq_true, p2, decide_eq_true_eq]
            constructor
            · rintro ((h | h) | h)
              · exact Or.inl h
              · exact Or.inr ⟨by omega, h.2⟩
              · subst h
                exact Or.inr ⟨by omega, hTi⟩
            · rintro (h | h)
              · exact Or.inl (Or.inl h)
              · by_cases hwi : w = i
                · exact Or.inr hwi.symm
                · exact Or.inl (Or.inr ⟨by omega, h.2⟩)
          · rw [List.mem_append, p3, r1]
            constructor
            · rintro (⟨h1, h2, h3, v, h4, h5⟩ | ⟨h1, h2, h3⟩)
              · exact ⟨h1, h2, h3, v, by omega, h5⟩
              · have hCi := h2 i ((hset i).mpr (Or.inr rfl))
                refine ⟨h1, fun w hw => h2 w ((hset w).mpr (Or.inl hw)), fun w hw => ?_, i, by omega, hTi, hCi⟩
                cases hc : C.testBit w
                · rfl
                · have hwi : i ≠ w := by
                    intro e
                    subst e
                    rw [hd i hopi] at hw
                    cases hw
                  have := h3 w ((hsh' w).mpr ⟨Or.inl hw, h1.1 i w hCi hc hwi⟩)
                  rw [hc] at this
                  cases this
            · rintro ⟨h1, h2, h3, v, h4, h5, h6⟩
              by_cases hex : ∃ v, v < i ∧ T.testBit v = true ∧ C.testBit v = true
              · exact Or.inl ⟨h1, h2, h3, hex⟩
              · have hvi : v = i := by
                  refine Classical.byContradiction fun hne => hex ⟨v, by omega, h5, h6⟩
                subst hvi
                refine Or.inr ⟨h1, fun w hw => ?_, fun w hw => ?_⟩
                · rcases (hset w).mp hw with h | h
                  · exact h2 w h
                  · subst h
                    exact h6
                · rcases ((hsh' w).mp hw).1 with h | h
                  · exact h3 w h
                  · cases hc : C.testBit w
                    · rfl
                    · exact (hex ⟨w, h.1, h.2, hc⟩).elim
          · rw [List.nodup_append]
            refine ⟨p4, r2, fun C hC C' hC' e => ?_⟩
            subst e
            obtain ⟨h1, h2, h3, v, h4, h5, h6⟩ := (p3 C).mp hC
            obtain ⟨h1', h2', h3'⟩ := (r1 C).mp hC'
            have hCi := h2' i ((hset i).mpr (Or.inr rfl))
            have := h3' v ((hsh' v).mpr ⟨Or.inr ⟨h4, h5⟩, h1.1 i v hCi h6 (by omega)⟩)
            rw [h6] at this
            cases this
          · rw [List.length_append]
            show _ ≤ (nm_c i T + (T.testBit i).toNat) * _
            rw [hTi, Nat.add_mul]
            have hm1 : nm_c 16 (so &&& E i) ≤ nm_c 16 (b &&& op) := by
              refine Nat.le_trans (nm_c_mono 16 (b := E i &&& op) fun w _ hw => ?_) (hmax i hi (by rw [Nat.testBit_or, hopi]; rfl))
              obtain ⟨⟨h1, -⟩, h2⟩ := (hop' w).mp hw
              rw [Nat.testBit_and, h1, h2]
              rfl
            have hm2 := mg_mono (nm_c 16 (b &&& op)) (by have := nm_c_le 16 (b &&& op); omega) _ hm1
            simp only [Bool.toNat_true, Nat.one_mul]
            omega
        · rw [if_neg hTi]
          have hne : ∀ v, v < i + 1 ∧ T.testBit v = true ↔ v < i ∧ T.testBit v = true := by
            intro v
            constructor
            · rintro ⟨h1, h2⟩
              refine ⟨?_, h2⟩
              have : v ≠ i := fun e => hTi (e ▸ h2)
              omega
            · rintro ⟨h1, h2⟩
              exact ⟨by omega, h2⟩
          refine ⟨fun v => by rw [p1, hne], fun v => by rw [p2, hne], fun C => ?_, p4, ?_⟩
          · rw [p3]
            refine and_congr Iff.rfl (and_congr Iff.rfl (and_congr Iff.rfl ?_))
            constructor
            · rintro ⟨v, h1, h2⟩
              exact ⟨v, by omega, h2⟩
            · rintro ⟨v, h1, h2, h3⟩
              exact ⟨v, ((hne v).mp ⟨h1, h2⟩).1, h2, h3⟩
          · refine Nat.le_trans p5 (Nat.mul_le_mul_right _ ?_)
            exact Nat.le_add_right _ _
      · refine ⟨fun v => ?_, fun v => ?_, fun C => ?_, ?_, ?_⟩
        · simp
        · simp
        · simp
        · simp
        · simp
end mx_bk

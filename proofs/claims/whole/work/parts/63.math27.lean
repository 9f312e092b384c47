/-! the search for a path: bending back -/
theorem up_O_eq {f : Nat → Option Nat} {k : Nat} {x : Option Nat} : up_O f k x k = x := by unfold up_O; rw [if_pos rfl]
theorem up_O_ne {f : Nat → Option Nat} {k j : Nat} {x : Option Nat} (h : j ≠ k) : up_O f k x j = f j := by unfold up_O; rw [if_neg h]
def sp (mt fr : Nat → Option Nat) (bs : Nat → Nat) (s : Nat) : Nat → List (Nat × Nat) → Nat → Prop
  | v, [], z => v = z ∧ bs v = s
  | v, p :: S, z => p.1 = v ∧ mt v = some p.2 ∧ bs v ≠ s ∧ ∃ u, fr p.2 = some u ∧ sp mt fr bs s u S z
def bd : List (Nat × Nat) → Option Nat → (Nat → Option Nat) → Nat → Option Nat
  | [], _, f => f
  | p :: S, nx, f => bd S (some p.2) (up_O f p.1 nx)
def bt (bs : Nat → Nat) : List (Nat × Nat) → Nat → Nat
  | [], b => b
  | p :: S, b => bt bs S ((b ||| 2 ^ bs p.1) ||| 2 ^ bs p.2)
def bn (F : Nat → Option Nat) : List (Nat × Nat) → Option Nat → Prop
  | [], _ => True
  | p :: S, nx => F p.1 = nx ∧ bn F S (some p.2)
def rv : List (Nat × Nat) → List (Nat × Nat) → List (Nat × Nat)
  | [], l => l
  | p :: S, l => rv S ((p.2, p.1) :: l)
theorem bd_ne : ∀ S nx f x, (∀ p, p ∈ S → p.1 ≠ x) → bd S nx f x = f x := by
  intro S
  induction S with
  | nil => intro nx f x _; rfl
  | cons p S ih =>
    intro nx f x h
    rw [bd, ih _ _ _ fun q hq => h q (List.mem_cons_of_mem p hq), up_O_ne fun e => h p List.mem_cons_self e.symm]
theorem bd_bn : ∀ S nx f, S.Pairwise gR → bn (bd S nx f) S nx := by
  intro S
  induction S with
  | nil => intro _ _ _; trivial
  | cons p S ih =>
    intro nx f h
    have h1 := List.pairwise_cons.mp h
    refine ⟨?_, ih _ _ h1.2⟩
    rw [bd, bd_ne S _ _ _ fun q hq e => (h1.1 q hq).1 e.symm, up_O_eq]
theorem bn_cg {F F' : Nat → Option Nat} : ∀ S nx, (∀ p, p ∈ S → F' p.1 = F p.1) → bn F S nx → bn F' S nx := by
  intro S
  induction S with
  | nil => intro _ _ _; trivial
  | cons p S ih =>
    intro nx h h1
    exact ⟨(h p List.mem_cons_self).trans h1.1, ih _ (fun q hq => h q (List.mem_cons_of_mem p hq)) h1.2⟩
theorem bt_t {bs : Nat → Nat} : ∀ S b g, (bt bs S b).testBit g = true ↔ (b.testBit g = true ∨ ∃ p, p ∈ S ∧ (g = bs p.1 ∨ g = bs p.2)) := by
  intro S
  induction S with
  | nil => exact fun b g => ⟨fun h => .inl h, fun h => h.elim id fun ⟨p, h, _⟩ => (by cases h)⟩
  | cons p S ih =>
    intro b g
    rw [bt, ih, Nat.testBit_or, Nat.testBit_or, Bool.or_eq_true, Bool.or_eq_true, nm_2t, nm_2t, decide_eq_true_eq, decide_eq_true_eq]
    constructor
    · rintro (((h | h) | h) | ⟨q, hq, h⟩)
      · exact .inl h
      · exact .inr ⟨p, List.mem_cons_self, .inl h.symm⟩
      · exact .inr ⟨p, List.mem_cons_self, .inr h.symm⟩
      · exact .inr ⟨q, List.mem_cons_of_mem p hq, h⟩
    · rintro (h | ⟨q, hq, h⟩)
      · exact .inl (.inl (.inl h))
      · rcases List.mem_cons.mp hq with e | e
        · rw [e] at h
          rcases h with h | h
          · exact .inl (.inl (.inr h.symm))
          · exact .inl (.inr h.symm)
        · exact .inr ⟨q, e, h⟩
theorem rv_m : ∀ A l q, q ∈ rv A l ↔ (q ∈ l ∨ ∃ p, p ∈ A ∧ q = (p.2, p.1)) := by
  intro A
  induction A with
  | nil => exact fun l q => ⟨fun h => .inl h, fun h => h.elim id fun ⟨p, h, _⟩ => (by cases h)⟩
  | cons a A ih =>
    intro l q
    rw [rv, ih, List.mem_cons]
    constructor
    · rintro ((h | h) | ⟨p, h1, h2⟩)
      · exact .inr ⟨a, List.mem_cons_self, h⟩
      · exact .inl h
      · exact .inr ⟨p, List.mem_cons_of_mem a h1, h2⟩
    · rintro (h | ⟨p, h1, h2⟩)
      · exact .inl (.inr h)
      · rcases List.mem_cons.mp h1 with e | e
        · rw [e] at h2; exact .inl (.inl h2)
        · exact .inr ⟨p, e, h2⟩
theorem rv_pw {mt : Nat → Option Nat} {J : Nat → Nat} (hv : mv J mt) : ∀ A l, A.Pairwise gR → (∀ p, p ∈ A → mt p.1 = some p.2) → l.Pairwise gR → (∀ p q, p ∈ A → q ∈ l → p.2 ≠ q.1 ∧ p.2 ≠ q.2) → (rv A l).Pairwise gR := by
  intro A
  induction A with
  | nil => intro l _ _ h _; exact h
  | cons a A ih =>
    intro l h1 hm h2 h3
    have h4 := List.pairwise_cons.mp h1
    rw [rv]
    refine ih _ h4.2 (fun p hp => hm p (List.mem_cons_of_mem a hp)) (List.pairwise_cons.mpr ⟨fun q hq => h3 a q List.mem_cons_self hq, h2⟩) (fun p q hp hq => ?_)
    rcases List.mem_cons.mp hq with e | e
    · rw [e]
      have h5 := h4.1 p hp
      refine ⟨fun e2 => ?_, fun e2 => h5.2 e2.symm⟩
      have e2 : p.2 = a.2 := e2
      have m1 := (hv _ _ (hm p (List.mem_cons_of_mem a hp))).1
      have m2 := (hv _ _ (hm a List.mem_cons_self)).1
      rw [e2, m2] at m1
      exact h5.1 (Option.some.inj m1)
    · exact h3 p q (List.mem_cons_of_mem a hp) e
/-- the walk of the code -/
theorem bb_is {mt fr : Nat → Option Nat} {bs : Nat → Nat} {s : Nat} : ∀ S k f bl v nx z, sp mt fr bs s v S z → S.Pairwise gR → (∀ p, p ∈ S → f p.2 = fr p.2 ∧ p.1 ≠ p.2) → S.length ≤ k → ma_bb mt bs s k f bl (some v) nx = (bd S nx f, bt bs S bl) := by
  intro S
  induction S with
  | nil =>
    intro k f bl v nx z hs _ _ _
    cases k with
    | zero => rfl
    | succ k => rw [ma_bb, if_pos hs.2]; rfl
  | cons p S ih =>
    intro k f bl v nx z hs hp hf hk
    obtain ⟨h1, h2, h3, u, h4, h5⟩ := hs
    cases k with
    | zero => exact absurd hk (by simp)
    | succ k =>
      have hp1 := List.pairwise_cons.mp hp
      have hf1 := hf p List.mem_cons_self
      subst h1
      rw [ma_bb, if_neg h3, h2]
      show ma_bb mt bs s k (up_O f p.1 nx) ((bl ||| 2 ^ bs p.1) ||| 2 ^ bs p.2) (up_O f p.1 nx p.2) (some p.2) = _
      rw [up_O_ne (fun e => hf1.2 e.symm), hf1.1, h4]
      exact ih k _ _ u _ z h5 hp1.2 (fun q hq => by
        have hq1 := hf q (List.mem_cons_of_mem p hq)
        refine ⟨?_, hq1.2⟩
        rw [up_O_ne (fun e => (hp1.1 q hq).2 e.symm)]
        exact hq1.1) (by simpa using hk)
section
variable {J : Nat → Nat} {n : Nat} {mt : Nat → Option Nat} {r : Nat} {d : Nat → Nat} {fr : Nat → Option Nat} {bs : Nat → Nat} {Q : Nat}
theorem gp_link : ∀ L v p, gp mt fr bs Q r v L → p ∈ L → ∃ u, fr p.2 = some u ∧ ((Q.testBit p.2 = true ∧ bs p.2 = bs p.1 ∧ bs u = bs p.1) ∨ (Q.testBit p.2 = false ∧ bs p.1 = p.1)) := by
  intro L
  induction L with
  | nil => intro v p _ h; cases h
  | cons a L ih =>
    intro v p h hp
    obtain ⟨h1, h2, h3, u, h4, h5, h6⟩ := h
    rcases List.mem_cons.mp hp with e | e
    · rw [e]
      subst h1
      exact ⟨u, h4, h5⟩
    · exact ih u p h6 e
theorem sp_split (hr : mt r = none) (h : si J n mt r d fr bs Q) {s : Nat} : ∀ L v, gp mt fr bs Q r v L → ac (uq mt fr bs) (bs v) s → ∃ S T z, L = S ++ T ∧ sp mt fr bs s v S z ∧ gp mt fr bs Q r z T := by
  intro L
  induction L with
  | nil =>
    intro v hg ha
    have e : v = r := hg
    refine ⟨[], [], v, rfl, ⟨rfl, ?_⟩, hg⟩
    rw [e, h.rt.2] at ha ⊢
    rcases ac_c ha with e' | ⟨e', h1, _⟩
    · exact e'
    · rw [uq_r hr] at h1; cases h1
  | cons p L ih =>
    intro v hg ha
    by_cases hs : bs v = s
    · exact ⟨[], p :: L, v, rfl, ⟨rfl, hs⟩, hg⟩
    · obtain ⟨h1, h2, h3, u, h4, h5, h6⟩ := hg
      have ha' : ac (uq mt fr bs) (bs u) s := by
        rcases h5 with h5 | h5
        · rw [h5.2.2]; exact ha
        · rcases ac_c ha with e | ⟨e, e1, e2⟩
          · exact absurd e hs
          · rw [h5.2] at e1
            have : uq mt fr bs v = some (bs u) := by
              unfold uq
              rw [h2]
              show (fr p.2).map bs = _
              rw [h4]
              rfl
            rw [this] at e1
            cases e1
            exact e2
      obtain ⟨S, T, z, e1, e2, e3⟩ := ih u h6 ha'
      exact ⟨p :: S, T, z, by rw [e1]; rfl, ⟨h1, h2, hs, u, h4, e2⟩, e3⟩
theorem sp_ac (h : si J n mt r d fr bs Q) {s : Nat} : ∀ S T v z, sp mt fr bs s v S z → gp mt fr bs Q r v (S ++ T) → ac (uq mt fr bs) (bs v) s ∧ ∀ p, p ∈ S → bs p.1 ≠ s ∧ ac (uq mt fr bs) (bs p.1) s ∧ ∃ u, fr p.2 = some u ∧ (bs u = s ∨ ∃ q, q ∈ S ∧ q.1 = u) := by
  intro S
  induction S with
  | nil =>
    intro T v z hs _
    refine ⟨by rw [hs.2]; exact ac_r, fun p hp => (by cases hp)⟩
  | cons a S ih =>
    intro T v z hs hg
    obtain ⟨h1, h2, h3, u, h4, h5⟩ := hs
    obtain ⟨g1, g2, g3, u', g4, g5, g6⟩ := hg
    rw [h4] at g4
    cases g4
    have := ih T u z h5 g6
    have hac := ac_t (gp_up h g2 h4 g5) this.1
    refine ⟨hac, fun p hp => ?_⟩
    rcases List.mem_cons.mp hp with e | e
    · subst e
      rw [h1]
      refine ⟨h3, hac, u, h4, ?_⟩
      cases S with
      | nil => exact .inl h5.2
      | cons q S => exact .inr ⟨q, List.mem_cons_of_mem p List.mem_cons_self, h5.1⟩
    · obtain ⟨a1, a2, w, a3, a4⟩ := this.2 p e
      exact ⟨a1, a2, w, a3, a4.imp id fun ⟨q, hq, e⟩ => ⟨q, List.mem_cons_of_mem a hq, e⟩⟩
/-- what is known of two ends and their stem -/
def st (mt fr : Nat → Option Nat) (bs : Nat → Nat) (Q r s a b : Nat) (Sa Ta Sb Tb : List (Nat × Nat)) : Prop := (∃ z, sp mt fr bs s a Sa z ∧ gp mt fr bs Q r z Ta) ∧ gp mt fr bs Q r a (Sa ++ Ta) ∧ (Sa ++ Ta).Pairwise gR ∧ (∃ z, sp mt fr bs s b Sb z ∧ gp mt fr bs Q r z Tb) ∧ gp mt fr bs Q r b (Sb ++ Tb) ∧ (Sb ++ Tb).Pairwise gR ∧ ∀ g, ac (uq mt fr bs) (bs a) g → ac (uq mt fr bs) (bs b) g → ac (uq mt fr bs) s g
theorem st_sym {s a b : Nat} {Sa Ta Sb Tb : List (Nat × Nat)} (t : st mt fr bs Q r s a b Sa Ta Sb Tb) : st mt fr bs Q r s b a Sb Tb Sa Ta := ⟨t.2.2.2.1, t.2.2.2.2.1, t.2.2.2.2.2.1, t.1, t.2.1, t.2.2.1, fun g h1 h2 => t.2.2.2.2.2.2 g h2 h1⟩
theorem st_a (hv : mv J mt) (hr : mt r = none) (h : si J n mt r d fr bs Q) {s a b : Nat} {Sa Ta Sb Tb : List (Nat × Nat)} (t : st mt fr bs Q r s a b Sa Ta Sb Tb) : ∀ p, p ∈ Sa → mt p.1 = some p.2 ∧ mt p.2 = some p.1 ∧ Q.testBit p.1 = true ∧ bs p.1 ≠ s ∧ ac (uq mt fr bs) (bs p.1) s ∧ ¬ ac (uq mt fr bs) (bs b) (bs p.1) ∧ ∃ u, fr p.2 = some u ∧ (bs u = s ∨ ∃ q, q ∈ Sa ∧ q.1 = u) := by
  intro p hp
  obtain ⟨⟨z, t1, t2⟩, t3, t4, _, _, _, t5⟩ := t
  have a1 := gp_mt _ a p t3 (List.mem_append.mpr (.inl hp))
  obtain ⟨b1, b2, b3⟩ := (sp_ac h Sa Ta a z t1 t3).2 p hp
  have a2 := gp_ac h _ a p t3 (List.mem_append.mpr (.inl hp))
  refine ⟨a1.1, (hv _ _ a1.1).1, a1.2, b1, b2, fun hc => b1 ?_, b3⟩
  have hq := h.bas p.1 a1.2
  exact ac_eq hv hr h hq.1 hq.2 b2 (t5 _ a2 hc)
/-- nodes before the stem stand on no path of the other end -/
theorem st_dis (hv : mv J mt) (hr : mt r = none) (h : si J n mt r d fr bs Q) {s a b : Nat} {Sa Ta Sb Tb : List (Nat × Nat)} (t : st mt fr bs Q r s a b Sa Ta Sb Tb) : ∀ p q, p ∈ Sa → q ∈ Sb ++ Tb → p.1 ≠ q.1 ∧ p.1 ≠ q.2 ∧ p.2 ≠ q.1 ∧ p.2 ≠ q.2 := by
  intro p q hp hq
  obtain ⟨a1, a2, a3, a4, a5, a6, a7⟩ := st_a hv hr h t p hp
  have tb := t.2.2.2.2.1
  have b1 := gp_mt _ b q tb hq
  have b2 := gp_ac h _ b q tb hq
  have key : p.1 ≠ q.1 := fun e => a6 (by rw [e]; exact b2)
  have key2 : p.2 ≠ q.1 := fun e => by
    obtain ⟨u, _, l2⟩ := gp_link _ a p t.2.1 (List.mem_append.mpr (.inl hp))
    rcases l2 with l2 | l2
    · refine a6 ?_
      rw [← l2.2.1, e]
      exact b2
    · rw [e, b1.2] at l2
      cases l2.1
  refine ⟨key, fun e => key2 ?_, key2, fun e => key ?_⟩
  · have := (hv _ _ b1.1).1
    rw [← e, a1] at this
    exact Option.some.inj this
  · have := (hv _ _ b1.1).1
    rw [← e, a2] at this
    exact Option.some.inj this
theorem st_nob (hv : mv J mt) (hr : mt r = none) (hirr : ∀ i, (J i).testBit i = false) (h : si J n mt r d fr bs Q) {s a b : Nat} {Sa Ta Sb Tb : List (Nat × Nat)} (t : st mt fr bs Q r s a b Sa Ta Sb Tb) : ∀ q, q ∈ Sa ++ Ta → ¬ ∃ p, (p ∈ Sa ∨ p ∈ Sb) ∧ p.1 = q.2 := by
  rintro q hq ⟨p, hp, e⟩
  have hqm := gp_mt _ a q t.2.1 hq
  rcases hp with hp | hp
  · have hpm := gp_mt _ a p t.2.1 (List.mem_append.mpr (.inl hp))
    have hpq : p ≠ q := fun e2 => by
      subst e2
      have hj := (hv _ _ hpm.1).2
      rw [← e, hirr] at hj
      cases hj
    have e2 : p.2 = q.1 := by
      have := (hv _ _ hqm.1).1
      rw [← e, hpm.1] at this
      exact Option.some.inj this
    have hall : ∀ l : List (Nat × Nat), l.Pairwise gR → p ∈ l → q ∈ l → False := by
      intro l
      induction l with
      | nil => intro _ h; cases h
      | cons x l ih =>
        intro hl h1 h2
        have hl1 := List.pairwise_cons.mp hl
        rcases List.mem_cons.mp h1 with e3 | e3
        · rcases List.mem_cons.mp h2 with e4 | e4
          · exact hpq (e3.trans e4.symm)
          · rw [← e3] at hl1
            exact (hl1.1 q e4).2 e
        · rcases List.mem_cons.mp h2 with e4 | e4
          · rw [← e4] at hl1
            exact (hl1.1 p e3).2 e2.symm
          · exact ih hl1.2 e3 e4
    exact hall _ t.2.2.1 (List.mem_append.mpr (.inl hp)) hq
  · exact (st_dis hv hr h (st_sym t) p q hp hq).2.1 e
/-- the base of a node before the stem stands there too -/
theorem st_base (hv : mv J mt) (hr : mt r = none) (h : si J n mt r d fr bs Q) {s a b : Nat} {Sa Ta Sb Tb : List (Nat × Nat)} (t : st mt fr bs Q r s a b Sa Ta Sb Tb) : ∀ p, p ∈ Sa → ∃ y, (bs p.1, y) ∈ Sa ∧ Q.testBit y = false := by
  intro p hp
  obtain ⟨a1, a2, a3, a4, a5, a6, a7⟩ := st_a hv hr h t p hp
  have hq := h.bas p.1 a3
  have hne : bs p.1 ≠ r := fun e => by
    rw [e] at a5 a4
    rcases ac_c a5 with e' | ⟨e', h1, _⟩
    · exact a4 e'
    · rw [uq_r hr] at h1; cases h1
  obtain ⟨A, B, hAB⟩ := List.append_of_mem hp
  have hg := t.2.1
  rw [hAB, List.append_assoc] at hg
  have hg2 := gp_suf A a p (B ++ Ta) hg
  obtain ⟨y, y1, y2⟩ := gp_base hr h _ p.1 (bs p.1) hg2 ac_r hne
  refine ⟨y, ?_, y2⟩
  have hmem : (bs p.1, y) ∈ Sa ++ Ta := by
    rw [hAB, List.append_assoc]
    exact List.mem_append.mpr (.inr y1)
  rcases List.mem_append.mp hmem with h1 | h1
  · exact h1
  · obtain ⟨z, t1, t2⟩ := t.1
    have hz : bs z = s := by
      have : ∀ S v, sp mt fr bs s v S z → bs z = s := by
        intro S
        induction S with
        | nil => intro v hs; rw [← hs.1]; exact hs.2
        | cons x S ih => intro v hs; obtain ⟨_, _, _, u, _, h5⟩ := hs; exact ih u h5
      exact this Sa a t1
    have h2 := gp_ac h _ z _ t2 h1
    rw [hz] at h2
    have h2 : ac (uq mt fr bs) s (bs (bs p.1)) := h2
    rw [hq.2] at h2
    exact absurd (ac_eq hv hr h hq.1 hq.2 a5 h2) a4
end

/-! the search for a path: a ring is drawn together -/
section
variable {J : Nat → Nat} {n : Nat} {mt : Nat → Option Nat} {r : Nat} {d : Nat → Nat} {fr : Nat → Option Nat} {bs : Nat → Nat} {Q : Nat}
/-- the state behind it -/
def nw (n : Nat) (mt fr : Nat → Option Nat) (bs : Nat → Nat) (Q s a b : Nat) (Sa Sb : List (Nat × Nat)) (fr' : Nat → Option Nat) (bs' : Nat → Nat) (Q' : Nat) : Prop := (∀ x, (¬ ∃ p, (p ∈ Sa ∨ p ∈ Sb) ∧ p.1 = x) → fr' x = fr x) ∧ bn fr' Sa (some b) ∧ bn fr' Sb (some a) ∧ (∀ x, x < n → (∃ p, (p ∈ Sa ∨ p ∈ Sb) ∧ (bs x = bs p.1 ∨ bs x = bs p.2)) → bs' x = s) ∧ (∀ x, x < n → (¬ ∃ p, (p ∈ Sa ∨ p ∈ Sb) ∧ (bs x = bs p.1 ∨ bs x = bs p.2)) → bs' x = bs x) ∧ (∀ x, n ≤ x → bs' x = bs x) ∧ ∀ x, Q'.testBit x = true ↔ (Q.testBit x = true ∨ (x < n ∧ ∃ p, (p ∈ Sa ∨ p ∈ Sb) ∧ (bs x = bs p.1 ∨ bs x = bs p.2)))
theorem nw_sym {s a b : Nat} {Sa Sb : List (Nat × Nat)} {fr' : Nat → Option Nat} {bs' : Nat → Nat} {Q' : Nat} (w : nw n mt fr bs Q s a b Sa Sb fr' bs' Q') : nw n mt fr bs Q s b a Sb Sa fr' bs' Q' := by
  have e : ∀ p : Nat × Nat, (p ∈ Sa ∨ p ∈ Sb) ↔ (p ∈ Sb ∨ p ∈ Sa) := fun p => Or.comm
  obtain ⟨w1, w2, w3, w4, w5, w6, w7⟩ := w
  simp only [e] at w1 w4 w5 w7
  exact ⟨w1, w3, w2, w4, w5, w6, w7⟩
theorem nw_eq {s a b : Nat} {Sa Sb : List (Nat × Nat)} {fr' : Nat → Option Nat} {bs' : Nat → Nat} {Q' : Nat} (w : nw n mt fr bs Q s a b Sa Sb fr' bs' Q') {x y : Nat} (hx : x < n) (hy : y < n) (e : bs x = bs y) : bs' x = bs' y := by
  by_cases hc : ∃ p, (p ∈ Sa ∨ p ∈ Sb) ∧ (bs x = bs p.1 ∨ bs x = bs p.2)
  · rw [w.2.2.2.1 x hx hc]
    rw [e] at hc
    exact (w.2.2.2.1 y hy hc).symm
  · rw [w.2.2.2.2.1 x hx hc]
    rw [e] at hc ⊢
    exact (w.2.2.2.2.1 y hy hc).symm
/-- who is in the ring -/
theorem nw_in (hn : n ≤ 16) (hJ : ∀ u i, (J u).testBit i = true → u < n ∧ i < n) (hv : mv J mt) (hr : mt r = none) (h : si J n mt r d fr bs Q) {s a b : Nat} {Sa Ta Sb Tb : List (Nat × Nat)} (t : st mt fr bs Q r s a b Sa Ta Sb Tb) : (∀ x, Q.testBit x = true → (∃ p, (p ∈ Sa ∨ p ∈ Sb) ∧ (bs x = bs p.1 ∨ bs x = bs p.2)) → ∃ p, (p ∈ Sa ∨ p ∈ Sb) ∧ bs x = bs p.1) ∧ (∀ x, x < n → Q.testBit x = false → (∃ p, (p ∈ Sa ∨ p ∈ Sb) ∧ (bs x = bs p.1 ∨ bs x = bs p.2)) → ∃ p, (p ∈ Sa ∨ p ∈ Sb) ∧ p.2 = x) := by
  have hall : ∀ p, (p ∈ Sa ∨ p ∈ Sb) → mt p.1 = some p.2 ∧ Q.testBit p.1 = true ∧ (Q.testBit p.2 = true → bs p.2 = bs p.1) := by
    intro p hp
    rcases hp with hp | hp
    · have hm := List.mem_append.mpr (.inl hp : p ∈ Sa ∨ p ∈ Ta)
      have h1 := gp_mt _ a p t.2.1 hm
      obtain ⟨u, _, l⟩ := gp_link _ a p t.2.1 hm
      exact ⟨h1.1, h1.2, fun hq => l.elim (fun l => l.2.1) fun l => by rw [hq] at l; cases l.1⟩
    · have hm := List.mem_append.mpr (.inl hp : p ∈ Sb ∨ p ∈ Tb)
      have h1 := gp_mt _ b p t.2.2.2.2.1 hm
      obtain ⟨u, _, l⟩ := gp_link _ b p t.2.2.2.2.1 hm
      exact ⟨h1.1, h1.2, fun hq => l.elim (fun l => l.2.1) fun l => by rw [hq] at l; cases l.1⟩
  have h16 : ∀ p, (p ∈ Sa ∨ p ∈ Sb) → p.2 < 16 := fun p hp => by
    have := (hJ _ _ (hv _ _ (hall p hp).1).2).2
    omega
  constructor
  · rintro x hx ⟨p, hp, e | e⟩
    · exact ⟨p, hp, e⟩
    · cases hq : Q.testBit p.2
      · rw [h.out p.2 (h16 p hp) hq] at e
        have := (h.bas x hx).1
        rw [e, hq] at this
        cases this
      · exact ⟨p, hp, e.trans ((hall p hp).2.2 hq)⟩
  · rintro x hxn hx ⟨p, hp, e | e⟩
    · rw [h.out x (by omega) hx] at e
      have := (h.bas p.1 (hall p hp).2.1).1
      rw [← e, hx] at this
      cases this
    · cases hq : Q.testBit p.2
      · rw [h.out p.2 (h16 p hp) hq, h.out x (by omega) hx] at e
        exact ⟨p, hp, e.symm⟩
      · rw [h.out x (by omega) hx] at e
        have := (h.bas p.2 hq).1
        rw [← e, hx] at this
        cases this
/-- a link stays a link -/
theorem nw_link (hn : n ≤ 16) (hJ : ∀ u i, (J u).testBit i = true → u < n ∧ i < n) (hv : mv J mt) (hr : mt r = none) (h : si J n mt r d fr bs Q) {s a b : Nat} {Sa Ta Sb Tb : List (Nat × Nat)} (t : st mt fr bs Q r s a b Sa Ta Sb Tb) {fr' : Nat → Option Nat} {bs' : Nat → Nat} {Q' : Nat} (w : nw n mt fr bs Q s a b Sa Sb fr' bs' Q') {v y u : Nat} (h1 : mt v = some y) (h2 : Q.testBit v = true) (h3 : fr y = some u) (h4 : (Q.testBit y = true ∧ bs y = bs v ∧ bs u = bs v) ∨ (Q.testBit y = false ∧ bs v = v)) : (Q'.testBit y = true ∧ bs' y = bs' v ∧ bs' u = bs' v) ∨ (Q'.testBit y = false ∧ bs' v = v) := by
  have weq := fun {x y : Nat} (hx : x < n) (hy : y < n) (e : bs x = bs y) => nw_eq w hx hy e
  obtain ⟨w1, w2, w3, p4, n4, w5, w6⟩ := w
  have hin := nw_in hn hJ hv hr h t
  have hvn := h.inn v h2
  have hyn : y < n := (hJ _ _ (hv _ _ h1).2).2
  have huQ := (h.frm y u h3).2
  have hun := h.inn u huQ
  rcases h4 with h4 | h4
  · left
    exact ⟨(w6 y).mpr (.inl h4.1), weq hyn hvn h4.2.1, weq hun hvn h4.2.2⟩
  · by_cases hs : ∃ p, (p ∈ Sa ∨ p ∈ Sb) ∧ p.2 = y
    · obtain ⟨p, hp, e⟩ := hs
      left
      have hp1 : p.1 = v ∧ ∃ u', fr p.2 = some u' ∧ (bs u' = s ∨ ∃ q, (q ∈ Sa ∨ q ∈ Sb) ∧ q.1 = u') := by
        rcases hp with hp | hp
        · obtain ⟨a1, a2, a3, a4, a5, a6, u', a7, a8⟩ := st_a hv hr h t p hp
          refine ⟨?_, u', a7, a8.imp id fun ⟨q, hq, e⟩ => ⟨q, .inl hq, e⟩⟩
          have := (hv _ _ h1).1
          rw [← e, a2] at this
          exact Option.some.inj this
        · obtain ⟨a1, a2, a3, a4, a5, a6, u', a7, a8⟩ := st_a hv hr h (st_sym t) p hp
          refine ⟨?_, u', a7, a8.imp id fun ⟨q, hq, e⟩ => ⟨q, .inr hq, e⟩⟩
          have := (hv _ _ h1).1
          rw [← e, a2] at this
          exact Option.some.inj this
      obtain ⟨e1, u', u1, u2⟩ := hp1
      rw [e, h3] at u1
      cases u1
      have b1 : bs' v = s := p4 v hvn ⟨p, hp, .inl (by rw [e1])⟩
      have b2 : bs' y = s := p4 y hyn ⟨p, hp, .inr (by rw [e])⟩
      have b3 : bs' u = s := by
        by_cases hc : ∃ p, (p ∈ Sa ∨ p ∈ Sb) ∧ (bs u = bs p.1 ∨ bs u = bs p.2)
        · exact p4 u hun hc
        · rw [n4 u hun hc]
          rcases u2 with u2 | ⟨q, q1, q2⟩
          · exact u2
          · exact absurd ⟨q, q1, .inl (by rw [q2])⟩ hc
      exact ⟨(w6 y).mpr (.inr ⟨hyn, p, hp, .inr (by rw [e])⟩), b2.trans b1.symm, b3.trans b1.symm⟩
    · right
      constructor
      · rw [← Bool.not_eq_true, w6]
        rintro (h5 | ⟨_, h5⟩)
        · rw [h4.1] at h5; cases h5
        · exact hs (hin.2 y hyn h4.1 h5)
      · refine (n4 v hvn fun hc => ?_).trans h4.2
        obtain ⟨p, hp, e⟩ := hin.1 v h2 hc
        rw [h4.2] at e
        rcases hp with hp | hp
        · obtain ⟨y', y1, y2⟩ := st_base hv hr h t p hp
          have := (st_a hv hr h t _ y1).1
          rw [← e] at this y1
          have this : mt v = some y' := this
          rw [h1] at this
          cases this
          exact hs ⟨_, .inl y1, rfl⟩
        · obtain ⟨y', y1, y2⟩ := st_base hv hr h (st_sym t) p hp
          have := (st_a hv hr h (st_sym t) _ y1).1
          rw [← e] at this y1
          have this : mt v = some y' := this
          rw [h1] at this
          cases this
          exact hs ⟨_, .inr y1, rfl⟩
theorem nw_app (hn : n ≤ 16) (hJ : ∀ u i, (J u).testBit i = true → u < n ∧ i < n) (hv : mv J mt) (hr : mt r = none) (h : si J n mt r d fr bs Q) {s a b : Nat} {Sa Ta Sb Tb : List (Nat × Nat)} (t : st mt fr bs Q r s a b Sa Ta Sb Tb) {fr' : Nat → Option Nat} {bs' : Nat → Nat} {Q' : Nat} (w : nw n mt fr bs Q s a b Sa Sb fr' bs' Q') : ∀ A v B L', gp mt fr bs Q r v (A ++ B) → (∀ p, p ∈ A → ¬ ∃ q, (q ∈ Sa ∨ q ∈ Sb) ∧ q.1 = p.2) → (∀ z, gp mt fr bs Q r z B → gp mt fr' bs' Q' r z L') → gp mt fr' bs' Q' r v (A ++ L') := by
  intro A
  induction A with
  | nil => intro v B L' h1 _ h3; exact h3 v h1
  | cons p A ih =>
    intro v B L' h1 h2 h3
    obtain ⟨g1, g2, g3, u, g4, g5, g6⟩ := h1
    refine ⟨g1, g2, (w.2.2.2.2.2.2 v).mpr (.inl g3), u, ?_, nw_link hn hJ hv hr h t w g2 g3 g4 g5, ih u B L' g6 (fun q hq => h2 q (List.mem_cons_of_mem p hq)) h3⟩
    rw [w.1 p.2 (h2 p List.mem_cons_self)]
    exact g4
theorem nw_keep (hn : n ≤ 16) (hJ : ∀ u i, (J u).testBit i = true → u < n ∧ i < n) (hv : mv J mt) (hr : mt r = none) (h : si J n mt r d fr bs Q) {s a b : Nat} {Sa Ta Sb Tb : List (Nat × Nat)} (t : st mt fr bs Q r s a b Sa Ta Sb Tb) {fr' : Nat → Option Nat} {bs' : Nat → Nat} {Q' : Nat} (w : nw n mt fr bs Q s a b Sa Sb fr' bs' Q') {v : Nat} {L : List (Nat × Nat)} (h1 : gp mt fr bs Q r v L) (h2 : ∀ p, p ∈ L → ¬ ∃ q, (q ∈ Sa ∨ q ∈ Sb) ∧ q.1 = p.2) : gp mt fr' bs' Q' r v L := by
  have := nw_app hn hJ hv hr h t w L v [] [] (by rw [List.append_nil]; exact h1) h2 (fun z hz => hz)
  rw [List.append_nil] at this
  exact this
theorem nw_rev {fr' : Nat → Option Nat} {bs' : Nat → Nat} {Q' s : Nat} : ∀ S u0 l, bn fr' S (some u0) → gp mt fr' bs' Q' r u0 l → bs' u0 = s → (∀ p, p ∈ S → mt p.2 = some p.1 ∧ Q'.testBit p.1 = true ∧ Q'.testBit p.2 = true ∧ bs' p.1 = s ∧ bs' p.2 = s) → ∀ A p B, S = A ++ p :: B → gp mt fr' bs' Q' r p.2 ((p.2, p.1) :: rv A l) := by
  intro S
  induction S with
  | nil => intro u0 l _ _ _ _ A p B e; cases A <;> cases e
  | cons p0 S ih =>
    intro u0 l hb hl hu hp A p B e
    obtain ⟨b1, b2⟩ := hb
    obtain ⟨m1, m2, m3, m4, m5⟩ := hp p0 List.mem_cons_self
    have hg : gp mt fr' bs' Q' r p0.2 ((p0.2, p0.1) :: l) := ⟨rfl, m1, m3, u0, b1, .inl ⟨m2, m4.trans m5.symm, hu.trans m5.symm⟩, hl⟩
    cases A with
    | nil =>
      cases e
      exact hg
    | cons a A =>
      rw [List.cons_append] at e
      injection e with e1 e2
      subst e1
      exact ih p0.2 ((p0.2, p0.1) :: l) b2 hg m5 (fun q hq => hp q (List.mem_cons_of_mem p0 hq)) A p B e2
/-- facts of the new state for the nodes before the stem -/
theorem nw_seg (hn : n ≤ 16) (hJ : ∀ u i, (J u).testBit i = true → u < n ∧ i < n) (hv : mv J mt) (hr : mt r = none) (h : si J n mt r d fr bs Q) {s a b : Nat} {Sa Ta Sb Tb : List (Nat × Nat)} (t : st mt fr bs Q r s a b Sa Ta Sb Tb) {fr' : Nat → Option Nat} {bs' : Nat → Nat} {Q' : Nat} (w : nw n mt fr bs Q s a b Sa Sb fr' bs' Q') : (∀ p, p ∈ Sa → mt p.2 = some p.1 ∧ Q'.testBit p.1 = true ∧ Q'.testBit p.2 = true ∧ bs' p.1 = s ∧ bs' p.2 = s) ∧ bs' a = s ∧ Q'.testBit a = true := by
  have haQ := gp_q h _ a t.2.1
  refine ⟨fun p hp => ?_, ?_, (w.2.2.2.2.2.2 a).mpr (.inl haQ)⟩
  · obtain ⟨a1, a2, a3, _⟩ := st_a hv hr h t p hp
    have hj := hJ _ _ (hv _ _ a1).2
    refine ⟨a2, (w.2.2.2.2.2.2 _).mpr (.inl a3), (w.2.2.2.2.2.2 _).mpr (.inr ⟨hj.2, p, .inl hp, .inr rfl⟩), ?_, ?_⟩
    · exact w.2.2.2.1 _ hj.1 ⟨p, .inl hp, .inl rfl⟩
    · exact w.2.2.2.1 _ hj.2 ⟨p, .inl hp, .inr rfl⟩
  · by_cases hc : ∃ p, (p ∈ Sa ∨ p ∈ Sb) ∧ (bs a = bs p.1 ∨ bs a = bs p.2)
    · exact w.2.2.2.1 a (h.inn a haQ) hc
    · rw [w.2.2.2.2.1 a (h.inn a haQ) hc]
      obtain ⟨z, t1, t2⟩ := t.1
      cases hS : Sa with
      | nil => rw [hS] at t1; exact t1.2
      | cons p S =>
        rw [hS] at t1
        exact absurd ⟨p, .inl (by rw [hS]; exact List.mem_cons_self), .inl (by rw [t1.1])⟩ hc
/-- the way round: the path of a node behind the bend -/
theorem nw_round (hn : n ≤ 16) (hJ : ∀ u i, (J u).testBit i = true → u < n ∧ i < n) (hirr : ∀ i, (J i).testBit i = false) (hv : mv J mt) (hr : mt r = none) (h : si J n mt r d fr bs Q) {s a b : Nat} {Sa Ta Sb Tb : List (Nat × Nat)} (t : st mt fr bs Q r s a b Sa Ta Sb Tb) {fr' : Nat → Option Nat} {bs' : Nat → Nat} {Q' : Nat} (w : nw n mt fr bs Q s a b Sa Sb fr' bs' Q') : ∀ q, q ∈ Sa → ∃ A, (∀ x, x ∈ A → x ∈ Sa) ∧ gp mt fr' bs' Q' r q.2 ((q.2, q.1) :: rv A (Sb ++ Tb)) ∧ ((q.2, q.1) :: rv A (Sb ++ Tb)).Pairwise gR := by
  intro q hq
  obtain ⟨A, B, hAB⟩ := List.append_of_mem hq
  have hLb : gp mt fr' bs' Q' r b (Sb ++ Tb) := nw_keep hn hJ hv hr h t w t.2.2.2.2.1 (fun p hp => by
    have := st_nob hv hr hirr h (st_sym t) p hp
    exact fun ⟨q, h1, h2⟩ => this ⟨q, h1.symm, h2⟩)
  have sa := nw_seg hn hJ hv hr h t w
  have sb := nw_seg hn hJ hv hr h (st_sym t) (nw_sym w)
  have hA : ∀ x, x ∈ A → x ∈ Sa := fun x hx => by rw [hAB]; exact List.mem_append.mpr (.inl hx)
  have hpw : (A ++ q :: B).Pairwise gR := by
    rw [← hAB]
    exact (List.pairwise_append.mp t.2.2.1).1
  have hpa := List.pairwise_append.mp hpw
  refine ⟨A, hA, nw_rev Sa b (Sb ++ Tb) w.2.1 hLb sb.2.1 sa.1 A q B hAB, List.pairwise_cons.mpr ⟨fun x hx => ?_, ?_⟩⟩
  · rcases (rv_m A _ x).mp hx with h1 | ⟨p, h1, h2⟩
    · have := st_dis hv hr h t q x hq h1
      exact ⟨this.2.2.1, this.2.2.2⟩
    · have h3 := hpa.2.2 p h1 q List.mem_cons_self
      rw [h2]
      refine ⟨fun e => h3.1 ?_, fun e => h3.2 e.symm⟩
      have e : q.2 = p.2 := e
      have m1 := (st_a hv hr h t q hq).2.1
      have m2 := (st_a hv hr h t p (hA p h1)).2.1
      rw [e, m2] at m1
      exact Option.some.inj m1
  · exact rv_pw hv A _ hpa.1 (fun p hp => (st_a hv hr h t p (hA p hp)).1) t.2.2.2.2.2.1 (fun p x hp hx => by
      have := st_dis hv hr h t p x (hA p hp) hx
      exact ⟨this.2.2.1, this.2.2.2⟩)
/-- an old path that meets the bend at a's side goes round -/
theorem nw_old (hn : n ≤ 16) (hJ : ∀ u i, (J u).testBit i = true → u < n ∧ i < n) (hirr : ∀ i, (J i).testBit i = false) (hv : mv J mt) (hr : mt r = none) (h : si J n mt r d fr bs Q) {s a b : Nat} {Sa Ta Sb Tb : List (Nat × Nat)} (t : st mt fr bs Q r s a b Sa Ta Sb Tb) {fr' : Nat → Option Nat} {bs' : Nat → Nat} {Q' : Nat} (w : nw n mt fr bs Q s a b Sa Sb fr' bs' Q') {v : Nat} {A B : List (Nat × Nat)} {x q : Nat × Nat} (hg : gp mt fr bs Q r v (A ++ x :: B)) (hpw : (A ++ x :: B).Pairwise gR) (hno : ∀ p, p ∈ A → ¬ ∃ q, (q ∈ Sa ∨ q ∈ Sb) ∧ q.1 = p.2) (hq : q ∈ Sa) (hx : q.1 = x.2) : ∃ L', gp mt fr' bs' Q' r v L' ∧ L'.Pairwise gR := by
  obtain ⟨C, hC, h1, h2⟩ := nw_round hn hJ hirr hv hr h t w q hq
  have hmem : x ∈ A ++ x :: B := List.mem_append.mpr (.inr List.mem_cons_self)
  have hxm := gp_mt _ v x hg hmem
  have hqa := st_a hv hr h t q hq
  have hx1 : q.2 = x.1 := by
    have := (hv _ _ hxm.1).1
    rw [← hx, hqa.1] at this
    exact Option.some.inj this
  have hbx : bs x.1 = bs q.1 := by
    obtain ⟨u, _, l⟩ := gp_link _ v x hg hmem
    rcases l with l | l
    · rw [hx]; exact l.2.1.symm
    · rw [← hx, hqa.2.2.1] at l; cases l.1
  have hbent : ∃ q, (q ∈ Sa ∨ q ∈ Sb) ∧ q.1 = x.2 := ⟨q, .inl hq, hx⟩
  refine ⟨A ++ ((q.2, q.1) :: rv C (Sb ++ Tb)), nw_app hn hJ hv hr h t w A v (x :: B) _ hg hno (fun z hz => ?_), List.pairwise_append.mpr ⟨(List.pairwise_append.mp hpw).1, h2, fun p hp y hy => ?_⟩⟩
  · have e : z = q.2 := by rw [hx1]; exact hz.1.symm
    rw [e]
    exact h1
  · -- p before the bend, y behind
    obtain ⟨A1, A2, hA⟩ := List.append_of_mem hp
    have hg1 : gp mt fr bs Q r v (A1 ++ p :: (A2 ++ x :: B)) := by
      rw [hA, List.append_assoc] at hg
      exact hg
    have hsuf := gp_suf A1 v p _ hg1
    have hpm := gp_mt _ v p hg (List.mem_append.mpr (.inl hp))
    have hxin : x ∈ p :: (A2 ++ x :: B) := List.mem_cons_of_mem p (List.mem_append.mpr (.inr List.mem_cons_self))
    have hsw : ∀ q', q' ∈ Sa → p.1 ≠ q'.2 ∧ p.1 ≠ q'.1 := fun q' hq' => by
      have hq'a := st_a hv hr h t q' hq'
      refine ⟨fun e => hno p hp ⟨q', .inl hq', ?_⟩, fun e => ?_⟩
      · have := hpm.1
        rw [e, hq'a.2.1] at this
        exact Option.some.inj this
      · obtain ⟨B1, B2, hB⟩ := List.append_of_mem hq'
        have hga := t.2.1
        rw [hB, List.append_assoc] at hga
        have hs2 := gp_suf B1 a q' _ hga
        rw [← e] at hs2
        have hdet := gp_det hr _ _ p.1 hsuf hs2
        refine st_nob hv hr hirr h t x ?_ hbent
        rw [hB, List.append_assoc]
        refine List.mem_append.mpr (.inr ?_)
        have hx2 := hxin
        rw [hdet] at hx2
        exact hx2
    have hLb : y ∈ Sb ++ Tb → gR p y := fun hy => by
      refine ⟨fun e => ?_, fun e => ?_⟩
      · obtain ⟨B1, B2, hB⟩ := List.append_of_mem hy
        have hgb := t.2.2.2.2.1
        rw [hB] at hgb
        have hs2 := gp_suf B1 b y _ hgb
        rw [← e] at hs2
        have hdet := gp_det hr _ _ p.1 hsuf hs2
        have hxb : x ∈ Sb ++ Tb := by
          rw [hB]
          refine List.mem_append.mpr (.inr ?_)
          rw [← hdet]
          exact hxin
        exact st_nob hv hr hirr h (st_sym t) x hxb ⟨q, .inr hq, hx⟩
      · obtain ⟨u, _, l⟩ := gp_link _ b y t.2.2.2.2.1 hy
        rcases l with l | l
        · have a1 := gp_ac h _ b y t.2.2.2.2.1 hy
          rw [← l.2.1, ← e] at a1
          have a2 := gp_ac h _ p.1 x hsuf hxin
          rw [hbx] at a2
          exact hqa.2.2.2.2.2.1 (ac_t a1 a2)
        · rw [← e, hpm.2] at l; cases l.1
    rcases List.mem_cons.mp hy with e | e
    · rw [e]
      exact hsw q hq
    · rcases (rv_m C _ y).mp e with h3 | ⟨q', h3, h4⟩
      · exact hLb h3
      · rw [h4]
        exact hsw q' (hC q' h3)
theorem first_bad {P : Nat × Nat → Prop} : ∀ L : List (Nat × Nat), (∀ p, p ∈ L → ¬ P p) ∨ ∃ A x B, L = A ++ x :: B ∧ P x ∧ ∀ p, p ∈ A → ¬ P p := by
  intro L
  induction L with
  | nil => exact .inl fun p hp => (by cases hp)
  | cons a L ih =>
    by_cases hp : P a
    · exact .inr ⟨[], a, L, rfl, hp, fun p h => (by cases h)⟩
    · rcases ih with h | ⟨A, x, B, h1, h2, h3⟩
      · exact .inl fun p h' => (List.mem_cons.mp h').elim (fun e => by rw [e]; exact hp) fun e => h p e
      · exact .inr ⟨a :: A, x, B, by rw [h1]; rfl, h2, fun p h' => (List.mem_cons.mp h').elim (fun e => by rw [e]; exact hp) fun e => h3 p e⟩
/-- the tree behind a ring -/
theorem nw_si (hn : n ≤ 16) (hJ : ∀ u i, (J u).testBit i = true → u < n ∧ i < n) (hirr : ∀ i, (J i).testBit i = false) (hsym : ∀ i j, (J i).testBit j = (J j).testBit i) (hv : mv J mt) (hr : mt r = none) (h : si J n mt r d fr bs Q) {s a b : Nat} {Sa Ta Sb Tb : List (Nat × Nat)} (t : st mt fr bs Q r s a b Sa Ta Sb Tb) {fr' : Nat → Option Nat} {bs' : Nat → Nat} {Q' : Nat} (w : nw n mt fr bs Q s a b Sa Sb fr' bs' Q') (hab : (J a).testBit b = true) (hs : Q.testBit s = true ∧ bs s = s) : si J n mt r d fr' bs' Q' := by
  have hin := nw_in hn hJ hv hr h t
  have sa := nw_seg hn hJ hv hr h t w
  have sb := nw_seg hn hJ hv hr h (st_sym t) (nw_sym w)
  have hseg : ∀ p, (p ∈ Sa ∨ p ∈ Sb) → mt p.1 = some p.2 ∧ mt p.2 = some p.1 ∧ Q.testBit p.1 = true ∧ bs p.1 ≠ s ∧ ac (uq mt fr bs) (bs p.1) s ∧ ∃ y, ((bs p.1, y) ∈ Sa ∨ (bs p.1, y) ∈ Sb) ∧ Q.testBit y = false := by
    rintro p (hp | hp)
    · obtain ⟨a1, a2, a3, a4, a5, _⟩ := st_a hv hr h t p hp
      obtain ⟨y, y1, y2⟩ := st_base hv hr h t p hp
      exact ⟨a1, a2, a3, a4, a5, y, .inl y1, y2⟩
    · obtain ⟨a1, a2, a3, a4, a5, _⟩ := st_a hv hr h (st_sym t) p hp
      obtain ⟨y, y1, y2⟩ := st_base hv hr h (st_sym t) p hp
      exact ⟨a1, a2, a3, a4, a5, y, .inr y1, y2⟩
  have hseg' : ∀ p, (p ∈ Sa ∨ p ∈ Sb) → Q'.testBit p.1 = true ∧ Q'.testBit p.2 = true ∧ bs' p.1 = s ∧ bs' p.2 = s := by
    rintro p (hp | hp)
    · exact (sa.1 p hp).2
    · exact (sb.1 p hp).2
  obtain ⟨w1, w2, w3, p4, n4, w5, w6⟩ := w
  have w : nw n mt fr bs Q s a b Sa Sb fr' bs' Q' := ⟨w1, w2, w3, p4, n4, w5, w6⟩
  have hmono : ∀ x, Q.testBit x = true → Q'.testBit x = true := fun x hx => (w6 x).mpr (.inl hx)
  -- a base in the ring, and one that isn't
  have hbs : ∀ x, Q.testBit x = true → (bs' x = s ∧ ∃ p, (p ∈ Sa ∨ p ∈ Sb) ∧ bs x = bs p.1) ∨ (bs' x = bs x ∧ ¬ ∃ p, (p ∈ Sa ∨ p ∈ Sb) ∧ (bs x = bs p.1 ∨ bs x = bs p.2)) := fun x hx => by
    by_cases hc : ∃ p, (p ∈ Sa ∨ p ∈ Sb) ∧ (bs x = bs p.1 ∨ bs x = bs p.2)
    · exact .inl ⟨p4 x (h.inn x hx) hc, hin.1 x hx hc⟩
    · exact .inr ⟨n4 x (h.inn x hx) hc, hc⟩
  have hss : bs' s = s := by
    rcases hbs s hs.1 with h1 | h1
    · exact h1.1
    · rw [h1.1, hs.2]
  have hnew : ∀ x, Q'.testBit x = true → Q.testBit x = false → ∃ p, (p ∈ Sa ∨ p ∈ Sb) ∧ p.2 = x := fun x h1 h2 => by
    rcases (w6 x).mp h1 with h3 | ⟨h3, h4⟩
    · rw [h2] at h3; cases h3
    · exact hin.2 x h3 h2 h4
  have hfirst : ∀ x, Q.testBit x = false → ¬ ∃ p, (p ∈ Sa ∨ p ∈ Sb) ∧ p.1 = x := fun x hx ⟨p, hp, e⟩ => by
    have := (hseg p hp).2.2.1
    rw [e, hx] at this
    cases this
  have hkeepb : ∀ v, Q'.testBit v = true → bs' v = v → Q.testBit v = true ∧ bs v = v ∧ ¬ ∃ p, (p ∈ Sa ∨ p ∈ Sb) ∧ (bs v = bs p.1 ∨ bs v = bs p.2) := fun v h1 h2 => by
    cases hq : Q.testBit v
    · obtain ⟨p, hp, e⟩ := hnew v h1 hq
      have := (hseg' p hp).2.2.2
      rw [e, h2] at this
      rw [this, hs.1] at hq
      cases hq
    · rcases hbs v hq with h3 | h3
      · obtain ⟨e, p, hp, e2⟩ := h3
        rw [h2] at e
        rw [e, hs.2] at e2
        exact absurd e2.symm (hseg p hp).2.2.2.1
      · exact ⟨rfl, h3.1.symm.trans h2, h3.2⟩

  -- the bent pointers
  have hbend : ∀ S u0, bn fr' S (some u0) → (∀ p, p ∈ S → p ∈ Sa ∨ p ∈ Sb) → Q'.testBit u0 = true → (∀ T v z, sp mt fr bs s v S z → gp mt fr bs Q r v (S ++ T) → (J v).testBit u0 = true → ∀ p, p ∈ S → ∃ u, fr' p.1 = some u ∧ (J p.1).testBit u = true ∧ Q'.testBit u = true) := by
    intro S
    induction S with
    | nil => intro u0 _ _ _ T v z _ _ _ p hp; cases hp
    | cons p0 S ih =>
      intro u0 hb hin' hu T v z hsp hgp hj p hp
      obtain ⟨b1, b2⟩ := hb
      obtain ⟨s1, s2, s3, u, s4, s5⟩ := hsp
      obtain ⟨g1, g2, g3, u', g4, g5, g6⟩ := hgp
      rw [s4] at g4
      cases g4
      rcases List.mem_cons.mp hp with e | e
      · rw [e]
        exact ⟨u0, b1, by rw [s1]; exact hj, hu⟩
      · have hj2 : (J u).testBit p0.2 = true := by
          rw [hsym]
          exact (h.frm p0.2 u s4).1
        exact ih p0.2 b2 (fun q hq => hin' q (List.mem_cons_of_mem p0 hq)) (hseg' p0 (hin' p0 List.mem_cons_self)).2.1 T u z s5 g6 hj2 p e
  have hbendA : ∀ p, (p ∈ Sa ∨ p ∈ Sb) → ∃ u, fr' p.1 = some u ∧ (J p.1).testBit u = true ∧ Q'.testBit u = true := by
    rintro p (hp | hp)
    · obtain ⟨z, t1, t2⟩ := t.1
      exact hbend Sa b w2 (fun q hq => .inl hq) sb.2.2 Ta a z t1 t.2.1 hab p hp
    · obtain ⟨z, t1, t2⟩ := t.2.2.2.1
      exact hbend Sb a w3 (fun q hq => .inr hq) sa.2.2 Tb b z t1 t.2.2.2.2.1 (by rw [hsym]; exact hab) p hp
  refine ⟨⟨hmono r h.rt.1, ?_⟩, ?_, ?_, ?_, ?_, ?_, ?_, ?_, ?_, ?_, ?_⟩
  · -- the root
    rcases hbs r h.rt.1 with h1 | h1
    · obtain ⟨e, p, hp, e2⟩ := h1
      rw [h.rt.2] at e2
      have h5 := (hseg p hp).2.2.2.2.1
      rw [← e2] at h5
      rcases ac_c h5 with e3 | ⟨e3, e4, _⟩
      · rw [e, e3]
      · rw [uq_r hr] at e4; cases e4
    · rw [h1.1]; exact h.rt.2
  · intro v hq
    rcases (w6 v).mp hq with h1 | h1
    · exact h.inn v h1
    · exact h1.1
  · intro v hq
    cases hqv : Q.testBit v
    · obtain ⟨p, hp, e⟩ := hnew v hq hqv
      have := (hseg' p hp).2.2.2
      rw [e] at this
      rw [this]
      exact ⟨hmono s hs.1, hss⟩
    · rcases hbs v hqv with h1 | h1
      · rw [h1.1]
        exact ⟨hmono s hs.1, hss⟩
      · have hb := h.bas v hqv
        rw [h1.1]
        refine ⟨hmono _ hb.1, ?_⟩
        rcases hbs (bs v) hb.1 with h2 | h2
        · obtain ⟨_, p, hp, e2⟩ := h2
          rw [hb.2] at e2
          exact absurd ⟨p, hp, .inl e2⟩ h1.2
        · rw [h2.1, hb.2]
  · intro v hv16 hq
    have hqv : Q.testBit v = false := by
      rw [← Bool.not_eq_true]
      intro h1
      rw [hmono v h1] at hq
      cases hq
    by_cases hvn : v < n
    · refine (n4 v hvn fun hc => ?_).trans (h.out v hv16 hqv)
      rw [(w6 v).mpr (.inr ⟨hvn, hc⟩)] at hq
      cases hq
    · rw [w5 v (by omega), h.out v hv16 hqv]
  · intro x u hq hf
    have hqx : Q.testBit x = false := by
      rw [← Bool.not_eq_true]
      intro h1
      rw [hmono x h1] at hq
      cases hq
    rw [w1 x (hfirst x hqx)] at hf
    obtain ⟨y, y1, y2, y3, y4⟩ := h.inner x u hqx hf
    have huQ := (h.frm x u hf).2
    refine ⟨y, y1, hmono y y2, ?_, ?_⟩
    · rcases hbs y y2 with h1 | h1
      · obtain ⟨_, p, hp, e2⟩ := h1
        rw [y3] at e2
        obtain ⟨_, _, _, _, _, y', y5, y6⟩ := hseg p hp
        rw [← e2] at y5
        have hm := (hseg _ y5).1
        have hm : mt y = some y' := hm
        have := (hv _ _ y1).1
        rw [this] at hm
        cases hm
        have := (hseg' _ y5).2.1
        rw [hq] at this
        cases this
      · rw [h1.1, y3]
    · rcases hbs u huQ with h1 | h1
      · obtain ⟨e, p, hp, e2⟩ := h1
        rw [e]
        obtain ⟨k, hk⟩ := (hseg p hp).2.2.2.2.1
        have hb := h.bas u huQ
        rw [← e2] at hk
        have := an_q hv hr h k (bs u) s hb.1 hb.2 hk
        omega
      · rw [h1.1]; exact y4
  · intro v hq hb hne
    obtain ⟨h1, h2, h3⟩ := hkeepb v hq hb
    obtain ⟨i, i1, i2, i3⟩ := h.base v h1 h2 hne
    refine ⟨i, i1, ?_, ?_⟩
    · rw [← Bool.not_eq_true]
      intro h4
      obtain ⟨p, hp, e⟩ := hnew i h4 i2
      have := (hseg p hp).2.1
      rw [e, (hv _ _ i1).1] at this
      have e2 : v = p.1 := Option.some.inj this
      exact h3 ⟨p, hp, .inl (by rw [e2])⟩
    · rw [w1 i (hfirst i i2)]
      exact i3
  · intro v hq hb
    cases hqv : Q.testBit v
    · obtain ⟨p, hp, e⟩ := hnew v hq hqv
      have h1 := hseg' p hp
      refine ⟨p.1, by rw [← e]; exact (hseg p hp).2.1, h1.1, ?_⟩
      rw [h1.2.2.1, ← e, h1.2.2.2]
    · rcases hbs v hqv with h1 | h1
      · obtain ⟨e, p, hp, e2⟩ := h1
        by_cases hbv : bs v = v
        · obtain ⟨_, _, _, _, _, y, y5, y6⟩ := hseg p hp
          rw [← e2, hbv] at y5
          have h2 := hseg' _ y5
          exact ⟨y, (hseg _ y5).1, h2.2.1, h2.2.2.2.trans e.symm⟩
        · obtain ⟨x, x1, x2, x3⟩ := h.blos v hqv hbv
          refine ⟨x, x1, hmono x x2, ?_⟩
          rw [p4 x (h.inn x x2) ⟨p, hp, .inl (x3.trans e2)⟩, e]
      · have hbv : bs v ≠ v := fun e => hb (h1.1.trans e)
        obtain ⟨x, x1, x2, x3⟩ := h.blos v hqv hbv
        refine ⟨x, x1, hmono x x2, ?_⟩
        rw [n4 x (h.inn x x2) (by rw [x3]; exact h1.2), x3, h1.1]
  · intro x u hf
    by_cases hc : ∃ p, (p ∈ Sa ∨ p ∈ Sb) ∧ p.1 = x
    · obtain ⟨p, hp, e⟩ := hc
      obtain ⟨u', u1, u2, u3⟩ := hbendA p hp
      rw [e, hf] at u1
      cases u1
      rw [e] at u2
      exact ⟨u2, u3⟩
    · rw [w1 x hc] at hf
      have := h.frm x u hf
      exact ⟨this.1, hmono u this.2⟩
  · intro v hq hb
    obtain ⟨h1, h2, h3⟩ := hkeepb v hq hb
    rw [w1 v (fun ⟨p, hp, e⟩ => h3 ⟨p, hp, .inl (by rw [e])⟩)]
    exact h.bno v h1 h2
  · intro v hq
    cases hqv : Q.testBit v
    · obtain ⟨p, hp, e⟩ := hnew v hq hqv
      rcases hp with hp | hp
      · obtain ⟨A, _, g1, g2⟩ := nw_round hn hJ hirr hv hr h t w p hp
        rw [e] at g1
        exact ⟨_, g1, by rw [e] at g2; exact g2⟩
      · obtain ⟨A, _, g1, g2⟩ := nw_round hn hJ hirr hv hr h (st_sym t) (nw_sym w) p hp
        rw [e] at g1
        exact ⟨_, g1, by rw [e] at g2; exact g2⟩
    · obtain ⟨L, g1, g2⟩ := h.path v hqv
      rcases first_bad (P := fun p => ∃ q, (q ∈ Sa ∨ q ∈ Sb) ∧ q.1 = p.2) L with h1 | ⟨A, x, B, e, ⟨q, hq1, hq2⟩, h3⟩
      · exact ⟨L, nw_keep hn hJ hv hr h t w g1 h1, g2⟩
      · rw [e] at g1 g2
        rcases hq1 with hq1 | hq1
        · exact nw_old hn hJ hirr hv hr h t w g1 g2 h3 hq1 hq2
        · exact nw_old hn hJ hirr hv hr h (st_sym t) (nw_sym w) g1 g2 (fun p hp ⟨q, h4, h5⟩ => h3 p hp ⟨q, h4.symm, h5⟩) hq1 hq2
  · intro v hq hb
    obtain ⟨h1, h2, h3⟩ := hkeepb v hq hb
    exact Nat.lt_of_lt_of_le (h.dep v h1 h2) (nm_c_mono 16 fun i _ => hmono i)
end

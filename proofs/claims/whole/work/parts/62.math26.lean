/-! the search for a path: structure of the tree -/
def uq (mt fr : Nat → Option Nat) (bs : Nat → Nat) (b : Nat) : Option Nat := ((mt b).bind fr).map bs
def an (up : Nat → Option Nat) : Nat → Nat → Nat → Prop
  | 0, b, g => b = g
  | k + 1, b, g => ∃ e, up b = some e ∧ an up k e g
def ac (up : Nat → Option Nat) (b g : Nat) : Prop := ∃ k, an up k b g
theorem ac_r {up : Nat → Option Nat} {b : Nat} : ac up b b := ⟨0, rfl⟩
theorem ac_s {up : Nat → Option Nat} {b e g : Nat} (h : up b = some e) (h2 : ac up e g) : ac up b g := h2.elim fun k hk => ⟨k + 1, e, h, hk⟩
theorem ac_c {up : Nat → Option Nat} {b g : Nat} (h : ac up b g) : b = g ∨ ∃ e, up b = some e ∧ ac up e g := by
  obtain ⟨k, hk⟩ := h
  cases k with
  | zero => exact .inl hk
  | succ k => exact .inr (hk.elim fun e he => ⟨e, he.1, k, he.2⟩)
theorem an_t {up : Nat → Option Nat} : ∀ j k b c g, an up j b c → an up k c g → an up (j + k) b g := by
  intro j
  induction j with
  | zero => intro k b c g h1 h2; have e : b = c := h1; subst e; rw [Nat.zero_add]; exact h2
  | succ j ih =>
    intro k b c g h1 h2
    obtain ⟨e, h3, h4⟩ := h1
    rw [show j + 1 + k = (j + k) + 1 by omega]
    exact ⟨e, h3, ih k e c g h4 h2⟩
theorem ac_t {up : Nat → Option Nat} {b c g : Nat} (h1 : ac up b c) (h2 : ac up c g) : ac up b g := by
  obtain ⟨j, hj⟩ := h1
  obtain ⟨k, hk⟩ := h2
  exact ⟨j + k, an_t j k b c g hj hk⟩
theorem an_l {up : Nat → Option Nat} : ∀ j k b c g, j ≤ k → an up j b c → an up k b g → an up (k - j) c g := by
  intro j
  induction j with
  | zero => intro k b c g _ h1 h2; have e : b = c := h1; subst e; exact h2
  | succ j ih =>
    intro k b c g hjk h1 h2
    cases k with
    | zero => omega
    | succ k =>
      obtain ⟨e, h3, h4⟩ := h1
      obtain ⟨e', h5, h6⟩ := h2
      rw [h3] at h5
      cases h5
      rw [show k + 1 - (j + 1) = k - j by omega]
      exact ih k e c g (by omega) h4 h6
theorem ac_l {up : Nat → Option Nat} {b c g : Nat} (h1 : ac up b c) (h2 : ac up b g) : ac up c g ∨ ac up g c := by
  obtain ⟨j, hj⟩ := h1
  obtain ⟨k, hk⟩ := h2
  rcases Nat.le_total j k with h | h
  · exact .inl ⟨k - j, an_l j k b c g h hj hk⟩
  · exact .inr ⟨j - k, an_l k j b g c h hk hj⟩
/-- a path by the pointers, pair by pair -/
def gp (mt fr : Nat → Option Nat) (bs : Nat → Nat) (Q r : Nat) : Nat → List (Nat × Nat) → Prop
  | v, [] => v = r
  | v, p :: L => p.1 = v ∧ mt v = some p.2 ∧ Q.testBit v = true ∧ ∃ u, fr p.2 = some u ∧ ((Q.testBit p.2 = true ∧ bs p.2 = bs v ∧ bs u = bs v) ∨ (Q.testBit p.2 = false ∧ bs v = v)) ∧ gp mt fr bs Q r u L
def gR (p q : Nat × Nat) : Prop := p.1 ≠ q.1 ∧ p.1 ≠ q.2
/-- the tree of a search -/
def si (J : Nat → Nat) (n : Nat) (mt : Nat → Option Nat) (r : Nat) (d : Nat → Nat) (fr : Nat → Option Nat) (bs : Nat → Nat) (Q : Nat) : Prop := (Q.testBit r = true ∧ bs r = r) ∧ (∀ v, Q.testBit v = true → v < n) ∧ (∀ v, Q.testBit v = true → Q.testBit (bs v) = true ∧ bs (bs v) = bs v) ∧ (∀ v, v < 16 → Q.testBit v = false → bs v = v) ∧ (∀ x u, Q.testBit x = false → fr x = some u → ∃ w, mt x = some w ∧ Q.testBit w = true ∧ bs w = w ∧ d (bs u) < d w) ∧ (∀ v, Q.testBit v = true → bs v = v → v ≠ r → ∃ i, mt v = some i ∧ Q.testBit i = false ∧ fr i ≠ none) ∧ (∀ v, Q.testBit v = true → bs v ≠ v → ∃ w, mt v = some w ∧ Q.testBit w = true ∧ bs w = bs v) ∧ (∀ x u, fr x = some u → (J x).testBit u = true ∧ Q.testBit u = true) ∧ (∀ v, Q.testBit v = true → bs v = v → fr v = none) ∧ (∀ v, Q.testBit v = true → ∃ L, gp mt fr bs Q r v L ∧ L.Pairwise gR) ∧ (∀ v, Q.testBit v = true → bs v = v → d v < nm_c 16 Q)
theorem si.rt {J : Nat → Nat} {n : Nat} {mt : Nat → Option Nat} {r : Nat} {d : Nat → Nat} {fr : Nat → Option Nat} {bs : Nat → Nat} {Q : Nat} (h : si J n mt r d fr bs Q) : Q.testBit r = true ∧ bs r = r := h.1
theorem si.inn {J : Nat → Nat} {n : Nat} {mt : Nat → Option Nat} {r : Nat} {d : Nat → Nat} {fr : Nat → Option Nat} {bs : Nat → Nat} {Q : Nat} (h : si J n mt r d fr bs Q) : ∀ v, Q.testBit v = true → v < n := h.2.1
theorem si.bas {J : Nat → Nat} {n : Nat} {mt : Nat → Option Nat} {r : Nat} {d : Nat → Nat} {fr : Nat → Option Nat} {bs : Nat → Nat} {Q : Nat} (h : si J n mt r d fr bs Q) : ∀ v, Q.testBit v = true → Q.testBit (bs v) = true ∧ bs (bs v) = bs v := h.2.2.1
theorem si.out {J : Nat → Nat} {n : Nat} {mt : Nat → Option Nat} {r : Nat} {d : Nat → Nat} {fr : Nat → Option Nat} {bs : Nat → Nat} {Q : Nat} (h : si J n mt r d fr bs Q) : ∀ v, v < 16 → Q.testBit v = false → bs v = v := h.2.2.2.1
theorem si.inner {J : Nat → Nat} {n : Nat} {mt : Nat → Option Nat} {r : Nat} {d : Nat → Nat} {fr : Nat → Option Nat} {bs : Nat → Nat} {Q : Nat} (h : si J n mt r d fr bs Q) : ∀ x u, Q.testBit x = false → fr x = some u → ∃ w, mt x = some w ∧ Q.testBit w = true ∧ bs w = w ∧ d (bs u) < d w := h.2.2.2.2.1
theorem si.base {J : Nat → Nat} {n : Nat} {mt : Nat → Option Nat} {r : Nat} {d : Nat → Nat} {fr : Nat → Option Nat} {bs : Nat → Nat} {Q : Nat} (h : si J n mt r d fr bs Q) : ∀ v, Q.testBit v = true → bs v = v → v ≠ r → ∃ i, mt v = some i ∧ Q.testBit i = false ∧ fr i ≠ none := h.2.2.2.2.2.1
theorem si.blos {J : Nat → Nat} {n : Nat} {mt : Nat → Option Nat} {r : Nat} {d : Nat → Nat} {fr : Nat → Option Nat} {bs : Nat → Nat} {Q : Nat} (h : si J n mt r d fr bs Q) : ∀ v, Q.testBit v = true → bs v ≠ v → ∃ w, mt v = some w ∧ Q.testBit w = true ∧ bs w = bs v := h.2.2.2.2.2.2.1
theorem si.frm {J : Nat → Nat} {n : Nat} {mt : Nat → Option Nat} {r : Nat} {d : Nat → Nat} {fr : Nat → Option Nat} {bs : Nat → Nat} {Q : Nat} (h : si J n mt r d fr bs Q) : ∀ x u, fr x = some u → (J x).testBit u = true ∧ Q.testBit u = true := h.2.2.2.2.2.2.2.1
theorem si.bno {J : Nat → Nat} {n : Nat} {mt : Nat → Option Nat} {r : Nat} {d : Nat → Nat} {fr : Nat → Option Nat} {bs : Nat → Nat} {Q : Nat} (h : si J n mt r d fr bs Q) : ∀ v, Q.testBit v = true → bs v = v → fr v = none := h.2.2.2.2.2.2.2.2.1
theorem si.path {J : Nat → Nat} {n : Nat} {mt : Nat → Option Nat} {r : Nat} {d : Nat → Nat} {fr : Nat → Option Nat} {bs : Nat → Nat} {Q : Nat} (h : si J n mt r d fr bs Q) : ∀ v, Q.testBit v = true → ∃ L, gp mt fr bs Q r v L ∧ L.Pairwise gR := h.2.2.2.2.2.2.2.2.2.1
theorem si.dep {J : Nat → Nat} {n : Nat} {mt : Nat → Option Nat} {r : Nat} {d : Nat → Nat} {fr : Nat → Option Nat} {bs : Nat → Nat} {Q : Nat} (h : si J n mt r d fr bs Q) : ∀ v, Q.testBit v = true → bs v = v → d v < nm_c 16 Q := h.2.2.2.2.2.2.2.2.2.2
section
variable {J : Nat → Nat} {n : Nat} {mt : Nat → Option Nat} {r : Nat} {d : Nat → Nat} {fr : Nat → Option Nat} {bs : Nat → Nat} {Q : Nat}
theorem si_up (hv : mv J mt) (h : si J n mt r d fr bs Q) {b : Nat} (hb : Q.testBit b = true) (hbb : bs b = b) (hne : b ≠ r) : ∃ i u, mt b = some i ∧ Q.testBit i = false ∧ fr i = some u ∧ uq mt fr bs b = some (bs u) ∧ Q.testBit (bs u) = true ∧ bs (bs u) = bs u ∧ d (bs u) < d b := by
  obtain ⟨i, h1, h2, h3⟩ := h.base b hb hbb hne
  cases hf : fr i with
  | none => exact absurd hf h3
  | some u =>
    obtain ⟨w, w1, w2, w3, w4⟩ := h.inner i u h2 hf
    have e := (hv b i h1).1
    rw [e] at w1
    cases w1
    have hu := (h.frm i u hf).2
    refine ⟨i, u, h1, h2, hf, ?_, (h.bas u hu).1, (h.bas u hu).2, w4⟩
    unfold uq
    rw [h1]
    show (fr i).map bs = _
    rw [hf]
    rfl
theorem uq_r (hr : mt r = none) : uq mt fr bs r = none := by
  unfold uq
  rw [hr]
  rfl
theorem an_q (hv : mv J mt) (hr : mt r = none) (h : si J n mt r d fr bs Q) : ∀ k b g, Q.testBit b = true → bs b = b → an (uq mt fr bs) k b g → Q.testBit g = true ∧ bs g = g ∧ d g + k ≤ d b := by
  intro k
  induction k with
  | zero =>
    intro b g h1 h2 h3
    have e : b = g := h3
    subst e
    exact ⟨h1, h2, Nat.le_refl _⟩
  | succ k ih =>
    intro b g h1 h2 h3
    obtain ⟨e, h4, h5⟩ := h3
    have hne : b ≠ r := fun e' => by
      rw [e', uq_r hr] at h4
      cases h4
    obtain ⟨i, u, _, _, _, u1, u2, u3, u4⟩ := si_up hv h h1 h2 hne
    rw [u1] at h4
    cases h4
    have := ih (bs u) g u2 u3 h5
    exact ⟨this.1, this.2.1, by omega⟩
theorem ac_root (hv : mv J mt) (h : si J n mt r d fr bs Q) : ∀ k b, d b < k → Q.testBit b = true → bs b = b → ac (uq mt fr bs) b r := by
  intro k
  induction k with
  | zero => intro b hk; omega
  | succ k ih =>
    intro b hk h1 h2
    by_cases hne : b = r
    · rw [hne]; exact ac_r
    · obtain ⟨i, u, _, _, _, u1, u2, u3, u4⟩ := si_up hv h h1 h2 hne
      exact ac_s u1 (ih (bs u) (by omega) u2 u3)
/-- of two of whom each is above the other -/
theorem ac_eq (hv : mv J mt) (hr : mt r = none) (h : si J n mt r d fr bs Q) {b g : Nat} (hb : Q.testBit b = true) (hbb : bs b = b) (h1 : ac (uq mt fr bs) b g) (h2 : ac (uq mt fr bs) g b) : b = g := by
  obtain ⟨j, hj⟩ := h1
  obtain ⟨k, hk⟩ := h2
  have a1 := an_q hv hr h j b g hb hbb hj
  have a2 := an_q hv hr h k g b a1.1 a1.2.1 hk
  have : j = 0 := by omega
  subst this
  exact hj
theorem gp_q (h : si J n mt r d fr bs Q) : ∀ L v, gp mt fr bs Q r v L → Q.testBit v = true := by
  intro L v hg
  cases L with
  | nil => have e : v = r := hg; rw [e]; exact h.rt.1
  | cons p L => exact hg.2.2.1
theorem gp_det (hr : mt r = none) : ∀ L L' v, gp mt fr bs Q r v L → gp mt fr bs Q r v L' → L = L' := by
  intro L
  induction L with
  | nil =>
    intro L' v h1 h2
    cases L' with
    | nil => rfl
    | cons p L' =>
      have e : v = r := h1
      have := h2.2.1
      rw [e, hr] at this
      cases this
  | cons p L ih =>
    intro L' v h1 h2
    obtain ⟨a1, a2, _, u, a3, _, a4⟩ := h1
    cases L' with
    | nil =>
      have e : v = r := h2
      rw [e, hr] at a2
      cases a2
    | cons p' L' =>
      obtain ⟨b1, b2, _, u', b3, _, b4⟩ := h2
      rw [a2] at b2
      have e2 : p.2 = p'.2 := Option.some.inj b2
      rw [← e2, a3] at b3
      have e3 : u = u' := Option.some.inj b3
      subst e3
      have e1 : p = p' := Prod.ext (a1.trans b1.symm) e2
      rw [e1, ih L' u a4 b4]
theorem gp_suf : ∀ A v p B, gp mt fr bs Q r v (A ++ p :: B) → gp mt fr bs Q r p.1 (p :: B) := by
  intro A
  induction A with
  | nil =>
    intro v p B h
    have e : p.1 = v := h.1
    rw [e]
    exact h
  | cons a A ih =>
    intro v p B h
    obtain ⟨_, _, _, u, _, _, h1⟩ := h
    exact ih u p B h1
theorem gp_mt : ∀ L v p, gp mt fr bs Q r v L → p ∈ L → mt p.1 = some p.2 ∧ Q.testBit p.1 = true := by
  intro L
  induction L with
  | nil => intro v p _ h; cases h
  | cons a L ih =>
    intro v p h hp
    obtain ⟨h1, h2, h3, u, _, _, h4⟩ := h
    rcases List.mem_cons.mp hp with e | e
    · rw [e, h1]; exact ⟨h2, h3⟩
    · exact ih u p h4 e
theorem gp_up (h : si J n mt r d fr bs Q) {v y u : Nat} (h1 : mt v = some y) (h2 : fr y = some u) (h3 : (Q.testBit y = true ∧ bs y = bs v ∧ bs u = bs v) ∨ (Q.testBit y = false ∧ bs v = v)) : ac (uq mt fr bs) (bs v) (bs u) := by
  rcases h3 with h3 | h3
  · rw [h3.2.2]; exact ac_r
  · rw [h3.2]
    refine ac_s ?_ ac_r
    unfold uq
    rw [h1]
    show (fr y).map bs = _
    rw [h2]
    rfl
theorem gp_ac (h : si J n mt r d fr bs Q) : ∀ L v p, gp mt fr bs Q r v L → p ∈ L → ac (uq mt fr bs) (bs v) (bs p.1) := by
  intro L
  induction L with
  | nil => intro v p _ hp; cases hp
  | cons a L ih =>
    intro v p hg hp
    obtain ⟨h1, h2, h3, u, h4, h5, h6⟩ := hg
    rcases List.mem_cons.mp hp with e | e
    · rw [e, h1]; exact ac_r
    · exact ac_t (gp_up h h2 h4 h5) (ih u p h6 e)
/-- the bases above stand on the path -/
theorem gp_base (hr : mt r = none) (h : si J n mt r d fr bs Q) : ∀ L v g, gp mt fr bs Q r v L → ac (uq mt fr bs) (bs v) g → g ≠ r → ∃ y, (g, y) ∈ L ∧ Q.testBit y = false := by
  intro L
  induction L with
  | nil =>
    intro v g hg ha hne
    have e : v = r := hg
    rw [e, h.rt.2] at ha
    rcases ac_c ha with e' | ⟨e', h1, _⟩
    · exact absurd e'.symm hne
    · rw [uq_r hr] at h1; cases h1
  | cons p L ih =>
    intro v g hg ha hne
    obtain ⟨h1, h2, h3, u, h4, h5, h6⟩ := hg
    have hstep : bs v = g ∨ ac (uq mt fr bs) (bs u) g := by
      rcases h5 with h5 | h5
      · rw [h5.2.2]; exact .inr ha
      · rcases ac_c ha with e | ⟨e, e1, e2⟩
        · exact .inl e
        · right
          rw [h5.2] at e1
          have : uq mt fr bs v = some (bs u) := by
            unfold uq
            rw [h2]
            show (fr p.2).map bs = _
            rw [h4]
            rfl
          rw [this] at e1
          cases e1
          exact e2
    have hrec : ac (uq mt fr bs) (bs u) g → ∃ y, (g, y) ∈ p :: L ∧ Q.testBit y = false := fun ha' => by
      obtain ⟨y, y1, y2⟩ := ih u g h6 ha' hne
      exact ⟨y, List.mem_cons_of_mem p y1, y2⟩
    rcases hstep with e | e
    · rcases h5 with h5 | h5
      · exact hrec (by rw [h5.2.2, e]; exact ac_r)
      · refine ⟨p.2, ?_, h5.1⟩
        rw [← e, h5.2]
        have : (v, p.2) = p := Prod.ext h1.symm rfl
        rw [this]
        exact List.mem_cons_self
    · exact hrec e
/-- outer by the pointers -/
theorem si_out (hv : mv J mt) (hr : mt r = none) (h : si J n mt r d fr bs Q) (x : Nat) : Q.testBit x = true ↔ (x = r ∨ (mt x).bind fr ≠ none) := by
  constructor
  · intro hx
    by_cases e : x = r
    · exact .inl e
    · right
      obtain ⟨L, hL, _⟩ := h.path x hx
      cases L with
      | nil => exact absurd hL e
      | cons p L =>
        obtain ⟨_, h2, _, u, h4, _⟩ := hL
        rw [h2]
        show fr p.2 ≠ none
        rw [h4]
        exact fun e => by cases e
  · rintro (e | e)
    · rw [e]; exact h.rt.1
    · cases hm : mt x with
      | none => rw [hm] at e; exact absurd rfl e
      | some w =>
        rw [hm] at e
        have e : fr w ≠ none := e
        cases hf : fr w with
        | none => exact absurd hf e
        | some u =>
          cases hq : Q.testBit w
          · obtain ⟨w', h1, h2, _, _⟩ := h.inner w u hq hf
            rw [(hv x w hm).1] at h1
            cases h1
            exact h2
          · by_cases hb : bs w = w
            · rw [h.bno w hq hb] at hf; cases hf
            · obtain ⟨w', h1, h2, _⟩ := h.blos w hq hb
              rw [(hv x w hm).1] at h1
              cases h1
              exact h2
end

/-! the search for a path: growth, the queue, the flip -/
section
variable {J : Nat → Nat} {n : Nat} {mt : Nat → Option Nat} {r : Nat} {d : Nat → Nat}
theorem gp_mono {fr fr' : Nat → Option Nat} {bs : Nat → Nat} {Q Q' : Nat} (h1 : ∀ x, Q.testBit x = true → Q'.testBit x = true) (h2 : ∀ y u, fr y = some u → (∃ x, mt x = some y) → fr' y = some u ∧ Q'.testBit y = Q.testBit y) : ∀ L v, gp mt fr bs Q r v L → gp mt fr' bs Q' r v L := by
  intro L
  induction L with
  | nil => exact fun v h => h
  | cons p L ih =>
    intro v h
    obtain ⟨g1, g2, g3, u, g4, g5, g6⟩ := h
    have e := h2 p.2 u g4 ⟨v, g2⟩
    refine ⟨g1, g2, h1 v g3, u, e.1, ?_, ih u g6⟩
    rw [e.2]
    exact g5
theorem grow_is (hn : n ≤ 16) (hJ : ∀ u i, (J u).testBit i = true → u < n ∧ i < n) (hirr : ∀ i, (J i).testBit i = false) (hsym : ∀ i j, (J i).testBit j = (J j).testBit i) (hv : mv J mt) (hr : mt r = none) {m : st_M} (h : SI J n mt r d m) {v to w : Nat} (hvQ : m.2.2.2.2.2.testBit v = true) (hto : m.2.2.2.2.2.testBit to = false) (hf : m.2.1 to = none) (hm : mt to = some w) (hj : (J v).testBit to = true) : SI J n mt r (up_N d w (d (m.2.2.1 v) + 1)) (ma_enq (m.1, up_O m.2.1 to (some v), m.2.2.1, m.2.2.2.1, m.2.2.2.2.1, m.2.2.2.2.2) w) ∧ ex m (ma_enq (m.1, up_O m.2.1 to (some v), m.2.2.1, m.2.2.2.1, m.2.2.2.2.1, m.2.2.2.2.2) w) ∧ (ma_enq (m.1, up_O m.2.1 to (some v), m.2.2.1, m.2.2.2.1, m.2.2.2.2.1, m.2.2.2.2.2) w).2.2.2.2.2.testBit to = false ∧ (ma_enq (m.1, up_O m.2.1 to (some v), m.2.2.1, m.2.2.2.1, m.2.2.2.2.1, m.2.2.2.2.2) w).2.1 to ≠ none ∧ (∀ x, (ma_enq (m.1, up_O m.2.1 to (some v), m.2.2.1, m.2.2.2.1, m.2.2.2.2.1, m.2.2.2.2.2) w).2.2.2.2.2.testBit x = true ↔ (m.2.2.2.2.2.testBit x = true ∨ x = w)) := by
  obtain ⟨h1, h2, h3⟩ := h
  obtain ⟨mt', fr, bs, q, c, Q⟩ := m
  try dsimp only at h1 h2 hvQ hto hf ⊢
  subst h1
  have hjw := (hv _ _ hm).2
  have hmw := (hv _ _ hm).1
  have hwn : w < n := (hJ _ _ hjw).2
  have hton : to < n := (hJ _ _ hjw).1
  have hwt : w ≠ to := fun e => by rw [e, hirr] at hjw; cases hjw
  have hwr : w ≠ r := fun e => by rw [e, hr] at hmw; cases hmw
  have hout := si_out hv hr h2 w
  have hwQ : Q.testBit w = false := by
    rw [← Bool.not_eq_true, hout]
    rintro (e | e)
    · exact hwr e
    · rw [hmw] at e
      exact e hf
  have hfw : fr w = none := by
    cases hfw : fr w with
    | none => rfl
    | some u =>
      obtain ⟨x, x1, x2, _⟩ := h2.inner w u hwQ hfw
      rw [hmw] at x1
      cases x1
      rw [hto] at x2
      cases x2
  have e := enq_is (m := (mt', up_O fr to (some v), bs, q, c, Q)) h3 (v := w) (by omega)
  generalize ma_enq (mt', up_O fr to (some v), bs, q, c, Q) w = m' at e
  obtain ⟨e1, e2, e3, e4, e5, e6, e7⟩ := e
  try dsimp only at e1 e2 e3 e5 e6 e7
  have hto' : m'.2.2.2.2.2.testBit to = false := by
    rw [← Bool.not_eq_true, e5]
    rintro (h | h)
    · rw [hto] at h; cases h
    · exact hwt h.symm
  have hmono : ∀ x, Q.testBit x = true → m'.2.2.2.2.2.testBit x = true := fun x hx => (e5 x).mpr (.inl hx)
  have hbw : bs w = w := h2.out w (by omega) hwQ
  have hbv := h2.bas v hvQ
  have hne : ∀ x, Q.testBit x = true → x ≠ w := fun x hx e => by rw [e, hwQ] at hx; cases hx
  have hgp : ∀ L x, gp mt' fr bs Q r x L → gp mt' (up_O fr to (some v)) bs m'.2.2.2.2.2 r x L := gp_mono hmono fun y u hy _ => by
    have hyt : y ≠ to := fun e => by rw [e, hf] at hy; cases hy
    have hyw : y ≠ w := fun e => by rw [e, hfw] at hy; cases hy
    refine ⟨by rw [up_O_ne hyt]; exact hy, ?_⟩
    rw [Bool.eq_iff_iff, e5]
    exact ⟨fun h => h.resolve_right hyw, fun h => .inl h⟩
  have hsize : nm_c 16 m'.2.2.2.2.2 = nm_c 16 Q + 1 := by
    rw [← cq_add (show w < 16 by omega) hwQ]
    refine nm_c_congr 16 fun x _ => ?_
    rw [Bool.eq_iff_iff, e5, Nat.testBit_or, Bool.or_eq_true, nm_2t, decide_eq_true_eq]
    exact ⟨fun h => h.imp id Eq.symm, fun h => h.imp id Eq.symm⟩
  refine ⟨⟨e1, ?_, e4⟩, ⟨e1, hmono, e6, e7, fun x hx => ?_, fun x y _ _ h => by rw [e3]; exact h⟩, hto', ?_, e5⟩
  · rw [e2, e3]
    refine ⟨⟨hmono r h2.rt.1, h2.rt.2⟩, ?_, ?_, ?_, ?_, ?_, ?_, ?_, ?_, ?_, ?_⟩
    · intro x hx
      rcases (e5 x).mp hx with h | h
      · exact h2.inn x h
      · rw [h]; exact hwn
    · intro x hx
      rcases (e5 x).mp hx with h | h
      · exact ⟨hmono _ (h2.bas x h).1, (h2.bas x h).2⟩
      · rw [h, hbw]
        exact ⟨(e5 w).mpr (.inr rfl), hbw⟩
    · intro x hx16 hx
      refine h2.out x hx16 ?_
      rw [← Bool.not_eq_true]
      intro h
      rw [hmono x h] at hx
      cases hx
    · intro x u hx hfx
      by_cases ext : x = to
      · subst ext
        rw [up_O_eq] at hfx
        cases hfx
        refine ⟨w, hm, (e5 w).mpr (.inr rfl), hbw, ?_⟩
        rw [up_N_ne (hne _ hbv.1), up_N_eq]
        omega
      · rw [up_O_ne ext] at hfx
        have hxQ : Q.testBit x = false := by
          rw [← Bool.not_eq_true]
          intro h
          rw [hmono x h] at hx
          cases hx
        obtain ⟨y, y1, y2, y3, y4⟩ := h2.inner x u hxQ hfx
        refine ⟨y, y1, hmono y y2, y3, ?_⟩
        rw [up_N_ne (hne _ (h2.bas u (h2.frm x u hfx).2).1), up_N_ne (hne y y2)]
        exact y4
    · intro x hx hb hxr
      rcases (e5 x).mp hx with h | h
      · obtain ⟨i, i1, i2, i3⟩ := h2.base x h hb hxr
        refine ⟨i, i1, ?_, ?_⟩
        · rw [← Bool.not_eq_true, e5]
          rintro (h4 | h4)
          · rw [i2] at h4; cases h4
          · have := (hv _ _ i1).1
            rw [h4, hmw] at this
            cases this
            rw [hto] at h
            cases h
        · by_cases e : i = to
          · rw [e, up_O_eq]; exact fun e => by cases e
          · rw [up_O_ne e]; exact i3
      · rw [h]
        exact ⟨to, hmw, hto', by rw [up_O_eq]; exact fun e => by cases e⟩
    · intro x hx hb
      rcases (e5 x).mp hx with h | h
      · obtain ⟨y, y1, y2, y3⟩ := h2.blos x h hb
        exact ⟨y, y1, hmono y y2, y3⟩
      · rw [h] at hb; exact absurd hbw hb
    · intro x u hfx
      by_cases ext : x = to
      · subst ext
        rw [up_O_eq] at hfx
        cases hfx
        exact ⟨by rw [hsym]; exact hj, hmono v hvQ⟩
      · rw [up_O_ne ext] at hfx
        have := h2.frm x u hfx
        exact ⟨this.1, hmono u this.2⟩
    · intro x hx hb
      rcases (e5 x).mp hx with h | h
      · rw [up_O_ne (fun e => by rw [e, hto] at h; cases h)]
        exact h2.bno x h hb
      · rw [h, up_O_ne hwt]; exact hfw
    · intro x hx
      rcases (e5 x).mp hx with h | h
      · obtain ⟨L, l1, l2⟩ := h2.path x h
        exact ⟨L, hgp L x l1, l2⟩
      · obtain ⟨L, l1, l2⟩ := h2.path v hvQ
        rw [h]
        refine ⟨(w, to) :: L, ⟨rfl, hmw, (e5 w).mpr (.inr rfl), v, up_O_eq, .inr ⟨hto', hbw⟩, hgp L v l1⟩, List.pairwise_cons.mpr ⟨fun p hp => ?_, l2⟩⟩
        have hpm := gp_mt _ v p l1 hp
        refine ⟨fun e => ?_, fun e => ?_⟩
        · have e : w = p.1 := e
          rw [← e, hwQ] at hpm
          cases hpm.2
        · have e : w = p.2 := e
          have := (hv _ _ hpm.1).1
          rw [← e, hmw] at this
          cases this
          rw [hto] at hpm
          cases hpm.2
    · intro x hx hb
      rw [hsize]
      rcases (e5 x).mp hx with h | h
      · rw [up_N_ne (hne x h)]
        have := h2.dep x h hb
        omega
      · rw [h, up_N_eq]
        have := h2.dep _ hbv.1 hbv.2
        omega
  · rw [e2]
    by_cases e : x = to
    · rw [e, up_O_eq]; exact fun e => by cases e
    · rw [up_O_ne e]; exact hx
  · rw [e2, up_O_eq]
    exact fun e => by cases e
/-- what is known of a node's neighbours below a bound -/
def pn (J : Nat → Nat) (i v : Nat) (m : st_M) (to : Nat) : Prop := ∀ x, x < to → (J v).testBit x = true → (m.2.2.2.2.2.testBit x = true → (∃ j, j < i ∧ m.2.2.2.1 j = x) → m.2.2.1 x = m.2.2.1 v) ∧ (m.2.2.2.2.2.testBit x = false → m.2.1 x ≠ none)
theorem pn_ex {i v to : Nat} {m m' : st_M} (hi : i < m.2.2.2.2.1) (hq : qk m) (hv : m.2.2.2.2.2.testBit v = true) (e : ex m m') (h : pn J i v m to) : pn J i v m' to := by
  obtain ⟨e1, e2, e3, e4, e5, e6⟩ := e
  intro x hx hj
  have h1 := h x hx hj
  refine ⟨fun _ ⟨j, j1, j2⟩ => ?_, fun hx' => ?_⟩
  · rw [e3 j (by omega)] at j2
    have hxQ : m.2.2.2.2.2.testBit x = true := (hq.2 x).mpr ⟨j, by omega, j2⟩
    exact e6 x v hxQ hv (h1.1 hxQ ⟨j, j1, j2⟩)
  · refine e5 x (h1.2 ?_)
    rw [← Bool.not_eq_true]
    intro h2
    rw [e2 x h2] at hx'
    cases hx'
/-- a path is found -/
def fd (J : Nat → Nat) (n : Nat) (mt : Nat → Option Nat) (r e : Nat) (m' : st_M) : Prop := ∃ d v fr, SI J n mt r d (m'.1, fr, m'.2.2) ∧ m'.2.1 = up_O fr e (some v) ∧ e < n ∧ m'.2.2.2.2.2.testBit e = false ∧ mt e = none ∧ (J v).testBit e = true ∧ m'.2.2.2.2.2.testBit v = true
theorem go_is (hn : n ≤ 16) (hJ : ∀ u i, (J u).testBit i = true → u < n ∧ i < n) (hirr : ∀ i, (J i).testBit i = false) (hsym : ∀ i j, (J i).testBit j = (J j).testBit i) (hv : mv J mt) (hr : mt r = none) {i v : Nat} : ∀ k to d m, to + k = n → SI J n mt r d m → i < m.2.2.2.2.1 → m.2.2.2.1 i = v → pn J i v m to → (∃ m' d', ma_go n (J v) v r k to m = some (none, m') ∧ SI J n mt r d' m' ∧ ex m m' ∧ pn J i v m' n) ∨ ∃ e m', ma_go n (J v) v r k to m = some (some e, m') ∧ fd J n mt r e m' := by
  intro k
  induction k with
  | zero =>
    intro to d m e h hi hq hp
    have e1 : to = n := by omega
    subst e1
    exact .inl ⟨m, d, rfl, h, ex_r, hp⟩
  | succ k ih =>
    intro to d m e h hi hq hp
    have hvQ : m.2.2.2.2.2.testBit v = true := (h.2.2.2 v).mpr ⟨i, hi, hq⟩
    have hton : to < n := by omega
    -- go on with a state that is known at to
    have hgo : ∀ d' m', SI J n mt r d' m' → ex m m' → ((J v).testBit to = true → (m'.2.2.2.2.2.testBit to = true → (∃ j, j < i ∧ m'.2.2.2.1 j = to) → m'.2.2.1 to = m'.2.2.1 v) ∧ (m'.2.2.2.2.2.testBit to = false → m'.2.1 to ≠ none)) → (∃ m'' d'', ma_go n (J v) v r k (to + 1) m' = some (none, m'') ∧ SI J n mt r d'' m'' ∧ ex m m'' ∧ pn J i v m'' n) ∨ ∃ e m'', ma_go n (J v) v r k (to + 1) m' = some (some e, m'') ∧ fd J n mt r e m'' := by
      intro d' m' h' hex hat
      have hp' : pn J i v m' (to + 1) := fun x hx hj => by
        by_cases e : x = to
        · rw [e] at hj ⊢
          exact hat hj
        · exact pn_ex hi h.2.2 hvQ hex hp x (by omega) hj
      rcases ih (to + 1) d' m' (by omega) h' (Nat.lt_of_lt_of_le hi hex.2.2.2.1) ((hex.2.2.1 i hi).trans hq) hp' with ⟨m'', d'', g1, g2, g3, g4⟩ | g
      · exact .inl ⟨m'', d'', g1, g2, ex_t hex g3, g4⟩
      · exact .inr g
    obtain ⟨hm1, h2, h3⟩ := h
    have hbv := h2.bas v hvQ
    rw [ma_go]
    by_cases c1 : (J v).testBit to = false ∨ m.2.2.1 v = m.2.2.1 to ∨ m.1 v = some to
    · rw [if_pos c1]
      refine hgo d m ⟨hm1, h2, h3⟩ ex_r fun hj => ?_
      rcases c1 with c1 | c1 | c1
      · rw [hj] at c1; cases c1
      · refine ⟨fun _ _ => c1.symm, fun hq' => ?_⟩
        rw [h2.out to (by omega) hq'] at c1
        rw [← c1, hbv.1] at hq'
        cases hq'
      · rw [hm1] at c1
        by_cases hb : m.2.2.1 v = v
        · have hvr : v ≠ r := fun e => by rw [e, hr] at c1; cases c1
          obtain ⟨x, x1, x2, x3⟩ := h2.base v hvQ hb hvr
          rw [c1] at x1
          cases x1
          exact ⟨fun h4 => (by rw [x2] at h4; cases h4), fun _ => x3⟩
        · obtain ⟨x, x1, x2, x3⟩ := h2.blos v hvQ hb
          rw [c1] at x1
          cases x1
          exact ⟨fun _ _ => x3, fun h4 => by rw [x2] at h4; cases h4⟩
    · rw [if_neg c1]
      have hj : (J v).testBit to = true := by
        cases hj : (J v).testBit to
        · exact absurd (.inl hj) c1
        · rfl
      have hout := si_out hv hr h2 to
      rw [← hm1] at hout
      by_cases c2 : to = r ∨ (m.1 to).bind m.2.1 ≠ none
      · rw [if_pos c2]
        obtain ⟨m', g1, g2, g3, g4⟩ := cb_is hn hJ hirr hsym hv hr ⟨hm1, h2, h3⟩ hvQ (hout.mpr c2) hj
        rw [g1]
        exact hgo d m' g2 g3 fun _ => ⟨fun _ _ => g4.symm, fun h4 => by rw [g3.2.1 to (hout.mpr c2)] at h4; cases h4⟩
      · rw [if_neg c2]
        have htoQ : m.2.2.2.2.2.testBit to = false := by
          rw [← Bool.not_eq_true]
          exact fun h4 => c2 (hout.mp h4)
        by_cases c3 : m.2.1 to ≠ none
        · rw [if_pos c3]
          exact hgo d m ⟨hm1, h2, h3⟩ ex_r fun _ => ⟨fun h4 => (by rw [htoQ] at h4; cases h4), fun _ => c3⟩
        · rw [if_neg c3]
          have hf : m.2.1 to = none := Classical.byContradiction fun h4 => c3 h4
          cases hm : m.1 to with
          | none =>
            refine .inr ⟨to, _, rfl, d, v, m.2.1, ⟨hm1, h2, h3⟩, rfl, hton, htoQ, by rw [← hm1]; exact hm, hj, hvQ⟩
          | some w =>
            rw [hm1] at hm
            obtain ⟨g1, g2, g3, g4, g5⟩ := grow_is hn hJ hirr hsym hv hr ⟨hm1, h2, h3⟩ hvQ htoQ hf hm hj
            exact hgo _ _ g1 g2 fun _ => ⟨fun h4 => (by rw [g3] at h4; cases h4), fun _ => g4⟩
/-- all scanned below i -/
def sq (J : Nat → Nat) (m : st_M) (i : Nat) : Prop := ∀ j, j < i → ∀ x, (J (m.2.2.2.1 j)).testBit x = true → (∀ j', j' < i → m.2.2.2.1 j' = x → m.2.2.1 x = m.2.2.1 (m.2.2.2.1 j)) ∧ (m.2.2.2.2.2.testBit x = false → m.2.1 x ≠ none)
theorem wl_is {nn : st_N} (ok : gn_ok nn) (hv : mv nn.2.2.2 mt) (hr : mt r = none) : ∀ k i d m, i + k = 16 → i ≤ m.2.2.2.2.1 → SI nn.2.2.2 nn.1 mt r d m → sq nn.2.2.2 m i → (∃ m' d', ma_wl nn r k i m = some (none, m') ∧ SI nn.2.2.2 nn.1 mt r d' m' ∧ sq nn.2.2.2 m' m'.2.2.2.2.1) ∨ ∃ e m', ma_wl nn r k i m = some (some e, m') ∧ fd nn.2.2.2 nn.1 mt r e m' := by
  have hn := ok.1.1
  have hJ := nt_ends_in ok
  have hirr := ok.2.2.1
  have hsym := ok.2.1
  intro k
  induction k with
  | zero =>
    intro i d m e hi h hs
    have hc := nm_c_le 16 m.2.2.2.2.2
    have hc2 := h.2.2.1
    have e1 : i = m.2.2.2.2.1 := by omega
    exact .inl ⟨m, d, rfl, h, by rw [← e1]; exact hs⟩
  | succ k ih =>
    intro i d m e hi h hs
    rw [ma_wl]
    by_cases hlt : i < m.2.2.2.2.1
    · rw [if_pos hlt]
      have hvQ : m.2.2.2.2.2.testBit (m.2.2.2.1 i) = true := (h.2.2.2 _).mpr ⟨i, hlt, rfl⟩
      rcases go_is hn hJ hirr hsym hv hr (i := i) (v := m.2.2.2.1 i) nn.1 0 d m (by omega) h hlt rfl (fun x hx => absurd hx (Nat.not_lt_zero x)) with ⟨m', d', g1, g2, g3, g4⟩ | ⟨e', m', g1, g2⟩
      · rw [g1]
        have hqs : ∀ j, j < m.2.2.2.2.1 → m'.2.2.2.1 j = m.2.2.2.1 j := g3.2.2.1
        refine ih (i + 1) d' m' (by omega) (Nat.lt_of_lt_of_le hlt g3.2.2.2.1) g2 ?_
        intro j hj x hjx
        have hjc : j < m.2.2.2.2.1 := by omega
        rw [hqs j hjc] at hjx ⊢
        have hjQ : m.2.2.2.2.2.testBit (m.2.2.2.1 j) = true := (h.2.2.2 _).mpr ⟨j, hjc, rfl⟩
        by_cases ej : j = i
        · rw [ej] at hjx ⊢
          have hx := g4 x (hJ _ _ hjx).2 hjx
          refine ⟨fun j' hj' ej' => ?_, hx.2⟩
          by_cases e2 : j' = i
          · rw [e2, hqs i hlt] at ej'
            rw [← ej', hirr] at hjx
            cases hjx
          · refine hx.1 ((g2.2.2.2 x).mpr ⟨j', by have := g3.2.2.2.1; omega, ej'⟩) ⟨j', by omega, ej'⟩
        · have hs1 := hs j (by omega) x hjx
          refine ⟨fun j' hj' ej' => ?_, fun hx' => ?_⟩
          · rw [hqs j' (by omega)] at ej'
            have hxQ : m.2.2.2.2.2.testBit x = true := (h.2.2.2 _).mpr ⟨j', by omega, ej'⟩
            by_cases e2 : j' = i
            · -- the later one has looked at the earlier one
              rw [e2] at ej'
              have hjv : (nn.2.2.2 (m.2.2.2.1 i)).testBit (m.2.2.2.1 j) = true := by
                rw [ej', hsym]; exact hjx
              have := (g4 (m.2.2.2.1 j) (hJ _ _ hjv).2 hjv).1 (g3.2.1 _ hjQ) ⟨j, by omega, hqs j hjc⟩
              rw [this, ej']
            · exact g3.2.2.2.2.2 x _ hxQ hjQ (hs1.1 j' (by omega) ej')
          · refine g3.2.2.2.2.1 x (hs1.2 ?_)
            rw [← Bool.not_eq_true]
            intro h2
            rw [g3.2.1 x h2] at hx'
            cases hx'
      · rw [g1]
        exact .inr ⟨e', m', rfl, g2⟩
    · rw [if_neg hlt]
      have e1 : i = m.2.2.2.2.1 := by omega
      exact .inl ⟨m, d, rfl, h, by rw [← e1]; exact hs⟩
/-- the flip -/
def vd (J : Nat → Nat) (m : Nat → Option Nat) (e : Nat) : Prop := ∀ x y, x ≠ e → m x = some y → y ≠ e ∧ m y = some x ∧ (J x).testBit y = true
theorem fl_none {fr : Nat → Option Nat} {m : Nat → Option Nat} : ∀ k, ma_fl fr k m none = m := by
  intro k
  cases k <;> rfl
theorem fl_is (hirr : ∀ i, (J i).testBit i = false) (hsym : ∀ i j, (J i).testBit j = (J j).testBit i) (hv : mv J mt) (hr : mt r = none) {fr : Nat → Option Nat} {bs : Nat → Nat} {Q : Nat} (hfr : ∀ x u, fr x = some u → (J x).testBit u = true) : ∀ L k m e v, fr e = some v → gp mt fr bs Q r v L → L.Pairwise gR → (∀ p, p ∈ L → m p.1 = mt p.1) → m r = none → vd J m e → e ≠ r → (∀ p, p ∈ L → e ≠ p.1) → L.length + 1 ≤ k → mv J (ma_fl fr k m (some e)) ∧ ∀ x, ma_fl fr k m (some e) x = none ↔ (m x = none ∧ x ≠ e ∧ x ≠ r) := by
  intro L
  induction L with
  | nil =>
    intro k m e v hf hg _ _ hmr hvd her _ hk
    have hvr : v = r := hg
    subst hvr
    cases k with
    | zero => exact absurd hk (by simp)
    | succ k =>
      have hj := hfr e v hf
      rw [ma_fl, hf]
      try dsimp only
      rw [hmr, fl_none]
      refine ⟨fun x y hxy => ?_, fun x => ?_⟩
      · by_cases e1 : x = v
        · subst e1
          rw [up_O_eq] at hxy
          cases hxy
          rw [up_O_ne her, up_O_eq]
          exact ⟨rfl, by rw [hsym]; exact hj⟩
        · rw [up_O_ne e1] at hxy
          by_cases e2 : x = e
          · subst e2
            rw [up_O_eq] at hxy
            cases hxy
            rw [up_O_eq]
            exact ⟨rfl, hj⟩
          · rw [up_O_ne e2] at hxy
            have h1 := hvd x y e2 hxy
            have h2 : y ≠ v := fun e3 => by rw [e3, hmr] at h1; cases h1.2.1
            rw [up_O_ne h2, up_O_ne h1.1]
            exact ⟨h1.2.1, h1.2.2⟩
      · by_cases e1 : x = v
        · rw [e1, up_O_eq]
          exact ⟨fun h => (by cases h), fun h => absurd rfl h.2.2⟩
        · rw [up_O_ne e1]
          by_cases e2 : x = e
          · rw [e2, up_O_eq]
            exact ⟨fun h => (by cases h), fun h => absurd rfl h.2.1⟩
          · rw [up_O_ne e2]
            exact ⟨fun h => ⟨h, e2, e1⟩, fun h => h.1⟩
  | cons p L ih =>
    intro k m e v hf hg hpw hag hmr hvd her hep hk
    obtain ⟨g1, g2, g3, u, g4, g5, g6⟩ := hg
    have hp := List.pairwise_cons.mp hpw
    have hev : e ≠ v := by rw [← g1]; exact hep p List.mem_cons_self
    have hmv : m v = some p.2 := by
      have := hag p List.mem_cons_self
      rw [g1] at this
      rw [this]; exact g2
    have hj := hfr e v hf
    have hv1 := hvd v p.2 (fun h => hev h.symm) hmv
    have hvp : v ≠ p.2 := fun h => by
      have := hv1.2.2
      rw [← h, hirr] at this
      cases this
    have hvr : v ≠ r := fun h => by rw [h, hmr] at hmv; cases hmv
    cases k with
    | zero => exact absurd hk (by simp)
    | succ k =>
      rw [ma_fl, hf]
      try dsimp only
      rw [hmv]
      have hm2 := (hv _ _ g2).1
      have hgen := ih k (up_O (up_O m e (some v)) v (some e)) p.2 u g4 g6 hp.2 (fun q hq => by
        have h1 := hp.1 q hq
        rw [up_O_ne (fun h => h1.1 (g1.trans h.symm)), up_O_ne (fun h => hep q (List.mem_cons_of_mem p hq) h.symm)]
        exact hag q (List.mem_cons_of_mem p hq)) (by rw [up_O_ne (fun h => hvr h.symm), up_O_ne (fun h => her h.symm)]; exact hmr) (fun x y hx hxy => by
        by_cases e1 : x = v
        · subst e1
          rw [up_O_eq] at hxy
          cases hxy
          rw [up_O_ne hev, up_O_eq]
          exact ⟨fun h => hv1.1 h.symm, rfl, by rw [hsym]; exact hj⟩
        · rw [up_O_ne e1] at hxy
          by_cases e2 : x = e
          · subst e2
            rw [up_O_eq] at hxy
            cases hxy
            rw [up_O_eq]
            exact ⟨hvp, rfl, hj⟩
          · rw [up_O_ne e2] at hxy
            have h1 := hvd x y e2 hxy
            have h2 : y ≠ v := fun e3 => by
              have h4 := h1.2.1
              rw [e3, hmv] at h4
              cases h4
              exact hx rfl
            have h3 : y ≠ p.2 := fun e3 => by
              have h4 := h1.2.1
              rw [e3, hv1.2.1] at h4
              cases h4
              exact e1 rfl
            rw [up_O_ne h2, up_O_ne h1.1]
            exact ⟨h3, h1.2.1, h1.2.2⟩) (fun h => by
          rw [h, hr] at hm2
          cases hm2) (fun q hq h => by
          have h1 := gp_mt _ u q g6 hq
          rw [← h, hm2] at h1
          exact (hp.1 q hq).2 (g1.trans (Option.some.inj h1.1))) (by simpa using hk)
      refine ⟨hgen.1, fun x => ?_⟩
      rw [hgen.2 x]
      by_cases e1 : x = v
      · rw [e1, up_O_eq, hmv]
        exact ⟨fun h => (by cases h.1), fun h => (by cases h.1)⟩
      · rw [up_O_ne e1]
        by_cases e2 : x = e
        · rw [e2, up_O_eq]
          exact ⟨fun h => (by cases h.1), fun h => absurd rfl h.2.1⟩
        · rw [up_O_ne e2]
          constructor
          · rintro ⟨h1, _, h2⟩
            exact ⟨h1, e2, h2⟩
          · rintro ⟨h1, _, h2⟩
            refine ⟨h1, fun h => ?_, h2⟩
            rw [h, hv1.2.1] at h1
            cases h1
theorem fd_is (hn : n ≤ 16) (hJ : ∀ u i, (J u).testBit i = true → u < n ∧ i < n) (hirr : ∀ i, (J i).testBit i = false) (hsym : ∀ i j, (J i).testBit j = (J j).testBit i) (hv : mv J mt) (hr : mt r = none) {e : Nat} {m' : st_M} (h : fd J n mt r e m') : mv J (ma_flm m' e).1 ∧ (∀ x, (ma_flm m' e).1 x = none ↔ (mt x = none ∧ x ≠ e ∧ x ≠ r)) ∧ e ≠ r ∧ e < n ∧ mt e = none ∧ ∀ i, 16 ≤ i → (ma_flm m' e).2.1 i = none := by
  obtain ⟨d, v, fr, ⟨h1, h2, h3⟩, hfr, hen, heQ, hme, hj, hvQ⟩ := h
  obtain ⟨mt', fr', bs, q, c, Q⟩ := m'
  try dsimp only at h1 h2 hfr heQ hvQ
  subst h1 hfr
  have her : e ≠ r := fun e' => by rw [e', h2.rt.1] at heQ; cases heQ
  obtain ⟨L, l1, l2⟩ := h2.path v hvQ
  have hnoe : ∀ x, mt' x ≠ some e := fun x hx => by
    have := (hv _ _ hx).1
    rw [hme] at this
    cases this
  have l3 : gp mt' (up_O fr e (some v)) bs Q r v L := gp_mono (fun x hx => hx) (fun y u hy ⟨x, hx⟩ => ⟨by rw [up_O_ne (fun e' => hnoe x (by rw [← e']; exact hx))]; exact hy, rfl⟩) L v l1
  have hlen := pw_len L (2 ^ r) l2 (fun p hp => by
    have := gp_mt _ v p l1 hp
    refine ⟨by have := h2.inn _ this.2; omega, ?_⟩
    rw [nm_2t, decide_eq_false_iff_not]
    intro e'
    rw [← e', hr] at this
    cases this.1)
  have hr16 : r < 16 := by have := h2.inn r h2.rt.1; omega
  rw [nm_c_2, if_pos hr16] at hlen
  have key := fl_is hirr hsym hv hr (fr := up_O fr e (some v)) (bs := bs) (Q := Q) (fun x u hx => by
    by_cases e1 : x = e
    · subst e1
      rw [up_O_eq] at hx
      cases hx
      rw [hsym]; exact hj
    · rw [up_O_ne e1] at hx
      exact (h2.frm x u hx).1) L 16 mt' e v up_O_eq l3 l2 (fun p _ => rfl) hr (fun x y hx hxy => ⟨fun e' => hnoe x (by rw [← e']; exact hxy), hv x y hxy⟩) her (fun p hp e' => by
      have := gp_mt _ v p l1 hp
      rw [← e', hme] at this
      cases this.1) (by omega)
  refine ⟨key.1, key.2, her, hen, hme, fun i hi => ?_⟩
  show up_O fr e (some v) i = none
  rw [up_O_ne (by omega)]
  cases hf : fr i with
  | none => rfl
  | some u =>
    have := (hJ _ _ (h2.frm i u hf).1).1
    omega
end

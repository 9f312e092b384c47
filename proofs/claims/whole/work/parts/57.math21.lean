/-! near sets: the search finds the first greatest -/
def gd (b0 b : Nat) (P : Nat → Prop) : Prop := (b = b0 ∨ (P b ∧ nm_c 16 b0 < nm_c 16 b)) ∧ (∀ T, P T → nm_c 16 T ≤ nm_c 16 b) ∧ (b ≠ b0 → ∀ T, P T → nm_c 16 T = nm_c 16 b → T = b ∨ od_lt b T)
theorem gd_cg {b0 b : Nat} {P Q : Nat → Prop} (h : ∀ T, P T ↔ Q T) (hg : gd b0 b P) : gd b0 b Q := by
  have : P = Q := funext fun T => propext (h T)
  rw [← this]
  exact hg
theorem gd_no {b : Nat} {P : Nat → Prop} (h : ∀ T, P T → nm_c 16 T ≤ nm_c 16 b) : gd b b P := ⟨.inl rfl, h, fun e => absurd rfl e⟩
theorem gd_or {b0 b1 b2 : Nat} {P Q : Nat → Prop} (h1 : gd b0 b1 P) (h2 : gd b1 b2 Q) (ho : ∀ T T', P T → Q T' → nm_c 16 T = nm_c 16 T' → od_lt T T') : gd b0 b2 (fun T => P T ∨ Q T) := by
  have hle : nm_c 16 b0 ≤ nm_c 16 b1 := by
    rcases h1.1 with h | h
    · rw [h]; exact Nat.le_refl _
    · omega
  rcases h2.1 with e | ⟨hq, hlt⟩
  · subst e
    refine ⟨?_, ?_, ?_⟩
    · rcases h1.1 with h | h
      · exact .inl h
      · exact .inr ⟨.inl h.1, h.2⟩
    · rintro T (h | h)
      · exact h1.2.1 T h
      · exact h2.2.1 T h
    · intro hne T hT he
      rcases hT with h | h
      · exact h1.2.2 hne T h he
      · rcases h1.1 with h3 | h3
        · exact absurd h3 hne
        · exact .inr (ho b2 T h3.1 h he.symm)
  · refine ⟨.inr ⟨.inr hq, by omega⟩, ?_, ?_⟩
    · rintro T (h | h)
      · exact Nat.le_trans (h1.2.1 T h) (by omega)
      · exact h2.2.1 T h
    · intro _ T hT he
      rcases hT with h | h
      · have := h1.2.1 T h
        omega
      · exact h2.2.2 (fun e => by rw [e] at hlt; omega) T h he
def nh_F (J : Nat → Nat) (sl S op T : Nat) : Prop := nh_n J sl T ∧ (∀ i, S.testBit i = true → T.testBit i = true) ∧ ∀ i, T.testBit i = true → S.testBit i = true ∨ op.testBit i = true
theorem nh_b1 {S b : Nat} : gd b (nr_b1 S b) (fun T => T = S) := by
  unfold nr_b1
  by_cases h : nm_c 16 b < nm_c 16 S
  · rw [if_pos h]
    exact ⟨.inr ⟨rfl, h⟩, fun T e => by rw [e]; exact Nat.le_refl _, fun _ T e _ => .inl e⟩
  · rw [if_neg h]
    exact gd_no fun T e => by rw [e]; omega
theorem nh_od {S op T T' : Nat} (i : Nat) (hop : ∀ u, op.testBit u = true → S.testBit u = false) (h1 : ∀ u, S.testBit u = true → T.testBit u = true) (h2 : ∀ u, T.testBit u = true → S.testBit u = true ∨ op.testBit u = true) (h1' : ∀ u, S.testBit u = true → T'.testBit u = true) (h2' : ∀ u, T'.testBit u = true → S.testBit u = true ∨ op.testBit u = true) (hT : ∃ u, u < i ∧ op.testBit u = true ∧ T.testBit u = true) (hT' : ∀ u, u < i → op.testBit u = true → T'.testBit u = false) : od_lt T T' := by
  have hmin : ∃ u, (u < i ∧ op.testBit u = true ∧ T.testBit u = true) ∧ ∀ w, w < u → ¬ (w < i ∧ op.testBit w = true ∧ T.testBit w = true) := by
    obtain ⟨u, hu⟩ := hT
    induction u using Nat.strongRecOn with
    | ind u ih =>
      by_cases hc : ∃ w, w < u ∧ (w < i ∧ op.testBit w = true ∧ T.testBit w = true)
      · obtain ⟨w, hw, hw2⟩ := hc
        exact ih w hw hw2
      · exact ⟨u, hu, fun w hw h => hc ⟨w, hw, h⟩⟩
  obtain ⟨u, ⟨a1, a2, a3⟩, hm⟩ := hmin
  refine ⟨u, a3, hT' u a1 a2, fun j hj => ?_⟩
  cases hs : S.testBit j
  · have e1 : T.testBit j = false := by
      cases h : T.testBit j
      · rfl
      · rcases h2 j h with h' | h'
        · rw [hs] at h'; cases h'
        · exact absurd ⟨by omega, h', h⟩ (hm j hj)
    have e2 : T'.testBit j = false := by
      cases h : T'.testBit j
      · rfl
      · rcases h2' j h with h' | h'
        · rw [hs] at h'; cases h'
        · rw [hT' j (by omega) h'] at h; cases h
    rw [e1, e2]
  · rw [h1 j hs, h1' j hs]
theorem nh_big {S T : Nat} (hT : T < 65536) (h1 : ∀ u, S.testBit u = true → T.testBit u = true) (hne : T ≠ S) (hS : S < 65536) : nm_c 16 S < nm_c 16 T := by
  have := nm_c_mono 16 fun i _ => h1 i
  refine Nat.lt_of_le_of_ne this fun e => hne ?_
  exact (nm_sub_eq hS hT e h1).symm
theorem nh_btF {lim best size T : Nat} (h : nr_bt lim best size = false) (h1 : nm_c 16 T ≤ lim) (h2 : nm_c 16 T ≤ size) : nm_c 16 T ≤ nm_c 16 best := by
  unfold nr_bt at h
  rw [Bool.and_eq_false_iff, decide_eq_false_iff_not, decide_eq_false_iff_not] at h
  rcases h with h | h <;> omega
def nh_P (J : Nat → Nat) (sl S op i T : Nat) : Prop := nh_F J sl S op T ∧ (T = S ∨ ∃ u, u < i ∧ op.testBit u = true ∧ T.testBit u = true)
theorem nh_ext {n : st_N} (ok : gn_ok n) {sl lim : Nat} (hsl : sl ≤ 3) (hlim : ∀ T, nh_n n.2.2.2 sl T → (∀ i, T.testBit i = true → i < n.1) → nm_c 16 T ≤ lim) : ∀ k S op (s : (Nat → Nat → Nat) × Nat), k ≤ 16 → (∀ i, S.testBit i = true → i < n.1) → (∀ i, op.testBit i = true → i < n.1 ∧ S.testBit i = false ∧ nh_n n.2.2.2 sl (S ||| 2 ^ i)) → nm_c 16 op ≤ k → nh_n n.2.2.2 sl S → (1 ≤ k → nh_t n.2.2.2 n.1 S (s.1 (16 - k))) → gd s.2 (nr_ext n sl lim k S op s).2 (nh_F n.2.2.2 sl S op) ∧ ∀ j, j + k ≤ 16 → (nr_ext n sl lim k S op s).1 j = s.1 j := by
  have hn := ok.1.1
  have hsym := ok.2.1
  have hirr := ok.2.2.1
  have hlo : ∀ {T : Nat}, (∀ i, T.testBit i = true → i < n.1) → T < 65536 := fun {T} h => nm_lo fun i hi => by
    cases hb : T.testBit i
    · rfl
    · have := h i hb; omega
  intro k
  induction k with
  | zero =>
    intro S op s _ hSn hop hc hS _
    refine ⟨?_, fun j _ => rfl⟩
    show gd s.2 (nr_b1 S s.2) _
    refine gd_cg (fun T => ?_) nh_b1
    have h0 : ∀ i, op.testBit i = false := fun i => by
      cases hi : op.testBit i
      · rfl
      · have h1 := (hop i hi).1
        have := (nm_c_0 16).mp (Nat.le_zero.mp hc) i (by omega)
        rw [hi] at this
        exact this
    constructor
    · rintro rfl
      exact ⟨hS, fun i h => h, fun i h => .inl h⟩
    · rintro ⟨-, h1, h2⟩
      refine Nat.eq_of_testBit_eq fun i => ?_
      rw [Bool.eq_iff_iff]
      refine ⟨fun h => ?_, h1 i⟩
      rcases h2 i h with h | h
      · exact h
      · rw [h0 i] at h; cases h
  | succ k ih =>
    intro S op s hk hSn hop hc hS htab
    have htab := htab (by omega)
    have hSlo := hlo hSn
    have hFn : ∀ T, nh_F n.2.2.2 sl S op T → ∀ i, T.testBit i = true → i < n.1 := fun T hT i hi => by
      rcases hT.2.2 i hi with h | h
      · exact hSn i h
      · exact (hop i h).1
    have hdis : ∀ u, op.testBit u = true → S.testBit u = false := fun u hu => (hop u hu).2.1
    have horder : ∀ i T T', nh_P n.2.2.2 sl S op i T → nh_F n.2.2.2 sl S op T' → ¬ nh_P n.2.2.2 sl S op i T' → nm_c 16 T = nm_c 16 T' → od_lt T T' := by
      intro i T T' h1 h2 h3 he
      have hT'S : T' ≠ S := fun e => h3 ⟨h2, .inl e⟩
      rcases h1.2 with e | hu
      · have := nh_big (hlo (hFn T' h2)) h2.2.1 hT'S hSlo
        rw [e] at he
        omega
      · exact nh_od i hdis h1.1.2.1 h1.1.2.2 h2.2.1 h2.2.2 hu fun u hu1 hu2 => by
          cases hb : T'.testBit u
          · rfl
          · exact absurd ⟨h2, .inr ⟨u, hu1, hu2, hb⟩⟩ h3
    rw [nr_ext]
    have key := mi_it_ind (n := 16) (f := nr_vs n sl lim (16 - (k + 1)) S (nr_ext n sl lim k)) (fun i (q : Nat × (Nat → Nat → Nat) × Nat) => (∀ j, j + (k + 1) ≤ 16 → q.2.1 j = s.1 j) ∧ ((gd s.2 q.2.2 (nh_P n.2.2.2 sl S op i) ∧ ∀ u, q.1.testBit u = true ↔ (op.testBit u = true ∧ i ≤ u)) ∨ (gd s.2 q.2.2 (nh_F n.2.2.2 sl S op) ∧ nr_bt lim q.2.2 (nm_c 16 (S ||| q.1)) = false))) ?_ 16 0 (op, s.1, nr_b1 S s.2) (by decide) ⟨fun j _ => rfl, .inl ⟨gd_cg (fun T => ⟨fun e => ⟨⟨by rw [e]; exact hS, fun i h => by rw [e]; exact h, fun i h => .inl (by rw [← e]; exact h)⟩, .inl e⟩, fun h => by
        rcases h.2 with h | ⟨u, h, _⟩
        · exact h
        · exact absurd h (Nat.not_lt_zero u)⟩) nh_b1, fun u => ⟨fun h => ⟨h, Nat.zero_le u⟩, fun h => h.1⟩⟩⟩
    · refine ⟨?_, key.1⟩
      rcases key.2 with ⟨h1, -⟩ | ⟨h1, -⟩
      · refine gd_cg (fun T => ⟨fun h => h.1, fun h => ⟨h, ?_⟩⟩) h1
        by_cases e : T = S
        · exact .inl e
        · refine .inr (Classical.byContradiction fun hno => e ?_)
          refine Nat.eq_of_testBit_eq fun i => ?_
          rw [Bool.eq_iff_iff]
          refine ⟨fun hi => ?_, h.2.1 i⟩
          rcases h.2.2 i hi with h' | h'
          · exact h'
          · exact absurd ⟨i, by have := (hop i h').1; omega, h', hi⟩ hno
      · exact h1
    · rintro i ⟨o, W, b⟩ hi ⟨hW, hcase⟩
      try dsimp only at hW hcase
      rcases hcase with ⟨hg, ho⟩ | ⟨hg, hb⟩
      · by_cases hoi : op.testBit i = true
        · have hoi2 : o.testBit i = true := (ho i).mpr ⟨hoi, Nat.le_refl i⟩
          have hopi := hop i hoi
          cases hbt : nr_bt lim b (nm_c 16 (S ||| o))
          · -- cut off
            unfold nr_vs
            try dsimp only
            rw [if_neg (fun h => by rw [hbt] at h; cases h.2)]
            refine ⟨hW, .inr ⟨?_, hbt⟩⟩
            try dsimp only
            have hno : gd b b (fun T => nh_F n.2.2.2 sl S op T ∧ ¬ nh_P n.2.2.2 sl S op i T) := gd_no fun T hT => by
              refine nh_btF hbt (hlim T hT.1.1 (hFn T hT.1)) (nm_c_mono 16 fun u _ hu => ?_)
              rw [Nat.testBit_or, Bool.or_eq_true]
              rcases hT.1.2.2 u hu with h | h
              · exact .inl h
              · refine .inr ((ho u).mpr ⟨h, Nat.not_lt.mp fun hlt => hT.2 ⟨hT.1, .inr ⟨u, hlt, h, hu⟩⟩⟩)
            refine gd_cg (fun T => ?_) (gd_or hg hno fun T T' h1 h2 he => horder i T T' h1 h2.1 h2.2 he)
            constructor
            · rintro (h | h)
              · exact h.1
              · exact h.1
            · intro h
              by_cases hp : nh_P n.2.2.2 sl S op i T
              · exact .inl hp
              · exact .inr ⟨h, hp⟩
          · -- taken
            have hrow : W (16 - (k + 1)) = s.1 (16 - (k + 1)) := hW _ (by omega)
            have hSi := hopi.2.1
            have htab2 := nh_cl (g := W (16 - (k + 1) + 1)) hn hsym hopi.1 hSi (hrow.symm ▸ htab)
            generalize hcl : nr_cl n i (W (16 - (k + 1))) (W (16 - (k + 1) + 1)) = cl at htab2
            have hSi' : ∀ u, (S ||| 2 ^ i).testBit u = true ↔ (S.testBit u = true ∨ u = i) := fun u => by
              rw [Nat.testBit_or, Bool.or_eq_true, nm_2t, decide_eq_true_eq]
              exact ⟨fun h => h.elim .inl fun e => .inr e.symm, fun h => h.elim .inl fun e => .inr e.symm⟩
            have ho' : ∀ u, (nm_d o (2 ^ i)).testBit u = true ↔ (op.testBit u = true ∧ i + 1 ≤ u) := fun u => by
              rw [nm_d_t, Bool.and_eq_true, ho u, nm_2t]
              simp only [Bool.not_eq_true', decide_eq_false_iff_not]
              constructor
              · rintro ⟨⟨h1, h2⟩, h3⟩
                exact ⟨h1, by omega⟩
              · rintro ⟨h1, h2⟩
                exact ⟨⟨h1, by omega⟩, by omega⟩
            have hfit := nh_fit (op := nm_d o (2 ^ i)) hn hsl htab2 hopi.2.2 (fun u hu => by
              rcases (hSi' u).mp hu with h | h
              · exact hSn u h
              · rw [h]; exact hopi.1) (fun u hu => by
              have h1 := (ho' u).mp hu
              refine ⟨(hop u h1.1).1, ?_⟩
              rw [← Bool.not_eq_true, hSi']
              rintro (h | h)
              · rw [hdis u h1.1] at h; cases h
              · omega)
            generalize hfe : nr_fit n.2.2.2 (S ||| 2 ^ i) (nm_d o (2 ^ i)) cl sl = ft at hfit
            have hQ : ∀ T, nh_F n.2.2.2 sl (S ||| 2 ^ i) ft T ↔ (nh_F n.2.2.2 sl S op T ∧ ¬ nh_P n.2.2.2 sl S op i T ∧ T.testBit i = true) := by
              intro T
              constructor
              · rintro ⟨h1, h2, h3⟩
                have hTi : T.testBit i = true := h2 i ((hSi' i).mpr (.inr rfl))
                have hF : nh_F n.2.2.2 sl S op T := ⟨h1, fun u hu => h2 u ((hSi' u).mpr (.inl hu)), fun u hu => by
                  rcases h3 u hu with h | h
                  · rcases (hSi' u).mp h with h | h
                    · exact .inl h
                    · rw [h]; exact .inr hoi
                  · exact .inr ((ho' u).mp ((hfit u).mp h).1).1⟩
                refine ⟨hF, fun hp => ?_, hTi⟩
                rcases hp.2 with e | ⟨u, hu1, hu2, hu3⟩
                · rw [e, hSi] at hTi; cases hTi
                · rcases h3 u hu3 with h | h
                  · rcases (hSi' u).mp h with h | h
                    · rw [hdis u hu2] at h; cases h
                    · omega
                  · have := ((ho' u).mp ((hfit u).mp h).1).2
                    omega
              · rintro ⟨h1, h2, h3⟩
                refine ⟨h1.1, fun u hu => ?_, fun u hu => ?_⟩
                · rcases (hSi' u).mp hu with h | h
                  · exact h1.2.1 u h
                  · rw [h]; exact h3
                · by_cases hSu : S.testBit u = true
                  · exact .inl ((hSi' u).mpr (.inl hSu))
                  · by_cases hui : u = i
                    · exact .inl ((hSi' u).mpr (.inr hui))
                    · have hou : op.testBit u = true := (h1.2.2 u hu).resolve_left hSu
                      have hge : i + 1 ≤ u := Nat.not_lt.mp fun hlt => h2 ⟨h1, .inr ⟨u, by omega, hou, hu⟩⟩
                      refine .inr ((hfit u).mpr ⟨(ho' u).mpr ⟨hou, hge⟩, nh_sub h1.1 fun w hw => ?_⟩)
                      rw [Nat.testBit_or, Bool.or_eq_true, nm_2t, decide_eq_true_eq, hSi'] at hw
                      rcases hw with (hw | hw) | hw
                      · exact h1.2.1 w hw
                      · rw [hw]; exact h3
                      · rw [← hw]; exact hu
            have hP1 : ∀ T, (nh_P n.2.2.2 sl S op i T ∨ (nh_F n.2.2.2 sl S op T ∧ ¬ nh_P n.2.2.2 sl S op i T ∧ T.testBit i = true)) ↔ nh_P n.2.2.2 sl S op (i + 1) T := by
              intro T
              constructor
              · rintro (⟨h1, h2⟩ | ⟨h1, h2, h3⟩)
                · exact ⟨h1, h2.imp id fun ⟨u, hu1, hu2⟩ => ⟨u, by omega, hu2⟩⟩
                · exact ⟨h1, .inr ⟨i, by omega, hoi, h3⟩⟩
              · rintro ⟨h1, h2⟩
                by_cases hp : nh_P n.2.2.2 sl S op i T
                · exact .inl hp
                · refine .inr ⟨h1, hp, ?_⟩
                  rcases h2 with h | ⟨u, hu1, hu2, hu3⟩
                  · exact absurd ⟨h1, .inl h⟩ hp
                  · by_cases e : u = i
                    · rw [← e]; exact hu3
                    · exact absurd ⟨h1, .inr ⟨u, by omega, hu2, hu3⟩⟩ hp
            have hfin : ∀ b', gd b b' (nh_F n.2.2.2 sl (S ||| 2 ^ i) ft) → gd s.2 b' (nh_P n.2.2.2 sl S op (i + 1)) := fun b' hb' => by
              refine gd_cg hP1 (gd_or hg (gd_cg hQ hb') fun T T' h1 h2 he => horder i T T' h1 h2.1 h2.2.1 he)
            unfold nr_vs
            try dsimp only
            rw [if_pos ⟨hoi2, hbt⟩, hcl, hfe]
            cases hbt2 : nr_bt lim b (nm_c 16 (n.2.2.2 i &&& ((S ||| 2 ^ i) ||| ft)) + 1 + sl)
            · rw [if_neg (by decide)]
              refine ⟨fun j hj => ?_, .inl ⟨hfin b (gd_no fun T hT => ?_), ho'⟩⟩
              · try dsimp only
                rw [up_T_ne (by omega)]
                exact hW j hj
              · have hTi : T.testBit i = true := hT.2.1 i ((hSi' i).mpr (.inr rfl))
                refine nh_btF hbt2 (hlim T hT.1 (hFn T ((hQ T).mp hT).1)) ?_
                have h1 := nm_c_d T (n.2.2.2 i) 16
                rw [nh_one (by omega) (hirr i) hTi] at h1
                have h2 := hT.1 i hTi
                have h3 : nm_c 16 (T &&& n.2.2.2 i) ≤ nm_c 16 (n.2.2.2 i &&& ((S ||| 2 ^ i) ||| ft)) := nm_c_mono 16 fun u _ hu => by
                  rw [Nat.testBit_and, Bool.and_eq_true] at hu
                  rw [Nat.testBit_and, Nat.testBit_or, hu.2]
                  rcases hT.2.2 u hu.1 with h | h <;> rw [h] <;> simp
                omega
            · rw [if_pos rfl]
              have hrec := ih (S ||| 2 ^ i) ft (up_T W (16 - (k + 1) + 1) cl, b) (by omega) (fun u hu => by
                rcases (hSi' u).mp hu with h | h
                · exact hSn u h
                · rw [h]; exact hopi.1) (fun u hu => by
                have h1 := (hfit u).mp hu
                have h2 := (ho' u).mp h1.1
                refine ⟨(hop u h2.1).1, ?_, h1.2⟩
                rw [← Bool.not_eq_true, hSi']
                rintro (h | h)
                · rw [hdis u h2.1] at h; cases h
                · omega) (by
                have h1 := nm_c_drop (show i < 16 by omega) hoi
                have h2 : nm_c 16 ft ≤ nm_c 16 (nm_d op (2 ^ i)) := nm_c_mono 16 fun u _ hu => by
                  have h2 := (ho' u).mp ((hfit u).mp hu).1
                  rw [nm_d_t, h2.1, nm_2t, decide_eq_false (by omega)]
                  rfl
                omega) hopi.2.2 (fun hk1 => by
                try dsimp only
                rw [show 16 - (k + 1) + 1 = 16 - k by omega, up_T_eq]
                exact htab2)
              refine ⟨fun j hj => ?_, .inl ⟨hfin _ hrec.1, ho'⟩⟩
              try dsimp only
              rw [hrec.2 j (by omega)]
              try dsimp only
              rw [up_T_ne (by omega)]
              exact hW j hj
        · have hoi2 : ¬ o.testBit i = true := fun h => hoi ((ho i).mp h).1
          unfold nr_vs
          try dsimp only
          rw [if_neg (fun h => hoi2 h.1)]
          refine ⟨hW, .inl ⟨gd_cg (fun T => ?_) hg, fun u => ?_⟩⟩
          · constructor
            · rintro ⟨h1, h2⟩
              exact ⟨h1, h2.imp id fun ⟨u, hu1, hu2⟩ => ⟨u, by omega, hu2⟩⟩
            · rintro ⟨h1, h2⟩
              refine ⟨h1, h2.imp id fun ⟨u, hu1, hu2⟩ => ⟨u, ?_, hu2⟩⟩
              refine Nat.lt_of_le_of_ne (by omega) fun e => ?_
              rw [e] at hu2
              exact hoi hu2.1
          · try dsimp only
            rw [ho u]
            constructor
            · rintro ⟨h1, h2⟩
              refine ⟨h1, Nat.lt_of_le_of_ne h2 fun e => ?_⟩
              rw [← e] at h1
              exact hoi h1
            · rintro ⟨h1, h2⟩
              exact ⟨h1, by omega⟩
      · unfold nr_vs
        try dsimp only
        rw [if_neg (fun h => by rw [hb] at h; cases h.2)]
        exact ⟨hW, .inr ⟨hg, hb⟩⟩
theorem nh_ans {n : st_N} (ok : gn_ok n) {s : Nat} (h1 : 1 ≤ s) (h4 : s ≤ 4) (ze : st_E) (w : Nat → Nat) : (rf_best n.1 n.2.2.2 w (3 + s)).map (fun q => q.1) = some (nr_ans n s ze).2 := by
  have hn := ok.1.1
  have hlo : ∀ {T : Nat}, T < 2 ^ n.1 → T < 65536 := fun {T} h => Nat.lt_of_lt_of_le h (Nat.pow_le_pow_right (n := 2) (by decide) hn)
  have hrow : ∀ f : Nat → Nat → Nat, nh_t n.2.2.2 n.1 0 (up_T f 0 (up_N (fun i => if i < 5 then 0 else f 0 i) 0 (2 ^ n.1 - 1)) 0) := fun f j u hj => by
    rw [up_T_eq]
    have h0 : nh_l n.2.2.2 0 u = 0 := (nm_c_0 16).mpr fun i _ => by rw [nm_d_t, nm_d_t, Nat.zero_testBit]; rfl
    rw [h0]
    by_cases e : j = 0
    · subst e
      rw [up_N_eq, nm_full, decide_eq_true_eq]
      exact ⟨fun h => ⟨h, Nat.le_refl 0⟩, fun h => h.1⟩
    · rw [up_N_ne e]
      try dsimp only
      rw [if_pos (by omega), Nat.zero_testBit]
      exact ⟨fun h => (by cases h), fun h => (by omega)⟩
  have hz : ∀ i, (0 : Nat).testBit i = true → False := fun i h => by rw [Nat.zero_testBit] at h; cases h
  have hmain := (nh_ext ok (sl := s - 1) (lim := (nr_z n s ze).2.2.2.1) (by omega) (fun T hT hTn => nh_lim ok hT hTn (ze.1, ze.2.1, s - 1, ze.2.2.2.1, ze.2.2.2.2) rfl) 16 0 (2 ^ n.1 - 1) ((nr_z n s ze).1, 0) (Nat.le_refl 16) (fun i h => (hz i h).elim) (fun i hi => by
    rw [nm_full] at hi
    have hi := of_decide_eq_true hi
    refine ⟨hi, Nat.zero_testBit i, fun v hv => ?_⟩
    rw [nh_add (by omega) (Nat.zero_testBit i)]
    have h0 : nh_l n.2.2.2 0 v = 0 := (nm_c_0 16).mpr fun i _ => by rw [nm_d_t, nm_d_t, Nat.zero_testBit]; rfl
    rw [Nat.zero_or, nm_2t, decide_eq_true_eq] at hv
    rw [h0, if_neg (fun h => h.1 hv.symm)]
    exact Nat.zero_le _) (nm_c_le 16 _) (fun v h => (hz v h).elim) (fun _ => hrow ze.1)).1
  have hF : ∀ T, nh_F n.2.2.2 (s - 1) 0 (2 ^ n.1 - 1) T ↔ (T < 2 ^ n.1 ∧ rf_is n.1 n.2.2.2 (3 + s) T = true) := by
    intro T
    have his : rf_is n.1 n.2.2.2 (3 + s) T = rf_nr n.2.2.2 n.1 T (s - 1 + 1) := by
      unfold rf_is
      rw [if_neg (show ¬ 3 + s ≤ 1 by omega), if_neg (show ¬ 3 + s = 2 by omega), if_neg (show ¬ 3 + s = 3 by omega), show 3 + s - 3 = s - 1 + 1 by omega]
    rw [his]
    constructor
    · rintro ⟨g1, -, g2⟩
      have : T < 2 ^ n.1 := gb_in.mpr fun i hi => (g2 i hi).resolve_left fun h => (hz i h).elim
      exact ⟨this, (nh_rf hn ok.2.2.1 this).mpr g1⟩
    · rintro ⟨g1, g2⟩
      exact ⟨(nh_rf hn ok.2.2.1 g1).mp g2, fun i h => (hz i h).elim, fun i hi => .inr (gb_in.mp g1 i hi)⟩
  have hsz : ∀ T, rf_sz n.1 w (3 + s) T = nm_c 16 T := fun T => by
    unfold rf_sz
    rw [if_neg (show ¬ 3 + s = 1 by omega), if_neg (show ¬ 3 + s = 3 by omega)]
  refine gb_best hn (fun a b ha hb hab _ _ he => in_size (hlo ha) (hlo hb) hab (by rw [hsz, hsz] at he; exact he)) ?_
  have hg := gd_cg hF hmain
  have hsf : rf_sz n.1 w (3 + s) = nm_c 16 := funext hsz
  rw [hsf]
  try dsimp only at hg
  show bs_is _ _ (nr_ans n s ze).2
  unfold nr_ans
  generalize (nr_ext n (s - 1) (nr_z n s ze).2.2.2.1 16 0 (2 ^ n.1 - 1) ((nr_z n s ze).1, 0)).2 = b at hg
  have h00 : (0 : Nat) < 2 ^ n.1 ∧ rf_is n.1 n.2.2.2 (3 + s) 0 = true := (hF 0).mp ⟨fun v h => (hz v h).elim, fun v h => (hz v h).elim, fun v h => (hz v h).elim⟩
  have hb : b < 2 ^ n.1 ∧ rf_is n.1 n.2.2.2 (3 + s) b = true := by
    rcases hg.1 with h | h
    · rw [h]; exact h00
    · exact h.1
  refine ⟨hb, fun t ht => ?_⟩
  have hle := hg.2.1 t ht
  by_cases he : nm_c 16 t = nm_c 16 b
  · refine .inr ⟨he, ?_⟩
    by_cases hb0 : b = 0
    · rw [hb0, cz_0] at he
      refine .inl ?_
      rw [hb0]
      exact cz_z (A := 2 ^ n.1 - 1) (hlo (Nat.sub_lt Nat.one_le_two_pow (by decide))) t (gb_in.mp ht.1) he
    · exact hg.2.2 hb0 t ht he
  · exact .inl (by omega)

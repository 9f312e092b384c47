/-! covers of pairs -/
def bm (p : Nat → Bool) : Nat → Nat
  | 0 => 0
  | k + 1 => bm p k ||| (if p k = true then 2 ^ k else 0)
theorem bm_t (p : Nat → Bool) : ∀ k i, (bm p k).testBit i = true ↔ (i < k ∧ p i = true) := by
  intro k
  induction k with
  | zero => intro i; exact ⟨fun h => (by rw [bm, Nat.zero_testBit] at h; cases h), fun h => absurd h.1 (Nat.not_lt_zero i)⟩
  | succ k ih =>
    intro i
    rw [bm, Nat.testBit_or, Bool.or_eq_true, ih]
    by_cases h : p k = true
    · rw [if_pos h, nm_2t, decide_eq_true_eq]
      constructor
      · rintro (h1 | h1)
        · exact ⟨by omega, h1.2⟩
        · subst h1; exact ⟨by omega, h⟩
      · rintro ⟨h1, h2⟩
        by_cases e : k = i
        · exact .inr e
        · exact .inl ⟨by omega, h2⟩
    · rw [if_neg h, Nat.zero_testBit]
      constructor
      · rintro (h1 | h1)
        · exact ⟨by omega, h1.2⟩
        · cases h1
      · rintro ⟨h1, h2⟩
        refine .inl ⟨Nat.lt_of_le_of_ne (by omega) fun e => ?_, h2⟩
        subst e
        exact h h2
def bl_s : List Nat → Nat → Nat
  | [], _ => 0
  | L :: Ls, s => nm_c 16 (s &&& L) / 2 + bl_s Ls s
def bo (A : Nat) (Ls : List Nat) (s : Nat) : Nat := nm_c 16 (s &&& A) + bl_s Ls s
theorem an_mono {s t L : Nat} (h : ∀ i, s.testBit i = true → t.testBit i = true) : nm_c 16 (s &&& L) ≤ nm_c 16 (t &&& L) := nm_c_mono 16 fun i _ hi => by
  rw [Nat.testBit_and, Bool.and_eq_true] at hi ⊢
  exact ⟨h i hi.1, hi.2⟩
theorem bl_mono {s t : Nat} (h : ∀ i, s.testBit i = true → t.testBit i = true) : ∀ Ls, bl_s Ls s ≤ bl_s Ls t := by
  intro Ls
  induction Ls with
  | nil => exact Nat.le_refl _
  | cons L Ls ih =>
    have := an_mono (L := L) h
    show _ / 2 + _ ≤ _ / 2 + _
    omega
theorem bo_mono {A : Nat} {Ls : List Nat} {s t : Nat} (h : ∀ i, s.testBit i = true → t.testBit i = true) : bo A Ls s ≤ bo A Ls t := Nat.add_le_add (an_mono h) (bl_mono h Ls)
theorem d2_t {s a b i : Nat} : (nm_d (nm_d s (2 ^ a)) (2 ^ b)).testBit i = true ↔ (s.testBit i = true ∧ i ≠ a ∧ i ≠ b) := by
  rw [nm_d_t, nm_d_t, nm_2t, nm_2t]
  simp only [Bool.and_eq_true, Bool.not_eq_true', decide_eq_false_iff_not]
  exact ⟨fun h => ⟨h.1.1, fun e => h.1.2 e.symm, fun e => h.2 e.symm⟩, fun h => ⟨⟨h.1, fun e => h.2.1 e.symm⟩, fun e => h.2.2 e.symm⟩⟩
theorem an_drop {s a b L x : Nat} (hx : x < 16) (hs : s.testBit x = true) (hL : L.testBit x = true) (hxa : x = a ∨ x = b) : nm_c 16 (nm_d (nm_d s (2 ^ a)) (2 ^ b) &&& L) + 1 ≤ nm_c 16 (s &&& L) := by
  rw [← nm_c_drop (s := s &&& L) hx (by rw [Nat.testBit_and, hs, hL]; rfl)]
  refine Nat.add_le_add_right (nm_c_mono 16 fun i _ hi => ?_) 1
  rw [Nat.testBit_and, Bool.and_eq_true, d2_t] at hi
  rw [nm_d_t, Nat.testBit_and, hi.1.1, hi.2, nm_2t, decide_eq_false (fun e => by
    subst e
    rcases hxa with h | h
    · exact hi.1.2.1 h
    · exact hi.1.2.2 h)]
  rfl
theorem bl_edge {s a b : Nat} (ha : a < 16) (hb : b < 16) (hsa : s.testBit a = true) (hsb : s.testBit b = true) (hab : a ≠ b) : ∀ Ls, (∃ L, L ∈ Ls ∧ L.testBit a = true ∧ L.testBit b = true) → 1 + bl_s Ls (nm_d (nm_d s (2 ^ a)) (2 ^ b)) ≤ bl_s Ls s := by
  intro Ls
  induction Ls with
  | nil => rintro ⟨L, h, _⟩; cases h
  | cons L Ls ih =>
    rintro ⟨L', h, h1, h2⟩
    have hsub : ∀ i, (nm_d (nm_d s (2 ^ a)) (2 ^ b)).testBit i = true → s.testBit i = true := fun i hi => (d2_t.mp hi).1
    rw [bl_s, bl_s]
    rcases List.mem_cons.mp h with e | e
    · subst e
      have g1 := bl_mono hsub Ls
      have g2 := nm_c_two (S := s &&& L') ha hb (by rw [Nat.testBit_and, hsa, h1]; rfl) (by rw [Nat.testBit_and, hsb, h2]; rfl) hab
      have g3 : nm_d (nm_d s (2 ^ a)) (2 ^ b) &&& L' = nm_d (nm_d (s &&& L') (2 ^ a)) (2 ^ b) := Nat.eq_of_testBit_eq fun i => by
        rw [Bool.eq_iff_iff, d2_t, Nat.testBit_and, Nat.testBit_and, Bool.and_eq_true, Bool.and_eq_true, d2_t]
        exact ⟨fun h => ⟨⟨h.1.1, h.2⟩, h.1.2⟩, fun h => ⟨⟨h.1.1, h.2⟩, h.1.2⟩⟩
      rw [g3]
      omega
    · have g1 := ih ⟨L', e, h1, h2⟩
      have g2 := an_mono (L := L) hsub
      omega
theorem bo_edge {A : Nat} {Ls : List Nat} {s a b : Nat} (ha : a < 16) (hb : b < 16) (hsa : s.testBit a = true) (hsb : s.testBit b = true) (hab : a ≠ b) (h : A.testBit a = true ∨ A.testBit b = true ∨ ∃ L, L ∈ Ls ∧ L.testBit a = true ∧ L.testBit b = true) : 1 + bo A Ls (nm_d (nm_d s (2 ^ a)) (2 ^ b)) ≤ bo A Ls s := by
  have hsub : ∀ i, (nm_d (nm_d s (2 ^ a)) (2 ^ b)).testBit i = true → s.testBit i = true := fun i hi => (d2_t.mp hi).1
  have g1 := bl_mono hsub Ls
  have g2 := an_mono (L := A) hsub
  unfold bo
  rcases h with h | h | h
  · have := an_drop (a := a) (b := b) ha hsa h (.inl rfl)
    omega
  · have := an_drop (a := a) (b := b) hb hsb h (.inr rfl)
    omega
  · have := bl_edge ha hb hsa hsb hab Ls h
    omega
theorem bl_top {s U : Nat} : ∀ Ls : List Nat, (∀ L, L ∈ Ls → ∀ i, L.testBit i = true → U.testBit i = true) → bl_s Ls s ≤ bl_s Ls U := by
  intro Ls
  induction Ls with
  | nil => exact fun _ => Nat.le_refl _
  | cons L Ls ih =>
    intro h
    have g1 := ih fun L' h' => h L' (List.mem_cons_of_mem L h')
    have g2 : nm_c 16 (s &&& L) ≤ nm_c 16 (U &&& L) := nm_c_mono 16 fun i _ hi => by
      rw [Nat.testBit_and, Bool.and_eq_true] at hi ⊢
      exact ⟨h L List.mem_cons_self i hi.2, hi.2⟩
    rw [bl_s, bl_s]
    omega
theorem mc_le {J : Nat → Nat} {m : Nat → Option Nat} (hv : mv J m) (hirr : ∀ i, (J i).testBit i = false) {A : Nat} {Ls : List Nat} : ∀ k W, nm_c 16 W ≤ k → (∀ i, W.testBit i = true → i < 16) → mc m W → (∀ x y, W.testBit x = true → m x = some y → A.testBit x = true ∨ A.testBit y = true ∨ ∃ L, L ∈ Ls ∧ L.testBit x = true ∧ L.testBit y = true) → nm_c 16 W ≤ 2 * bo A Ls W := by
  intro k
  induction k with
  | zero => intro W hk _ _ _; omega
  | succ k ih =>
    intro W hk hW hc hcov
    by_cases h0 : nm_c 16 W = 0
    · omega
    · have hne : W ≠ 0 := fun e => by rw [e, cz_0] at h0; exact h0 rfl
      obtain ⟨x, hx⟩ := nm_n0 hne
      obtain ⟨y, hy, hWy⟩ := hc x hx
      have hj := (hv x y hy).2
      have hxy : x ≠ y := fun e => by rw [← e, hirr] at hj; cases hj
      have g1 := nm_c_two (hW x hx) (hW y hWy) hx hWy hxy
      have g2 := ih (nm_d (nm_d W (2 ^ x)) (2 ^ y)) (by omega) (fun i hi => hW i (d2_t.mp hi).1) (mc_two hv hc hy) (fun a b ha => hcov a b (d2_t.mp ha).1)
      have g3 := bo_edge (hW x hx) (hW y hWy) hx hWy hxy (hcov x y hx hy)
      omega
/-- a set that is closed under the mates is even -/
theorem mc_even {J : Nat → Nat} {m : Nat → Option Nat} (hv : mv J m) (hirr : ∀ i, (J i).testBit i = false) : ∀ k W, nm_c 16 W ≤ k → (∀ i, W.testBit i = true → i < 16) → mc m W → nm_c 16 W % 2 = 0 := by
  intro k
  induction k with
  | zero => intro W hk _ _; omega
  | succ k ih =>
    intro W hk hW hc
    by_cases h0 : nm_c 16 W = 0
    · omega
    · have hne : W ≠ 0 := fun e => by rw [e, cz_0] at h0; exact h0 rfl
      obtain ⟨x, hx⟩ := nm_n0 hne
      obtain ⟨y, hy, hWy⟩ := hc x hx
      have hj := (hv x y hy).2
      have hxy : x ≠ y := fun e => by rw [← e, hirr] at hj; cases hj
      have g1 := nm_c_two (hW x hx) (hW y hWy) hx hWy hxy
      have g2 := ih (nm_d (nm_d W (2 ^ x)) (2 ^ y)) (by omega) (fun i hi => hW i (d2_t.mp hi).1) (mc_two hv hc hy)
      omega
theorem nm_inj : ∀ k S T (g : Nat → Nat), nm_c 16 S ≤ k → (∀ i, S.testBit i = true → i < 16 ∧ g i < 16 ∧ T.testBit (g i) = true) → (∀ i j, S.testBit i = true → S.testBit j = true → g i = g j → i = j) → nm_c 16 S ≤ nm_c 16 T := by
  intro k
  induction k with
  | zero => intro S T g h _ _; omega
  | succ k ih =>
    intro S T g hk h1 h2
    by_cases h0 : nm_c 16 S = 0
    · omega
    · have hne : S ≠ 0 := fun e => by rw [e, cz_0] at h0; exact h0 rfl
      obtain ⟨x, hx⟩ := nm_n0 hne
      have hx1 := h1 x hx
      have e1 := nm_c_drop hx1.1 hx
      have e2 := nm_c_drop hx1.2.1 hx1.2.2
      have hd : ∀ i, (nm_d S (2 ^ x)).testBit i = true → S.testBit i = true ∧ i ≠ x := fun i hi => by
        rw [nm_d_t, Bool.and_eq_true, nm_2t, Bool.not_eq_true', decide_eq_false_iff_not] at hi
        exact ⟨hi.1, fun e => hi.2 e.symm⟩
      have := ih (nm_d S (2 ^ x)) (nm_d T (2 ^ g x)) g (by omega) (fun i hi => by
        have h3 := hd i hi
        have h4 := h1 i h3.1
        refine ⟨h4.1, h4.2.1, ?_⟩
        rw [nm_d_t, h4.2.2, nm_2t, decide_eq_false (fun e => h3.2 (h2 i x h3.1 hx e.symm))]
        rfl) (fun i j hi hj => h2 i j (hd i hi).1 (hd j hj).1)
      omega
def sg (f : Nat → Nat) : Nat → Nat
  | 0 => 0
  | k + 1 => sg f k + f k
theorem sg_add {f g : Nat → Nat} : ∀ k, sg (fun i => f i + g i) k = sg f k + sg g k := by
  intro k
  induction k with
  | zero => rfl
  | succ k ih => rw [sg, sg, sg, ih]; omega
theorem sg_cg {f g : Nat → Nat} : ∀ k, (∀ i, i < k → f i = g i) → sg f k = sg g k := by
  intro k
  induction k with
  | zero => exact fun _ => rfl
  | succ k ih => intro h; rw [sg, sg, ih fun i hi => h i (by omega), h k (by omega)]
theorem sg_le {f g : Nat → Nat} : ∀ k, (∀ i, i < k → f i ≤ g i) → sg f k ≤ sg g k := by
  intro k
  induction k with
  | zero => exact fun _ => Nat.le_refl _
  | succ k ih =>
    intro h
    have h1 := ih fun i hi => h i (by omega)
    have h2 := h k (by omega)
    rw [sg, sg]
    omega
theorem sg_one {b x : Nat} : ∀ k, sg (fun i => if b = i then x else 0) k = if b < k then x else 0 := by
  intro k
  induction k with
  | zero => rw [if_neg (Nat.not_lt_zero b)]; rfl
  | succ k ih =>
    rw [sg, ih]
    by_cases e : b = k
    · subst e
      rw [if_neg (Nat.lt_irrefl b), if_pos rfl, if_pos (Nat.lt_succ_self b), Nat.zero_add]
    · rw [if_neg e]
      by_cases h : b < k
      · rw [if_pos h, if_pos (by omega), Nat.add_zero]
      · rw [if_neg h, if_neg (by omega)]
theorem sg_set (S : Nat) : ∀ k, sg (fun i => (S.testBit i).toNat) k = nm_c k S := by
  intro k
  induction k with
  | zero => rfl
  | succ k ih => rw [sg, ih]; rfl
theorem sg_part {S : Nat} {g : Nat → Nat} {P : Nat → Nat} (hg : ∀ i, S.testBit i = true → g i < 16) (hP : ∀ b i, (P b).testBit i = true ↔ (S.testBit i = true ∧ g i = b)) : ∀ k, sg (fun b => nm_c k (P b)) 16 = nm_c k S := by
  intro k
  induction k with
  | zero =>
    show sg (fun _ => 0) 16 = 0
    rfl
  | succ k ih =>
    show sg (fun b => nm_c k (P b) + ((P b).testBit k).toNat) 16 = nm_c k S + (S.testBit k).toNat
    rw [sg_add, ih]
    congr 1
    rw [sg_cg (g := fun b => if g k = b then (S.testBit k).toNat else 0) 16 (fun b _ => by
      by_cases e : g k = b
      · rw [if_pos e]
        have : (P b).testBit k = S.testBit k := by
          rw [Bool.eq_iff_iff, hP]
          exact ⟨fun h => h.1, fun h => ⟨h, e⟩⟩
        rw [this]
      · rw [if_neg e]
        have : (P b).testBit k = false := by
          rw [← Bool.not_eq_true, hP]
          exact fun h => e h.2
        rw [this]
        rfl), sg_one]
    cases hS : S.testBit k
    · split <;> rfl
    · rw [if_pos (hg k hS)]
/-- the cover of what has failed so far -/
def cv (J : Nat → Nat) (n : Nat) (A : Nat) (Ls : List Nat) (U k : Nat) : Prop := (∀ i, U.testBit i = true → i < n) ∧ (∀ i, A.testBit i = true → U.testBit i = true) ∧ (∀ L, L ∈ Ls → ∀ i, L.testBit i = true → U.testBit i = true) ∧ (∀ u x, U.testBit u = true → A.testBit u = false → (J u).testBit x = true → U.testBit x = true ∧ (A.testBit x = true ∨ ∃ L, L ∈ Ls ∧ L.testBit u = true ∧ L.testBit x = true)) ∧ (2 * bo A Ls U + k ≤ nm_c 16 U)
theorem cv.inn {J : Nat → Nat} {n : Nat} {A : Nat} {Ls : List Nat} {U k : Nat} (h : cv J n A Ls U k) : ∀ i, U.testBit i = true → i < n := h.1
theorem cv.a_in {J : Nat → Nat} {n : Nat} {A : Nat} {Ls : List Nat} {U k : Nat} (h : cv J n A Ls U k) : ∀ i, A.testBit i = true → U.testBit i = true := h.2.1
theorem cv.l_in {J : Nat → Nat} {n : Nat} {A : Nat} {Ls : List Nat} {U k : Nat} (h : cv J n A Ls U k) : ∀ L, L ∈ Ls → ∀ i, L.testBit i = true → U.testBit i = true := h.2.2.1
theorem cv.edge {J : Nat → Nat} {n : Nat} {A : Nat} {Ls : List Nat} {U k : Nat} (h : cv J n A Ls U k) : ∀ u x, U.testBit u = true → A.testBit u = false → (J u).testBit x = true → U.testBit x = true ∧ (A.testBit x = true ∨ ∃ L, L ∈ Ls ∧ L.testBit u = true ∧ L.testBit x = true) := h.2.2.2.1
theorem cv.size {J : Nat → Nat} {n : Nat} {A : Nat} {Ls : List Nat} {U k : Nat} (h : cv J n A Ls U k) : 2 * bo A Ls U + k ≤ nm_c 16 U := h.2.2.2.2
def um (m : Nat → Option Nat) (n : Nat) : Nat := bm (fun x => (m x).isNone) n
theorem um_t {m : Nat → Option Nat} {n x : Nat} : (um m n).testBit x = true ↔ (x < n ∧ m x = none) := by
  unfold um
  rw [bm_t, Option.isNone_iff_eq_none]
theorem cv_cl {J : Nat → Nat} {n A U k : Nat} {Ls : List Nat} {m : Nat → Option Nat} (hn : n ≤ 16) (hJ : ∀ u i, (J u).testBit i = true → u < n ∧ i < n) (hirr : ∀ i, (J i).testBit i = false) (hsym : ∀ i j, (J i).testBit j = (J j).testBit i) (hv : mv J m) (c : cv J n A Ls U k) (hu : nm_c 16 (U &&& um m n) ≤ k) : ∀ x y, U.testBit x = true → m x = some y → U.testBit y = true := by
  have hW : ∀ i, (bm (fun x => match m x with | none => false | some y => U.testBit x || U.testBit y) n).testBit i = true ↔ (∃ y, m i = some y ∧ (U.testBit i = true ∨ U.testBit y = true)) := fun i => by
    rw [bm_t]
    cases hm : m i with
    | none => exact ⟨fun h => (by simp [hm] at h), fun ⟨y, h, _⟩ => (by cases h)⟩
    | some y =>
      simp only [hm, Bool.or_eq_true]
      constructor
      · rintro ⟨h1, h2⟩
        exact ⟨y, rfl, h2⟩
      · rintro ⟨z, h1, h2⟩
        cases h1
        exact ⟨(hJ i y (hv i y hm).2).1, h2⟩
  generalize bm (fun x => match m x with | none => false | some y => U.testBit x || U.testBit y) n = W at hW
  have hWn : ∀ i, W.testBit i = true → i < n := fun i hi => by
    obtain ⟨y, h1, _⟩ := (hW i).mp hi
    exact (hJ i y (hv i y h1).2).1
  have hc : mc m W := fun x hx => by
    obtain ⟨y, h1, h2⟩ := (hW x).mp hx
    exact ⟨y, h1, (hW y).mpr ⟨x, (hv x y h1).1, h2.symm⟩⟩
  have hcov : ∀ x y, W.testBit x = true → m x = some y → A.testBit x = true ∨ A.testBit y = true ∨ ∃ L, L ∈ Ls ∧ L.testBit x = true ∧ L.testBit y = true := by
    intro x y hx hm
    obtain ⟨z, h1, h2⟩ := (hW x).mp hx
    rw [hm] at h1
    cases h1
    have hj := (hv x y hm).2
    cases hAx : A.testBit x
    · rcases h2 with h2 | h2
      · exact .inr (c.edge x y h2 hAx hj).2
      · cases hAy : A.testBit y
        · rcases (c.edge y x h2 hAy (by rw [hsym]; exact hj)).2 with h3 | ⟨L, h3, h4, h5⟩
          · rw [hAx] at h3; cases h3
          · exact .inr (.inr ⟨L, h3, h5, h4⟩)
        · exact .inr (.inl rfl)
    · exact .inl rfl
  have g1 := mc_le hv hirr (A := A) (Ls := Ls) _ W (Nat.le_refl _) (fun i hi => by have := hWn i hi; omega) hc hcov
  have g2 : bo A Ls W ≤ bo A Ls U := by
    have h1 := bl_top (s := W) Ls c.l_in
    have h2 : nm_c 16 (W &&& A) ≤ nm_c 16 (U &&& A) := nm_c_mono 16 fun i _ hi => by
      rw [Nat.testBit_and, Bool.and_eq_true] at hi ⊢
      exact ⟨c.a_in i hi.2, hi.2⟩
    unfold bo
    omega
  have g3 := c.size
  have g4 := nm_c_d U (um m n) 16
  have hUm : ∀ i, (nm_d U (um m n)).testBit i = true → W.testBit i = true := fun i hi => by
    rw [nm_d_t, Bool.and_eq_true, Bool.not_eq_true'] at hi
    cases hm : m i with
    | none =>
      rw [um_t.mpr ⟨c.inn i hi.1, hm⟩] at hi
      cases hi.2
    | some y => exact (hW i).mpr ⟨y, hm, .inl hi.1⟩
  have hUlo := ne_low hn c.inn
  have g5 := nm_c_mono 16 fun i _ => hUm i
  have g6 := nm_sub_eq (nm_d_lt hUlo) (ne_low hn hWn) (by omega) hUm
  intro x y hx hm
  have := (hW y).mpr ⟨x, (hv x y hm).1, .inr hx⟩
  rw [← g6, nm_d_t, Bool.and_eq_true] at this
  exact this.1
def cv_L (Y O : Nat) (base : Nat → Nat) (b : Nat) : Nat := bm (fun x => Y.testBit x && O.testBit x && decide (base x = b)) 16
def cv_mk (Ls : List Nat) (Y O : Nat) (base : Nat → Nat) : Nat → List Nat
  | 0 => Ls
  | k + 1 => cv_L Y O base k :: cv_mk Ls Y O base k
theorem cv_mk_in {Ls : List Nat} {Y O : Nat} {base : Nat → Nat} : ∀ k L, L ∈ cv_mk Ls Y O base k ↔ (L ∈ Ls ∨ ∃ b, b < k ∧ L = cv_L Y O base b) := by
  intro k
  induction k with
  | zero => exact fun L => ⟨fun h => .inl h, fun h => h.elim id fun ⟨b, h, _⟩ => absurd h (Nat.not_lt_zero b)⟩
  | succ k ih =>
    intro L
    rw [cv_mk, List.mem_cons, ih]
    constructor
    · rintro (h | h | ⟨b, h1, h2⟩)
      · exact .inr ⟨k, by omega, h⟩
      · exact .inl h
      · exact .inr ⟨b, by omega, h2⟩
    · rintro (h | ⟨b, h1, h2⟩)
      · exact .inr (.inl h)
      · by_cases e : b = k
        · subst e; exact .inl h2
        · exact .inr (.inr ⟨b, by omega, h2⟩)
theorem cv_mk_s {Ls : List Nat} {Y O s : Nat} {base : Nat → Nat} : ∀ k, bl_s (cv_mk Ls Y O base k) s = bl_s Ls s + sg (fun b => nm_c 16 (s &&& cv_L Y O base b) / 2) k := by
  intro k
  induction k with
  | zero => rfl
  | succ k ih => rw [cv_mk, bl_s, ih, sg]; omega
/-- what a failed search leaves -/
def ft (J : Nat → Nat) (n : Nat) (m : Nat → Option Nat) (root O I : Nat) (base : Nat → Nat) : Prop := (∀ i, O.testBit i = true → i < n) ∧ (∀ i, I.testBit i = true → i < n ∧ O.testBit i = false) ∧ (∀ v x, O.testBit v = true → (J v).testBit x = true → I.testBit x = true ∨ (O.testBit x = true ∧ base x = base v)) ∧ (∀ i, I.testBit i = true → ∃ w, m i = some w ∧ O.testBit w = true ∧ base w = w) ∧ (∀ v, O.testBit v = true → base v ≠ v → ∃ w, m v = some w ∧ O.testBit w = true ∧ base w = base v) ∧ (∀ v, O.testBit v = true → base v = v → v ≠ root → ∃ i, m v = some i ∧ I.testBit i = true) ∧ (∀ v, O.testBit v = true → base v < 16) ∧ (O.testBit root = true ∧ base root = root ∧ m root = none)
theorem ft.o_in {J : Nat → Nat} {n : Nat} {m : Nat → Option Nat} {root O I : Nat} {base : Nat → Nat} (h : ft J n m root O I base) : ∀ i, O.testBit i = true → i < n := h.1
theorem ft.i_in {J : Nat → Nat} {n : Nat} {m : Nat → Option Nat} {root O I : Nat} {base : Nat → Nat} (h : ft J n m root O I base) : ∀ i, I.testBit i = true → i < n ∧ O.testBit i = false := h.2.1
theorem ft.edge {J : Nat → Nat} {n : Nat} {m : Nat → Option Nat} {root O I : Nat} {base : Nat → Nat} (h : ft J n m root O I base) : ∀ v x, O.testBit v = true → (J v).testBit x = true → I.testBit x = true ∨ (O.testBit x = true ∧ base x = base v) := h.2.2.1
theorem ft.inner {J : Nat → Nat} {n : Nat} {m : Nat → Option Nat} {root O I : Nat} {base : Nat → Nat} (h : ft J n m root O I base) : ∀ i, I.testBit i = true → ∃ w, m i = some w ∧ O.testBit w = true ∧ base w = w := h.2.2.2.1
theorem ft.bloss {J : Nat → Nat} {n : Nat} {m : Nat → Option Nat} {root O I : Nat} {base : Nat → Nat} (h : ft J n m root O I base) : ∀ v, O.testBit v = true → base v ≠ v → ∃ w, m v = some w ∧ O.testBit w = true ∧ base w = base v := h.2.2.2.2.1
theorem ft.bases {J : Nat → Nat} {n : Nat} {m : Nat → Option Nat} {root O I : Nat} {base : Nat → Nat} (h : ft J n m root O I base) : ∀ v, O.testBit v = true → base v = v → v ≠ root → ∃ i, m v = some i ∧ I.testBit i = true := h.2.2.2.2.2.1
theorem ft.bs {J : Nat → Nat} {n : Nat} {m : Nat → Option Nat} {root O I : Nat} {base : Nat → Nat} (h : ft J n m root O I base) : ∀ v, O.testBit v = true → base v < 16 := h.2.2.2.2.2.2.1
theorem ft.rt {J : Nat → Nat} {n : Nat} {m : Nat → Option Nat} {root O I : Nat} {base : Nat → Nat} (h : ft J n m root O I base) : O.testBit root = true ∧ base root = root ∧ m root = none := h.2.2.2.2.2.2.2
theorem cv_next {J : Nat → Nat} {n A U k root O I : Nat} {Ls : List Nat} {m : Nat → Option Nat} {base : Nat → Nat} (hn : n ≤ 16) (hJ : ∀ u i, (J u).testBit i = true → u < n ∧ i < n) (hirr : ∀ i, (J i).testBit i = false) (hsym : ∀ i j, (J i).testBit j = (J j).testBit i) (hv : mv J m) (c : cv J n A Ls U k) (hu : nm_c 16 (U &&& um m n) ≤ k) (t : ft J n m root O I base) (hr : U.testBit root = false) : ∃ A' Ls' U', cv J n A' Ls' U' (k + 1) ∧ nm_c 16 (U' &&& um m n) ≤ k + 1 ∧ (∀ i, U'.testBit i = true ↔ (U.testBit i = true ∨ O.testBit i = true ∨ I.testBit i = true)) := by
  have hcl := cv_cl hn hJ hirr hsym hv c hu
  have hncl : ∀ x y, U.testBit x = false → m x = some y → U.testBit y = false := fun x y hx hm => by
    cases h : U.testBit y
    · rfl
    · rw [hcl y x h (hv x y hm).1] at hx; cases hx
  -- the new nodes
  have hY : ∀ i, (nm_d (O ||| I) U).testBit i = true ↔ ((O.testBit i = true ∨ I.testBit i = true) ∧ U.testBit i = false) := fun i => by
    rw [nm_d_t, Bool.and_eq_true, Nat.testBit_or, Bool.or_eq_true, Bool.not_eq_true']
  generalize nm_d (O ||| I) U = Y at hY
  have hU' : ∀ i, (U ||| Y).testBit i = true ↔ (U.testBit i = true ∨ O.testBit i = true ∨ I.testBit i = true) := fun i => by
    rw [Nat.testBit_or, Bool.or_eq_true, hY]
    constructor
    · rintro (h | h)
      · exact .inl h
      · exact .inr h.1
    · intro h
      cases hUi : U.testBit i
      · rw [hUi] at h
        exact .inr ⟨h.resolve_left (by decide), rfl⟩
      · exact .inl rfl
  have hoi : ∀ i, I.testBit i = true → O.testBit i = false := fun i hi => (t.i_in i hi).2
  have hL : ∀ b i, (cv_L Y O base b).testBit i = true ↔ (Y.testBit i = true ∧ O.testBit i = true ∧ base i = b) := fun b i => by
    unfold cv_L
    rw [bm_t]
    simp only [Bool.and_eq_true, decide_eq_true_eq]
    constructor
    · rintro ⟨_, ⟨h1, h2⟩, h3⟩
      exact ⟨h1, h2, h3⟩
    · rintro ⟨h1, h2, h3⟩
      exact ⟨by have := t.o_in i h2; omega, ⟨h1, h2⟩, h3⟩
  have hA' : ∀ i, (A ||| (I &&& Y)).testBit i = true ↔ (A.testBit i = true ∨ (I.testBit i = true ∧ Y.testBit i = true)) := fun i => by
    rw [Nat.testBit_or, Bool.or_eq_true, Nat.testBit_and, Bool.and_eq_true]
  have hin : ∀ i, (U ||| Y).testBit i = true → i < n := fun i hi => by
    rcases (hU' i).mp hi with h | h | h
    · exact c.inn i h
    · exact t.o_in i h
    · exact (t.i_in i h).1
  have hrY : Y.testBit root = true := (hY root).mpr ⟨.inl t.rt.1, hr⟩
  refine ⟨A ||| (I &&& Y), cv_mk Ls Y O base 16, U ||| Y, ⟨hin, ?_, ?_, ?_, ?_⟩, ?_, hU'⟩
  · intro i hi
    rw [Nat.testBit_or, Bool.or_eq_true]
    rcases (hA' i).mp hi with h | h
    · exact .inl (c.a_in i h)
    · exact .inr h.2
  · intro L hLm i hi
    rw [Nat.testBit_or, Bool.or_eq_true]
    rcases (cv_mk_in 16 L).mp hLm with h | ⟨b, _, h⟩
    · exact .inl (c.l_in L h i hi)
    · rw [h] at hi
      exact .inr ((hL b i).mp hi).1
  · intro u x hu' hAu hj
    have hAu1 : A.testBit u = false ∧ ¬ (I.testBit u = true ∧ Y.testBit u = true) := by
      rw [← Bool.not_eq_true, hA'] at hAu
      exact ⟨by rw [← Bool.not_eq_true]; exact fun h => hAu (.inl h), fun h => hAu (.inr h)⟩
    rw [Nat.testBit_or, Bool.or_eq_true] at hu'
    cases hUu : U.testBit u
    · have hYu : Y.testBit u = true := hu'.resolve_left (by rw [hUu]; decide)
      have hOu : O.testBit u = true := ((hY u).mp hYu).1.resolve_right fun h => hAu1.2 ⟨h, hYu⟩
      have hx := t.edge u x hOu hj
      refine ⟨(hU' x).mpr (.inr (hx.elim .inr fun h => .inl h.1)), ?_⟩
      cases hUx : U.testBit x
      · have hYx : Y.testBit x = true := (hY x).mpr ⟨hx.elim .inr fun h => .inl h.1, hUx⟩
        rcases hx with hx | hx
        · exact .inl ((hA' x).mpr (.inr ⟨hx, hYx⟩))
        · exact .inr ⟨cv_L Y O base (base u), (cv_mk_in 16 _).mpr (.inr ⟨base u, t.bs u hOu, rfl⟩), (hL _ u).mpr ⟨hYu, hOu, rfl⟩, (hL _ x).mpr ⟨hYx, hx.1, hx.2⟩⟩
      · cases hAx : A.testBit x
        · have := (c.edge x u hUx hAx (by rw [hsym]; exact hj)).1
          rw [hUu] at this
          cases this
        · exact .inl ((hA' x).mpr (.inl hAx))
    · have h1 := c.edge u x hUu hAu1.1 hj
      refine ⟨(hU' x).mpr (.inl h1.1), ?_⟩
      rcases h1.2 with h2 | ⟨L, h2, h3⟩
      · exact .inl ((hA' x).mpr (.inl h2))
      · exact .inr ⟨L, (cv_mk_in 16 L).mpr (.inl h2), h3⟩
  · -- the count
    have k1 : nm_c 16 (U ||| Y) = nm_c 16 U + nm_c 16 Y := nm_c_add 16 fun i _ hi => by
      rw [← Bool.not_eq_true, hY]
      exact fun h => by rw [hi] at h; cases h.2
    have k2 : nm_c 16 ((U ||| Y) &&& (A ||| (I &&& Y))) ≤ nm_c 16 (U &&& A) + nm_c 16 (I &&& Y) := by
      rw [← nm_c_add 16 fun i _ hi => by
        rw [Nat.testBit_and, Bool.and_eq_true] at hi
        rw [← Bool.not_eq_true, Nat.testBit_and, Bool.and_eq_true, hY]
        exact fun h => by rw [hi.1] at h; cases h.2.2]
      refine nm_c_mono 16 fun i _ hi => ?_
      rw [Nat.testBit_and, Bool.and_eq_true, hA'] at hi
      rw [Nat.testBit_or, Bool.or_eq_true, Nat.testBit_and, Bool.and_eq_true, Nat.testBit_and, Bool.and_eq_true]
      rcases hi.2 with h | h
      · exact .inl ⟨c.a_in i h, h⟩
      · exact .inr h
    have k3 : bl_s Ls (U ||| Y) ≤ bl_s Ls U := bl_top Ls c.l_in
    have k4 := cv_mk_s (Ls := Ls) (Y := Y) (O := O) (s := U ||| Y) (base := base) 16
    have k5 : sg (fun b => nm_c 16 ((U ||| Y) &&& cv_L Y O base b) / 2) 16 = sg (fun b => nm_c 16 (cv_L Y O base b) / 2) 16 := sg_cg 16 fun b _ => by
      have : (U ||| Y) &&& cv_L Y O base b = cv_L Y O base b := Nat.eq_of_testBit_eq fun i => by
        rw [Bool.eq_iff_iff, Nat.testBit_and, Bool.and_eq_true, Nat.testBit_or, Bool.or_eq_true]
        exact ⟨fun h => h.2, fun h => ⟨.inr ((hL b i).mp h).1, h⟩⟩
      rw [this]
    have k6 : sg (fun b => nm_c 16 (cv_L Y O base b)) 16 = nm_c 16 (O &&& Y) := sg_part (S := O &&& Y) (g := base) (P := cv_L Y O base) (fun i hi => by
      rw [Nat.testBit_and, Bool.and_eq_true] at hi
      exact t.bs i hi.1) (fun b i => by
      rw [hL, Nat.testBit_and, Bool.and_eq_true]
      exact ⟨fun h => ⟨⟨h.2.1, h.1⟩, h.2.2⟩, fun h => ⟨h.1.2, h.1.1, h.2⟩⟩) 16
    have k7 : nm_c 16 Y = nm_c 16 (O &&& Y) + nm_c 16 (I &&& Y) := by
      rw [← nm_c_add 16 fun i _ hi => by
        rw [Nat.testBit_and, Bool.and_eq_true] at hi
        rw [← Bool.not_eq_true, Nat.testBit_and, Bool.and_eq_true]
        exact fun h => by rw [hoi i h.1] at hi; cases hi.1]
      refine nm_c_congr 16 fun i _ => ?_
      rw [Bool.eq_iff_iff, Nat.testBit_or, Bool.or_eq_true, Nat.testBit_and, Bool.and_eq_true, Nat.testBit_and, Bool.and_eq_true]
      constructor
      · intro h
        exact ((hY i).mp h).1.imp (fun h' => ⟨h', h⟩) fun h' => ⟨h', h⟩
      · rintro (h | h)
        · exact h.2
        · exact h.2
    -- bases among the new
    have hB : ∀ b, (bm (fun x => Y.testBit x && O.testBit x && decide (base x = x)) 16).testBit b = true ↔ (Y.testBit b = true ∧ O.testBit b = true ∧ base b = b) := fun b => by
      rw [bm_t]
      simp only [Bool.and_eq_true, decide_eq_true_eq]
      constructor
      · rintro ⟨_, ⟨h1, h2⟩, h3⟩
        exact ⟨h1, h2, h3⟩
      · rintro ⟨h1, h2, h3⟩
        exact ⟨by have := t.o_in b h2; omega, ⟨h1, h2⟩, h3⟩
    generalize bm (fun x => Y.testBit x && O.testBit x && decide (base x = x)) 16 = Bs at hB
    have hr16 : root < 16 := by have := t.o_in root t.rt.1; omega
    have k8 : nm_c 16 (I &&& Y) + 1 ≤ nm_c 16 Bs := by
      rw [← nm_c_drop hr16 ((hB root).mpr ⟨hrY, t.rt.1, t.rt.2.1⟩)]
      refine Nat.add_le_add_right (nm_inj _ (I &&& Y) (nm_d Bs (2 ^ root)) (fun i => (m i).getD 0) (Nat.le_refl _) (fun i hi => ?_) (fun i j hi hj e => ?_)) 1
      · rw [Nat.testBit_and, Bool.and_eq_true] at hi
        obtain ⟨w, h1, h2, h3⟩ := t.inner i hi.1
        have hwU := hncl i w ((hY i).mp hi.2).2 h1
        try dsimp only
        rw [h1]
        show _ ∧ w < 16 ∧ (nm_d Bs (2 ^ root)).testBit w = true
        refine ⟨by have := (t.i_in i hi.1).1; omega, by have := t.o_in w h2; omega, ?_⟩
        rw [nm_d_t, (hB w).mpr ⟨(hY w).mpr ⟨.inl h2, hwU⟩, h2, h3⟩, nm_2t, decide_eq_false (fun e => by
          subst e
          have := (hv i root h1).1
          rw [t.rt.2.2] at this
          cases this)]
        rfl
      · rw [Nat.testBit_and, Bool.and_eq_true] at hi hj
        obtain ⟨w, h1, _, _⟩ := t.inner i hi.1
        obtain ⟨w', h1', _, _⟩ := t.inner j hj.1
        try dsimp only at e
        rw [h1, h1'] at e
        have e : w = w' := e
        subst e
        have a1 := (hv i w h1).1
        have a2 := (hv j w h1').1
        rw [a1] at a2
        cases a2
        rfl
    have k9 : nm_c 16 Bs ≤ sg (fun b => nm_c 16 (cv_L Y O base b) % 2) 16 := by
      rw [← sg_set Bs 16]
      refine sg_le 16 fun b hb => ?_
      cases hBb : Bs.testBit b
      · exact Nat.zero_le _
      · have h1 := (hB b).mp hBb
        have h2 : (cv_L Y O base b).testBit b = true := (hL b b).mpr h1
        have h3 := nm_c_drop hb h2
        have h4 := mc_even hv hirr _ (nm_d (cv_L Y O base b) (2 ^ b)) (Nat.le_refl _) (fun i hi => by
          rw [nm_d_t, Bool.and_eq_true, hL] at hi
          have := t.o_in i hi.1.2.1; omega) (fun x hx => by
          rw [nm_d_t, Bool.and_eq_true, hL, nm_2t, Bool.not_eq_true', decide_eq_false_iff_not] at hx
          obtain ⟨⟨x1, x2, x3⟩, x4⟩ := hx
          obtain ⟨w, w1, w2, w3⟩ := t.bloss x x2 (fun e => x4 (x3.symm.trans e))
          refine ⟨w, w1, ?_⟩
          rw [nm_d_t, (hL b w).mpr ⟨(hY w).mpr ⟨.inl w2, hncl x w ((hY x).mp x1).2 w1⟩, w2, w3.trans x3⟩, nm_2t, decide_eq_false (fun e => by
            subst e
            have hm := (hv x b w1).1
            by_cases hbr : b = root
            · subst hbr
              rw [t.rt.2.2] at hm
              cases hm
            · obtain ⟨i, i1, i2⟩ := t.bases b w2 h1.2.2 hbr
              rw [i1] at hm
              have ei : i = x := Option.some.inj hm
              rw [← ei, hoi i i2] at x2
              cases x2)]
          rfl)
        show (true).toNat ≤ _
        simp only [Bool.toNat_true]
        omega
    have k10 : sg (fun b => nm_c 16 (cv_L Y O base b)) 16 = 2 * sg (fun b => nm_c 16 (cv_L Y O base b) / 2) 16 + sg (fun b => nm_c 16 (cv_L Y O base b) % 2) 16 := by
      rw [Nat.two_mul, ← sg_add, ← sg_add]
      exact sg_cg 16 fun b _ => by omega
    have k11 := c.size
    unfold bo at k11 ⊢
    omega
  · -- who is without a mate
    have h1 : nm_c 16 ((U ||| Y) &&& um m n) ≤ nm_c 16 ((U &&& um m n) ||| 2 ^ root) := nm_c_mono 16 fun i _ hi => by
      rw [Nat.testBit_and, Bool.and_eq_true, um_t] at hi
      rw [Nat.testBit_or, Bool.or_eq_true, Nat.testBit_and, Bool.and_eq_true, um_t, nm_2t, decide_eq_true_eq]
      cases hUi : U.testBit i
      · right
        rcases (hU' i).mp hi.1 with h | h | h
        · rw [hUi] at h; cases h
        · by_cases hb : base i = i
          · exact Classical.byContradiction fun hne => by
              obtain ⟨x, hx, _⟩ := t.bases i h hb (fun e => hne e.symm)
              rw [hi.2.2] at hx
              cases hx
          · obtain ⟨x, hx, _⟩ := t.bloss i h hb
            rw [hi.2.2] at hx
            cases hx
        · obtain ⟨x, hx, _⟩ := t.inner i h
          rw [hi.2.2] at hx
          cases hx
      · exact .inl ⟨rfl, hi.2⟩
    refine Nat.le_trans h1 ?_
    rw [cq_add (by have := t.o_in root t.rt.1; omega) (by rw [Nat.testBit_and, hr]; rfl)]
    omega
/-- the end: nobody without a mate is outside -/
theorem cv_end {J : Nat → Nat} {n A U k c : Nat} {Ls : List Nat} (hn : n ≤ 16) (hJ : ∀ u i, (J u).testBit i = true → u < n ∧ i < n) (hsym : ∀ i j, (J i).testBit j = (J j).testBit i) (cc : cv J n A Ls U k) (h : n ≤ 2 * c + k) (f : Nat → Nat) : rf_pr J n f (2 ^ n - 1) ≤ c := by
  have hp1 : 1 ≤ 2 ^ n := Nat.one_le_two_pow
  have hR : ∀ i, (nm_d (2 ^ n - 1) U).testBit i = true ↔ (i < n ∧ U.testBit i = false) := fun i => by
    rw [cv_t, Bool.and_eq_true, decide_eq_true_eq, Bool.not_eq_true']
  have h1 := pd_up hn f (B := bo A (nm_d (2 ^ n - 1) U :: Ls)) (fun s v => bo_mono fun i hi => by
    rw [nm_d_t, Bool.and_eq_true] at hi
    exact hi.1) (fun s a b hs ha hb hab hj => bo_edge (by have := (hJ a b hj).1; omega) (by have := (hJ a b hj).2; omega) ha hb hab (by
      cases hAa : A.testBit a
      · cases hUa : U.testBit a
        · cases hAb : A.testBit b
          · cases hUb : U.testBit b
            · exact .inr (.inr ⟨_, List.mem_cons_self, (hR a).mpr ⟨(hJ a b hj).1, hUa⟩, (hR b).mpr ⟨(hJ a b hj).2, hUb⟩⟩)
            · have := (cc.edge b a hUb hAb (by rw [hsym]; exact hj)).1
              rw [hUa] at this
              cases this
          · exact .inr (.inl rfl)
        · rcases (cc.edge a b hUa hAa hj).2 with h | ⟨L, h2, h3⟩
          · exact .inr (.inl h)
          · exact .inr (.inr ⟨L, List.mem_cons_of_mem _ h2, h3⟩)
      · exact .inl rfl)) (2 ^ n - 1) (by omega)
  refine Nat.le_trans h1 ?_
  have h2 : bl_s Ls (2 ^ n - 1) ≤ bl_s Ls U := bl_top Ls cc.l_in
  have h3 : nm_c 16 ((2 ^ n - 1) &&& A) ≤ nm_c 16 (U &&& A) := nm_c_mono 16 fun i _ hi => by
    rw [Nat.testBit_and, Bool.and_eq_true] at hi ⊢
    exact ⟨cc.a_in i hi.2, hi.2⟩
  have h4 : nm_c 16 ((2 ^ n - 1) &&& nm_d (2 ^ n - 1) U) ≤ nm_c 16 (nm_d (2 ^ n - 1) U) := nm_c_mono 16 fun i _ hi => by
    rw [Nat.testBit_and, Bool.and_eq_true] at hi
    exact hi.2
  have h5 := nm_c_d (2 ^ n - 1) U 16
  have h6 : nm_c 16 ((2 ^ n - 1) &&& U) = nm_c 16 U := nm_c_congr 16 fun i _ => by
    rw [Bool.eq_iff_iff, Nat.testBit_and, Bool.and_eq_true, nm_full, decide_eq_true_eq]
    exact ⟨fun h => h.2, fun h => ⟨cc.inn i h, h⟩⟩
  have h7 := nm_c_full 16 n
  have h8 := cc.size
  unfold bo at h8 ⊢
  rw [bl_s]
  rw [Nat.min_eq_right hn] at h7
  omega

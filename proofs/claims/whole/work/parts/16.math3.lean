/-! sets put into a row in order -/
def so_ok (q : (Nat → Nat) × Nat) : Prop := (∀ i, i < q.2 → q.1 i < 65536) ∧ ∀ i j, i < j → j < q.2 → od_lt (q.1 i) (q.1 j)
def so_in (q : (Nat → Nat) × Nat) (x : Nat) : Prop := ∃ i, i < q.2 ∧ q.1 i = x
theorem so_cut {row : Nat → Nat} {set : Nat} : ∀ size, (∀ i j, i < j → j < size → od_lt (row i) (row j)) → (∀ i, i < size → row i ≠ set) → ∃ c, c ≤ size ∧ (∀ i, i < c → od_lt (row i) set) ∧ ∀ i, c ≤ i → i < size → od_lt set (row i) := by
  intro size
  induction size with
  | zero => exact fun _ _ => ⟨0, Nat.le_refl _, fun i h => absurd h (Nat.not_lt_zero i), fun i _ h => absurd h (Nat.not_lt_zero i)⟩
  | succ size ih =>
    intro h1 h2
    obtain ⟨c, a1, a2, a3⟩ := ih (fun i j hi hj => h1 i j hi (by omega)) (fun i hi => h2 i (by omega))
    rcases od_tri (h2 size (by omega)) with h | h
    · have hc : c = size := by
        refine Classical.byContradiction fun hne => ?_
        exact od_as (od_tr h (a3 c (Nat.le_refl c) (by omega))) (h1 c size (by omega) (by omega))
      subst hc
      refine ⟨c + 1, Nat.le_refl _, fun i hi => ?_, fun i hi hi2 => by omega⟩
      by_cases hic : i = c
      · subst hic
        exact h
      · exact a2 i (by omega)
    · refine ⟨c, by omega, a2, fun i hi hi2 => ?_⟩
      by_cases his : i = size
      · subst his
        exact h
      · exact a3 i hi (by omega)
theorem mx_pos_is {row : Nat → Nat} {size set c : Nat} (hb : ∀ i, i < size → row i < 65536) (hs : set < 65536) (hc : c ≤ size) (h1 : ∀ i, i < c → od_lt (row i) set) (h2 : ∀ i, c ≤ i → i < size → od_lt set (row i)) : ∀ k p, p ≤ c → c < p + 2 ^ k → mx_pos row size set k p = c := by
  intro k
  induction k with
  | zero =>
    intro p a b
    unfold mx_pos
    rw [Nat.pow_zero] at b
    omega
  | succ k ih =>
    intro p a b
    have hk : 1 ≤ 2 ^ k := Nat.one_le_two_pow
    rw [Nat.pow_succ] at b
    unfold mx_pos
    by_cases hp : p + 2 ^ k ≤ c
    · rw [if_pos ⟨by omega, (mx_pre_iff (hb _ (by omega)) hs).mpr (h1 _ (by omega))⟩]
      exact ih (p + 2 ^ k) hp (by omega)
    · rw [if_neg (fun h => ?_)]
      · exact ih p a (by omega)
      · exact od_as ((mx_pre_iff (hb _ (by omega)) hs).mp h.2) (h2 _ (by omega) (by omega))
theorem mx_ins_is {q : (Nat → Nat) × Nat} {set : Nat} (ok : so_ok q) (hs : set < 65536) (hq : q.2 < 324) (hn : ¬ so_in q set) : so_ok (mx_ins q set) ∧ (∀ x, so_in (mx_ins q set) x ↔ (x = set ∨ so_in q x)) ∧ (mx_ins q set).2 = q.2 + 1 := by
  obtain ⟨c, a1, a2, a3⟩ := so_cut q.2 ok.2 (fun i hi e => hn ⟨i, hi, e⟩)
  have hp : mx_pos q.1 q.2 set 9 0 = c := mx_pos_is ok.1 hs a1 a2 a3 9 0 (Nat.zero_le c) (by omega)
  have hr : mx_ins q set = (up_N (va_cpy q.1 q.1 c (c + 1) (q.2 - c)) c set, q.2 + 1) := by
    unfold mx_ins
    rw [if_neg (by omega), hp]
  rw [hr]
  have e1 : ∀ i, i < c → up_N (va_cpy q.1 q.1 c (c + 1) (q.2 - c)) c set i = q.1 i := by
    intro i hi
    unfold up_N va_cpy
    rw [if_neg (by omega), if_neg (by omega)]
  have e2 : up_N (va_cpy q.1 q.1 c (c + 1) (q.2 - c)) c set c = set := up_s
  have e3 : ∀ i, c ≤ i → i < q.2 → up_N (va_cpy q.1 q.1 c (c + 1) (q.2 - c)) c set (i + 1) = q.1 i := by
    intro i h1 h2
    unfold up_N va_cpy
    rw [if_neg (by omega), if_pos (by omega), show c + (i + 1 - (c + 1)) = i by omega]
  generalize up_N (va_cpy q.1 q.1 c (c + 1) (q.2 - c)) c set = f at e1 e2 e3
  have cs : ∀ i, i < q.2 + 1 → (i < c ∧ f i = q.1 i) ∨ (i = c ∧ f i = set) ∨ (∃ j, i = j + 1 ∧ c ≤ j ∧ j < q.2 ∧ f i = q.1 j) := by
    intro i hi
    rcases Nat.lt_trichotomy i c with h | h | h
    · exact Or.inl ⟨h, e1 i h⟩
    · subst h
      exact Or.inr (Or.inl ⟨rfl, e2⟩)
    · obtain ⟨j, rfl⟩ : ∃ j, i = j + 1 := ⟨i - 1, by omega⟩
      exact Or.inr (Or.inr ⟨j, rfl, by omega, by omega, e3 j (by omega) (by omega)⟩)
  refine ⟨⟨fun i hi => ?_, fun i j hij hj => ?_⟩, fun x => ?_, rfl⟩
  · dsimp only at hi ⊢
    rcases cs i hi with ⟨h1, h2⟩ | ⟨h1, h2⟩ | ⟨j, h1, h2, h3, h4⟩
    · rw [h2]
      exact ok.1 i (by omega)
    · rw [h2]
      exact hs
    · rw [h4]
      exact ok.1 j h3
  · dsimp only at hj ⊢
    rcases cs i (by omega) with ⟨h1, h2⟩ | ⟨h1, h2⟩ | ⟨i', h1, h2, h3, h4⟩ <;> rcases cs j hj with ⟨g1, g2⟩ | ⟨g1, g2⟩ | ⟨j', g1, g2, g3, g4⟩
    · rw [h2, g2]
      exact ok.2 i j hij (by omega)
    · rw [h2, g2]
      exact a2 i h1
    · rw [h2, g4]
      exact ok.2 i j' (by omega) g3
    · omega
    · omega
    · rw [h2, g4]
      exact a3 j' g2 g3
    · omega
    · omega
    · rw [h4, g4]
      exact ok.2 i' j' (by omega) g3
  · constructor
    · rintro ⟨i, hi, hx⟩
      dsimp only at hi hx
      rcases cs i hi with ⟨h1, h2⟩ | ⟨h1, h2⟩ | ⟨j, h1, h2, h3, h4⟩
      · exact Or.inr ⟨i, by omega, h2 ▸ hx⟩
      · exact Or.inl (h2 ▸ hx).symm
      · exact Or.inr ⟨j, h3, h4 ▸ hx⟩
    · rintro (rfl | ⟨i, hi, hx⟩)
      · exact ⟨c, Nat.lt_succ_of_le a1, e2⟩
      · by_cases hc : i < c
        · exact ⟨i, Nat.lt_succ_of_lt hi, (e1 i hc).trans hx⟩
        · exact ⟨i + 1, Nat.succ_lt_succ hi, (e3 i (by omega) hi).trans hx⟩
theorem mx_all : ∀ (l : List Nat) (q : (Nat → Nat) × Nat), so_ok q → (∀ x, x ∈ l → x < 65536) → l.Nodup → (∀ x, x ∈ l → ¬ so_in q x) → q.2 + l.length ≤ 324 → so_ok (l.foldl mx_ins q) ∧ (∀ x, so_in (l.foldl mx_ins q) x ↔ (x ∈ l ∨ so_in q x)) ∧ (l.foldl mx_ins q).2 = q.2 + l.length := by
  intro l
  induction l with
  | nil => exact fun q ok _ _ _ _ => ⟨ok, fun x => by simp, rfl⟩
  | cons a l ih =>
    intro q ok hb hd hn hlen
    rw [List.length_cons] at hlen
    obtain ⟨b1, b2, b3⟩ := mx_ins_is ok (hb a List.mem_cons_self) (by omega) (hn a List.mem_cons_self)
    rw [List.nodup_cons] at hd
    obtain ⟨c1, c2, c3⟩ := ih (mx_ins q a) b1 (fun x hx => hb x (List.mem_cons_of_mem _ hx)) hd.2 (fun x hx hin => by
      rcases (b2 x).mp hin with h | h
      · subst h
        exact hd.1 hx
      · exact hn x (List.mem_cons_of_mem _ hx) h) (by omega)
    rw [List.foldl_cons]
    refine ⟨c1, fun x => ?_, by rw [c3, b3, List.length_cons]; omega⟩
    rw [c2, b2, List.mem_cons]
    constructor
    · rintro (h | h | h)
      · exact Or.inl (Or.inr h)
      · exact Or.inl (Or.inl h)
      · exact Or.inr h
    · rintro ((h | h) | h)
      · exact Or.inr (Or.inl h)
      · exact Or.inl h
      · exact Or.inr (Or.inr h)
/-- two rows in order that hold the same are the same -/
theorem so_un : ∀ (s t : Nat) (f g : Nat → Nat), (∀ i j, i < j → j < s → od_lt (f i) (f j)) → (∀ i j, i < j → j < t → od_lt (g i) (g j)) → (∀ x, (∃ i, i < s ∧ f i = x) ↔ (∃ i, i < t ∧ g i = x)) → s = t ∧ ∀ i, i < s → f i = g i := by
  have one : ∀ (s t : Nat) (f g : Nat → Nat), (∀ i j, i < j → j < s → od_lt (f i) (f j)) → (∀ i j, i < j → j < t → od_lt (g i) (g j)) → (∀ x, (∃ i, i < s ∧ f i = x) → (∃ i, i < t ∧ g i = x)) → (∀ x, (∃ i, i < t ∧ g i = x) → (∃ i, i < s ∧ f i = x)) → ∀ i, i < s → i < t ∧ f i = g i := by
    intro s t f g hf hg h1 h2 i
    induction i using Nat.strongRecOn with
    | ind i ih =>
      intro hi
      obtain ⟨j, hj, hej⟩ := h1 (f i) ⟨i, hi, rfl⟩
      have hji : i ≤ j := by
        refine Nat.not_lt.mp fun hlt => ?_
        obtain ⟨_, e⟩ := ih j hlt (by omega)
        have := hf j i hlt hi
        rw [e, hej] at this
        exact od_irr _ this
      have hit : i < t := by omega
      refine ⟨hit, ?_⟩
      obtain ⟨k, hk, hek⟩ := h2 (g i) ⟨i, hit, rfl⟩
      have hki : i ≤ k := by
        refine Nat.not_lt.mp fun hlt => ?_
        obtain ⟨h3, e⟩ := ih k hlt (by omega)
        have := hg k i hlt hit
        rw [← e, hek] at this
        exact od_irr _ this
      by_cases hij : i = j
      · subst hij
        exact hej.symm
      · by_cases hik : i = k
        · subst hik
          exact hek
        · have a := hg i j (by omega) hj
          have b := hf i k (by omega) hk
          rw [hej] at a
          rw [hek] at b
          exact (od_as a b).elim
  intro s t f g hf hg h
  have a := one s t f g hf hg (fun x => (h x).mp) (fun x => (h x).mpr)
  have b := one t s g f hg hf (fun x => (h x).mpr) (fun x => (h x).mp)
  refine ⟨Nat.le_antisymm (Nat.not_lt.mp fun hlt => ?_) (Nat.not_lt.mp fun hlt => ?_), fun i hi => (a i hi).2⟩
  · have := (a t hlt).1
    omega
  · have := (b s hlt).1
    omega

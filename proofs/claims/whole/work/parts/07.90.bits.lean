/-! loops, and what simp needs at every step -/
theorem mi_nl_i {x : Int32} : mi_nl (some (.inl x)) = true := rfl
theorem mi_nl_r {x : Option Nat} : mi_nl (some (.inr (.inr x))) = true := rfl
theorem mi_nl_n : mi_nl none = true := rfl
theorem mi_c1_i {x : Int32} : mi_c1 (.inl x) = true := rfl
theorem mi_c1_r {x : Option Nat} : mi_c1 (.inr (.inr x)) = true := rfl
def cn_b (b : Bool) : Int32 := bif b then 1 else 0
theorem cn_b0 {b : Bool} : (cn_b b = 0) ↔ b = false := by cases b <;> decide
theorem cn_bz {b : Bool} : (cn_b b = 0 ∨ cn_b b = 1) := by cases b <;> decide
theorem cn_bt : cn_b true = 1 := rfl
theorem cn_bf : cn_b false = 0 := rfl
def mi_it {σ : Type} (f : Nat → σ → σ) : Nat → Nat → σ → σ
  | 0, _, s => s
  | k + 1, i, s => mi_it f k (i + 1) (f i s)
theorem mi_it_0 {σ : Type} {f : Nat → σ → σ} {i : Nat} {s : σ} : mi_it f 0 i s = s := rfl
theorem mi_it_s {σ : Type} {f : Nat → σ → σ} {k i : Nat} {s : σ} : mi_it f (k + 1) i s = mi_it f k (i + 1) (f i s) := rfl
/-- a loop that counts up to n: its body, its end -/
theorem mi_loop {σ : Type} {A : Nat → σ → Prop} {B : σ → Prop} {f : Nat → σ → σ} {n : Nat} (I : Nat → σ → Prop) (body : ∀ i s, i < n → I i s → (A i s ↔ A (i + 1) (f i s)) ∧ I (i + 1) (f i s)) (ends : ∀ s, I n s → (A n s ↔ B s)) : ∀ k i s, i + k = n → I i s → (A i s ↔ B (mi_it f k i s)) := by
  intro k
  induction k with
  | zero =>
    intro i s e h
    have e1 : i = n := by omega
    subst e1
    exact ends s h
  | succ k ih =>
    intro i s e h
    obtain ⟨b1, b2⟩ := body i s (by omega) h
    rw [b1, mi_it_s]
    exact ih (i + 1) (f i s) (by omega) b2
theorem mi_loop0 {σ : Type} {A : Nat → σ → Prop} {B : σ → Prop} {f : Nat → σ → σ} {n : Nat} (body : ∀ i s, i < n → (A i s ↔ A (i + 1) (f i s))) (ends : ∀ s, A n s ↔ B s) : ∀ k i s, i + k = n → (A i s ↔ B (mi_it f k i s)) :=
  fun k i s e => mi_loop (fun _ _ => True) (fun i s h _ => ⟨body i s h, trivial⟩) (fun s _ => ends s) k i s e trivial
/-- a loop that may be left -/
def mi_its {σ ρ : Type} (f : Nat → σ → σ ⊕ ρ) : Nat → Nat → σ → σ ⊕ ρ
  | 0, _, s => .inl s
  | k + 1, i, s => match f i s with
    | .inl s' => mi_its f k (i + 1) s'
    | .inr r => .inr r
theorem mi_loops {σ ρ : Type} {A : Nat → σ → Prop} {B : σ → Prop} {C : ρ → Prop} {f : Nat → σ → σ ⊕ ρ} {n : Nat} (I : Nat → σ → Prop) (body : ∀ i s, i < n → I i s → (A i s ↔ match f i s with | .inl s' => A (i + 1) s' | .inr r => C r) ∧ (∀ s', f i s = .inl s' → I (i + 1) s')) (ends : ∀ s, I n s → (A n s ↔ B s)) : ∀ k i s, i + k = n → I i s → (A i s ↔ match mi_its f k i s with | .inl s' => B s' | .inr r => C r) := by
  intro k
  induction k with
  | zero =>
    intro i s e h
    have e1 : i = n := by omega
    subst e1
    exact ends s h
  | succ k ih =>
    intro i s e h
    obtain ⟨b1, b2⟩ := body i s (by omega) h
    rw [b1]
    unfold mi_its
    cases hf : f i s with
    | inl s' => exact ih (i + 1) s' (by omega) (b2 s' hf)
    | inr r => exact Iff.rfl
/-- with locals that nobody reads again -/
theorem mi_loopx {σ τ : Type} {A : Nat → σ → τ → Prop} {B : σ → Prop} {f : Nat → σ → σ} {n : Nat} (I : Nat → σ → Prop) (body : ∀ i s x, i < n → I i s → (∃ x', (A i s x ↔ A (i + 1) (f i s) x')) ∧ I (i + 1) (f i s)) (ends : ∀ s x, I n s → (A n s x ↔ B s)) : ∀ k i s x, i + k = n → I i s → (A i s x ↔ B (mi_it f k i s)) := by
  intro k
  induction k with
  | zero =>
    intro i s x e h
    have e1 : i = n := by omega
    subst e1
    exact ends s x h
  | succ k ih =>
    intro i s x e h
    obtain ⟨⟨x', b1⟩, b2⟩ := body i s x (by omega) h
    rw [b1, mi_it_s]
    exact ih (i + 1) (f i s) x' (by omega) b2
/-! sets as numbers: bits, and what the machine's instructions make of them (some rows began as kit/laws/BITS.to-paste) -/
theorem nm_bv {a b : Int32} (h : ∀ i, i < 32 → a.toBitVec.getLsbD i = b.toBitVec.getLsbD i) : a = b := Int32.toBitVec_inj.mp (BitVec.eq_of_getLsbD_eq (fun i hi => h i hi))
theorem nm_g (n i : Nat) : (nI n).toBitVec.getLsbD i = (decide (i < 32) && n.testBit i) := by
  show (BitVec.ofNat 32 n).getLsbD i = _
  rw [BitVec.getLsbD_ofNat]
theorem nm_and (a b : Nat) : nI a &&& nI b = nI (a &&& b) := by
  apply nm_bv
  intro i hi
  rw [Int32.toBitVec_and, BitVec.getLsbD_and, nm_g, nm_g, nm_g, Nat.testBit_and]
  simp [hi]
theorem nm_or (a b : Nat) : nI a ||| nI b = nI (a ||| b) := by
  apply nm_bv
  intro i hi
  rw [Int32.toBitVec_or, BitVec.getLsbD_or, nm_g, nm_g, nm_g, Nat.testBit_or]
  simp [hi]
theorem nm_xor (a b : Nat) : nI a ^^^ nI b = nI (a ^^^ b) := by
  apply nm_bv
  intro i hi
  rw [Int32.toBitVec_xor, BitVec.getLsbD_xor, nm_g, nm_g, nm_g, Nat.testBit_xor]
  simp [hi]
/-- a without b -/
def nm_d (a b : Nat) : Nat := a ^^^ (a &&& b)
theorem nm_d_t (a b i : Nat) : (nm_d a b).testBit i = (a.testBit i && !b.testBit i) := by
  unfold nm_d
  rw [Nat.testBit_xor, Nat.testBit_and]
  cases a.testBit i <;> cases b.testBit i <;> rfl
theorem nm_m1 : ∀ i, i < 32 → (-1 : Int32).toBitVec.getLsbD i = true := by decide +kernel
theorem nm_not (a b : Nat) : nI a &&& (nI b ^^^ -1) = nI (nm_d a b) := by
  apply nm_bv
  intro i hi
  rw [Int32.toBitVec_and, Int32.toBitVec_xor, BitVec.getLsbD_and, BitVec.getLsbD_xor, nm_g, nm_g, nm_g, nm_m1 i hi, nm_d_t]
  simp [hi]
theorem nm_shl : ∀ v, v < 32 → (1 : Int32) <<< (nI v &&& 31) = nI (2 ^ v) := by decide +kernel
theorem nm_all : ∀ n, n < 31 → ((1 : Int32) <<< (nI n &&& 31)) - 1 = nI (2 ^ n - 1) := by decide +kernel
theorem nm_sm : ∀ n, n < 32 → ((nI n &&& 31).toBitVec.smod 32).toNat = n := by decide +kernel
theorem nm_1b : ∀ i, i < 32 → (1 : Int32).toBitVec.getLsbD i = decide (i = 0) := by decide +kernel
theorem nm_in {s v : Nat} (hv : v < 32) : ((nI s >>> (nI v &&& 31)) &&& 1 = 0) ↔ s.testBit v = false := by
  have hb : ∀ i, i < 32 → ((nI s >>> (nI v &&& 31)) &&& 1).toBitVec.getLsbD i = (decide (i = 0) && s.testBit v) := by
    intro i hi
    rw [Int32.toBitVec_and, BitVec.getLsbD_and, nm_1b i hi, Int32.toBitVec_shiftRight]
    by_cases h0 : i = 0
    · subst h0
      show (((nI s).toBitVec.sshiftRight ((nI v &&& 31).toBitVec.smod 32).toNat).getLsbD 0 && _) = _
      rw [nm_sm v hv, BitVec.getLsbD_sshiftRight]
      simp [hv, nm_g]
      rw [← BitVec.getLsbD_eq_getElem, nm_g]
      simp [hv]
    · simp [h0]
  constructor
  · intro e
    have h := hb 0 (by decide)
    rw [e] at h
    simpa using h.symm
  · intro e
    apply nm_bv
    intro i hi
    rw [hb i hi, e]
    simp
theorem nm_ush {k j : Nat} (hk : k < 2 ^ 31) (hj : j < 32) : ((nI k).toUInt32 >>> ((nI j).toUInt32 &&& Int32.toUInt32 31)).toInt32 = nI (k >>> j) := by
  have hs : k >>> j ≤ k := by
    rw [Nat.shiftRight_eq_div_pow]
    exact Nat.div_le_self _ _
  have hc : ∀ j : Fin 32, (UInt32.ofNat j.val &&& Int32.toUInt32 31).toNat % 32 = j.val := by decide +kernel
  have e2 : UInt32.ofNat k >>> (UInt32.ofNat j &&& Int32.toUInt32 31) = UInt32.ofNat (k >>> j) := by
    apply UInt32.toNat_inj.1
    have h1 : (UInt32.ofNat k).toNat = k := Nat.mod_eq_of_lt (by omega)
    have h2 : (UInt32.ofNat (k >>> j)).toNat = k >>> j := Nat.mod_eq_of_lt (by omega)
    rw [UInt32.toNat_shiftRight, hc ⟨j, hj⟩, h1, h2]
  show (UInt32.ofNat k >>> (UInt32.ofNat j &&& Int32.toUInt32 31)).toInt32 = _
  rw [e2]
  rfl
/-- how many of the first k bits -/
def nm_c : Nat → Nat → Nat
  | 0, _ => 0
  | k + 1, m => nm_c k m + (m.testBit k).toNat
theorem nm_c_le (k m : Nat) : nm_c k m ≤ k := by
  induction k with
  | zero => exact Nat.le_refl _
  | succ k ih =>
    have : (m.testBit k).toNat ≤ 1 := by cases m.testBit k <;> decide
    show nm_c k m + (m.testBit k).toNat ≤ k + 1
    omega
/-- Integer.bitCount, step by step -/
def nm_b1 (k : Nat) : Nat := k - Nat.land (Nat.shiftRight k 1) 1431655765
def nm_b2 (k : Nat) : Nat := Nat.land k 858993459 + Nat.land (Nat.shiftRight k 2) 858993459
def nm_b3 (k : Nat) : Nat := Nat.land (k + Nat.shiftRight k 4) 252645135
def nm_b4 (k : Nat) : Nat := k + Nat.shiftRight k 8
def nm_b5 (k : Nat) : Nat := Nat.land (k + Nat.shiftRight k 16) 63
theorem nm_q0 : ∀ a, a < 4 → ∀ b, b < 256 → nm_b5 (nm_b4 (nm_b3 (nm_b2 (nm_b1 (256 * (0 + a) + b))))) = nm_c 8 (0 + a) + nm_c 8 b := by decide +kernel
theorem nm_q1 : ∀ a, a < 4 → ∀ b, b < 256 → nm_b5 (nm_b4 (nm_b3 (nm_b2 (nm_b1 (256 * (4 + a) + b))))) = nm_c 8 (4 + a) + nm_c 8 b := by decide +kernel
theorem nm_q2 : ∀ a, a < 4 → ∀ b, b < 256 → nm_b5 (nm_b4 (nm_b3 (nm_b2 (nm_b1 (256 * (8 + a) + b))))) = nm_c 8 (8 + a) + nm_c 8 b := by decide +kernel
theorem nm_q3 : ∀ a, a < 4 → ∀ b, b < 256 → nm_b5 (nm_b4 (nm_b3 (nm_b2 (nm_b1 (256 * (12 + a) + b))))) = nm_c 8 (12 + a) + nm_c 8 b := by decide +kernel
theorem nm_q4 : ∀ a, a < 4 → ∀ b, b < 256 → nm_b5 (nm_b4 (nm_b3 (nm_b2 (nm_b1 (256 * (16 + a) + b))))) = nm_c 8 (16 + a) + nm_c 8 b := by decide +kernel
theorem nm_q5 : ∀ a, a < 4 → ∀ b, b < 256 → nm_b5 (nm_b4 (nm_b3 (nm_b2 (nm_b1 (256 * (20 + a) + b))))) = nm_c 8 (20 + a) + nm_c 8 b := by decide +kernel
theorem nm_q6 : ∀ a, a < 4 → ∀ b, b < 256 → nm_b5 (nm_b4 (nm_b3 (nm_b2 (nm_b1 (256 * (24 + a) + b))))) = nm_c 8 (24 + a) + nm_c 8 b := by decide +kernel
theorem nm_q7 : ∀ a, a < 4 → ∀ b, b < 256 → nm_b5 (nm_b4 (nm_b3 (nm_b2 (nm_b1 (256 * (28 + a) + b))))) = nm_c 8 (28 + a) + nm_c 8 b := by decide +kernel
theorem nm_q8 : ∀ a, a < 4 → ∀ b, b < 256 → nm_b5 (nm_b4 (nm_b3 (nm_b2 (nm_b1 (256 * (32 + a) + b))))) = nm_c 8 (32 + a) + nm_c 8 b := by decide +kernel
theorem nm_q9 : ∀ a, a < 4 → ∀ b, b < 256 → nm_b5 (nm_b4 (nm_b3 (nm_b2 (nm_b1 (256 * (36 + a) + b))))) = nm_c 8 (36 + a) + nm_c 8 b := by decide +kernel
theorem nm_q10 : ∀ a, a < 4 → ∀ b, b < 256 → nm_b5 (nm_b4 (nm_b3 (nm_b2 (nm_b1 (256 * (40 + a) + b))))) = nm_c 8 (40 + a) + nm_c 8 b := by decide +kernel
theorem nm_q11 : ∀ a, a < 4 → ∀ b, b < 256 → nm_b5 (nm_b4 (nm_b3 (nm_b2 (nm_b1 (256 * (44 + a) + b))))) = nm_c 8 (44 + a) + nm_c 8 b := by decide +kernel
theorem nm_q12 : ∀ a, a < 4 → ∀ b, b < 256 → nm_b5 (nm_b4 (nm_b3 (nm_b2 (nm_b1 (256 * (48 + a) + b))))) = nm_c 8 (48 + a) + nm_c 8 b := by decide +kernel
theorem nm_q13 : ∀ a, a < 4 → ∀ b, b < 256 → nm_b5 (nm_b4 (nm_b3 (nm_b2 (nm_b1 (256 * (52 + a) + b))))) = nm_c 8 (52 + a) + nm_c 8 b := by decide +kernel
theorem nm_q14 : ∀ a, a < 4 → ∀ b, b < 256 → nm_b5 (nm_b4 (nm_b3 (nm_b2 (nm_b1 (256 * (56 + a) + b))))) = nm_c 8 (56 + a) + nm_c 8 b := by decide +kernel
theorem nm_q15 : ∀ a, a < 4 → ∀ b, b < 256 → nm_b5 (nm_b4 (nm_b3 (nm_b2 (nm_b1 (256 * (60 + a) + b))))) = nm_c 8 (60 + a) + nm_c 8 b := by decide +kernel
theorem nm_q16 : ∀ a, a < 4 → ∀ b, b < 256 → nm_b5 (nm_b4 (nm_b3 (nm_b2 (nm_b1 (256 * (64 + a) + b))))) = nm_c 8 (64 + a) + nm_c 8 b := by decide +kernel
theorem nm_q17 : ∀ a, a < 4 → ∀ b, b < 256 → nm_b5 (nm_b4 (nm_b3 (nm_b2 (nm_b1 (256 * (68 + a) + b))))) = nm_c 8 (68 + a) + nm_c 8 b := by decide +kernel
theorem nm_q18 : ∀ a, a < 4 → ∀ b, b < 256 → nm_b5 (nm_b4 (nm_b3 (nm_b2 (nm_b1 (256 * (72 + a) + b))))) = nm_c 8 (72 + a) + nm_c 8 b := by decide +kernel
theorem nm_q19 : ∀ a, a < 4 → ∀ b, b < 256 → nm_b5 (nm_b4 (nm_b3 (nm_b2 (nm_b1 (256 * (76 + a) + b))))) = nm_c 8 (76 + a) + nm_c 8 b := by decide +kernel
theorem nm_q20 : ∀ a, a < 4 → ∀ b, b < 256 → nm_b5 (nm_b4 (nm_b3 (nm_b2 (nm_b1 (256 * (80 + a) + b))))) = nm_c 8 (80 + a) + nm_c 8 b := by decide +kernel
theorem nm_q21 : ∀ a, a < 4 → ∀ b, b < 256 → nm_b5 (nm_b4 (nm_b3 (nm_b2 (nm_b1 (256 * (84 + a) + b))))) = nm_c 8 (84 + a) + nm_c 8 b := by decide +kernel
theorem nm_q22 : ∀ a, a < 4 → ∀ b, b < 256 → nm_b5 (nm_b4 (nm_b3 (nm_b2 (nm_b1 (256 * (88 + a) + b))))) = nm_c 8 (88 + a) + nm_c 8 b := by decide +kernel
theorem nm_q23 : ∀ a, a < 4 → ∀ b, b < 256 → nm_b5 (nm_b4 (nm_b3 (nm_b2 (nm_b1 (256 * (92 + a) + b))))) = nm_c 8 (92 + a) + nm_c 8 b := by decide +kernel
theorem nm_q24 : ∀ a, a < 4 → ∀ b, b < 256 → nm_b5 (nm_b4 (nm_b3 (nm_b2 (nm_b1 (256 * (96 + a) + b))))) = nm_c 8 (96 + a) + nm_c 8 b := by decide +kernel
theorem nm_q25 : ∀ a, a < 4 → ∀ b, b < 256 → nm_b5 (nm_b4 (nm_b3 (nm_b2 (nm_b1 (256 * (100 + a) + b))))) = nm_c 8 (100 + a) + nm_c 8 b := by decide +kernel
theorem nm_q26 : ∀ a, a < 4 → ∀ b, b < 256 → nm_b5 (nm_b4 (nm_b3 (nm_b2 (nm_b1 (256 * (104 + a) + b))))) = nm_c 8 (104 + a) + nm_c 8 b := by decide +kernel
theorem nm_q27 : ∀ a, a < 4 → ∀ b, b < 256 → nm_b5 (nm_b4 (nm_b3 (nm_b2 (nm_b1 (256 * (108 + a) + b))))) = nm_c 8 (108 + a) + nm_c 8 b := by decide +kernel
theorem nm_q28 : ∀ a, a < 4 → ∀ b, b < 256 → nm_b5 (nm_b4 (nm_b3 (nm_b2 (nm_b1 (256 * (112 + a) + b))))) = nm_c 8 (112 + a) + nm_c 8 b := by decide +kernel
theorem nm_q29 : ∀ a, a < 4 → ∀ b, b < 256 → nm_b5 (nm_b4 (nm_b3 (nm_b2 (nm_b1 (256 * (116 + a) + b))))) = nm_c 8 (116 + a) + nm_c 8 b := by decide +kernel
theorem nm_q30 : ∀ a, a < 4 → ∀ b, b < 256 → nm_b5 (nm_b4 (nm_b3 (nm_b2 (nm_b1 (256 * (120 + a) + b))))) = nm_c 8 (120 + a) + nm_c 8 b := by decide +kernel
theorem nm_q31 : ∀ a, a < 4 → ∀ b, b < 256 → nm_b5 (nm_b4 (nm_b3 (nm_b2 (nm_b1 (256 * (124 + a) + b))))) = nm_c 8 (124 + a) + nm_c 8 b := by decide +kernel
theorem nm_q32 : ∀ a, a < 4 → ∀ b, b < 256 → nm_b5 (nm_b4 (nm_b3 (nm_b2 (nm_b1 (256 * (128 + a) + b))))) = nm_c 8 (128 + a) + nm_c 8 b := by decide +kernel
theorem nm_q33 : ∀ a, a < 4 → ∀ b, b < 256 → nm_b5 (nm_b4 (nm_b3 (nm_b2 (nm_b1 (256 * (132 + a) + b))))) = nm_c 8 (132 + a) + nm_c 8 b := by decide +kernel
theorem nm_q34 : ∀ a, a < 4 → ∀ b, b < 256 → nm_b5 (nm_b4 (nm_b3 (nm_b2 (nm_b1 (256 * (136 + a) + b))))) = nm_c 8 (136 + a) + nm_c 8 b := by decide +kernel
theorem nm_q35 : ∀ a, a < 4 → ∀ b, b < 256 → nm_b5 (nm_b4 (nm_b3 (nm_b2 (nm_b1 (256 * (140 + a) + b))))) = nm_c 8 (140 + a) + nm_c 8 b := by decide +kernel
theorem nm_q36 : ∀ a, a < 4 → ∀ b, b < 256 → nm_b5 (nm_b4 (nm_b3 (nm_b2 (nm_b1 (256 * (144 + a) + b))))) = nm_c 8 (144 + a) + nm_c 8 b := by decide +kernel
theorem nm_q37 : ∀ a, a < 4 → ∀ b, b < 256 → nm_b5 (nm_b4 (nm_b3 (nm_b2 (nm_b1 (256 * (148 + a) + b))))) = nm_c 8 (148 + a) + nm_c 8 b := by decide +kernel
theorem nm_q38 : ∀ a, a < 4 → ∀ b, b < 256 → nm_b5 (nm_b4 (nm_b3 (nm_b2 (nm_b1 (256 * (152 + a) + b))))) = nm_c 8 (152 + a) + nm_c 8 b := by decide +kernel
theorem nm_q39 : ∀ a, a < 4 → ∀ b, b < 256 → nm_b5 (nm_b4 (nm_b3 (nm_b2 (nm_b1 (256 * (156 + a) + b))))) = nm_c 8 (156 + a) + nm_c 8 b := by decide +kernel
theorem nm_q40 : ∀ a, a < 4 → ∀ b, b < 256 → nm_b5 (nm_b4 (nm_b3 (nm_b2 (nm_b1 (256 * (160 + a) + b))))) = nm_c 8 (160 + a) + nm_c 8 b := by decide +kernel
theorem nm_q41 : ∀ a, a < 4 → ∀ b, b < 256 → nm_b5 (nm_b4 (nm_b3 (nm_b2 (nm_b1 (256 * (164 + a) + b))))) = nm_c 8 (164 + a) + nm_c 8 b := by decide +kernel
theorem nm_q42 : ∀ a, a < 4 → ∀ b, b < 256 → nm_b5 (nm_b4 (nm_b3 (nm_b2 (nm_b1 (256 * (168 + a) + b))))) = nm_c 8 (168 + a) + nm_c 8 b := by decide +kernel
theorem nm_q43 : ∀ a, a < 4 → ∀ b, b < 256 → nm_b5 (nm_b4 (nm_b3 (nm_b2 (nm_b1 (256 * (172 + a) + b))))) = nm_c 8 (172 + a) + nm_c 8 b := by decide +kernel
theorem nm_q44 : ∀ a, a < 4 → ∀ b, b < 256 → nm_b5 (nm_b4 (nm_b3 (nm_b2 (nm_b1 (256 * (176 + a) + b))))) = nm_c 8 (176 + a) + nm_c 8 b := by decide +kernel
theorem nm_q45 : ∀ a, a < 4 → ∀ b, b < 256 → nm_b5 (nm_b4 (nm_b3 (nm_b2 (nm_b1 (256 * (180 + a) + b))))) = nm_c 8 (180 + a) + nm_c 8 b := by decide +kernel
theorem nm_q46 : ∀ a, a < 4 → ∀ b, b < 256 → nm_b5 (nm_b4 (nm_b3 (nm_b2 (nm_b1 (256 * (184 + a) + b))))) = nm_c 8 (184 + a) + nm_c 8 b := by decide +kernel
theorem nm_q47 : ∀ a, a < 4 → ∀ b, b < 256 → nm_b5 (nm_b4 (nm_b3 (nm_b2 (nm_b1 (256 * (188 + a) + b))))) = nm_c 8 (188 + a) + nm_c 8 b := by decide +kernel
theorem nm_q48 : ∀ a, a < 4 → ∀ b, b < 256 → nm_b5 (nm_b4 (nm_b3 (nm_b2 (nm_b1 (256 * (192 + a) + b))))) = nm_c 8 (192 + a) + nm_c 8 b := by decide +kernel
theorem nm_q49 : ∀ a, a < 4 → ∀ b, b < 256 → nm_b5 (nm_b4 (nm_b3 (nm_b2 (nm_b1 (256 * (196 + a) + b))))) = nm_c 8 (196 + a) + nm_c 8 b := by decide +kernel
theorem nm_q50 : ∀ a, a < 4 → ∀ b, b < 256 → nm_b5 (nm_b4 (nm_b3 (nm_b2 (nm_b1 (256 * (200 + a) + b))))) = nm_c 8 (200 + a) + nm_c 8 b := by decide +kernel
theorem nm_q51 : ∀ a, a < 4 → ∀ b, b < 256 → nm_b5 (nm_b4 (nm_b3 (nm_b2 (nm_b1 (256 * (204 + a) + b))))) = nm_c 8 (204 + a) + nm_c 8 b := by decide +kernel
theorem nm_q52 : ∀ a, a < 4 → ∀ b, b < 256 → nm_b5 (nm_b4 (nm_b3 (nm_b2 (nm_b1 (256 * (208 + a) + b))))) = nm_c 8 (208 + a) + nm_c 8 b := by decide +kernel
theorem nm_q53 : ∀ a, a < 4 → ∀ b, b < 256 → nm_b5 (nm_b4 (nm_b3 (nm_b2 (nm_b1 (256 * (212 + a) + b))))) = nm_c 8 (212 + a) + nm_c 8 b := by decide +kernel
theorem nm_q54 : ∀ a, a < 4 → ∀ b, b < 256 → nm_b5 (nm_b4 (nm_b3 (nm_b2 (nm_b1 (256 * (216 + a) + b))))) = nm_c 8 (216 + a) + nm_c 8 b := by decide +kernel
theorem nm_q55 : ∀ a, a < 4 → ∀ b, b < 256 → nm_b5 (nm_b4 (nm_b3 (nm_b2 (nm_b1 (256 * (220 + a) + b))))) = nm_c 8 (220 + a) + nm_c 8 b := by decide +kernel
theorem nm_q56 : ∀ a, a < 4 → ∀ b, b < 256 → nm_b5 (nm_b4 (nm_b3 (nm_b2 (nm_b1 (256 * (224 + a) + b))))) = nm_c 8 (224 + a) + nm_c 8 b := by decide +kernel
theorem nm_q57 : ∀ a, a < 4 → ∀ b, b < 256 → nm_b5 (nm_b4 (nm_b3 (nm_b2 (nm_b1 (256 * (228 + a) + b))))) = nm_c 8 (228 + a) + nm_c 8 b := by decide +kernel
theorem nm_q58 : ∀ a, a < 4 → ∀ b, b < 256 → nm_b5 (nm_b4 (nm_b3 (nm_b2 (nm_b1 (256 * (232 + a) + b))))) = nm_c 8 (232 + a) + nm_c 8 b := by decide +kernel
theorem nm_q59 : ∀ a, a < 4 → ∀ b, b < 256 → nm_b5 (nm_b4 (nm_b3 (nm_b2 (nm_b1 (256 * (236 + a) + b))))) = nm_c 8 (236 + a) + nm_c 8 b := by decide +kernel
theorem nm_q60 : ∀ a, a < 4 → ∀ b, b < 256 → nm_b5 (nm_b4 (nm_b3 (nm_b2 (nm_b1 (256 * (240 + a) + b))))) = nm_c 8 (240 + a) + nm_c 8 b := by decide +kernel
theorem nm_q61 : ∀ a, a < 4 → ∀ b, b < 256 → nm_b5 (nm_b4 (nm_b3 (nm_b2 (nm_b1 (256 * (244 + a) + b))))) = nm_c 8 (244 + a) + nm_c 8 b := by decide +kernel
theorem nm_q62 : ∀ a, a < 4 → ∀ b, b < 256 → nm_b5 (nm_b4 (nm_b3 (nm_b2 (nm_b1 (256 * (248 + a) + b))))) = nm_c 8 (248 + a) + nm_c 8 b := by decide +kernel
theorem nm_q63 : ∀ a, a < 4 → ∀ b, b < 256 → nm_b5 (nm_b4 (nm_b3 (nm_b2 (nm_b1 (256 * (252 + a) + b))))) = nm_c 8 (252 + a) + nm_c 8 b := by decide +kernel
theorem nm_q : ∀ i, i < 64 → ∀ a, a < 4 → ∀ b, b < 256 → nm_b5 (nm_b4 (nm_b3 (nm_b2 (nm_b1 (256 * (4 * i + a) + b))))) = nm_c 8 (4 * i + a) + nm_c 8 b
  | 0, _ => nm_q0
  | 1, _ => nm_q1
  | 2, _ => nm_q2
  | 3, _ => nm_q3
  | 4, _ => nm_q4
  | 5, _ => nm_q5
  | 6, _ => nm_q6
  | 7, _ => nm_q7
  | 8, _ => nm_q8
  | 9, _ => nm_q9
  | 10, _ => nm_q10
  | 11, _ => nm_q11
  | 12, _ => nm_q12
  | 13, _ => nm_q13
  | 14, _ => nm_q14
  | 15, _ => nm_q15
  | 16, _ => nm_q16
  | 17, _ => nm_q17
  | 18, _ => nm_q18
  | 19, _ => nm_q19
  | 20, _ => nm_q20
  | 21, _ => nm_q21
  | 22, _ => nm_q22
  | 23, _ => nm_q23
  | 24, _ => nm_q24
  | 25, _ => nm_q25
  | 26, _ => nm_q26
  | 27, _ => nm_q27
  | 28, _ => nm_q28
  | 29, _ => nm_q29
  | 30, _ => nm_q30
  | 31, _ => nm_q31
  | 32, _ => nm_q32
  | 33, _ => nm_q33
  | 34, _ => nm_q34
  | 35, _ => nm_q35
  | 36, _ => nm_q36
  | 37, _ => nm_q37
  | 38, _ => nm_q38
  | 39, _ => nm_q39
  | 40, _ => nm_q40
  | 41, _ => nm_q41
  | 42, _ => nm_q42
  | 43, _ => nm_q43
  | 44, _ => nm_q44
  | 45, _ => nm_q45
  | 46, _ => nm_q46
  | 47, _ => nm_q47
  | 48, _ => nm_q48
  | 49, _ => nm_q49
  | 50, _ => nm_q50
  | 51, _ => nm_q51
  | 52, _ => nm_q52
  | 53, _ => nm_q53
  | 54, _ => nm_q54
  | 55, _ => nm_q55
  | 56, _ => nm_q56
  | 57, _ => nm_q57
  | 58, _ => nm_q58
  | 59, _ => nm_q59
  | 60, _ => nm_q60
  | 61, _ => nm_q61
  | 62, _ => nm_q62
  | 63, _ => nm_q63
  | n + 64, h => absurd h (by omega)
theorem nm_c_hi : ∀ j a b, b < 256 → nm_c (8 + j) (256 * a + b) = nm_c j a + nm_c 8 b := by
  intro j a b hb
  induction j with
  | zero =>
    show nm_c 8 (256 * a + b) = 0 + nm_c 8 b
    rw [Nat.zero_add]
    have : ∀ k, k ≤ 8 → nm_c k (256 * a + b) = nm_c k b := by
      intro k
      induction k with
      | zero => exact fun _ => rfl
      | succ k ih =>
        intro hk
        show nm_c k _ + ((256 * a + b).testBit k).toNat = nm_c k b + (b.testBit k).toNat
        rw [ih (by omega)]
        have e := Nat.testBit_two_pow_mul_add a (show b < 2 ^ 8 from hb) k
        rw [show (256 : Nat) = 2 ^ 8 from rfl, e, if_pos (by omega)]
    exact this 8 (Nat.le_refl 8)
  | succ j ih =>
    show nm_c (8 + j) _ + ((256 * a + b).testBit (8 + j)).toNat = nm_c j a + (a.testBit j).toNat + nm_c 8 b
    have e := Nat.testBit_two_pow_mul_add a (show b < 2 ^ 8 from hb) (8 + j)
    rw [ih, show (256 : Nat) = 2 ^ 8 from rfl, e, if_neg (by omega), show 8 + j - 8 = j by omega]
    omega
theorem nm_ls (a b : Nat) : Nat.land a b ≤ a := Nat.and_le_left
theorem nm_rs (a b : Nat) : Nat.shiftRight a b ≤ a := by
  show a >>> b ≤ a
  rw [Nat.shiftRight_eq_div_pow]
  exact Nat.div_le_self _ _
theorem nm_bc {k : Nat} (hk : k < 65536) : nm_b5 (nm_b4 (nm_b3 (nm_b2 (nm_b1 k)))) = nm_c 16 k := by
  have h := nm_q (k / 1024) (by omega) (k / 256 % 4) (by omega) (k % 256) (by omega)
  have e : 4 * (k / 1024) + k / 256 % 4 = k / 256 := by omega
  rw [e] at h
  have e2 : 256 * (k / 256) + k % 256 = k := by omega
  have h2 := nm_c_hi 8 (k / 256) (k % 256) (by omega)
  rw [e2] at h h2
  exact h.trans h2.symm

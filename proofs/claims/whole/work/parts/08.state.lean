/-! loops, and what simp needs at every step -/
theorem mi_nl_i {x : Int32} : mi_nl (some (.inl x)) = true := rfl
theorem mi_nl_r {x : Option Nat} : mi_nl (some (.inr (.inr x))) = true := rfl
theorem mi_nl_n : mi_nl none = true := rfl
theorem mi_c1_i {x : Int32} : mi_c1 (.inl x) = true := rfl
theorem mi_c1_r {x : Option Nat} : mi_c1 (.inr (.inr x)) = true := rfl
def cn_b (b : Bool) : Int32 := bif b then 1 else 0
theorem cn_b0 {b : Bool} : (cn_b b = 0) ↔ b = false := by cases b <;> decide
theorem cn_bz {b : Bool} : (cn_b b = 0 ∨ cn_b b = 1) := by cases b <;> decide
theorem cn_bt : cn_b true = 1 := rfl
theorem cn_bf : cn_b false = 0 := rfl
def mi_it {σ : Type} (f : Nat → σ → σ) : Nat → Nat → σ → σ
  | 0, _, s => s
  | k + 1, i, s => mi_it f k (i + 1) (f i s)
theorem mi_it_0 {σ : Type} {f : Nat → σ → σ} {i : Nat} {s : σ} : mi_it f 0 i s = s := rfl
theorem mi_it_s {σ : Type} {f : Nat → σ → σ} {k i : Nat} {s : σ} : mi_it f (k + 1) i s = mi_it f k (i + 1) (f i s) := rfl
/-- a loop that counts up to n: its body, its end -/
theorem mi_loop {σ : Type} {A : Nat → σ → Prop} {B : σ → Prop} {f : Nat → σ → σ} {n : Nat} (I : Nat → σ → Prop) (body : ∀ i s, i < n → I i s → (A i s ↔ A (i + 1) (f i s)) ∧ I (i + 1) (f i s)) (ends : ∀ s, I n s → (A n s ↔ B s)) : ∀ k i s, i + k = n → I i s → (A i s ↔ B (mi_it f k i s)) := by
  intro k
  induction k with
  | zero =>
    intro i s e h
    have e1 : i = n := by omega
    subst e1
    exact ends s h
  | succ k ih =>
    intro i s e h
    obtain ⟨b1, b2⟩ := body i s (by omega) h
    rw [b1, mi_it_s]
    exact ih (i + 1) (f i s) (by omega) b2
theorem mi_loop0 {σ : Type} {A : Nat → σ → Prop} {B : σ → Prop} {f : Nat → σ → σ} {n : Nat} (body : ∀ i s, i < n → (A i s ↔ A (i + 1) (f i s))) (ends : ∀ s, A n s ↔ B s) : ∀ k i s, i + k = n → (A i s ↔ B (mi_it f k i s)) :=
  fun k i s e => mi_loop (fun _ _ => True) (fun i s h _ => ⟨body i s h, trivial⟩) (fun s _ => ends s) k i s e trivial
/-- a loop that may be left -/
def mi_its {σ ρ : Type} (f : Nat → σ → σ ⊕ ρ) : Nat → Nat → σ → σ ⊕ ρ
  | 0, _, s => .inl s
  | k + 1, i, s => match f i s with
    | .inl s' => mi_its f k (i + 1) s'
    | .inr r => .inr r
theorem mi_loops {σ ρ : Type} {A : Nat → σ → Prop} {B : σ → Prop} {C : ρ → Prop} {f : Nat → σ → σ ⊕ ρ} {n : Nat} (I : Nat → σ → Prop) (body : ∀ i s, i < n → I i s → (A i s ↔ match f i s with | .inl s' => A (i + 1) s' | .inr r => C r) ∧ (∀ s', f i s = .inl s' → I (i + 1) s')) (ends : ∀ s, I n s → (A n s ↔ B s)) : ∀ k i s, i + k = n → I i s → (A i s ↔ match mi_its f k i s with | .inl s' => B s' | .inr r => C r) := by
  intro k
  induction k with
  | zero =>
    intro i s e h
    have e1 : i = n := by omega
    subst e1
    exact ends s h
  | succ k ih =>
    intro i s e h
    obtain ⟨b1, b2⟩ := body i s (by omega) h
    rw [b1]
    unfold mi_its
    cases hf : f i s with
    | inl s' => exact ih (i + 1) s' (by omega) (b2 s' hf)
    | inr r => exact Iff.rfl
/-- with locals that nobody reads again -/
theorem mi_loopx {σ τ : Type} {A : Nat → σ → τ → Prop} {B : σ → Prop} {f : Nat → σ → σ} {n : Nat} (I : Nat → σ → Prop) (body : ∀ i s x, i < n → I i s → (∃ x', (A i s x ↔ A (i + 1) (f i s) x')) ∧ I (i + 1) (f i s)) (ends : ∀ s x, I n s → (A n s x ↔ B s)) : ∀ k i s x, i + k = n → I i s → (A i s x ↔ B (mi_it f k i s)) := by
  intro k
  induction k with
  | zero =>
    intro i s x e h
    have e1 : i = n := by omega
    subst e1
    exact ends s x h
  | succ k ih =>
    intro i s x e h
    obtain ⟨⟨x', b1⟩, b2⟩ := body i s x (by omega) h
    rw [b1, mi_it_s]
    exact ih (i + 1) (f i s) x' (by omega) b2
/-! sets as numbers: bits, and what the machine's instructions make of them (some rows began as kit/laws/BITS.to-paste) -/
theorem nm_bv {a b : Int32} (h : ∀ i, i < 32 → a.toBitVec.getLsbD i = b.toBitVec.getLsbD i) : a = b := Int32.toBitVec_inj.mp (BitVec.eq_of_getLsbD_eq (fun i hi => h i hi))
theorem nm_g (n i : Nat) : (nI n).toBitVec.getLsbD i = (decide (i < 32) && n.testBit i) := by
  show (BitVec.ofNat 32 n).getLsbD i = _
  rw [BitVec.getLsbD_ofNat]
theorem nm_and (a b : Nat) : nI a &&& nI b = nI (a &&& b) := by
  apply nm_bv
  intro i hi
  rw [Int32.toBitVec_and, BitVec.getLsbD_and, nm_g, nm_g, nm_g, Nat.testBit_and]
  simp [hi]
theorem nm_or (a b : Nat) : nI a ||| nI b = nI (a ||| b) := by
  apply nm_bv
  intro i hi
  rw [Int32.toBitVec_or, BitVec.getLsbD_or, nm_g, nm_g, nm_g, Nat.testBit_or]
  simp [hi]
theorem nm_xor (a b : Nat) : nI a ^^^ nI b = nI (a ^^^ b) := by
  apply nm_bv
  intro i hi
  rw [Int32.toBitVec_xor, BitVec.getLsbD_xor, nm_g, nm_g, nm_g, Nat.testBit_xor]
  simp [hi]
/-- a without b -/
def nm_d (a b : Nat) : Nat := a ^^^ (a &&& b)
theorem nm_d_t (a b i : Nat) : (nm_d a b).testBit i = (a.testBit i && !b.testBit i) := by
  unfold nm_d
  rw [Nat.testBit_xor, Nat.testBit_and]
  cases a.testBit i <;> cases b.testBit i <;> rfl
theorem nm_m1 : ∀ i, i < 32 → (-1 : Int32).toBitVec.getLsbD i = true := by decide +kernel
theorem nm_not (a b : Nat) : nI a &&& (nI b ^^^ -1) = nI (nm_d a b) := by
  apply nm_bv
  intro i hi
  rw [Int32.toBitVec_and, Int32.toBitVec_xor, BitVec.getLsbD_and, BitVec.getLsbD_xor, nm_g, nm_g, nm_g, nm_m1 i hi, nm_d_t]
  simp [hi]
theorem nm_shl : ∀ v, v < 32 → (1 : Int32) <<< (nI v &&& 31) = nI (2 ^ v) := by decide +kernel
theorem nm_all : ∀ n, n < 31 → ((1 : Int32) <<< (nI n &&& 31)) - 1 = nI (2 ^ n - 1) := by decide +kernel
theorem nm_sm : ∀ n, n < 32 → ((nI n &&& 31).toBitVec.smod 32).toNat = n := by decide +kernel
theorem nm_1b : ∀ i, i < 32 → (1 : Int32).toBitVec.getLsbD i = decide (i = 0) := by decide +kernel
theorem nm_in {s v : Nat} (hv : v < 32) : ((nI s >>> (nI v &&& 31)) &&& 1 = 0) ↔ s.testBit v = false := by
  have hb : ∀ i, i < 32 → ((nI s >>> (nI v &&& 31)) &&& 1).toBitVec.getLsbD i = (decide (i = 0) && s.testBit v) := by
    intro i hi
    rw [Int32.toBitVec_and, BitVec.getLsbD_and, nm_1b i hi, Int32.toBitVec_shiftRight]
    by_cases h0 : i = 0
    · subst h0
      show ((nI s).toBitVec.sshiftRight ((nI v &&& 31).toBitVec.smod 32).toNat).getLsbD 0 && _ = _
      rw [nm_sm v hv, BitVec.getLsbD_sshiftRight]
      simp [hv, nm_g]
    · simp [h0]
  constructor
  · intro e
    have h := hb 0 (by decide)
    rw [e] at h
    simpa using h.symm
  · intro e
    apply nm_bv
    intro i hi
    rw [hb i hi, e]
    simp
theorem nm_ush {k j : Nat} (hk : k < 2 ^ 31) (hj : j < 32) : ((nI k).toUInt32 >>> ((nI j).toUInt32 &&& Int32.toUInt32 31)).toInt32 = nI (k >>> j) := by
  have hs : k >>> j ≤ k := by
    rw [Nat.shiftRight_eq_div_pow]
    exact Nat.div_le_self _ _
  have hc : ∀ j : Fin 32, (UInt32.ofNat j.val &&& Int32.toUInt32 31).toNat % 32 = j.val := by decide +kernel
  have e2 : UInt32.ofNat k >>> (UInt32.ofNat j &&& Int32.toUInt32 31) = UInt32.ofNat (k >>> j) := by
    apply UInt32.toNat_inj.1
    have h1 : (UInt32.ofNat k).toNat = k := Nat.mod_eq_of_lt (by omega)
    have h2 : (UInt32.ofNat (k >>> j)).toNat = k >>> j := Nat.mod_eq_of_lt (by omega)
    rw [UInt32.toNat_shiftRight, hc ⟨j, hj⟩, h1, h2]
  show (UInt32.ofNat k >>> (UInt32.ofNat j &&& Int32.toUInt32 31)).toInt32 = _
  rw [e2]
  rfl
/-- how many of the first k bits -/
def nm_c : Nat → Nat → Nat
  | 0, _ => 0
  | k + 1, m => nm_c k m + (m.testBit k).toNat
theorem nm_c_le (k m : Nat) : nm_c k m ≤ k := by
  induction k with
  | zero => exact Nat.le_refl _
  | succ k ih =>
    have : (m.testBit k).toNat ≤ 1 := by cases m.testBit k <;> decide
    show nm_c k m + (m.testBit k).toNat ≤ k + 1
    omega
/-- Integer.bitCount, step by step -/
def nm_b1 (k : Nat) : Nat := k - Nat.land (Nat.shiftRight k 1) 1431655765
def nm_b2 (k : Nat) : Nat := Nat.land k 858993459 + Nat.land (Nat.shiftRight k 2) 858993459
def nm_b3 (k : Nat) : Nat := Nat.land (k + Nat.shiftRight k 4) 252645135
def nm_b4 (k : Nat) : Nat := k + Nat.shiftRight k 8
def nm_b5 (k : Nat) : Nat := Nat.land (k + Nat.shiftRight k 16) 63
theorem nm_bk : ∀ a, a < 256 → ∀ b, b < 256 → nm_b5 (nm_b4 (nm_b3 (nm_b2 (nm_b1 (256 * a + b))))) = nm_c 16 (256 * a + b) := by decide +kernel
theorem nm_ls (a b : Nat) : Nat.land a b ≤ a := Nat.and_le_left
theorem nm_rs (a b : Nat) : Nat.shiftRight a b ≤ a := by
  show a >>> b ≤ a
  rw [Nat.shiftRight_eq_div_pow]
  exact Nat.div_le_self _ _
theorem nm_bc {k : Nat} (hk : k < 65536) : nm_b5 (nm_b4 (nm_b3 (nm_b2 (nm_b1 k)))) = nm_c 16 k := by
  have h := nm_bk (k / 256) (by omega) (k % 256) (by omega)
  rw [show 256 * (k / 256) + k % 256 = k by omega] at h
  exact h
def up_N (f : Nat → Nat) (k x : Nat) : Nat → Nat := fun j => if j = k then x else f j
def up_T (f : Nat → Nat → Nat) (k : Nat) (g : Nat → Nat) : Nat → Nat → Nat := fun j => if j = k then g else f j
theorem up_nI {f : Nat → Nat} {k x : Nat} : upd (fun i => nI (f i)) k (nI x) = fun i => nI (up_N f k x i) := by
  funext j
  unfold upd up_N
  split <;> rfl
theorem up_s {f : Nat → Nat} {k x : Nat} : up_N f k x k = x := if_pos rfl
theorem up_n {f : Nat → Nat} {k x j : Nat} (h : j ≠ k) : up_N f k x j = f j := if_neg h
theorem up_Ts {f : Nat → Nat → Nat} {k : Nat} {g : Nat → Nat} : up_T f k g k = g := if_pos rfl
theorem up_Tn {f : Nat → Nat → Nat} {k j : Nat} {g : Nat → Nat} (h : j ≠ k) : up_T f k g j = f j := if_neg h
/-! the state of class and reference: cells at places -/
abbrev st_N : Type := Nat × Nat × (Nat → Nat) × (Nat → Nat)
abbrev st_X : Type := (Nat → Nat) × (Nat → Nat) × Nat × Int32
abbrev st_C : Type := (Nat → Nat) × Int32
abbrev st_E : Type := (Nat → Nat → Nat) × (Nat → Nat) × Nat × Nat × Nat
abbrev st_P : Type := (Nat → Nat) × (Nat → Nat) × Int32
abbrev st_S : Type := (Nat → Nat → Nat) × Nat × Nat × Nat × Nat × Nat × Nat × Nat
abbrev st_U : Type := Nat × Nat × Int32 × Nat × Int32
abbrev st_M : Type := (Nat → Int32) × (Nat → Int32) × (Nat → Int32) × (Nat → Int32) × Nat × Nat
abbrev st_R : Type := Nat × Nat × (Nat → Nat) × (Nat → Nat) × (Nat → Nat) × (Nat → Nat) × (Nat → Nat) × (Nat → Nat) × Nat × Nat × Nat × Nat × Nat × Nat × Nat × Nat × Nat × (Nat → Nat)
def hp (n : st_N) (zj : st_X) (za : st_X) (zc : st_C) (ze : st_E) (zp : st_P) (zx : st_S) (zu : st_U) (zm : st_M) (zk : (Nat → Nat)) (zr : st_R) : mi_H := [
  .inl (0, [.inr (.inr (some 1)), .inr (.inr (some 4)), .inr (.inr (some 7)), .inr (.inr (some 10)), .inr (.inr (some 12)), .inr (.inr (some 32)), .inr (.inr (some 35)), .inr (.inr (some 54)), .inr (.inr (some 55)), .inr (.inr (some 60))]),
  .inl (1, [.inl (nI n.1), .inl (nI n.2.1), .inr (.inr (some 2)), .inr (.inr (some 3))]),
  .inr (.inl (0, 16, fun i => nI (n.2.2.1 i))),
  .inr (.inl (0, 16, fun i => nI (n.2.2.2 i))),
  .inl (2, [.inr (.inr (some 1)), .inl (nI 0), .inr (.inr (some 5)), .inr (.inr (some 6)), .inl (nI zj.2.2.1), .inl zj.2.2.2]),
  .inr (.inl (0, 16, fun i => nI (zj.1 i))),
  .inr (.inl (0, 324, fun i => nI (zj.2.1 i))),
  .inl (2, [.inr (.inr (some 1)), .inl (nI 1), .inr (.inr (some 8)), .inr (.inr (some 9)), .inl (nI za.2.2.1), .inl za.2.2.2]),
  .inr (.inl (0, 16, fun i => nI (za.1 i))),
  .inr (.inl (0, 324, fun i => nI (za.2.1 i))),
  .inl (3, [.inr (.inr (some 1)), .inr (.inr (some 11)), .inl zc.2]),
  .inr (.inl (0, 17, fun i => nI (zc.1 i))),
  .inl (4, [.inr (.inr (some 1)), .inr (.inr (some 13)), .inr (.inr (some 31)), .inl (nI ze.2.2.1), .inl (nI ze.2.2.2.1), .inl (nI ze.2.2.2.2)]),
  .inr (.inr (2, 17, fun i => some (14 + i))),
  .inr (.inl (0, 5, fun i => nI (ze.1 0 i))),
  .inr (.inl (0, 5, fun i => nI (ze.1 1 i))),
  .inr (.inl (0, 5, fun i => nI (ze.1 2 i))),
  .inr (.inl (0, 5, fun i => nI (ze.1 3 i))),
  .inr (.inl (0, 5, fun i => nI (ze.1 4 i))),
  .inr (.inl (0, 5, fun i => nI (ze.1 5 i))),
  .inr (.inl (0, 5, fun i => nI (ze.1 6 i))),
  .inr (.inl (0, 5, fun i => nI (ze.1 7 i))),
  .inr (.inl (0, 5, fun i => nI (ze.1 8 i))),
  .inr (.inl (0, 5, fun i => nI (ze.1 9 i))),
  .inr (.inl (0, 5, fun i => nI (ze.1 10 i))),
  .inr (.inl (0, 5, fun i => nI (ze.1 11 i))),
  .inr (.inl (0, 5, fun i => nI (ze.1 12 i))),
  .inr (.inl (0, 5, fun i => nI (ze.1 13 i))),
  .inr (.inl (0, 5, fun i => nI (ze.1 14 i))),
  .inr (.inl (0, 5, fun i => nI (ze.1 15 i))),
  .inr (.inl (0, 5, fun i => nI (ze.1 16 i))),
  .inr (.inl (0, 17, fun i => nI (ze.2.1 i))),
  .inl (5, [.inr (.inr (some 1)), .inr (.inr (some 33)), .inr (.inr (some 34)), .inl zp.2.2]),
  .inr (.inl (0, 16, fun i => nI (zp.1 i))),
  .inr (.inl (0, 16, fun i => nI (zp.2.1 i))),
  .inl (6, [.inr (.inr (some 1)), .inr (.inr (some 36)), .inl (nI zx.2.1), .inl (nI zx.2.2.1), .inl (nI zx.2.2.2.1), .inl (nI zx.2.2.2.2.1), .inl (nI zx.2.2.2.2.2.1), .inl (nI zx.2.2.2.2.2.2.1), .inl (nI zx.2.2.2.2.2.2.2)]),
  .inr (.inr (2, 17, fun i => some (37 + i))),
  .inr (.inl (0, 17, fun i => nI (zx.1 0 i))),
  .inr (.inl (0, 17, fun i => nI (zx.1 1 i))),
  .inr (.inl (0, 17, fun i => nI (zx.1 2 i))),
  .inr (.inl (0, 17, fun i => nI (zx.1 3 i))),
  .inr (.inl (0, 17, fun i => nI (zx.1 4 i))),
  .inr (.inl (0, 17, fun i => nI (zx.1 5 i))),
  .inr (.inl (0, 17, fun i => nI (zx.1 6 i))),
  .inr (.inl (0, 17, fun i => nI (zx.1 7 i))),
  .inr (.inl (0, 17, fun i => nI (zx.1 8 i))),
  .inr (.inl (0, 17, fun i => nI (zx.1 9 i))),
  .inr (.inl (0, 17, fun i => nI (zx.1 10 i))),
  .inr (.inl (0, 17, fun i => nI (zx.1 11 i))),
  .inr (.inl (0, 17, fun i => nI (zx.1 12 i))),
  .inr (.inl (0, 17, fun i => nI (zx.1 13 i))),
  .inr (.inl (0, 17, fun i => nI (zx.1 14 i))),
  .inr (.inl (0, 17, fun i => nI (zx.1 15 i))),
  .inr (.inl (0, 17, fun i => nI (zx.1 16 i))),
  .inl (7, [.inr (.inr (some 1)), .inl (nI zu.1), .inl (nI zu.2.1), .inl zu.2.2.1, .inl (nI zu.2.2.2.1), .inl zu.2.2.2.2]),
  .inl (8, [.inr (.inr (some 1)), .inr (.inr (some 56)), .inr (.inr (some 57)), .inr (.inr (some 58)), .inr (.inr (some 59)), .inl (nI zm.2.2.2.2.1), .inl (nI zm.2.2.2.2.2)]),
  .inr (.inl (0, 16, zm.1)),
  .inr (.inl (0, 16, zm.2.1)),
  .inr (.inl (0, 16, zm.2.2.1)),
  .inr (.inl (0, 16, zm.2.2.2.1)),
  .inr (.inl (0, 17, fun i => nI (zk i))),
  .inl (9, [.inl (nI zr.1), .inl (nI zr.2.1), .inr (.inr (some 62)), .inr (.inr (some 63)), .inr (.inr (some 64)), .inr (.inr (some 65)), .inr (.inr (some 66)), .inr (.inr (some 67)), .inl (nI zr.2.2.2.2.2.2.2.2.1), .inl (nI zr.2.2.2.2.2.2.2.2.2.1), .inl (nI zr.2.2.2.2.2.2.2.2.2.2.1), .inl (nI zr.2.2.2.2.2.2.2.2.2.2.2.1), .inl (nI zr.2.2.2.2.2.2.2.2.2.2.2.2.1), .inl (nI zr.2.2.2.2.2.2.2.2.2.2.2.2.2.1), .inl (nI zr.2.2.2.2.2.2.2.2.2.2.2.2.2.2.1), .inl (nI zr.2.2.2.2.2.2.2.2.2.2.2.2.2.2.2.1), .inl (nI zr.2.2.2.2.2.2.2.2.2.2.2.2.2.2.2.2.1), .inr (.inr (some 68))]),
  .inr (.inl (0, 16, fun i => nI (zr.2.2.1 i))),
  .inr (.inl (0, 16, fun i => nI (zr.2.2.2.1 i))),
  .inr (.inl (0, 1000, fun i => nI (zr.2.2.2.2.1 i))),
  .inr (.inl (0, 16, fun i => nI (zr.2.2.2.2.2.1 i))),
  .inr (.inl (0, 16, fun i => nI (zr.2.2.2.2.2.2.1 i))),
  .inr (.inl (0, 16, fun i => nI (zr.2.2.2.2.2.2.2.1 i))),
  .inr (.inl (1, 65536, fun i => nI (zr.2.2.2.2.2.2.2.2.2.2.2.2.2.2.2.2.2 i)))]
theorem rd_0 {n : st_N} {zj : st_X} {za : st_X} {zc : st_C} {ze : st_E} {zp : st_P} {zx : st_S} {zu : st_U} {zm : st_M} {zk : (Nat → Nat)} {zr : st_R} : mi_ob (hp n zj za zc ze zp zx zu zm zk zr) 0 = some (0, [.inr (.inr (some 1)), .inr (.inr (some 4)), .inr (.inr (some 7)), .inr (.inr (some 10)), .inr (.inr (some 12)), .inr (.inr (some 32)), .inr (.inr (some 35)), .inr (.inr (some 54)), .inr (.inr (some 55)), .inr (.inr (some 60))]) := rfl
theorem rd_1 {n : st_N} {zj : st_X} {za : st_X} {zc : st_C} {ze : st_E} {zp : st_P} {zx : st_S} {zu : st_U} {zm : st_M} {zk : (Nat → Nat)} {zr : st_R} : mi_ob (hp n zj za zc ze zp zx zu zm zk zr) 1 = some (1, [.inl (nI n.1), .inl (nI n.2.1), .inr (.inr (some 2)), .inr (.inr (some 3))]) := rfl
theorem wr_1 {n : st_N} {zj : st_X} {za : st_X} {zc : st_C} {ze : st_E} {zp : st_P} {zx : st_S} {zu : st_U} {zm : st_M} {zk : (Nat → Nat)} {zr : st_R} {w0 : Nat} {w1 : Nat} : (hp n zj za zc ze zp zx zu zm zk zr).set 1 (.inl (1, [.inl (nI w0), .inl (nI w1), .inr (.inr (some 2)), .inr (.inr (some 3))])) = hp (w0, w1, n.2.2.1, n.2.2.2) zj za zc ze zp zx zu zm zk zr := rfl
theorem rd_2 {n : st_N} {zj : st_X} {za : st_X} {zc : st_C} {ze : st_E} {zp : st_P} {zx : st_S} {zu : st_U} {zm : st_M} {zk : (Nat → Nat)} {zr : st_R} : mi_ar (hp n zj za zc ze zp zx zu zm zk zr) 2 = some (0, 16, fun i => nI (n.2.2.1 i)) := rfl
theorem wr_2 {n : st_N} {zj : st_X} {za : st_X} {zc : st_C} {ze : st_E} {zp : st_P} {zx : st_S} {zu : st_U} {zm : st_M} {zk : (Nat → Nat)} {zr : st_R} {f : Nat → Nat} : (hp n zj za zc ze zp zx zu zm zk zr).set 2 (.inr (.inl (0, 16, fun i => nI (f i)))) = hp (n.1, n.2.1, f, n.2.2.2) zj za zc ze zp zx zu zm zk zr := rfl
theorem rd_3 {n : st_N} {zj : st_X} {za : st_X} {zc : st_C} {ze : st_E} {zp : st_P} {zx : st_S} {zu : st_U} {zm : st_M} {zk : (Nat → Nat)} {zr : st_R} : mi_ar (hp n zj za zc ze zp zx zu zm zk zr) 3 = some (0, 16, fun i => nI (n.2.2.2 i)) := rfl
theorem wr_3 {n : st_N} {zj : st_X} {za : st_X} {zc : st_C} {ze : st_E} {zp : st_P} {zx : st_S} {zu : st_U} {zm : st_M} {zk : (Nat → Nat)} {zr : st_R} {f : Nat → Nat} : (hp n zj za zc ze zp zx zu zm zk zr).set 3 (.inr (.inl (0, 16, fun i => nI (f i)))) = hp (n.1, n.2.1, n.2.2.1, f) zj za zc ze zp zx zu zm zk zr := rfl
theorem rd_4 {n : st_N} {zj : st_X} {za : st_X} {zc : st_C} {ze : st_E} {zp : st_P} {zx : st_S} {zu : st_U} {zm : st_M} {zk : (Nat → Nat)} {zr : st_R} : mi_ob (hp n zj za zc ze zp zx zu zm zk zr) 4 = some (2, [.inr (.inr (some 1)), .inl (nI 0), .inr (.inr (some 5)), .inr (.inr (some 6)), .inl (nI zj.2.2.1), .inl zj.2.2.2]) := rfl
theorem wr_4 {n : st_N} {zj : st_X} {za : st_X} {zc : st_C} {ze : st_E} {zp : st_P} {zx : st_S} {zu : st_U} {zm : st_M} {zk : (Nat → Nat)} {zr : st_R} {w0 : Nat} {w1 : Int32} : (hp n zj za zc ze zp zx zu zm zk zr).set 4 (.inl (2, [.inr (.inr (some 1)), .inl (nI 0), .inr (.inr (some 5)), .inr (.inr (some 6)), .inl (nI w0), .inl w1])) = hp n (zj.1, zj.2.1, w0, w1) za zc ze zp zx zu zm zk zr := rfl
theorem rd_5 {n : st_N} {zj : st_X} {za : st_X} {zc : st_C} {ze : st_E} {zp : st_P} {zx : st_S} {zu : st_U} {zm : st_M} {zk : (Nat → Nat)} {zr : st_R} : mi_ar (hp n zj za zc ze zp zx zu zm zk zr) 5 = some (0, 16, fun i => nI (zj.1 i)) := rfl
theorem wr_5 {n : st_N} {zj : st_X} {za : st_X} {zc : st_C} {ze : st_E} {zp : st_P} {zx : st_S} {zu : st_U} {zm : st_M} {zk : (Nat → Nat)} {zr : st_R} {f : Nat → Nat} : (hp n zj za zc ze zp zx zu zm zk zr).set 5 (.inr (.inl (0, 16, fun i => nI (f i)))) = hp n (f, zj.2.1, zj.2.2.1, zj.2.2.2) za zc ze zp zx zu zm zk zr := rfl
theorem rd_6 {n : st_N} {zj : st_X} {za : st_X} {zc : st_C} {ze : st_E} {zp : st_P} {zx : st_S} {zu : st_U} {zm : st_M} {zk : (Nat → Nat)} {zr : st_R} : mi_ar (hp n zj za zc ze zp zx zu zm zk zr) 6 = some (0, 324, fun i => nI (zj.2.1 i)) := rfl
theorem wr_6 {n : st_N} {zj : st_X} {za : st_X} {zc : st_C} {ze : st_E} {zp : st_P} {zx : st_S} {zu : st_U} {zm : st_M} {zk : (Nat → Nat)} {zr : st_R} {f : Nat → Nat} : (hp n zj za zc ze zp zx zu zm zk zr).set 6 (.inr (.inl (0, 324, fun i => nI (f i)))) = hp n (zj.1, f, zj.2.2.1, zj.2.2.2) za zc ze zp zx zu zm zk zr := rfl
theorem rd_7 {n : st_N} {zj : st_X} {za : st_X} {zc : st_C} {ze : st_E} {zp : st_P} {zx : st_S} {zu : st_U} {zm : st_M} {zk : (Nat → Nat)} {zr : st_R} : mi_ob (hp n zj za zc ze zp zx zu zm zk zr) 7 = some (2, [.inr (.inr (some 1)), .inl (nI 1), .inr (.inr (some 8)), .inr (.inr (some 9)), .inl (nI za.2.2.1), .inl za.2.2.2]) := rfl
theorem wr_7 {n : st_N} {zj : st_X} {za : st_X} {zc : st_C} {ze : st_E} {zp : st_P} {zx : st_S} {zu : st_U} {zm : st_M} {zk : (Nat → Nat)} {zr : st_R} {w0 : Nat} {w1 : Int32} : (hp n zj za zc ze zp zx zu zm zk zr).set 7 (.inl (2, [.inr (.inr (some 1)), .inl (nI 1), .inr (.inr (some 8)), .inr (.inr (some 9)), .inl (nI w0), .inl w1])) = hp n zj (za.1, za.2.1, w0, w1) zc ze zp zx zu zm zk zr := rfl
theorem rd_8 {n : st_N} {zj : st_X} {za : st_X} {zc : st_C} {ze : st_E} {zp : st_P} {zx : st_S} {zu : st_U} {zm : st_M} {zk : (Nat → Nat)} {zr : st_R} : mi_ar (hp n zj za zc ze zp zx zu zm zk zr) 8 = some (0, 16, fun i => nI (za.1 i)) := rfl
theorem wr_8 {n : st_N} {zj : st_X} {za : st_X} {zc : st_C} {ze : st_E} {zp : st_P} {zx : st_S} {zu : st_U} {zm : st_M} {zk : (Nat → Nat)} {zr : st_R} {f : Nat → Nat} : (hp n zj za zc ze zp zx zu zm zk zr).set 8 (.inr (.inl (0, 16, fun i => nI (f i)))) = hp n zj (f, za.2.1, za.2.2.1, za.2.2.2) zc ze zp zx zu zm zk zr := rfl
theorem rd_9 {n : st_N} {zj : st_X} {za : st_X} {zc : st_C} {ze : st_E} {zp : st_P} {zx : st_S} {zu : st_U} {zm : st_M} {zk : (Nat → Nat)} {zr : st_R} : mi_ar (hp n zj za zc ze zp zx zu zm zk zr) 9 = some (0, 324, fun i => nI (za.2.1 i)) := rfl
theorem wr_9 {n : st_N} {zj : st_X} {za : st_X} {zc : st_C} {ze : st_E} {zp : st_P} {zx : st_S} {zu : st_U} {zm : st_M} {zk : (Nat → Nat)} {zr : st_R} {f : Nat → Nat} : (hp n zj za zc ze zp zx zu zm zk zr).set 9 (.inr (.inl (0, 324, fun i => nI (f i)))) = hp n zj (za.1, f, za.2.2.1, za.2.2.2) zc ze zp zx zu zm zk zr := rfl
theorem rd_10 {n : st_N} {zj : st_X} {za : st_X} {zc : st_C} {ze : st_E} {zp : st_P} {zx : st_S} {zu : st_U} {zm : st_M} {zk : (Nat → Nat)} {zr : st_R} : mi_ob (hp n zj za zc ze zp zx zu zm zk zr) 10 = some (3, [.inr (.inr (some 1)), .inr (.inr (some 11)), .inl zc.2]) := rfl
theorem wr_10 {n : st_N} {zj : st_X} {za : st_X} {zc : st_C} {ze : st_E} {zp : st_P} {zx : st_S} {zu : st_U} {zm : st_M} {zk : (Nat → Nat)} {zr : st_R} {w0 : Int32} : (hp n zj za zc ze zp zx zu zm zk zr).set 10 (.inl (3, [.inr (.inr (some 1)), .inr (.inr (some 11)), .inl w0])) = hp n zj za (zc.1, w0) ze zp zx zu zm zk zr := rfl
theorem rd_11 {n : st_N} {zj : st_X} {za : st_X} {zc : st_C} {ze : st_E} {zp : st_P} {zx : st_S} {zu : st_U} {zm : st_M} {zk : (Nat → Nat)} {zr : st_R} : mi_ar (hp n zj za zc ze zp zx zu zm zk zr) 11 = some (0, 17, fun i => nI (zc.1 i)) := rfl
theorem wr_11 {n : st_N} {zj : st_X} {za : st_X} {zc : st_C} {ze : st_E} {zp : st_P} {zx : st_S} {zu : st_U} {zm : st_M} {zk : (Nat → Nat)} {zr : st_R} {f : Nat → Nat} : (hp n zj za zc ze zp zx zu zm zk zr).set 11 (.inr (.inl (0, 17, fun i => nI (f i)))) = hp n zj za (f, zc.2) ze zp zx zu zm zk zr := rfl
theorem rd_12 {n : st_N} {zj : st_X} {za : st_X} {zc : st_C} {ze : st_E} {zp : st_P} {zx : st_S} {zu : st_U} {zm : st_M} {zk : (Nat → Nat)} {zr : st_R} : mi_ob (hp n zj za zc ze zp zx zu zm zk zr) 12 = some (4, [.inr (.inr (some 1)), .inr (.inr (some 13)), .inr (.inr (some 31)), .inl (nI ze.2.2.1), .inl (nI ze.2.2.2.1), .inl (nI ze.2.2.2.2)]) := rfl
theorem wr_12 {n : st_N} {zj : st_X} {za : st_X} {zc : st_C} {ze : st_E} {zp : st_P} {zx : st_S} {zu : st_U} {zm : st_M} {zk : (Nat → Nat)} {zr : st_R} {w0 : Nat} {w1 : Nat} {w2 : Nat} : (hp n zj za zc ze zp zx zu zm zk zr).set 12 (.inl (4, [.inr (.inr (some 1)), .inr (.inr (some 13)), .inr (.inr (some 31)), .inl (nI w0), .inl (nI w1), .inl (nI w2)])) = hp n zj za zc (ze.1, ze.2.1, w0, w1, w2) zp zx zu zm zk zr := rfl
theorem rd_13 {n : st_N} {zj : st_X} {za : st_X} {zc : st_C} {ze : st_E} {zp : st_P} {zx : st_S} {zu : st_U} {zm : st_M} {zk : (Nat → Nat)} {zr : st_R} : mi_rr (hp n zj za zc ze zp zx zu zm zk zr) 13 = some (2, 17, fun i => some (14 + i)) := rfl
theorem rr_14 {n : st_N} {zj : st_X} {za : st_X} {zc : st_C} {ze : st_E} {zp : st_P} {zx : st_S} {zu : st_U} {zm : st_M} {zk : (Nat → Nat)} {zr : st_R} {t : Nat} (ht : t < 17) : mi_ar (hp n zj za zc ze zp zx zu zm zk zr) (14 + t) = some (0, 5, fun i => nI (ze.1 t i)) := by
  match t, ht with
  | 0, _ => rfl
  | 1, _ => rfl
  | 2, _ => rfl
  | 3, _ => rfl
  | 4, _ => rfl
  | 5, _ => rfl
  | 6, _ => rfl
  | 7, _ => rfl
  | 8, _ => rfl
  | 9, _ => rfl
  | 10, _ => rfl
  | 11, _ => rfl
  | 12, _ => rfl
  | 13, _ => rfl
  | 14, _ => rfl
  | 15, _ => rfl
  | 16, _ => rfl
  | n + 17, h => omega
theorem rw_14 {n : st_N} {zj : st_X} {za : st_X} {zc : st_C} {ze : st_E} {zp : st_P} {zx : st_S} {zu : st_U} {zm : st_M} {zk : (Nat → Nat)} {zr : st_R} {t : Nat} {f : Nat → Nat} (ht : t < 17) : (hp n zj za zc ze zp zx zu zm zk zr).set (14 + t) (.inr (.inl (0, 5, fun i => nI (f i)))) = hp n zj za zc (up_T ze.1 t f, ze.2.1, ze.2.2.1, ze.2.2.2.1, ze.2.2.2.2) zp zx zu zm zk zr := by
  match t, ht with
  | 0, _ => rfl
  | 1, _ => rfl
  | 2, _ => rfl
  | 3, _ => rfl
  | 4, _ => rfl
  | 5, _ => rfl
  | 6, _ => rfl
  | 7, _ => rfl
  | 8, _ => rfl
  | 9, _ => rfl
  | 10, _ => rfl
  | 11, _ => rfl
  | 12, _ => rfl
  | 13, _ => rfl
  | 14, _ => rfl
  | 15, _ => rfl
  | 16, _ => rfl
  | n + 17, h => omega
theorem rd_31 {n : st_N} {zj : st_X} {za : st_X} {zc : st_C} {ze : st_E} {zp : st_P} {zx : st_S} {zu : st_U} {zm : st_M} {zk : (Nat → Nat)} {zr : st_R} : mi_ar (hp n zj za zc ze zp zx zu zm zk zr) 31 = some (0, 17, fun i => nI (ze.2.1 i)) := rfl
theorem wr_31 {n : st_N} {zj : st_X} {za : st_X} {zc : st_C} {ze : st_E} {zp : st_P} {zx : st_S} {zu : st_U} {zm : st_M} {zk : (Nat → Nat)} {zr : st_R} {f : Nat → Nat} : (hp n zj za zc ze zp zx zu zm zk zr).set 31 (.inr (.inl (0, 17, fun i => nI (f i)))) = hp n zj za zc (ze.1, f, ze.2.2.1, ze.2.2.2.1, ze.2.2.2.2) zp zx zu zm zk zr := rfl
theorem rd_32 {n : st_N} {zj : st_X} {za : st_X} {zc : st_C} {ze : st_E} {zp : st_P} {zx : st_S} {zu : st_U} {zm : st_M} {zk : (Nat → Nat)} {zr : st_R} : mi_ob (hp n zj za zc ze zp zx zu zm zk zr) 32 = some (5, [.inr (.inr (some 1)), .inr (.inr (some 33)), .inr (.inr (some 34)), .inl zp.2.2]) := rfl
theorem wr_32 {n : st_N} {zj : st_X} {za : st_X} {zc : st_C} {ze : st_E} {zp : st_P} {zx : st_S} {zu : st_U} {zm : st_M} {zk : (Nat → Nat)} {zr : st_R} {w0 : Int32} : (hp n zj za zc ze zp zx zu zm zk zr).set 32 (.inl (5, [.inr (.inr (some 1)), .inr (.inr (some 33)), .inr (.inr (some 34)), .inl w0])) = hp n zj za zc ze (zp.1, zp.2.1, w0) zx zu zm zk zr := rfl
theorem rd_33 {n : st_N} {zj : st_X} {za : st_X} {zc : st_C} {ze : st_E} {zp : st_P} {zx : st_S} {zu : st_U} {zm : st_M} {zk : (Nat → Nat)} {zr : st_R} : mi_ar (hp n zj za zc ze zp zx zu zm zk zr) 33 = some (0, 16, fun i => nI (zp.1 i)) := rfl
theorem wr_33 {n : st_N} {zj : st_X} {za : st_X} {zc : st_C} {ze : st_E} {zp : st_P} {zx : st_S} {zu : st_U} {zm : st_M} {zk : (Nat → Nat)} {zr : st_R} {f : Nat → Nat} : (hp n zj za zc ze zp zx zu zm zk zr).set 33 (.inr (.inl (0, 16, fun i => nI (f i)))) = hp n zj za zc ze (f, zp.2.1, zp.2.2) zx zu zm zk zr := rfl
theorem rd_34 {n : st_N} {zj : st_X} {za : st_X} {zc : st_C} {ze : st_E} {zp : st_P} {zx : st_S} {zu : st_U} {zm : st_M} {zk : (Nat → Nat)} {zr : st_R} : mi_ar (hp n zj za zc ze zp zx zu zm zk zr) 34 = some (0, 16, fun i => nI (zp.2.1 i)) := rfl
theorem wr_34 {n : st_N} {zj : st_X} {za : st_X} {zc : st_C} {ze : st_E} {zp : st_P} {zx : st_S} {zu : st_U} {zm : st_M} {zk : (Nat → Nat)} {zr : st_R} {f : Nat → Nat} : (hp n zj za zc ze zp zx zu zm zk zr).set 34 (.inr (.inl (0, 16, fun i => nI (f i)))) = hp n zj za zc ze (zp.1, f, zp.2.2) zx zu zm zk zr := rfl
theorem rd_35 {n : st_N} {zj : st_X} {za : st_X} {zc : st_C} {ze : st_E} {zp : st_P} {zx : st_S} {zu : st_U} {zm : st_M} {zk : (Nat → Nat)} {zr : st_R} : mi_ob (hp n zj za zc ze zp zx zu zm zk zr) 35 = some (6, [.inr (.inr (some 1)), .inr (.inr (some 36)), .inl (nI zx.2.1), .inl (nI zx.2.2.1), .inl (nI zx.2.2.2.1), .inl (nI zx.2.2.2.2.1), .inl (nI zx.2.2.2.2.2.1), .inl (nI zx.2.2.2.2.2.2.1), .inl (nI zx.2.2.2.2.2.2.2)]) := rfl
theorem wr_35 {n : st_N} {zj : st_X} {za : st_X} {zc : st_C} {ze : st_E} {zp : st_P} {zx : st_S} {zu : st_U} {zm : st_M} {zk : (Nat → Nat)} {zr : st_R} {w0 : Nat} {w1 : Nat} {w2 : Nat} {w3 : Nat} {w4 : Nat} {w5 : Nat} {w6 : Nat} : (hp n zj za zc ze zp zx zu zm zk zr).set 35 (.inl (6, [.inr (.inr (some 1)), .inr (.inr (some 36)), .inl (nI w0), .inl (nI w1), .inl (nI w2), .inl (nI w3), .inl (nI w4), .inl (nI w5), .inl (nI w6)])) = hp n zj za zc ze zp (zx.1, w0, w1, w2, w3, w4, w5, w6) zu zm zk zr := rfl
theorem rd_36 {n : st_N} {zj : st_X} {za : st_X} {zc : st_C} {ze : st_E} {zp : st_P} {zx : st_S} {zu : st_U} {zm : st_M} {zk : (Nat → Nat)} {zr : st_R} : mi_rr (hp n zj za zc ze zp zx zu zm zk zr) 36 = some (2, 17, fun i => some (37 + i)) := rfl
theorem rr_37 {n : st_N} {zj : st_X} {za : st_X} {zc : st_C} {ze : st_E} {zp : st_P} {zx : st_S} {zu : st_U} {zm : st_M} {zk : (Nat → Nat)} {zr : st_R} {t : Nat} (ht : t < 17) : mi_ar (hp n zj za zc ze zp zx zu zm zk zr) (37 + t) = some (0, 17, fun i => nI (zx.1 t i)) := by
  match t, ht with
  | 0, _ => rfl
  | 1, _ => rfl
  | 2, _ => rfl
  | 3, _ => rfl
  | 4, _ => rfl
  | 5, _ => rfl
  | 6, _ => rfl
  | 7, _ => rfl
  | 8, _ => rfl
  | 9, _ => rfl
  | 10, _ => rfl
  | 11, _ => rfl
  | 12, _ => rfl
  | 13, _ => rfl
  | 14, _ => rfl
  | 15, _ => rfl
  | 16, _ => rfl
  | n + 17, h => omega
theorem rw_37 {n : st_N} {zj : st_X} {za : st_X} {zc : st_C} {ze : st_E} {zp : st_P} {zx : st_S} {zu : st_U} {zm : st_M} {zk : (Nat → Nat)} {zr : st_R} {t : Nat} {f : Nat → Nat} (ht : t < 17) : (hp n zj za zc ze zp zx zu zm zk zr).set (37 + t) (.inr (.inl (0, 17, fun i => nI (f i)))) = hp n zj za zc ze zp (up_T zx.1 t f, zx.2.1, zx.2.2.1, zx.2.2.2.1, zx.2.2.2.2.1, zx.2.2.2.2.2.1, zx.2.2.2.2.2.2.1, zx.2.2.2.2.2.2.2) zu zm zk zr := by
  match t, ht with
  | 0, _ => rfl
  | 1, _ => rfl
  | 2, _ => rfl
  | 3, _ => rfl
  | 4, _ => rfl
  | 5, _ => rfl
  | 6, _ => rfl
  | 7, _ => rfl
  | 8, _ => rfl
  | 9, _ => rfl
  | 10, _ => rfl
  | 11, _ => rfl
  | 12, _ => rfl
  | 13, _ => rfl
  | 14, _ => rfl
  | 15, _ => rfl
  | 16, _ => rfl
  | n + 17, h => omega
theorem rd_54 {n : st_N} {zj : st_X} {za : st_X} {zc : st_C} {ze : st_E} {zp : st_P} {zx : st_S} {zu : st_U} {zm : st_M} {zk : (Nat → Nat)} {zr : st_R} : mi_ob (hp n zj za zc ze zp zx zu zm zk zr) 54 = some (7, [.inr (.inr (some 1)), .inl (nI zu.1), .inl (nI zu.2.1), .inl zu.2.2.1, .inl (nI zu.2.2.2.1), .inl zu.2.2.2.2]) := rfl
theorem wr_54 {n : st_N} {zj : st_X} {za : st_X} {zc : st_C} {ze : st_E} {zp : st_P} {zx : st_S} {zu : st_U} {zm : st_M} {zk : (Nat → Nat)} {zr : st_R} {w0 : Nat} {w1 : Nat} {w2 : Int32} {w3 : Nat} {w4 : Int32} : (hp n zj za zc ze zp zx zu zm zk zr).set 54 (.inl (7, [.inr (.inr (some 1)), .inl (nI w0), .inl (nI w1), .inl w2, .inl (nI w3), .inl w4])) = hp n zj za zc ze zp zx (w0, w1, w2, w3, w4) zm zk zr := rfl
theorem rd_55 {n : st_N} {zj : st_X} {za : st_X} {zc : st_C} {ze : st_E} {zp : st_P} {zx : st_S} {zu : st_U} {zm : st_M} {zk : (Nat → Nat)} {zr : st_R} : mi_ob (hp n zj za zc ze zp zx zu zm zk zr) 55 = some (8, [.inr (.inr (some 1)), .inr (.inr (some 56)), .inr (.inr (some 57)), .inr (.inr (some 58)), .inr (.inr (some 59)), .inl (nI zm.2.2.2.2.1), .inl (nI zm.2.2.2.2.2)]) := rfl
theorem wr_55 {n : st_N} {zj : st_X} {za : st_X} {zc : st_C} {ze : st_E} {zp : st_P} {zx : st_S} {zu : st_U} {zm : st_M} {zk : (Nat → Nat)} {zr : st_R} {w0 : Nat} {w1 : Nat} : (hp n zj za zc ze zp zx zu zm zk zr).set 55 (.inl (8, [.inr (.inr (some 1)), .inr (.inr (some 56)), .inr (.inr (some 57)), .inr (.inr (some 58)), .inr (.inr (some 59)), .inl (nI w0), .inl (nI w1)])) = hp n zj za zc ze zp zx zu (zm.1, zm.2.1, zm.2.2.1, zm.2.2.2.1, w0, w1) zk zr := rfl
theorem rd_56 {n : st_N} {zj : st_X} {za : st_X} {zc : st_C} {ze : st_E} {zp : st_P} {zx : st_S} {zu : st_U} {zm : st_M} {zk : (Nat → Nat)} {zr : st_R} : mi_ar (hp n zj za zc ze zp zx zu zm zk zr) 56 = some (0, 16, zm.1) := rfl
theorem wr_56 {n : st_N} {zj : st_X} {za : st_X} {zc : st_C} {ze : st_E} {zp : st_P} {zx : st_S} {zu : st_U} {zm : st_M} {zk : (Nat → Nat)} {zr : st_R} {f : Nat → Int32} : (hp n zj za zc ze zp zx zu zm zk zr).set 56 (.inr (.inl (0, 16, f))) = hp n zj za zc ze zp zx zu (f, zm.2.1, zm.2.2.1, zm.2.2.2.1, zm.2.2.2.2.1, zm.2.2.2.2.2) zk zr := rfl
theorem rd_57 {n : st_N} {zj : st_X} {za : st_X} {zc : st_C} {ze : st_E} {zp : st_P} {zx : st_S} {zu : st_U} {zm : st_M} {zk : (Nat → Nat)} {zr : st_R} : mi_ar (hp n zj za zc ze zp zx zu zm zk zr) 57 = some (0, 16, zm.2.1) := rfl
theorem wr_57 {n : st_N} {zj : st_X} {za : st_X} {zc : st_C} {ze : st_E} {zp : st_P} {zx : st_S} {zu : st_U} {zm : st_M} {zk : (Nat → Nat)} {zr : st_R} {f : Nat → Int32} : (hp n zj za zc ze zp zx zu zm zk zr).set 57 (.inr (.inl (0, 16, f))) = hp n zj za zc ze zp zx zu (zm.1, f, zm.2.2.1, zm.2.2.2.1, zm.2.2.2.2.1, zm.2.2.2.2.2) zk zr := rfl
theorem rd_58 {n : st_N} {zj : st_X} {za : st_X} {zc : st_C} {ze : st_E} {zp : st_P} {zx : st_S} {zu : st_U} {zm : st_M} {zk : (Nat → Nat)} {zr : st_R} : mi_ar (hp n zj za zc ze zp zx zu zm zk zr) 58 = some (0, 16, zm.2.2.1) := rfl
theorem wr_58 {n : st_N} {zj : st_X} {za : st_X} {zc : st_C} {ze : st_E} {zp : st_P} {zx : st_S} {zu : st_U} {zm : st_M} {zk : (Nat → Nat)} {zr : st_R} {f : Nat → Int32} : (hp n zj za zc ze zp zx zu zm zk zr).set 58 (.inr (.inl (0, 16, f))) = hp n zj za zc ze zp zx zu (zm.1, zm.2.1, f, zm.2.2.2.1, zm.2.2.2.2.1, zm.2.2.2.2.2) zk zr := rfl
theorem rd_59 {n : st_N} {zj : st_X} {za : st_X} {zc : st_C} {ze : st_E} {zp : st_P} {zx : st_S} {zu : st_U} {zm : st_M} {zk : (Nat → Nat)} {zr : st_R} : mi_ar (hp n zj za zc ze zp zx zu zm zk zr) 59 = some (0, 16, zm.2.2.2.1) := rfl
theorem wr_59 {n : st_N} {zj : st_X} {za : st_X} {zc : st_C} {ze : st_E} {zp : st_P} {zx : st_S} {zu : st_U} {zm : st_M} {zk : (Nat → Nat)} {zr : st_R} {f : Nat → Int32} : (hp n zj za zc ze zp zx zu zm zk zr).set 59 (.inr (.inl (0, 16, f))) = hp n zj za zc ze zp zx zu (zm.1, zm.2.1, zm.2.2.1, f, zm.2.2.2.2.1, zm.2.2.2.2.2) zk zr := rfl
theorem rd_60 {n : st_N} {zj : st_X} {za : st_X} {zc : st_C} {ze : st_E} {zp : st_P} {zx : st_S} {zu : st_U} {zm : st_M} {zk : (Nat → Nat)} {zr : st_R} : mi_ar (hp n zj za zc ze zp zx zu zm zk zr) 60 = some (0, 17, fun i => nI (zk i)) := rfl
theorem wr_60 {n : st_N} {zj : st_X} {za : st_X} {zc : st_C} {ze : st_E} {zp : st_P} {zx : st_S} {zu : st_U} {zm : st_M} {zk : (Nat → Nat)} {zr : st_R} {f : Nat → Nat} : (hp n zj za zc ze zp zx zu zm zk zr).set 60 (.inr (.inl (0, 17, fun i => nI (f i)))) = hp n zj za zc ze zp zx zu zm f zr := rfl
theorem rd_61 {n : st_N} {zj : st_X} {za : st_X} {zc : st_C} {ze : st_E} {zp : st_P} {zx : st_S} {zu : st_U} {zm : st_M} {zk : (Nat → Nat)} {zr : st_R} : mi_ob (hp n zj za zc ze zp zx zu zm zk zr) 61 = some (9, [.inl (nI zr.1), .inl (nI zr.2.1), .inr (.inr (some 62)), .inr (.inr (some 63)), .inr (.inr (some 64)), .inr (.inr (some 65)), .inr (.inr (some 66)), .inr (.inr (some 67)), .inl (nI zr.2.2.2.2.2.2.2.2.1), .inl (nI zr.2.2.2.2.2.2.2.2.2.1), .inl (nI zr.2.2.2.2.2.2.2.2.2.2.1), .inl (nI zr.2.2.2.2.2.2.2.2.2.2.2.1), .inl (nI zr.2.2.2.2.2.2.2.2.2.2.2.2.1), .inl (nI zr.2.2.2.2.2.2.2.2.2.2.2.2.2.1), .inl (nI zr.2.2.2.2.2.2.2.2.2.2.2.2.2.2.1), .inl (nI zr.2.2.2.2.2.2.2.2.2.2.2.2.2.2.2.1), .inl (nI zr.2.2.2.2.2.2.2.2.2.2.2.2.2.2.2.2.1), .inr (.inr (some 68))]) := rfl
theorem wr_61 {n : st_N} {zj : st_X} {za : st_X} {zc : st_C} {ze : st_E} {zp : st_P} {zx : st_S} {zu : st_U} {zm : st_M} {zk : (Nat → Nat)} {zr : st_R} {w0 : Nat} {w1 : Nat} {w2 : Nat} {w3 : Nat} {w4 : Nat} {w5 : Nat} {w6 : Nat} {w7 : Nat} {w8 : Nat} {w9 : Nat} {w10 : Nat} : (hp n zj za zc ze zp zx zu zm zk zr).set 61 (.inl (9, [.inl (nI w0), .inl (nI w1), .inr (.inr (some 62)), .inr (.inr (some 63)), .inr (.inr (some 64)), .inr (.inr (some 65)), .inr (.inr (some 66)), .inr (.inr (some 67)), .inl (nI w2), .inl (nI w3), .inl (nI w4), .inl (nI w5), .inl (nI w6), .inl (nI w7), .inl (nI w8), .inl (nI w9), .inl (nI w10), .inr (.inr (some 68))])) = hp n zj za zc ze zp zx zu zm zk (w0, w1, zr.2.2.1, zr.2.2.2.1, zr.2.2.2.2.1, zr.2.2.2.2.2.1, zr.2.2.2.2.2.2.1, zr.2.2.2.2.2.2.2.1, w2, w3, w4, w5, w6, w7, w8, w9, w10, zr.2.2.2.2.2.2.2.2.2.2.2.2.2.2.2.2.2) := rfl
theorem rd_62 {n : st_N} {zj : st_X} {za : st_X} {zc : st_C} {ze : st_E} {zp : st_P} {zx : st_S} {zu : st_U} {zm : st_M} {zk : (Nat → Nat)} {zr : st_R} : mi_ar (hp n zj za zc ze zp zx zu zm zk zr) 62 = some (0, 16, fun i => nI (zr.2.2.1 i)) := rfl
theorem wr_62 {n : st_N} {zj : st_X} {za : st_X} {zc : st_C} {ze : st_E} {zp : st_P} {zx : st_S} {zu : st_U} {zm : st_M} {zk : (Nat → Nat)} {zr : st_R} {f : Nat → Nat} : (hp n zj za zc ze zp zx zu zm zk zr).set 62 (.inr (.inl (0, 16, fun i => nI (f i)))) = hp n zj za zc ze zp zx zu zm zk (zr.1, zr.2.1, f, zr.2.2.2.1, zr.2.2.2.2.1, zr.2.2.2.2.2.1, zr.2.2.2.2.2.2.1, zr.2.2.2.2.2.2.2.1, zr.2.2.2.2.2.2.2.2.1, zr.2.2.2.2.2.2.2.2.2.1, zr.2.2.2.2.2.2.2.2.2.2.1, zr.2.2.2.2.2.2.2.2.2.2.2.1, zr.2.2.2.2.2.2.2.2.2.2.2.2.1, zr.2.2.2.2.2.2.2.2.2.2.2.2.2.1, zr.2.2.2.2.2.2.2.2.2.2.2.2.2.2.1, zr.2.2.2.2.2.2.2.2.2.2.2.2.2.2.2.1, zr.2.2.2.2.2.2.2.2.2.2.2.2.2.2.2.2.1, zr.2.2.2.2.2.2.2.2.2.2.2.2.2.2.2.2.2) := rfl
theorem rd_63 {n : st_N} {zj : st_X} {za : st_X} {zc : st_C} {ze : st_E} {zp : st_P} {zx : st_S} {zu : st_U} {zm : st_M} {zk : (Nat → Nat)} {zr : st_R} : mi_ar (hp n zj za zc ze zp zx zu zm zk zr) 63 = some (0, 16, fun i => nI (zr.2.2.2.1 i)) := rfl
theorem wr_63 {n : st_N} {zj : st_X} {za : st_X} {zc : st_C} {ze : st_E} {zp : st_P} {zx : st_S} {zu : st_U} {zm : st_M} {zk : (Nat → Nat)} {zr : st_R} {f : Nat → Nat} : (hp n zj za zc ze zp zx zu zm zk zr).set 63 (.inr (.inl (0, 16, fun i => nI (f i)))) = hp n zj za zc ze zp zx zu zm zk (zr.1, zr.2.1, zr.2.2.1, f, zr.2.2.2.2.1, zr.2.2.2.2.2.1, zr.2.2.2.2.2.2.1, zr.2.2.2.2.2.2.2.1, zr.2.2.2.2.2.2.2.2.1, zr.2.2.2.2.2.2.2.2.2.1, zr.2.2.2.2.2.2.2.2.2.2.1, zr.2.2.2.2.2.2.2.2.2.2.2.1, zr.2.2.2.2.2.2.2.2.2.2.2.2.1, zr.2.2.2.2.2.2.2.2.2.2.2.2.2.1, zr.2.2.2.2.2.2.2.2.2.2.2.2.2.2.1, zr.2.2.2.2.2.2.2.2.2.2.2.2.2.2.2.1, zr.2.2.2.2.2.2.2.2.2.2.2.2.2.2.2.2.1, zr.2.2.2.2.2.2.2.2.2.2.2.2.2.2.2.2.2) := rfl
theorem rd_64 {n : st_N} {zj : st_X} {za : st_X} {zc : st_C} {ze : st_E} {zp : st_P} {zx : st_S} {zu : st_U} {zm : st_M} {zk : (Nat → Nat)} {zr : st_R} : mi_ar (hp n zj za zc ze zp zx zu zm zk zr) 64 = some (0, 1000, fun i => nI (zr.2.2.2.2.1 i)) := rfl
theorem wr_64 {n : st_N} {zj : st_X} {za : st_X} {zc : st_C} {ze : st_E} {zp : st_P} {zx : st_S} {zu : st_U} {zm : st_M} {zk : (Nat → Nat)} {zr : st_R} {f : Nat → Nat} : (hp n zj za zc ze zp zx zu zm zk zr).set 64 (.inr (.inl (0, 1000, fun i => nI (f i)))) = hp n zj za zc ze zp zx zu zm zk (zr.1, zr.2.1, zr.2.2.1, zr.2.2.2.1, f, zr.2.2.2.2.2.1, zr.2.2.2.2.2.2.1, zr.2.2.2.2.2.2.2.1, zr.2.2.2.2.2.2.2.2.1, zr.2.2.2.2.2.2.2.2.2.1, zr.2.2.2.2.2.2.2.2.2.2.1, zr.2.2.2.2.2.2.2.2.2.2.2.1, zr.2.2.2.2.2.2.2.2.2.2.2.2.1, zr.2.2.2.2.2.2.2.2.2.2.2.2.2.1, zr.2.2.2.2.2.2.2.2.2.2.2.2.2.2.1, zr.2.2.2.2.2.2.2.2.2.2.2.2.2.2.2.1, zr.2.2.2.2.2.2.2.2.2.2.2.2.2.2.2.2.1, zr.2.2.2.2.2.2.2.2.2.2.2.2.2.2.2.2.2) := rfl
theorem rd_65 {n : st_N} {zj : st_X} {za : st_X} {zc : st_C} {ze : st_E} {zp : st_P} {zx : st_S} {zu : st_U} {zm : st_M} {zk : (Nat → Nat)} {zr : st_R} : mi_ar (hp n zj za zc ze zp zx zu zm zk zr) 65 = some (0, 16, fun i => nI (zr.2.2.2.2.2.1 i)) := rfl
theorem wr_65 {n : st_N} {zj : st_X} {za : st_X} {zc : st_C} {ze : st_E} {zp : st_P} {zx : st_S} {zu : st_U} {zm : st_M} {zk : (Nat → Nat)} {zr : st_R} {f : Nat → Nat} : (hp n zj za zc ze zp zx zu zm zk zr).set 65 (.inr (.inl (0, 16, fun i => nI (f i)))) = hp n zj za zc ze zp zx zu zm zk (zr.1, zr.2.1, zr.2.2.1, zr.2.2.2.1, zr.2.2.2.2.1, f, zr.2.2.2.2.2.2.1, zr.2.2.2.2.2.2.2.1, zr.2.2.2.2.2.2.2.2.1, zr.2.2.2.2.2.2.2.2.2.1, zr.2.2.2.2.2.2.2.2.2.2.1, zr.2.2.2.2.2.2.2.2.2.2.2.1, zr.2.2.2.2.2.2.2.2.2.2.2.2.1, zr.2.2.2.2.2.2.2.2.2.2.2.2.2.1, zr.2.2.2.2.2.2.2.2.2.2.2.2.2.2.1, zr.2.2.2.2.2.2.2.2.2.2.2.2.2.2.2.1, zr.2.2.2.2.2.2.2.2.2.2.2.2.2.2.2.2.1, zr.2.2.2.2.2.2.2.2.2.2.2.2.2.2.2.2.2) := rfl
theorem rd_66 {n : st_N} {zj : st_X} {za : st_X} {zc : st_C} {ze : st_E} {zp : st_P} {zx : st_S} {zu : st_U} {zm : st_M} {zk : (Nat → Nat)} {zr : st_R} : mi_ar (hp n zj za zc ze zp zx zu zm zk zr) 66 = some (0, 16, fun i => nI (zr.2.2.2.2.2.2.1 i)) := rfl
theorem wr_66 {n : st_N} {zj : st_X} {za : st_X} {zc : st_C} {ze : st_E} {zp : st_P} {zx : st_S} {zu : st_U} {zm : st_M} {zk : (Nat → Nat)} {zr : st_R} {f : Nat → Nat} : (hp n zj za zc ze zp zx zu zm zk zr).set 66 (.inr (.inl (0, 16, fun i => nI (f i)))) = hp n zj za zc ze zp zx zu zm zk (zr.1, zr.2.1, zr.2.2.1, zr.2.2.2.1, zr.2.2.2.2.1, zr.2.2.2.2.2.1, f, zr.2.2.2.2.2.2.2.1, zr.2.2.2.2.2.2.2.2.1, zr.2.2.2.2.2.2.2.2.2.1, zr.2.2.2.2.2.2.2.2.2.2.1, zr.2.2.2.2.2.2.2.2.2.2.2.1, zr.2.2.2.2.2.2.2.2.2.2.2.2.1, zr.2.2.2.2.2.2.2.2.2.2.2.2.2.1, zr.2.2.2.2.2.2.2.2.2.2.2.2.2.2.1, zr.2.2.2.2.2.2.2.2.2.2.2.2.2.2.2.1, zr.2.2.2.2.2.2.2.2.2.2.2.2.2.2.2.2.1, zr.2.2.2.2.2.2.2.2.2.2.2.2.2.2.2.2.2) := rfl
theorem rd_67 {n : st_N} {zj : st_X} {za : st_X} {zc : st_C} {ze : st_E} {zp : st_P} {zx : st_S} {zu : st_U} {zm : st_M} {zk : (Nat → Nat)} {zr : st_R} : mi_ar (hp n zj za zc ze zp zx zu zm zk zr) 67 = some (0, 16, fun i => nI (zr.2.2.2.2.2.2.2.1 i)) := rfl
theorem wr_67 {n : st_N} {zj : st_X} {za : st_X} {zc : st_C} {ze : st_E} {zp : st_P} {zx : st_S} {zu : st_U} {zm : st_M} {zk : (Nat → Nat)} {zr : st_R} {f : Nat → Nat} : (hp n zj za zc ze zp zx zu zm zk zr).set 67 (.inr (.inl (0, 16, fun i => nI (f i)))) = hp n zj za zc ze zp zx zu zm zk (zr.1, zr.2.1, zr.2.2.1, zr.2.2.2.1, zr.2.2.2.2.1, zr.2.2.2.2.2.1, zr.2.2.2.2.2.2.1, f, zr.2.2.2.2.2.2.2.2.1, zr.2.2.2.2.2.2.2.2.2.1, zr.2.2.2.2.2.2.2.2.2.2.1, zr.2.2.2.2.2.2.2.2.2.2.2.1, zr.2.2.2.2.2.2.2.2.2.2.2.2.1, zr.2.2.2.2.2.2.2.2.2.2.2.2.2.1, zr.2.2.2.2.2.2.2.2.2.2.2.2.2.2.1, zr.2.2.2.2.2.2.2.2.2.2.2.2.2.2.2.1, zr.2.2.2.2.2.2.2.2.2.2.2.2.2.2.2.2.1, zr.2.2.2.2.2.2.2.2.2.2.2.2.2.2.2.2.2) := rfl
theorem rd_68 {n : st_N} {zj : st_X} {za : st_X} {zc : st_C} {ze : st_E} {zp : st_P} {zx : st_S} {zu : st_U} {zm : st_M} {zk : (Nat → Nat)} {zr : st_R} : mi_ar (hp n zj za zc ze zp zx zu zm zk zr) 68 = some (1, 65536, fun i => nI (zr.2.2.2.2.2.2.2.2.2.2.2.2.2.2.2.2.2 i)) := rfl
theorem wr_68 {n : st_N} {zj : st_X} {za : st_X} {zc : st_C} {ze : st_E} {zp : st_P} {zx : st_S} {zu : st_U} {zm : st_M} {zk : (Nat → Nat)} {zr : st_R} {f : Nat → Nat} : (hp n zj za zc ze zp zx zu zm zk zr).set 68 (.inr (.inl (1, 65536, fun i => nI (f i)))) = hp n zj za zc ze zp zx zu zm zk (zr.1, zr.2.1, zr.2.2.1, zr.2.2.2.1, zr.2.2.2.2.1, zr.2.2.2.2.2.1, zr.2.2.2.2.2.2.1, zr.2.2.2.2.2.2.2.1, zr.2.2.2.2.2.2.2.2.1, zr.2.2.2.2.2.2.2.2.2.1, zr.2.2.2.2.2.2.2.2.2.2.1, zr.2.2.2.2.2.2.2.2.2.2.2.1, zr.2.2.2.2.2.2.2.2.2.2.2.2.1, zr.2.2.2.2.2.2.2.2.2.2.2.2.2.1, zr.2.2.2.2.2.2.2.2.2.2.2.2.2.2.1, zr.2.2.2.2.2.2.2.2.2.2.2.2.2.2.2.1, zr.2.2.2.2.2.2.2.2.2.2.2.2.2.2.2.2.1, f) := rfl

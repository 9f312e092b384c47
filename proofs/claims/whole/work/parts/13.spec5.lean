/-! MaximalSets -/
def mx_pre (a b : Nat) : Bool := !decide ((nI a &&& nI (a ^^^ b)) &&& -(nI (a ^^^ b)) = nI 0)
theorem g_precedes {d : Nat} {h : mi_H} {r : Option mi_V × mi_H} {a b : Nat} : mi_Go cs_P cs_mx d 18 0 [some (.inl (nI a)), some (.inl (nI b)), none] [] h r ↔ r = (some (.inl (nI (mx_pre a b).toNat)), h) := by
  simp only [ru_18_0, ru_18_1, ru_18_2, ru_18_3, ru_18_4, ru_18_5, ru_18_6, ru_18_7, ru_18_8, ru_18_9, ru_18_10, ru_18_13, ru_18_14, ru_18_17, ru_18_18, mi_nl_i, true_and, nm_xor, cn_z0, cn_z1]
  unfold mx_pre
  by_cases hc : (nI a &&& nI (a ^^^ b)) &&& -(nI (a ^^^ b)) = nI 0 <;> simp [hc]
def mx_pos (row : Nat → Nat) (size set : Nat) : Nat → Nat → Nat
  | 0, p => p
  | k + 1, p => mx_pos row size set k (if p + 2 ^ k ≤ size ∧ mx_pre (row (p + 2 ^ k - 1)) set = true then p + 2 ^ k else p)
theorem mx_pos_le {row : Nat → Nat} {size set : Nat} : ∀ k p, p ≤ size → mx_pos row size set k p ≤ size := by
  intro k
  induction k with
  | zero => exact fun p h => h
  | succ k ih =>
    intro p h
    unfold mx_pos
    apply ih
    split <;> omega
def mx_ins (q : (Nat → Nat) × Nat) (set : Nat) : (Nat → Nat) × Nat :=
  if 324 ≤ q.2 then q else (up_N (va_cpy q.1 q.1 (mx_pos q.1 q.2 set 9 0) (mx_pos q.1 q.2 set 9 0 + 1) (q.2 - mx_pos q.1 q.2 set 9 0)) (mx_pos q.1 q.2 set 9 0) set, q.2 + 1)
theorem cp_nI {f g : Nat → Nat} {a b n : Nat} : va_cpy (fun i => nI (f i)) (fun i => nI (g i)) a b n = fun i => nI (va_cpy f g a b n i) := by
  funext i
  unfold va_cpy
  split <;> rfl
theorem cn_shr : ∀ k, k < 9 → nI (2 ^ k) >>> (nI 1 &&& 31) = nI (2 ^ k / 2) := by decide +kernel
theorem cn_le0 {a : Nat} (h : a < 2 ^ 31) : (nI a ≤ nI 0) ↔ a = 0 := by
  rw [nI_leI h (by decide)]
  omega
def mx_put (z : st_X) (l : List Nat) : st_X := (z.1, (l.foldl mx_ins (z.2.1, z.2.2.1)).1, (l.foldl mx_ins (z.2.1, z.2.2.1)).2, z.2.2.2)
theorem mx_put_put (z : st_X) (l k : List Nat) : mx_put (mx_put z l) k = mx_put z (l ++ k) := by
  unfold mx_put
  rw [List.foldl_append]
theorem mx_fold_le : ∀ (l : List Nat) (q : (Nat → Nat) × Nat), q.2 ≤ 324 → (l.foldl mx_ins q).2 ≤ 324
  | [], q, h => h
  | a :: l, q, h => by
    rw [List.foldl_cons]
    apply mx_fold_le
    unfold mx_ins
    split
    · exact h
    · dsimp only
      omega
theorem mx_put_le (z : st_X) (l : List Nat) (h : z.2.2.1 ≤ 324) : (mx_put z l).2.2.1 ≤ 324 := mx_fold_le l _ h

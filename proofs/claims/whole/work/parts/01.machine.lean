/-! A small machine: values, cells at places, a run with fuel and depth; every instruction is a function. -/
abbrev mi_V : Type := Int32 ⊕ Int64 ⊕ Option Nat
abbrev mi_C : Type := (Nat × List mi_V) ⊕ (Nat × Nat × (Nat → Int32)) ⊕ (Nat × Nat × (Nat → Option Nat))
abbrev mi_L : Type := List (Option mi_V)
abbrev mi_S : Type := List mi_V
abbrev mi_H : Type := List mi_C
abbrev mi_O : Type := (Nat × mi_L × mi_S × mi_H) ⊕ (Option mi_V × mi_H) ⊕ (Nat × mi_S × Nat × mi_L × mi_S × mi_H)
abbrev mi_I : Type := Nat → mi_L → mi_S → mi_H → Option mi_O
abbrev mi_M : Type := MethodName × ByteArray × Nat × Option FieldType
/-- locals at a method's entry -/
def mi_ent (mx : Nat) (vs : mi_S) : mi_L := vs.map some ++ List.replicate (mx - vs.length) none
def mi_run (P : Nat → Nat → mi_I) (mx : Nat → Nat) : Nat → Nat → Nat → Nat → mi_L → mi_S → mi_H → Option (Option mi_V × mi_H)
  | 0, _, _, _, _, _, _ => none
  | n + 1, d, M, pc, L, st, h =>
    match P M pc d L st h with
    | none => none
    | some (.inl q) => mi_run P mx n d M q.1 q.2.1 q.2.2.1 q.2.2.2
    | some (.inr (.inl r)) => some r
    | some (.inr (.inr q)) =>
      if d = 0 then none else (mi_run P mx n (d - 1) q.1 0 (mi_ent (mx q.1) q.2.1) [] q.2.2.2.2.2).bind (fun r => mi_run P mx n d M q.2.2.1 q.2.2.2.1 (r.1.toList ++ q.2.2.2.2.1) r.2)
def mi_Go (P : Nat → Nat → mi_I) (mx : Nat → Nat) (d M pc : Nat) (L : mi_L) (st : mi_S) (h : mi_H) (r : Option mi_V × mi_H) : Prop := ∃ n, mi_run P mx n d M pc L st h = some r
section mi_rules
variable {P : Nat → Nat → mi_I} {mx : Nat → Nat} {d M pc : Nat} {L : mi_L} {st : mi_S} {h : mi_H} {r : Option mi_V × mi_H}
theorem mi_up : ∀ (n k d M pc : Nat) (L : mi_L) (st : mi_S) (h : mi_H) (r : Option mi_V × mi_H), n ≤ k → mi_run P mx n d M pc L st h = some r → mi_run P mx k d M pc L st h = some r := by
  intro n
  induction n with
  | zero =>
    intro k d M pc L st h r _ e
    simp [mi_run] at e
  | succ n ih =>
    intro k d M pc L st h r hk e
    obtain ⟨k, rfl⟩ : ∃ j, k = j + 1 := ⟨k - 1, by omega⟩
    have hk : n ≤ k := by omega
    rw [mi_run] at e ⊢
    generalize P M pc d L st h = o at e ⊢
    match o, e with
    | none, e => exact e
    | some (.inl q), e => exact ih k _ _ _ _ _ _ _ hk e
    | some (.inr (.inl q)), e => exact e
    | some (.inr (.inr q)), e =>
      by_cases hd : d = 0
      · dsimp only at e
        rw [if_pos hd] at e
        cases e
      · dsimp only at e ⊢
        rw [if_neg hd] at e ⊢
        obtain ⟨r1, e1, e2⟩ := Option.bind_eq_some_iff.mp e
        exact Option.bind_eq_some_iff.mpr ⟨r1, ih k _ _ _ _ _ _ _ hk e1, ih k _ _ _ _ _ _ _ hk e2⟩
theorem mi_det {r' : Option mi_V × mi_H} (a : mi_Go P mx d M pc L st h r) (b : mi_Go P mx d M pc L st h r') : r' = r := by
  obtain ⟨n, a⟩ := a
  obtain ⟨k, b⟩ := b
  have a' := mi_up n (n + k) _ _ _ _ _ _ _ (by omega) a
  have b' := mi_up k (n + k) _ _ _ _ _ _ _ (by omega) b
  exact Option.some.inj (b'.symm.trans a')
/-- a run that is known, as a rule -/
theorem mi_iff {r0 : Option mi_V × mi_H} (a : mi_Go P mx d M pc L st h r0) : mi_Go P mx d M pc L st h r ↔ r = r0 := ⟨fun b => mi_det a b, fun e => e ▸ a⟩
theorem mi_next {pc' : Nat} {L' : mi_L} {st' : mi_S} {h' : mi_H} (e : P M pc d L st h = some (.inl (pc', L', st', h'))) : mi_Go P mx d M pc L st h r ↔ mi_Go P mx d M pc' L' st' h' r := by
  constructor
  · rintro ⟨n, hn⟩
    cases n with
    | zero => simp [mi_run] at hn
    | succ n =>
      rw [mi_run, e] at hn
      exact ⟨n, hn⟩
  · rintro ⟨n, hn⟩
    exact ⟨n + 1, by rw [mi_run, e]; exact hn⟩
theorem mi_none (e : P M pc d L st h = none) : mi_Go P mx d M pc L st h r ↔ False := by
  constructor
  · rintro ⟨n, hn⟩
    cases n with
    | zero => simp [mi_run] at hn
    | succ n =>
      rw [mi_run, e] at hn
      cases hn
  · exact fun f => f.elim
theorem mi_retn {r0 : Option mi_V × mi_H} (e : P M pc d L st h = some (.inr (.inl r0))) : mi_Go P mx d M pc L st h r ↔ r = r0 := by
  constructor
  · rintro ⟨n, hn⟩
    cases n with
    | zero => simp [mi_run] at hn
    | succ n =>
      rw [mi_run, e] at hn
      exact (Option.some.inj hn).symm
  · intro e1
    exact ⟨1, by rw [mi_run, e, e1]⟩
theorem mi_call {M' pc' : Nat} {vs : mi_S} {L' : mi_L} {st' : mi_S} {h' : mi_H} (e : P M pc (d + 1) L st h = some (.inr (.inr (M', vs, pc', L', st', h')))) :
    mi_Go P mx (d + 1) M pc L st h r ↔ ∃ r1, mi_Go P mx d M' 0 (mi_ent (mx M') vs) [] h' r1 ∧ mi_Go P mx (d + 1) M pc' L' (r1.1.toList ++ st') r1.2 r := by
  constructor
  · rintro ⟨n, hn⟩
    cases n with
    | zero => simp [mi_run] at hn
    | succ n =>
      rw [mi_run, e] at hn
      dsimp only at hn
      rw [if_neg (Nat.succ_ne_zero d)] at hn
      obtain ⟨r1, e1, e2⟩ := Option.bind_eq_some_iff.mp hn
      exact ⟨r1, ⟨n, e1⟩, ⟨n, e2⟩⟩
  · rintro ⟨r1, ⟨n, e1⟩, ⟨k, e2⟩⟩
    refine ⟨(n + k) + 1, ?_⟩
    rw [mi_run, e]
    dsimp only
    rw [if_neg (Nat.succ_ne_zero d)]
    exact Option.bind_eq_some_iff.mpr ⟨r1, mi_up n (n + k) _ _ _ _ _ _ _ (by omega) e1, mi_up k (n + k) _ _ _ _ _ _ _ (by omega) e2⟩
/-- a step under a condition -/
theorem mi_cond {c : Prop} [Decidable c] {pc' : Nat} {L' : mi_L} {st' : mi_S} {h' : mi_H} (e : P M pc d L st h = if c then some (.inl (pc', L', st', h')) else none) : mi_Go P mx d M pc L st h r ↔ c ∧ mi_Go P mx d M pc' L' st' h' r := by
  by_cases hc : c
  · rw [if_pos hc] at e
    rw [mi_next e]
    exact ⟨fun x => ⟨hc, x⟩, fun x => x.2⟩
  · rw [if_neg hc] at e
    rw [mi_none e]
    exact ⟨fun x => x.elim, fun x => hc x.1⟩
theorem mi_two {c : Prop} [Decidable c] {pc1 pc2 : Nat} {L' : mi_L} {st' : mi_S} {h' : mi_H} (e : P M pc d L st h = if c then some (.inl (pc1, L', st', h')) else some (.inl (pc2, L', st', h'))) : mi_Go P mx d M pc L st h r ↔ if c then mi_Go P mx d M pc1 L' st' h' r else mi_Go P mx d M pc2 L' st' h' r := by
  by_cases hc : c
  · rw [if_pos hc] at e ⊢
    exact mi_next e
  · rw [if_neg hc] at e ⊢
    exact mi_next e
end mi_rules

/-! the instructions -/
def mi_nl : Option mi_V → Bool
  | some (.inr (.inl _)) => false
  | _ => true
def mi_pr (L : mi_L) : Nat → Bool
  | 0 => true
  | k + 1 => mi_nl (L.getD k none)
/-- the object at a place -/
def mi_ob (h : mi_H) (q : Nat) : Option (Nat × List mi_V) := match h[q]? with
  | some (.inl x) => some x
  | _ => none
def mi_ar (h : mi_H) (q : Nat) : Option (Nat × Nat × (Nat → Int32)) := match h[q]? with
  | some (.inr (.inl x)) => some x
  | _ => none
def mi_rr (h : mi_H) (q : Nat) : Option (Nat × Nat × (Nat → Option Nat)) := match h[q]? with
  | some (.inr (.inr x)) => some x
  | _ => none
theorem mi_ob_iff {h : mi_H} {q : Nat} {x : Nat × List mi_V} : mi_ob h q = some x ↔ h[q]? = some (.inl x) := by
  unfold mi_ob
  split
  · rename_i y e
    rw [e]
    simp
  · rename_i e
    simp only [reduceCtorEq, false_iff]
    exact fun f => e x f
theorem mi_ar_iff {h : mi_H} {q : Nat} {x : Nat × Nat × (Nat → Int32)} : mi_ar h q = some x ↔ h[q]? = some (.inr (.inl x)) := by
  unfold mi_ar
  split
  · rename_i y e
    rw [e]
    simp
  · rename_i e
    simp only [reduceCtorEq, false_iff]
    exact fun f => e x f
theorem mi_rr_iff {h : mi_H} {q : Nat} {x : Nat × Nat × (Nat → Option Nat)} : mi_rr h q = some x ↔ h[q]? = some (.inr (.inr x)) := by
  unfold mi_rr
  split
  · rename_i y e
    rw [e]
    simp
  · rename_i e
    simp only [reduceCtorEq, false_iff]
    exact fun f => e x f
def mi_go (pc : Nat) (L : mi_L) (st : mi_S) (h : mi_H) : Option mi_O := some (.inl (pc, L, st, h))
def mj_stop : mi_I := fun _ _ _ _ => none
def mj_push (x : mi_V) (nx : Nat) : mi_I := fun _ L st h => mi_go nx L (x :: st) h
def mj_goto (nx : Nat) : mi_I := fun _ L st h => mi_go nx L st h

def mj_iload (i nx : Nat) : mi_I := fun _ L st h => match L[i]? with
  | some (some (.inl x)) => mi_go nx L (.inl x :: st) h
  | _ => none
def mj_lload (i nx : Nat) : mi_I := fun _ L st h => match L[i]? with
  | some (some (.inr (.inl x))) => mi_go nx L (.inr (.inl x) :: st) h
  | _ => none
def mj_aload (i nx : Nat) : mi_I := fun _ L st h => match L[i]? with
  | some (some (.inr (.inr (some x)))) => mi_go nx L (.inr (.inr (some x)) :: st) h
  | _ => none
def mj_istore (i nx : Nat) : mi_I := fun _ L st h => match st with
  | .inl x :: r => if i < L.length ∧ mi_pr L i = true then mi_go nx (L.set i (some (.inl x))) r h else none
  | _ => none
def mj_astore (i nx : Nat) : mi_I := fun _ L st h => match st with
  | .inr (.inr (some x)) :: r => if i < L.length ∧ mi_pr L i = true then mi_go nx (L.set i (some (.inr (.inr (some x))))) r h else none
  | _ => none
def mj_lstore (i nx : Nat) : mi_I := fun _ L st h => match st with
  | .inr (.inl x) :: r => if i + 1 < L.length ∧ mi_pr L i = true then mi_go nx ((L.set i (some (.inr (.inl x)))).set (i + 1) none) r h else none
  | _ => none
def mj_iinc (i : Nat) (n : Int32) (nx : Nat) : mi_I := fun _ L st h => match L[i]? with
  | some (some (.inl x)) => if mi_pr L i = true then mi_go nx (L.set i (some (.inl (x + n)))) st h else none
  | _ => none
def mj_un (f : Int32 → Int32) (nx : Nat) : mi_I := fun _ L st h => match st with
  | .inl x :: r => mi_go nx L (.inl (f x) :: r) h
  | _ => none
def mj_bin (f : Int32 → Int32 → Int32) (nx : Nat) : mi_I := fun _ L st h => match st with
  | .inl y :: .inl x :: r => mi_go nx L (.inl (f x y) :: r) h
  | _ => none
def mj_div (nx : Nat) : mi_I := fun _ L st h => match st with
  | .inl y :: .inl x :: r => if ¬ y = 0 then mi_go nx L (.inl (x / y) :: r) h else none
  | _ => none
def mj_rem (nx : Nat) : mi_I := fun _ L st h => match st with
  | .inl y :: .inl x :: r => if ¬ y = 0 then mi_go nx L (.inl (x - x / y * y) :: r) h else none
  | _ => none
def mj_lcmp (nx : Nat) : mi_I := fun _ L st h => match st with
  | .inr (.inl y) :: .inr (.inl x) :: r => mi_go nx L (.inl (lg_cmp x y) :: r) h
  | _ => none
def mj_lbin (f : Int64 → Int64 → Int64) (nx : Nat) : mi_I := fun _ L st h => match st with
  | .inr (.inl y) :: .inr (.inl x) :: r => mi_go nx L (.inr (.inl (f x y)) :: r) h
  | _ => none
def mj_lsh (f : Int64 → Int32 → Int64) (nx : Nat) : mi_I := fun _ L st h => match st with
  | .inl y :: .inr (.inl x) :: r => mi_go nx L (.inr (.inl (f x y)) :: r) h
  | _ => none
def mj_i2l (nx : Nat) : mi_I := fun _ L st h => match st with
  | .inl x :: r => mi_go nx L (.inr (.inl x.toInt64) :: r) h
  | _ => none
def mj_l2i (nx : Nat) : mi_I := fun _ L st h => match st with
  | .inr (.inl x) :: r => mi_go nx L (.inl x.toInt32 :: r) h
  | _ => none
def mi_c1 : mi_V → Bool
  | .inr (.inl _) => false
  | _ => true
def mj_dup (nx : Nat) : mi_I := fun _ L st h => match st with
  | x :: r => if mi_c1 x = true then mi_go nx L (x :: x :: r) h else none
  | _ => none
def mj_pop (nx : Nat) : mi_I := fun _ L st h => match st with
  | x :: r => if mi_c1 x = true then mi_go nx L r h else none
  | _ => none
def mj_dup_x1 (nx : Nat) : mi_I := fun _ L st h => match st with
  | x :: y :: r => if mi_c1 x = true ∧ mi_c1 y = true then mi_go nx L (x :: y :: x :: r) h else none
  | _ => none
def mj_dup_x2 (nx : Nat) : mi_I := fun _ L st h => match st with
  | x :: y :: z :: r => if mi_c1 x = true ∧ mi_c1 y = true ∧ mi_c1 z = true then mi_go nx L (x :: y :: z :: x :: r) h else none
  | _ => none
def mj_dup2 (nx : Nat) : mi_I := fun _ L st h => match st with
  | x :: y :: r => if mi_c1 x = true ∧ mi_c1 y = true then mi_go nx L (x :: y :: x :: y :: r) h else none
  | _ => none
def mj_if (c : Int32 → Bool) (tgt nx : Nat) : mi_I := fun _ L st h => match st with
  | .inl x :: r => if c x = true then mi_go tgt L r h else mi_go nx L r h
  | _ => none
def mj_cmp (c : Int32 → Int32 → Bool) (tgt nx : Nat) : mi_I := fun _ L st h => match st with
  | .inl y :: .inl x :: r => if c x y = true then mi_go tgt L r h else mi_go nx L r h
  | _ => none
/-- a switch -/
def mj_sw (f : Int32 → Nat) : mi_I := fun _ L st h => match st with
  | .inl x :: r => mi_go (f x) L r h
  | _ => none
def mi_tab (lo : Int) (ts : List Nat) (dflt : Nat) (x : Int32) : Nat := if x.toInt < lo then dflt else ts.getD (x.toInt - lo).toNat dflt
def mj_get (ci k nx : Nat) : mi_I := fun _ L st h => match st with
  | .inr (.inr (some q)) :: r => (mi_ob h q).bind fun o => (o.2[k]?).bind fun v => if o.1 = ci then mi_go nx L (v :: r) h else none
  | _ => none
def mj_putI (ci k nx : Nat) : mi_I := fun _ L st h => match st with
  | .inl x :: .inr (.inr (some q)) :: r => (mi_ob h q).bind fun o => if o.1 = ci ∧ k < o.2.length then mi_go nx L r (h.set q (.inl (ci, o.2.set k (.inl x)))) else none
  | _ => none
/-- a field of type boolean -/
def mj_putZ (ci k nx : Nat) : mi_I := fun _ L st h => match st with
  | .inl x :: .inr (.inr (some q)) :: r => (mi_ob h q).bind fun o => if o.1 = ci ∧ k < o.2.length ∧ (x = 0 ∨ x = 1) then mi_go nx L r (h.set q (.inl (ci, o.2.set k (.inl x)))) else none
  | _ => none
/-- t: the kind of array (0 int, 1 byte) -/
def mj_ald (t nx : Nat) : mi_I := fun _ L st h => match st with
  | .inl i :: .inr (.inr (some q)) :: r => (mi_ar h q).bind fun a => if a.1 = t ∧ 0 ≤ i.toInt ∧ i.toInt < a.2.1 then mi_go nx L (.inl (a.2.2 i.toNatClampNeg) :: r) h else none
  | _ => none
def mj_iast (nx : Nat) : mi_I := fun _ L st h => match st with
  | .inl x :: .inl i :: .inr (.inr (some q)) :: r => (mi_ar h q).bind fun a => if a.1 = 0 ∧ 0 ≤ i.toInt ∧ i.toInt < a.2.1 then mi_go nx L r (h.set q (.inr (.inl (0, a.2.1, upd a.2.2 i.toNatClampNeg x)))) else none
  | _ => none
def mj_bast (nx : Nat) : mi_I := fun _ L st h => match st with
  | .inl x :: .inl i :: .inr (.inr (some q)) :: r => (mi_ar h q).bind fun a => if a.1 = 1 ∧ 0 ≤ i.toInt ∧ i.toInt < a.2.1 then mi_go nx L r (h.set q (.inr (.inl (1, a.2.1, upd a.2.2 i.toNatClampNeg (vp_nar .byte x))))) else none
  | _ => none
def mj_aald (nx : Nat) : mi_I := fun _ L st h => match st with
  | .inl i :: .inr (.inr (some q)) :: r => (mi_rr h q).bind fun a => if a.1 = 2 ∧ 0 ≤ i.toInt ∧ i.toInt < a.2.1 then mi_go nx L (.inr (.inr (a.2.2 i.toNatClampNeg)) :: r) h else none
  | _ => none
def mj_alen (nx : Nat) : mi_I := fun _ L st h => match st with
  | .inr (.inr (some q)) :: r => (mi_ar h q).bind fun a => if a.1 = 0 then mi_go nx L (.inl (Int32.ofNat a.2.1) :: r) h else none
  | _ => none
/-- System.arraycopy of ints -/
def mj_copy (nx : Nat) : mi_I := fun d L st h => match st with
  | [.inl n, .inl dp, .inr (.inr (some q1)), .inl sp, .inr (.inr (some q0))] => if d = 0 then none else (mi_ar h q0).bind fun a => (mi_ar h q1).bind fun b =>
      if a.1 = 0 ∧ b.1 = 0 ∧ ¬ sp < 0 ∧ ¬ dp < 0 ∧ ¬ n < 0 ∧ sp.toNatClampNeg + n.toNatClampNeg ≤ a.2.1 ∧ dp.toNatClampNeg + n.toNatClampNeg ≤ b.2.1 then
        mi_go nx L [] (h.set q1 (.inr (.inl (0, b.2.1, va_cpy a.2.2 b.2.2 sp.toNatClampNeg dp.toNatClampNeg n.toNatClampNeg)))) else none
  | _ => none
def mj_ret : mi_I := fun _ _ st h => match st with
  | [] => some (.inr (.inl (none, h)))
  | _ => none
def mj_iret : mi_I := fun _ _ st h => match st with
  | [.inl x] => some (.inr (.inl (some (.inl x), h)))
  | _ => none
def mj_zret : mi_I := fun _ _ st h => match st with
  | [.inl x] => if x = 0 ∨ x = 1 then some (.inr (.inl (some (.inl x), h))) else none
  | _ => none
/-- a call: M' the method, n how many arguments, mx its locals; a static one -/
def mj_callS (M' n mx nx : Nat) : mi_I := fun _ L st h =>
  if n ≤ st.length ∧ n ≤ mx ∧ ((st.take n).all mi_c1 = true) ∧ (st.drop n).length ≤ 4 then some (.inr (.inr (M', (st.take n).reverse, nx, L, st.drop n, h))) else none
/-- of an object of code ci -/
def mj_callV (ci M' n mx nx : Nat) : mi_I := fun _ L st h => match st.drop n with
  | .inr (.inr (some q)) :: r => (mi_ob h q).bind fun o => if n + 1 ≤ mx ∧ ((st.take n).all mi_c1 = true) ∧ r.length ≤ 4 then if o.1 = ci then some (.inr (.inr (M', .inr (.inr (some q)) :: (st.take n).reverse, nx, L, r, h))) else none else none
  | _ => none
section mi_rules2
variable {P : Nat → Nat → mi_I} {mx : Nat → Nat} {d M pc nx : Nat} {L : mi_L} {st st' : mi_S} {h : mi_H} {r : Option mi_V × mi_H}
theorem mi_condE {c c' : Prop} [Decidable c] {pc' : Nat} {L' : mi_L} {st' : mi_S} {h' : mi_H} (e : P M pc d L st h = if c then some (.inl (pc', L', st', h')) else none) (hc : c ↔ c') : mi_Go P mx d M pc L st h r ↔ c' ∧ mi_Go P mx d M pc' L' st' h' r := by
  rw [mi_cond e, hc]
theorem mi_twoD {c : Prop} [Decidable c] {pc1 pc2 : Nat} {L' : mi_L} {st' : mi_S} {h' : mi_H} (e : P M pc d L st h = if decide c = true then some (.inl (pc1, L', st', h')) else some (.inl (pc2, L', st', h'))) : mi_Go P mx d M pc L st h r ↔ if c then mi_Go P mx d M pc1 L' st' h' r else mi_Go P mx d M pc2 L' st' h' r := by
  by_cases hc : c
  · rw [if_pos (decide_eq_true hc)] at e
    rw [if_pos hc]
    exact mi_next e
  · rw [if_neg (fun q => hc (of_decide_eq_true q))] at e
    rw [if_neg hc]
    exact mi_next e
theorem mi_opt {α : Type} {o : Option α} {f : α → Option mi_O} (e : P M pc d L st h = o.bind f) {K : α → Prop} (hK : ∀ a, o = some a → ((mi_Go P mx d M pc L st h r) ↔ K a)) : mi_Go P mx d M pc L st h r ↔ ∃ a, o = some a ∧ K a := by
  cases o with
  | none =>
    rw [mi_none e]
    simp
  | some a =>
    rw [hK a rfl]
    simp
theorem mi_goget {q ci k : Nat} (e : P M pc d L st h = (mi_ob h q).bind fun o => (o.2[k]?).bind fun v => if o.1 = ci then some (.inl (nx, L, v :: st', h)) else none) : mi_Go P mx d M pc L st h r ↔ ∃ o, mi_ob h q = some o ∧ ∃ v, o.2[k]? = some v ∧ o.1 = ci ∧ mi_Go P mx d M nx L (v :: st') h r :=
  mi_opt e fun o ho => by
    rw [ho, Option.bind_some] at e
    exact mi_opt e fun v hv => by
      rw [hv, Option.bind_some] at e
      exact mi_cond e
theorem mi_goputI {q ci k : Nat} {h' : Nat × List mi_V → mi_H} (e : P M pc d L st h = (mi_ob h q).bind fun o => if o.1 = ci ∧ k < o.2.length then some (.inl (nx, L, st', h' o)) else none) : mi_Go P mx d M pc L st h r ↔ ∃ o, mi_ob h q = some o ∧ (o.1 = ci ∧ k < o.2.length) ∧ mi_Go P mx d M nx L st' (h' o) r :=
  mi_opt e fun o ho => by
    rw [ho, Option.bind_some] at e
    exact mi_cond e
theorem mi_goputZ {q ci k : Nat} {x : Int32} {h' : Nat × List mi_V → mi_H} (e : P M pc d L st h = (mi_ob h q).bind fun o => if o.1 = ci ∧ k < o.2.length ∧ (x = 0 ∨ x = 1) then some (.inl (nx, L, st', h' o)) else none) : mi_Go P mx d M pc L st h r ↔ ∃ o, mi_ob h q = some o ∧ (o.1 = ci ∧ k < o.2.length ∧ (x = 0 ∨ x = 1)) ∧ mi_Go P mx d M nx L st' (h' o) r :=
  mi_opt e fun o ho => by
    rw [ho, Option.bind_some] at e
    exact mi_cond e
/-- arrays: what is read, what is written -/
theorem mi_goarr {q t : Nat} {i : Int32} {s' : Nat × Nat × (Nat → Int32) → mi_S} {h' : Nat × Nat × (Nat → Int32) → mi_H} (e : P M pc d L st h = (mi_ar h q).bind fun a => if a.1 = t ∧ 0 ≤ i.toInt ∧ i.toInt < a.2.1 then some (.inl (nx, L, s' a, h' a)) else none) : mi_Go P mx d M pc L st h r ↔ ∃ a, mi_ar h q = some a ∧ (a.1 = t ∧ 0 ≤ i.toInt ∧ i.toInt < a.2.1) ∧ mi_Go P mx d M nx L (s' a) (h' a) r :=
  mi_opt e fun o ho => by
    rw [ho, Option.bind_some] at e
    exact mi_cond e
theorem mi_goaald {q : Nat} {i : Int32} {s' : Nat × Nat × (Nat → Option Nat) → mi_S} (e : P M pc d L st h = (mi_rr h q).bind fun a => if a.1 = 2 ∧ 0 ≤ i.toInt ∧ i.toInt < a.2.1 then some (.inl (nx, L, s' a, h)) else none) : mi_Go P mx d M pc L st h r ↔ ∃ a, mi_rr h q = some a ∧ (a.1 = 2 ∧ 0 ≤ i.toInt ∧ i.toInt < a.2.1) ∧ mi_Go P mx d M nx L (s' a) h r :=
  mi_opt e fun o ho => by
    rw [ho, Option.bind_some] at e
    exact mi_cond e
theorem mi_goalen {q : Nat} {s' : Nat × Nat × (Nat → Int32) → mi_S} (e : P M pc d L st h = (mi_ar h q).bind fun a => if a.1 = 0 then some (.inl (nx, L, s' a, h)) else none) : mi_Go P mx d M pc L st h r ↔ ∃ a, mi_ar h q = some a ∧ a.1 = 0 ∧ mi_Go P mx d M nx L (s' a) h r :=
  mi_opt e fun o ho => by
    rw [ho, Option.bind_some] at e
    exact mi_cond e
theorem mi_gocopy {q0 q1 : Nat} {n dp sp : Int32} {h' : Nat × Nat × (Nat → Int32) → Nat × Nat × (Nat → Int32) → mi_H} (e : P M pc (d + 1) L st h = if d + 1 = 0 then none else (mi_ar h q0).bind fun a => (mi_ar h q1).bind fun b => if a.1 = 0 ∧ b.1 = 0 ∧ ¬ sp < 0 ∧ ¬ dp < 0 ∧ ¬ n < 0 ∧ sp.toNatClampNeg + n.toNatClampNeg ≤ a.2.1 ∧ dp.toNatClampNeg + n.toNatClampNeg ≤ b.2.1 then some (.inl (nx, L, st', h' a b)) else none) :
    mi_Go P mx (d + 1) M pc L st h r ↔ ∃ a, mi_ar h q0 = some a ∧ ∃ b, mi_ar h q1 = some b ∧ (a.1 = 0 ∧ b.1 = 0 ∧ ¬ sp < 0 ∧ ¬ dp < 0 ∧ ¬ n < 0 ∧ sp.toNatClampNeg + n.toNatClampNeg ≤ a.2.1 ∧ dp.toNatClampNeg + n.toNatClampNeg ≤ b.2.1) ∧ mi_Go P mx (d + 1) M nx L st' (h' a b) r := by
  rw [if_neg (Nat.succ_ne_zero d)] at e
  exact mi_opt e fun o ho => by
    rw [ho, Option.bind_some] at e
    exact mi_opt e fun v hv => by
      rw [hv, Option.bind_some] at e
      exact mi_cond e
theorem mi_gozret {x : Int32} (e : P M pc d L st h = if x = 0 ∨ x = 1 then some (.inr (.inl (some (.inl x), h))) else none) : mi_Go P mx d M pc L st h r ↔ (x = 0 ∨ x = 1) ∧ r = (some (.inl x), h) := by
  by_cases hc : x = 0 ∨ x = 1
  · rw [if_pos hc] at e
    rw [mi_retn e]
    simp [hc]
  · rw [if_neg hc] at e
    rw [mi_none e]
    simp [hc]
theorem mi_goV {q ci M' pc' : Nat} {vs : mi_S} {L' : mi_L} (e : P M pc (d + 1) L st h = (mi_ob h q).bind fun o => if o.1 = ci then some (.inr (.inr (M', vs, pc', L', st', h))) else none) :
    mi_Go P mx (d + 1) M pc L st h r ↔ ∃ o, mi_ob h q = some o ∧ o.1 = ci ∧ ∃ r1, mi_Go P mx d M' 0 (mi_ent (mx M') vs) [] h r1 ∧ mi_Go P mx (d + 1) M pc' L' (r1.1.toList ++ st') r1.2 r :=
  mi_opt e fun o ho => by
    rw [ho, Option.bind_some] at e
    by_cases hc : o.1 = ci
    · rw [if_pos hc] at e
      rw [mi_call e]
      simp [hc]
    · rw [if_neg hc] at e
      rw [mi_none e]
      simp [hc]
end mi_rules2
/-! what a heap holds behind a write -/
theorem mi_ob_ne {h : mi_H} {q k : Nat} {c : mi_C} (e : q ≠ k) : mi_ob (h.set q c) k = mi_ob h k := by
  unfold mi_ob
  rw [List.getElem?_set_ne e]
theorem mi_ar_ne {h : mi_H} {q k : Nat} {c : mi_C} (e : q ≠ k) : mi_ar (h.set q c) k = mi_ar h k := by
  unfold mi_ar
  rw [List.getElem?_set_ne e]
theorem mi_rr_ne {h : mi_H} {q k : Nat} {c : mi_C} (e : q ≠ k) : mi_rr (h.set q c) k = mi_rr h k := by
  unfold mi_rr
  rw [List.getElem?_set_ne e]
theorem mi_ob_eq {h : mi_H} {q : Nat} {x : Nat × List mi_V} (e : q < h.length) : mi_ob (h.set q (.inl x)) q = some x := by
  rw [mi_ob_iff, List.getElem?_set, if_pos rfl, if_pos e]
theorem mi_ar_eq {h : mi_H} {q : Nat} {x : Nat × Nat × (Nat → Int32)} (e : q < h.length) : mi_ar (h.set q (.inr (.inl x))) q = some x := by
  rw [mi_ar_iff, List.getElem?_set, if_pos rfl, if_pos e]
theorem mi_ob_ar {h : mi_H} {q : Nat} {x : Nat × Nat × (Nat → Int32)} {o : Nat × List mi_V} (e : mi_ob h q = some o) (k : Nat) : mi_ob (h.set k (.inr (.inl x))) q = if k = q then none else some o := by
  by_cases hk : k = q
  · subst hk
    rw [if_pos rfl]
    unfold mi_ob
    rw [List.getElem?_set, if_pos rfl]
    split
    · rename_i y e2
      split at e2 <;> cases e2
    · rfl
  · rw [if_neg hk, mi_ob_ne hk, e]


/-! soundness of the small machine over the kit's W -/
def mi_cv (ad : Nat → Nat) : mi_V → Value
  | .inl x => .int x
  | .inr (.inl x) => .long x
  | .inr (.inr none) => .null
  | .inr (.inr (some k)) => .ref (ad k)
def mi_cc (ad : Nat → Nat) (cA : Nat → ClassId) : mi_C → va_E
  | .inl x => .inr (x.1, x.2.map (mi_cv ad))
  | .inr (.inl a) => .inl (cA a.1, a.2.1, .inl a.2.2)
  | .inr (.inr a) => .inl (cA a.1, a.2.1, .inr (.inr (.inr (.inr (fun i => (a.2.2 i).map ad)))))
def mi_w (ad : Nat → Nat) (cA : Nat → ClassId) (h : mi_H) : va_W := h.mapIdx (fun k c => (ad k, mi_cc ad cA c))
def mi_nj (ad : Nat → Nat) (N : Nat) : Prop := ∀ i j, i < N → j < N → ad i = ad j → i = j
def mi_A (ad : Nat → Nat) (N sz : Nat) : Nat → Prop := fun q => (∃ k, k < N ∧ q = ad k) ∨ sz ≤ q
def mi_rm (d : Nat) : Room := { frames := d, cells := 0, slots := 0, locals := 64 * d }
def mi_ty (cA : Nat → ClassId) : List (ClassId × FieldType) := [(cA 0, .int), (cA 1, .byte), (cA 2, .array .int)]
section mi_world
variable {ad : Nat → Nat} {cA : Nat → ClassId} {h : mi_H} {k N sz i mx : Nat} {c : mi_C} {L : mi_L} {ls : Array Slot} {v : mi_V}
theorem mi_w_at (e : h[k]? = some c) : (mi_w ad cA h)[k]? = some (ad k, mi_cc ad cA c) := by
  unfold mi_w
  rw [List.getElem?_mapIdx, e]
  rfl
theorem mi_w_of {q : Nat × va_E} (e : (mi_w ad cA h)[k]? = some q) : ∃ c, h[k]? = some c ∧ q = (ad k, mi_cc ad cA c) := by
  unfold mi_w at e
  rw [List.getElem?_mapIdx] at e
  obtain ⟨c, e1, e2⟩ := Option.map_eq_some_iff.mp e
  exact ⟨c, e1, e2.symm⟩
theorem mi_w_set : mi_w ad cA (h.set k c) = (mi_w ad cA h).set k (ad k, mi_cc ad cA c) := by
  unfold mi_w
  rw [List.mapIdx_set]
theorem mi_D (hj : mi_nj ad N) (hN : h.length = N) : va_D (mi_A ad N sz) (mi_w ad cA h) := by
  refine ⟨fun i j p q hp hq e => ?_, fun k q hq => ?_⟩
  · obtain ⟨c1, e1, rfl⟩ := mi_w_of hp
    obtain ⟨c2, e2, rfl⟩ := mi_w_of hq
    exact hj i j (hN ▸ (List.getElem?_eq_some_iff.mp e1).1) (hN ▸ (List.getElem?_eq_some_iff.mp e2).1) e
  · obtain ⟨c1, e1, rfl⟩ := mi_w_of hq
    exact Or.inl ⟨k, hN ▸ (List.getElem?_eq_some_iff.mp e1).1, rfl⟩
def mi_ll (ad : Nat → Nat) (L : mi_L) : List (Nat × Value) := L.zipIdx.filterMap (fun q => q.1.map (fun v => (q.2, mi_cv ad v)))
theorem mi_ll_mem {x : Value} : (i, x) ∈ mi_ll ad L ↔ ∃ v, L[i]? = some (some v) ∧ x = mi_cv ad v := by
  unfold mi_ll
  rw [List.mem_filterMap]
  constructor
  · rintro ⟨⟨a, j⟩, hm, hf⟩
    rw [List.mk_mem_zipIdx_iff_getElem?] at hm
    cases a with
    | none => simp at hf
    | some v =>
      simp only [Option.map_some, Option.some.injEq, Prod.mk.injEq] at hf
      obtain ⟨rfl, rfl⟩ := hf
      exact ⟨v, hm, rfl⟩
  · rintro ⟨v, hv, rfl⟩
    exact ⟨(some v, i), List.mk_mem_zipIdx_iff_getElem?.mpr hv, rfl⟩
def mi_lv (ad : Nat → Nat) (ls : Array Slot) (mx : Nat) (L : mi_L) : Prop := L.length = mx ∧ lv_has ls mx (mi_ll ad L)
theorem mi_lv_get (hl : mi_lv ad ls mx L) (e : L[i]? = some (some v)) : ls[i]? = some (.val (mi_cv ad v)) := hl.2.2.2 (i, mi_cv ad v) (mi_ll_mem.mpr ⟨v, e, rfl⟩)
theorem mi_prev {j : Nat} {u : mi_V} (hp : mi_pr L (j + 1) = true) (e : L[j]? = some (some u)) : (mi_cv ad u).category = 1 := by
  have e1 : L.getD j none = some u := by rw [List.getD_eq_getElem?_getD, e]; rfl
  have hp : mi_nl (L.getD j none) = true := hp
  rw [e1] at hp
  match u, hp with
  | .inl x, _ => rfl
  | .inr (.inr none), _ => rfl
  | .inr (.inr (some x)), _ => rfl
theorem mi_lv_set (hL : L.length = mx) (hp : mi_pr L i = true) (hh : lv_has ls mx ((i, mi_cv ad v) :: (mi_ll ad L).filter (fun q => !(q.1 == i) && !(q.1 + 1 == i && q.2.category == 2)))) : mi_lv ad ls mx (L.set i (some v)) := by
  refine ⟨by rw [List.length_set]; exact hL, hh.1, hh.2.1, fun q hq => ?_⟩
  obtain ⟨j, x⟩ := q
  obtain ⟨u, hu, rfl⟩ := mi_ll_mem.mp hq
  by_cases hj : j = i
  · subst hj
    rw [List.getElem?_set, if_pos rfl] at hu
    split at hu
    · cases hu
      exact hh.2.2 _ List.mem_cons_self
    · cases hu
  · rw [List.getElem?_set_ne (Ne.symm hj)] at hu
    refine hh.2.2 (j, mi_cv ad u) (List.mem_cons_of_mem _ (List.mem_filter.mpr ⟨mi_ll_mem.mpr ⟨u, hu, rfl⟩, ?_⟩))
    by_cases hk : j + 1 = i
    · subst hk
      have := mi_prev (ad := ad) hp hu
      simp [this]
    · simp [hj, hk]
theorem mi_lv_set2 {x : Int64} (hL : L.length = mx) (hp : mi_pr L i = true) (hh : lv_has ls mx ((i, Value.long x) :: (mi_ll ad L).filter (fun q => !(q.1 == i) && (!(q.1 == i + 1) && !(q.1 + 1 == i && q.2.category == 2))))) : mi_lv ad ls mx ((L.set i (some (.inr (.inl x)))).set (i + 1) none) := by
  refine ⟨by rw [List.length_set, List.length_set]; exact hL, hh.1, hh.2.1, fun q hq => ?_⟩
  obtain ⟨j, y⟩ := q
  obtain ⟨u, hu, rfl⟩ := mi_ll_mem.mp hq
  by_cases hj1 : j = i + 1
  · subst hj1
    rw [List.getElem?_set, if_pos rfl] at hu
    split at hu <;> cases hu
  · rw [List.getElem?_set_ne (Ne.symm hj1)] at hu
    by_cases hj : j = i
    · subst hj
      rw [List.getElem?_set, if_pos rfl] at hu
      split at hu
      · cases hu
        exact hh.2.2 _ List.mem_cons_self
      · cases hu
    · rw [List.getElem?_set_ne (Ne.symm hj)] at hu
      refine hh.2.2 (j, mi_cv ad u) (List.mem_cons_of_mem _ (List.mem_filter.mpr ⟨mi_ll_mem.mpr ⟨u, hu, rfl⟩, ?_⟩))
      by_cases hk : j + 1 = i
      · subst hk
        have := mi_prev (ad := ad) hp hu
        simp [this]
        omega
      · simp [hj, hj1, hk]
theorem mi_cat {x : mi_V} (h : mi_c1 x = true) : (mi_cv ad x).category = 1 := by
  match x, h with
  | .inl x, _ => rfl
  | .inr (.inr none), _ => rfl
  | .inr (.inr (some x)), _ => rfl
theorem mi_cat2 (x : mi_V) : (mi_cv ad x).category ≤ 2 := by
  match x with
  | .inl x => exact Nat.le_of_ble_eq_true rfl
  | .inr (.inl x) => exact Nat.le_of_ble_eq_true rfl
  | .inr (.inr none) => exact Nat.le_of_ble_eq_true rfl
  | .inr (.inr (some x)) => exact Nat.le_of_ble_eq_true rfl
theorem mi_cats : ∀ (r : mi_S), ((r.map (mi_cv ad)).map fun v => v.category).sum ≤ 2 * r.length
  | [] => Nat.le_refl _
  | x :: r => by
    have h1 := mi_cat2 (ad := ad) x
    have h2 := mi_cats r
    simp only [List.map_cons, List.sum_cons, List.length_cons]
    omega
end mi_world

def mi_X (G : List Cond) (cl : List vw_C) (D : va_G) (cA : Nat → ClassId) (ad : Nat → Nat) (N : Nat) (y : mi_M) (d : Nat) (p : Program) (R : Room) (s : State) (m : MethodId) (args : Array Value) (meth : Method) (c : Code) : Prop :=
  p.tables.exec = Jvm.exec ∧ c.code = y.2.1 ∧ meth.sig.returnType = y.2.2.2 ∧ c.maxLocals = y.2.2.1 ∧ s.vm.findClass y.1.cls = some m.cls ∧ (∀ w ∈ G, w.before args s = true) ∧ meth.locks = false ∧ va_K D cl (mi_ty cA) s ∧ mi_nj ad N ∧ R = mi_rm d
def mi_G (cl : List vw_C) (D : va_G) (cA : Nat → ClassId) (ad : Nat → Nat) (N mx : Nat) (p : Program) (l : Launch) (e : Env) (R : Room) (s : State) (m : MethodId) (args : Array Value) (below : List Frame) (meth : Method) (c : Code) (Q : State → Prop) (pc : Nat) (L : mi_L) (st : mi_S) (h : mi_H) : Prop :=
  ∀ (H : Heap) (locs : List Loc) (ls : Array Slot), mi_lv ad ls mx L → va_P D cl (mi_w ad cA h) H → h.length = N → va_S (mi_A ad N s.heap.size) s.heap H locs → W p l e R s m args below meth c H locs 0 0 Q (F0 m pc ls (st.map (mi_cv ad)))
def mi_Q (cl : List vw_C) (D : va_G) (cA : Nat → ClassId) (ad : Nat → Nat) (N : Nat) (v : Option mi_V) (h : mi_H) (A : Nat → Prop) : Array Value → State → Outcome → State → Prop :=
  fun _ st oc t => (oc = .returned (v.map (mi_cv ad)) ∧ h.length = N ∧ va_P D cl (mi_w ad cA h) t.heap ∧ va_K D cl (mi_ty cA) t) ∧ va_F A st t
def mi_ws (G : List Cond) (y : mi_M) : List Cond := Cond.code y.1 y.2.1 y.2.2.1 y.2.2.2 :: G.filter goodWord
/-- the words of nest mates go along as premises -/
def mi_nw : Cond → Bool
  | .fieldLinkNest _ _ _ _ _ _ => true
  | .methodLinkNest _ _ _ _ => true
  | _ => false
theorem mi_wm {G : List Cond} {args : Array Value} {s U : State} (hts : ∀ w ∈ G, w.before args s = true) (hW : s.WarmedH U.vm) : ∀ w ∈ G, mi_nw w = true → va_Nw w U := by
  intro w hw hn
  have h := hts w hw
  cases w <;> first | (cases hn; done) | exact va_Nw.warmF hW (va_Nw.of rfl h) | exact va_Nw.warmM hW (va_Nw.of rfl h)
theorem mi_ot {w : Cond} (hn : mi_nw w = true) : w.onTables = true := by
  cases w <;> first | (cases hn; done) | rfl
def mi_Pc (G : List Cond) (cl : List vw_C) (D : va_G) (cA : Nat → ClassId) (ad : Nat → Nat) (vs : mi_S) (h : mi_H) (sz : Nat) : Array Value → State → Prop := va_Pc (vs.map (mi_cv ad)) (fun U => U.heap.size = sz ∧ va_P D cl (mi_w ad cA h) U.heap ∧ va_K D cl (mi_ty cA) U ∧ ∀ w ∈ G, mi_nw w = true → va_Nw w U)
def mi_met (G : List Cond) (cl : List vw_C) (D : va_G) (cA : Nat → ClassId) (ad : Nat → Nat) (N : Nat) (l : Launch) (y : mi_M) (d : Nat) (vs : mi_S) (h : mi_H) (v : Option mi_V) (h1 : mi_H) : Prop :=
  h.length = N → ∀ sz, Met l y.1 (mi_ws G y) (mi_rm d) (mi_Pc G cl D cA ad vs h sz) (mi_Q cl D cA ad N v h1 (mi_A ad N sz)) 0 0 (mi_A ad N sz)
def mi_out (G : List Cond) (cl : List vw_C) (inf : Nat → mi_M) (D : va_G) (cA : Nat → ClassId) (ad : Nat → Nat) (N mx d : Nat) (p : Program) (l : Launch) (e : Env) (R : Room) (s : State) (m : MethodId) (args : Array Value) (below : List Frame) (meth : Method) (c : Code) (pc : Nat) (L : mi_L) (st : mi_S) (h : mi_H) (o : mi_O) : Prop := match o with
  | .inl q => ∀ Q, mi_G cl D cA ad N mx p l e R s m args below meth c Q q.1 q.2.1 q.2.2.1 q.2.2.2 → mi_G cl D cA ad N mx p l e R s m args below meth c Q pc L st h
  | .inr (.inl r) => mi_G cl D cA ad N mx p l e R s m args below meth c (MQ below (mi_Q cl D cA ad N r.1 r.2 (mi_A ad N s.heap.size)) args s 0 0 (mi_A ad N s.heap.size)) pc L st h
  | .inr (.inr q) => (q.2.1.all mi_c1 = true ∧ q.2.1.length ≤ (inf q.1).2.2.1) ∧ ∀ (Q : State → Prop) (d' : Nat) (v : Option mi_V) (h1 : mi_H), d = d' + 1 → mi_met G cl D cA ad N l (inf q.1) d' q.2.1 q.2.2.2.2.2 v h1 → mi_G cl D cA ad N mx p l e R s m args below meth c Q q.2.2.1 q.2.2.2.1 (v.toList ++ q.2.2.2.2.1) h1 → mi_G cl D cA ad N mx p l e R s m args below meth c Q pc L st h
def mi_snd (G : List Cond) (cl : List vw_C) (inf : Nat → mi_M) (M pc : Nat) (i : mi_I) : Prop := ∀ (D : va_G) (cA : Nat → ClassId) (ad : Nat → Nat) (N : Nat) (p : Program) (l : Launch) (e : Env) (R : Room) (s : State) (m : MethodId) (args : Array Value) (below : List Frame) (meth : Method) (c : Code) (d : Nat), mi_X G cl D cA ad N (inf M) d p R s m args meth c →
  ∀ (L : mi_L) (st : mi_S) (h : mi_H) (o : mi_O), i d L st h = some o → mi_out G cl inf D cA ad N (inf M).2.2.1 d p l e R s m args below meth c pc L st h o
theorem mi_put {D : va_G} {cl : List vw_C} {ad : Nat → Nat} {cA : Nat → ClassId} {h : mi_H} {k : Nat} {c : mi_C} {H : Heap} {x : Nat × va_E} (hP : va_P D cl ((mi_w ad cA h).set k x) H) (e : x = (ad k, mi_cc ad cA c)) : va_P D cl (mi_w ad cA (h.set k c)) H := by
  rw [mi_w_set, ← e]
  exact hP
theorem mi_vin {i : Int32} {n : Nat} (h : 0 ≤ i.toInt ∧ i.toInt < n) : vp_in i n := vp_in_iff.mpr h
section mi_sound1
variable {G : List Cond} {cl : List vw_C} {inf : Nat → mi_M} {M pc : Nat}

theorem ms_stop : mi_snd G cl inf M pc mj_stop := by
  intro D cA ad N p l e R s m args below meth c d X L st h o ho
  cases ho
theorem ms_iconst {n : Int} {v : Int32} (hd : decode (inf M).2.1 pc = .ok (.iconst n, 1)) (hv : Int32.ofInt n = v) : mi_snd G cl inf M pc (mj_push (.inl v) (pc + 1)) := by
  intro D cA ad N p l e R s m args below meth c d X L st h o ho
  obtain ⟨hx, hb, hr, hml, hown, hts, hlk, hK, hnj, hR⟩ := X
  unfold mj_push mi_go at ho
  cases ho
  intro Q k H locs ls hl hP hN hS
  exact lv_iconst hx hb hd hv (k H locs ls hl hP hN hS)
theorem ms_bipush {n : Int} {v : Int32} (hd : decode (inf M).2.1 pc = .ok (.bipush n, 2)) (hv : (Int8.ofInt n).toInt32 = v) : mi_snd G cl inf M pc (mj_push (.inl v) (pc + 2)) := by
  intro D cA ad N p l e R s m args below meth c d X L st h o ho
  obtain ⟨hx, hb, hr, hml, hown, hts, hlk, hK, hnj, hR⟩ := X
  unfold mj_push mi_go at ho
  cases ho
  intro Q k H locs ls hl hP hN hS
  exact lv_bipush hx hb hd hv (k H locs ls hl hP hN hS)
theorem ms_sipush {n : Int} {v : Int32} (hd : decode (inf M).2.1 pc = .ok (.sipush n, 3)) (hv : (Int16.ofInt n).toInt32 = v) : mi_snd G cl inf M pc (mj_push (.inl v) (pc + 3)) := by
  intro D cA ad N p l e R s m args below meth c d X L st h o ho
  obtain ⟨hx, hb, hr, hml, hown, hts, hlk, hK, hnj, hR⟩ := X
  unfold mj_push mi_go at ho
  cases ho
  intro Q k H locs ls hl hP hN hS
  exact lv_sipush hx hb hd hv (k H locs ls hl hP hN hS)
theorem ms_lconst {n : Fin 2} {v : Int64} (hd : decode (inf M).2.1 pc = .ok (.lconst n, 1)) (hv : Int64.ofNat (n : Nat) = v) : mi_snd G cl inf M pc (mj_push (.inr (.inl v)) (pc + 1)) := by
  intro D cA ad N p l e R s m args below meth c d X L st h o ho
  obtain ⟨hx, hb, hr, hml, hown, hts, hlk, hK, hnj, hR⟩ := X
  unfold mj_push mi_go at ho
  cases ho
  intro Q k H locs ls hl hP hN hS
  exact lv_lconst hx hb hd hv (k H locs ls hl hP hN hS)
theorem ms_ldc {index : Nat} {v : Int32} (hd : decode (inf M).2.1 pc = .ok (.ldc index, 2)) (hw : Cond.constant (inf M).1.cls index v ∈ G) : mi_snd G cl inf M pc (mj_push (.inl v) (pc + 2)) := by
  intro D cA ad N p l e R s m args below meth c d X L st h o ho
  obtain ⟨hx, hb, hr, hml, hown, hts, hlk, hK, hnj, hR⟩ := X
  unfold mj_push mi_go at ho
  cases ho
  intro Q k H locs ls hl hP hN hS
  exact lv_ldc hx hb hown (hts _ hw) hd (k H locs ls hl hP hN hS)
theorem ms_ldcw {index : Nat} {v : Int32} (hd : decode (inf M).2.1 pc = .ok (.ldc_w index, 3)) (hw : Cond.constant (inf M).1.cls index v ∈ G) : mi_snd G cl inf M pc (mj_push (.inl v) (pc + 3)) := by
  intro D cA ad N p l e R s m args below meth c d X L st h o ho
  obtain ⟨hx, hb, hr, hml, hown, hts, hlk, hK, hnj, hR⟩ := X
  unfold mj_push mi_go at ho
  cases ho
  intro Q k H locs ls hl hP hN hS
  exact lv_ldcw hx hb hown (hts _ hw) hd (k H locs ls hl hP hN hS)
theorem ms_ldc2 {index : Nat} {v : Int64} (hd : decode (inf M).2.1 pc = .ok (.ldc2_w index, 3)) (hw : Cond.constantLong (inf M).1.cls index v ∈ G) : mi_snd G cl inf M pc (mj_push (.inr (.inl v)) (pc + 3)) := by
  intro D cA ad N p l e R s m args below meth c d X L st h o ho
  obtain ⟨hx, hb, hr, hml, hown, hts, hlk, hK, hnj, hR⟩ := X
  unfold mj_push mi_go at ho
  cases ho
  intro Q k H locs ls hl hP hN hS
  exact lv_ldc2 hx hb hown (hts _ hw) hd (k H locs ls hl hP hN hS)
theorem ms_goto {off : Int} {tgt : Nat} (hd : decode (inf M).2.1 pc = .ok (.goto off, 3)) (ht : (pc : Int) + off = (tgt : Int)) : mi_snd G cl inf M pc (mj_goto tgt) := by
  intro D cA ad N p l e R s m args below meth c d X L st h o ho
  obtain ⟨hx, hb, hr, hml, hown, hts, hlk, hK, hnj, hR⟩ := X
  unfold mj_goto mi_go at ho
  cases ho
  intro Q k H locs ls hl hP hN hS
  exact lv_goto hx hb hd ht (k H locs ls hl hP hN hS)
theorem ms_iload_n {j : Fin 4} {i : Nat} (hd : decode (inf M).2.1 pc = .ok (.iload_n j, 1)) (hi : (j : Nat) = i) : mi_snd G cl inf M pc (mj_iload i (pc + 1)) := by
  intro D cA ad N p l e R s m args below meth c d X L st h o ho
  obtain ⟨hx, hb, hr, hml, hown, hts, hlk, hK, hnj, hR⟩ := X
  unfold mj_iload mi_go at ho
  split at ho
  · rename_i x hx0
    cases ho
    intro Q k H locs ls hl hP hN hS
    exact lv_iload_n hx hb hd hi (mi_lv_get hl hx0) (k H locs ls hl hP hN hS)
  · cases ho
theorem ms_iload {i : Nat} (hd : decode (inf M).2.1 pc = .ok (.iload i, 2)) : mi_snd G cl inf M pc (mj_iload i (pc + 2)) := by
  intro D cA ad N p l e R s m args below meth c d X L st h o ho
  obtain ⟨hx, hb, hr, hml, hown, hts, hlk, hK, hnj, hR⟩ := X
  unfold mj_iload mi_go at ho
  split at ho
  · rename_i x hx0
    cases ho
    intro Q k H locs ls hl hP hN hS
    exact lv_iload hx hb hd (mi_lv_get hl hx0) (k H locs ls hl hP hN hS)
  · cases ho
theorem ms_lload_n {j : Fin 4} {i : Nat} (hd : decode (inf M).2.1 pc = .ok (.lload_n j, 1)) (hi : (j : Nat) = i) : mi_snd G cl inf M pc (mj_lload i (pc + 1)) := by
  intro D cA ad N p l e R s m args below meth c d X L st h o ho
  obtain ⟨hx, hb, hr, hml, hown, hts, hlk, hK, hnj, hR⟩ := X
  unfold mj_lload mi_go at ho
  split at ho
  · rename_i x hx0
    cases ho
    intro Q k H locs ls hl hP hN hS
    exact lv_lload_n hx hb hd hi (mi_lv_get hl hx0) (k H locs ls hl hP hN hS)
  · cases ho
theorem ms_lload {i : Nat} (hd : decode (inf M).2.1 pc = .ok (.lload i, 2)) : mi_snd G cl inf M pc (mj_lload i (pc + 2)) := by
  intro D cA ad N p l e R s m args below meth c d X L st h o ho
  obtain ⟨hx, hb, hr, hml, hown, hts, hlk, hK, hnj, hR⟩ := X
  unfold mj_lload mi_go at ho
  split at ho
  · rename_i x hx0
    cases ho
    intro Q k H locs ls hl hP hN hS
    exact lv_lload hx hb hd (mi_lv_get hl hx0) (k H locs ls hl hP hN hS)
  · cases ho
theorem ms_aload_n {j : Fin 4} {i : Nat} (hd : decode (inf M).2.1 pc = .ok (.aload_n j, 1)) (hi : (j : Nat) = i) : mi_snd G cl inf M pc (mj_aload i (pc + 1)) := by
  intro D cA ad N p l e R s m args below meth c d X L st h o ho
  obtain ⟨hx, hb, hr, hml, hown, hts, hlk, hK, hnj, hR⟩ := X
  unfold mj_aload mi_go at ho
  split at ho
  · rename_i x hx0
    cases ho
    intro Q k H locs ls hl hP hN hS
    exact lv_aload_n hx hb hd hi (mi_lv_get hl hx0) (k H locs ls hl hP hN hS)
  · cases ho
theorem ms_aload {i : Nat} (hd : decode (inf M).2.1 pc = .ok (.aload i, 2)) : mi_snd G cl inf M pc (mj_aload i (pc + 2)) := by
  intro D cA ad N p l e R s m args below meth c d X L st h o ho
  obtain ⟨hx, hb, hr, hml, hown, hts, hlk, hK, hnj, hR⟩ := X
  unfold mj_aload mi_go at ho
  split at ho
  · rename_i x hx0
    cases ho
    intro Q k H locs ls hl hP hN hS
    exact lv_aload hx hb hd (mi_lv_get hl hx0) (k H locs ls hl hP hN hS)
  · cases ho
theorem ms_istore_n {j : Fin 4} {i : Nat} (hd : decode (inf M).2.1 pc = .ok (.istore_n j, 1)) (hi : (j : Nat) = i) : mi_snd G cl inf M pc (mj_istore i (pc + 1)) := by
  intro D cA ad N p l e R s m args below meth c d X L st h o ho
  obtain ⟨hx, hb, hr, hml, hown, hts, hlk, hK, hnj, hR⟩ := X
  unfold mj_istore mi_go at ho
  split at ho
  · split at ho
    · rename_i hc
      cases ho
      intro Q k H locs ls hl hP hN hS
      exact lv_istore_n hx hb hd hi hl.2 (hl.1 ▸ hc.1) rfl (fun ls' hl' => k H locs ls' (mi_lv_set hl.1 hc.2 hl') hP hN hS)
    · cases ho
  · cases ho
theorem ms_istore {i : Nat} (hd : decode (inf M).2.1 pc = .ok (.istore i, 2)) : mi_snd G cl inf M pc (mj_istore i (pc + 2)) := by
  intro D cA ad N p l e R s m args below meth c d X L st h o ho
  obtain ⟨hx, hb, hr, hml, hown, hts, hlk, hK, hnj, hR⟩ := X
  unfold mj_istore mi_go at ho
  split at ho
  · split at ho
    · rename_i hc
      cases ho
      intro Q k H locs ls hl hP hN hS
      exact lv_istore hx hb hd hl.2 (hl.1 ▸ hc.1) rfl (fun ls' hl' => k H locs ls' (mi_lv_set hl.1 hc.2 hl') hP hN hS)
    · cases ho
  · cases ho
theorem ms_astore_n {j : Fin 4} {i : Nat} (hd : decode (inf M).2.1 pc = .ok (.astore_n j, 1)) (hi : (j : Nat) = i) : mi_snd G cl inf M pc (mj_astore i (pc + 1)) := by
  intro D cA ad N p l e R s m args below meth c d X L st h o ho
  obtain ⟨hx, hb, hr, hml, hown, hts, hlk, hK, hnj, hR⟩ := X
  unfold mj_astore mi_go at ho
  split at ho
  · split at ho
    · rename_i hc
      cases ho
      intro Q k H locs ls hl hP hN hS
      exact lv_astore_n hx hb hd hi hl.2 (hl.1 ▸ hc.1) rfl (fun ls' hl' => k H locs ls' (mi_lv_set hl.1 hc.2 hl') hP hN hS)
    · cases ho
  · cases ho
theorem ms_astore {i : Nat} (hd : decode (inf M).2.1 pc = .ok (.astore i, 2)) : mi_snd G cl inf M pc (mj_astore i (pc + 2)) := by
  intro D cA ad N p l e R s m args below meth c d X L st h o ho
  obtain ⟨hx, hb, hr, hml, hown, hts, hlk, hK, hnj, hR⟩ := X
  unfold mj_astore mi_go at ho
  split at ho
  · split at ho
    · rename_i hc
      cases ho
      intro Q k H locs ls hl hP hN hS
      exact lv_astore hx hb hd hl.2 (hl.1 ▸ hc.1) rfl (fun ls' hl' => k H locs ls' (mi_lv_set hl.1 hc.2 hl') hP hN hS)
    · cases ho
  · cases ho
theorem ms_lstore_n {j : Fin 4} {i : Nat} (hd : decode (inf M).2.1 pc = .ok (.lstore_n j, 1)) (hi : (j : Nat) = i) : mi_snd G cl inf M pc (mj_lstore i (pc + 1)) := by
  intro D cA ad N p l e R s m args below meth c d X L st h o ho
  obtain ⟨hx, hb, hr, hml, hown, hts, hlk, hK, hnj, hR⟩ := X
  unfold mj_lstore mi_go at ho
  split at ho
  · split at ho
    · rename_i hc
      cases ho
      intro Q k H locs ls hl hP hN hS
      exact lv_lstore_n hx hb hd hi hl.2 (hl.1 ▸ hc.1) rfl (fun ls' hl' => k H locs ls' (mi_lv_set2 hl.1 hc.2 hl') hP hN hS)
    · cases ho
  · cases ho
theorem ms_lstore {i : Nat} (hd : decode (inf M).2.1 pc = .ok (.lstore i, 2)) : mi_snd G cl inf M pc (mj_lstore i (pc + 2)) := by
  intro D cA ad N p l e R s m args below meth c d X L st h o ho
  obtain ⟨hx, hb, hr, hml, hown, hts, hlk, hK, hnj, hR⟩ := X
  unfold mj_lstore mi_go at ho
  split at ho
  · split at ho
    · rename_i hc
      cases ho
      intro Q k H locs ls hl hP hN hS
      exact lv_lstore hx hb hd hl.2 (hl.1 ▸ hc.1) rfl (fun ls' hl' => k H locs ls' (mi_lv_set2 hl.1 hc.2 hl') hP hN hS)
    · cases ho
  · cases ho
theorem ms_iinc {i : Nat} {n : Int} {v : Int32} (hd : decode (inf M).2.1 pc = .ok (.iinc i n, 3)) (hv : Int32.ofInt n = v) : mi_snd G cl inf M pc (mj_iinc i v (pc + 3)) := by
  intro D cA ad N p l e R s m args below meth c d X L st h o ho
  obtain ⟨hx, hb, hr, hml, hown, hts, hlk, hK, hnj, hR⟩ := X
  unfold mj_iinc mi_go at ho
  split at ho
  · rename_i x hx0
    split at ho
    · rename_i hc
      cases ho
      intro Q k H locs ls hl hP hN hS
      obtain ⟨j, hj⟩ := List.getElem?_of_mem (mi_ll_mem (ad := ad).mpr ⟨_, hx0, rfl⟩)
      have hi : i < (inf M).2.2.1 := hl.1 ▸ (List.getElem?_eq_some_iff.mp hx0).1
      exact lv_iinc (v := x + v) hx hb hd hl.2 hj (by rw [hv]) hi rfl (fun ls' hl' => k H locs ls' (mi_lv_set hl.1 hc hl') hP hN hS)
    · cases ho
  · cases ho
theorem ms_ineg (hd : decode (inf M).2.1 pc = .ok (.ineg, 1)) : mi_snd G cl inf M pc (mj_un (fun x => -x) (pc + 1)) := by
  intro D cA ad N p l e R s m args below meth c d X L st h o ho
  obtain ⟨hx, hb, hr, hml, hown, hts, hlk, hK, hnj, hR⟩ := X
  unfold mj_un mi_go at ho
  split at ho
  · cases ho
    intro Q k H locs ls hl hP hN hS
    exact lv_ineg hx hb hd (k H locs ls hl hP hN hS)
  · cases ho
theorem ms_i2b (hd : decode (inf M).2.1 pc = .ok (.i2b, 1)) : mi_snd G cl inf M pc (mj_un (fun x => x.toInt8.toInt32) (pc + 1)) := by
  intro D cA ad N p l e R s m args below meth c d X L st h o ho
  obtain ⟨hx, hb, hr, hml, hown, hts, hlk, hK, hnj, hR⟩ := X
  unfold mj_un mi_go at ho
  split at ho
  · cases ho
    intro Q k H locs ls hl hP hN hS
    exact lv_i2b hx hb hd rfl (k H locs ls hl hP hN hS)
  · cases ho
theorem ms_iadd (hd : decode (inf M).2.1 pc = .ok (.iadd, 1)) : mi_snd G cl inf M pc (mj_bin (fun x y => x + y) (pc + 1)) := by
  intro D cA ad N p l e R s m args below meth c d X L st h o ho
  obtain ⟨hx, hb, hr, hml, hown, hts, hlk, hK, hnj, hR⟩ := X
  unfold mj_bin mi_go at ho
  split at ho
  · cases ho
    intro Q k H locs ls hl hP hN hS
    exact lv_iadd hx hb hd (k H locs ls hl hP hN hS)
  · cases ho
theorem ms_isub (hd : decode (inf M).2.1 pc = .ok (.isub, 1)) : mi_snd G cl inf M pc (mj_bin (fun x y => x - y) (pc + 1)) := by
  intro D cA ad N p l e R s m args below meth c d X L st h o ho
  obtain ⟨hx, hb, hr, hml, hown, hts, hlk, hK, hnj, hR⟩ := X
  unfold mj_bin mi_go at ho
  split at ho
  · cases ho
    intro Q k H locs ls hl hP hN hS
    exact lv_isub hx hb hd (k H locs ls hl hP hN hS)
  · cases ho
theorem ms_imul (hd : decode (inf M).2.1 pc = .ok (.imul, 1)) : mi_snd G cl inf M pc (mj_bin (fun x y => x * y) (pc + 1)) := by
  intro D cA ad N p l e R s m args below meth c d X L st h o ho
  obtain ⟨hx, hb, hr, hml, hown, hts, hlk, hK, hnj, hR⟩ := X
  unfold mj_bin mi_go at ho
  split at ho
  · cases ho
    intro Q k H locs ls hl hP hN hS
    exact lv_imul hx hb hd (k H locs ls hl hP hN hS)
  · cases ho
theorem ms_iand (hd : decode (inf M).2.1 pc = .ok (.iand, 1)) : mi_snd G cl inf M pc (mj_bin (fun x y => x &&& y) (pc + 1)) := by
  intro D cA ad N p l e R s m args below meth c d X L st h o ho
  obtain ⟨hx, hb, hr, hml, hown, hts, hlk, hK, hnj, hR⟩ := X
  unfold mj_bin mi_go at ho
  split at ho
  · cases ho
    intro Q k H locs ls hl hP hN hS
    exact lv_iand hx hb hd (k H locs ls hl hP hN hS)
  · cases ho
theorem ms_ior (hd : decode (inf M).2.1 pc = .ok (.ior, 1)) : mi_snd G cl inf M pc (mj_bin (fun x y => x ||| y) (pc + 1)) := by
  intro D cA ad N p l e R s m args below meth c d X L st h o ho
  obtain ⟨hx, hb, hr, hml, hown, hts, hlk, hK, hnj, hR⟩ := X
  unfold mj_bin mi_go at ho
  split at ho
  · cases ho
    intro Q k H locs ls hl hP hN hS
    exact lv_ior hx hb hd (k H locs ls hl hP hN hS)
  · cases ho
theorem ms_ixor (hd : decode (inf M).2.1 pc = .ok (.ixor, 1)) : mi_snd G cl inf M pc (mj_bin (fun x y => x ^^^ y) (pc + 1)) := by
  intro D cA ad N p l e R s m args below meth c d X L st h o ho
  obtain ⟨hx, hb, hr, hml, hown, hts, hlk, hK, hnj, hR⟩ := X
  unfold mj_bin mi_go at ho
  split at ho
  · cases ho
    intro Q k H locs ls hl hP hN hS
    exact lv_ixor hx hb hd (k H locs ls hl hP hN hS)
  · cases ho
theorem ms_ishl (hd : decode (inf M).2.1 pc = .ok (.ishl, 1)) : mi_snd G cl inf M pc (mj_bin (fun x y => x <<< (y &&& 31)) (pc + 1)) := by
  intro D cA ad N p l e R s m args below meth c d X L st h o ho
  obtain ⟨hx, hb, hr, hml, hown, hts, hlk, hK, hnj, hR⟩ := X
  unfold mj_bin mi_go at ho
  split at ho
  · cases ho
    intro Q k H locs ls hl hP hN hS
    exact lv_ishl hx hb hd (k H locs ls hl hP hN hS)
  · cases ho
theorem ms_ishr (hd : decode (inf M).2.1 pc = .ok (.ishr, 1)) : mi_snd G cl inf M pc (mj_bin (fun x y => x >>> (y &&& 31)) (pc + 1)) := by
  intro D cA ad N p l e R s m args below meth c d X L st h o ho
  obtain ⟨hx, hb, hr, hml, hown, hts, hlk, hK, hnj, hR⟩ := X
  unfold mj_bin mi_go at ho
  split at ho
  · cases ho
    intro Q k H locs ls hl hP hN hS
    exact lv_ishr hx hb hd (k H locs ls hl hP hN hS)
  · cases ho
theorem ms_iushr (hd : decode (inf M).2.1 pc = .ok (.iushr, 1)) : mi_snd G cl inf M pc (mj_bin (fun x y => (x.toUInt32 >>> (y.toUInt32 &&& Int32.toUInt32 31)).toInt32) (pc + 1)) := by
  intro D cA ad N p l e R s m args below meth c d X L st h o ho
  obtain ⟨hx, hb, hr, hml, hown, hts, hlk, hK, hnj, hR⟩ := X
  unfold mj_bin mi_go at ho
  split at ho
  · cases ho
    intro Q k H locs ls hl hP hN hS
    exact lv_iushr hx hb hd rfl (k H locs ls hl hP hN hS)
  · cases ho
theorem ms_idiv (hd : decode (inf M).2.1 pc = .ok (.idiv, 1)) : mi_snd G cl inf M pc (mj_div (pc + 1)) := by
  intro D cA ad N p l e R s m args below meth c d X L st h o ho
  obtain ⟨hx, hb, hr, hml, hown, hts, hlk, hK, hnj, hR⟩ := X
  unfold mj_div mi_go at ho
  split at ho
  · split at ho
    · rename_i hc
      cases ho
      intro Q k H locs ls hl hP hN hS
      exact lv_idiv hx hb hd hc (k H locs ls hl hP hN hS)
    · cases ho
  · cases ho
theorem ms_irem (hd : decode (inf M).2.1 pc = .ok (.irem, 1)) : mi_snd G cl inf M pc (mj_rem (pc + 1)) := by
  intro D cA ad N p l e R s m args below meth c d X L st h o ho
  obtain ⟨hx, hb, hr, hml, hown, hts, hlk, hK, hnj, hR⟩ := X
  unfold mj_rem mi_go at ho
  split at ho
  · split at ho
    · rename_i hc
      cases ho
      intro Q k H locs ls hl hP hN hS
      exact lv_irem hx hb hd hc (k H locs ls hl hP hN hS)
    · cases ho
  · cases ho
theorem ms_lcmp (hd : decode (inf M).2.1 pc = .ok (.lcmp, 1)) : mi_snd G cl inf M pc (mj_lcmp (pc + 1)) := by
  intro D cA ad N p l e R s m args below meth c d X L st h o ho
  obtain ⟨hx, hb, hr, hml, hown, hts, hlk, hK, hnj, hR⟩ := X
  unfold mj_lcmp mi_go at ho
  split at ho
  · cases ho
    intro Q k H locs ls hl hP hN hS
    exact W.lcmp hx hb hd (k H locs ls hl hP hN hS)
  · cases ho
theorem ms_lor (hd : decode (inf M).2.1 pc = .ok (.lor, 1)) : mi_snd G cl inf M pc (mj_lbin (fun x y => x ||| y) (pc + 1)) := by
  intro D cA ad N p l e R s m args below meth c d X L st h o ho
  obtain ⟨hx, hb, hr, hml, hown, hts, hlk, hK, hnj, hR⟩ := X
  unfold mj_lbin mi_go at ho
  split at ho
  · cases ho
    intro Q k H locs ls hl hP hN hS
    exact lv_lor hx hb hd (k H locs ls hl hP hN hS)
  · cases ho
theorem ms_land (hd : decode (inf M).2.1 pc = .ok (.land, 1)) : mi_snd G cl inf M pc (mj_lbin (fun x y => x &&& y) (pc + 1)) := by
  intro D cA ad N p l e R s m args below meth c d X L st h o ho
  obtain ⟨hx, hb, hr, hml, hown, hts, hlk, hK, hnj, hR⟩ := X
  unfold mj_lbin mi_go at ho
  split at ho
  · cases ho
    intro Q k H locs ls hl hP hN hS
    exact lv_land hx hb hd (k H locs ls hl hP hN hS)
  · cases ho
theorem ms_lshl (hd : decode (inf M).2.1 pc = .ok (.lshl, 1)) : mi_snd G cl inf M pc (mj_lsh (fun x y => x <<< (y.toInt64 &&& 63)) (pc + 1)) := by
  intro D cA ad N p l e R s m args below meth c d X L st h o ho
  obtain ⟨hx, hb, hr, hml, hown, hts, hlk, hK, hnj, hR⟩ := X
  unfold mj_lsh mi_go at ho
  split at ho
  · cases ho
    intro Q k H locs ls hl hP hN hS
    exact lv_lshl hx hb hd rfl (k H locs ls hl hP hN hS)
  · cases ho
theorem ms_lshr (hd : decode (inf M).2.1 pc = .ok (.lshr, 1)) : mi_snd G cl inf M pc (mj_lsh (fun x y => x >>> (y.toInt64 &&& 63)) (pc + 1)) := by
  intro D cA ad N p l e R s m args below meth c d X L st h o ho
  obtain ⟨hx, hb, hr, hml, hown, hts, hlk, hK, hnj, hR⟩ := X
  unfold mj_lsh mi_go at ho
  split at ho
  · cases ho
    intro Q k H locs ls hl hP hN hS
    exact lv_lshr hx hb hd rfl (k H locs ls hl hP hN hS)
  · cases ho
theorem ms_lushr (hd : decode (inf M).2.1 pc = .ok (.lushr, 1)) : mi_snd G cl inf M pc (mj_lsh (fun x y => (x.toUInt64 >>> (y.toInt64.toUInt64 &&& Int64.toUInt64 63)).toInt64) (pc + 1)) := by
  intro D cA ad N p l e R s m args below meth c d X L st h o ho
  obtain ⟨hx, hb, hr, hml, hown, hts, hlk, hK, hnj, hR⟩ := X
  unfold mj_lsh mi_go at ho
  split at ho
  · cases ho
    intro Q k H locs ls hl hP hN hS
    exact lv_lushr hx hb hd rfl (k H locs ls hl hP hN hS)
  · cases ho
theorem ms_i2l (hd : decode (inf M).2.1 pc = .ok (.i2l, 1)) : mi_snd G cl inf M pc (mj_i2l (pc + 1)) := by
  intro D cA ad N p l e R s m args below meth c d X L st h o ho
  obtain ⟨hx, hb, hr, hml, hown, hts, hlk, hK, hnj, hR⟩ := X
  unfold mj_i2l mi_go at ho
  split at ho
  · cases ho
    intro Q k H locs ls hl hP hN hS
    exact lv_i2l hx hb hd rfl (k H locs ls hl hP hN hS)
  · cases ho
theorem ms_l2i (hd : decode (inf M).2.1 pc = .ok (.l2i, 1)) : mi_snd G cl inf M pc (mj_l2i (pc + 1)) := by
  intro D cA ad N p l e R s m args below meth c d X L st h o ho
  obtain ⟨hx, hb, hr, hml, hown, hts, hlk, hK, hnj, hR⟩ := X
  unfold mj_l2i mi_go at ho
  split at ho
  · cases ho
    intro Q k H locs ls hl hP hN hS
    exact lv_l2i hx hb hd rfl (k H locs ls hl hP hN hS)
  · cases ho
theorem ms_dup (hd : decode (inf M).2.1 pc = .ok (.dup, 1)) : mi_snd G cl inf M pc (mj_dup (pc + 1)) := by
  intro D cA ad N p l e R s m args below meth c d X L st h o ho
  obtain ⟨hx, hb, hr, hml, hown, hts, hlk, hK, hnj, hR⟩ := X
  unfold mj_dup mi_go at ho
  split at ho
  · split at ho
    · rename_i hc
      cases ho
      intro Q k H locs ls hl hP hN hS
      exact lv_dup hx hb hd (mi_cat hc) (k H locs ls hl hP hN hS)
    · cases ho
  · cases ho
theorem ms_pop (hd : decode (inf M).2.1 pc = .ok (.pop, 1)) : mi_snd G cl inf M pc (mj_pop (pc + 1)) := by
  intro D cA ad N p l e R s m args below meth c d X L st h o ho
  obtain ⟨hx, hb, hr, hml, hown, hts, hlk, hK, hnj, hR⟩ := X
  unfold mj_pop mi_go at ho
  split at ho
  · split at ho
    · rename_i hc
      cases ho
      intro Q k H locs ls hl hP hN hS
      exact lv_pop hx hb hd (mi_cat hc) (k H locs ls hl hP hN hS)
    · cases ho
  · cases ho
theorem ms_dup_x1 (hd : decode (inf M).2.1 pc = .ok (.dup_x1, 1)) : mi_snd G cl inf M pc (mj_dup_x1 (pc + 1)) := by
  intro D cA ad N p l e R s m args below meth c d X L st h o ho
  obtain ⟨hx, hb, hr, hml, hown, hts, hlk, hK, hnj, hR⟩ := X
  unfold mj_dup_x1 mi_go at ho
  split at ho
  · split at ho
    · rename_i hc
      cases ho
      intro Q k H locs ls hl hP hN hS
      exact lv_dup_x1 hx hb hd (mi_cat hc.1) (mi_cat hc.2) (k H locs ls hl hP hN hS)
    · cases ho
  · cases ho
theorem ms_dup_x2 (hd : decode (inf M).2.1 pc = .ok (.dup_x2, 1)) : mi_snd G cl inf M pc (mj_dup_x2 (pc + 1)) := by
  intro D cA ad N p l e R s m args below meth c d X L st h o ho
  obtain ⟨hx, hb, hr, hml, hown, hts, hlk, hK, hnj, hR⟩ := X
  unfold mj_dup_x2 mi_go at ho
  split at ho
  · split at ho
    · rename_i hc
      cases ho
      intro Q k H locs ls hl hP hN hS
      exact lv_dup_x2 hx hb hd (mi_cat hc.1) (mi_cat hc.2.1) (mi_cat hc.2.2) (k H locs ls hl hP hN hS)
    · cases ho
  · cases ho
theorem ms_dup2 (hd : decode (inf M).2.1 pc = .ok (.dup2, 1)) : mi_snd G cl inf M pc (mj_dup2 (pc + 1)) := by
  intro D cA ad N p l e R s m args below meth c d X L st h o ho
  obtain ⟨hx, hb, hr, hml, hown, hts, hlk, hK, hnj, hR⟩ := X
  unfold mj_dup2 mi_go at ho
  split at ho
  · split at ho
    · rename_i hc
      cases ho
      intro Q k H locs ls hl hP hN hS
      exact lv_dup2_11 hx hb hd (mi_cat hc.1) (mi_cat hc.2) (k H locs ls hl hP hN hS)
    · cases ho
  · cases ho
theorem ms_if_eq {off : Int} {tgt : Nat} (hd : decode (inf M).2.1 pc = .ok (.ifCond .eq off, 3)) (ht : (pc : Int) + off = (tgt : Int)) : mi_snd G cl inf M pc (mj_if (fun x => decide (x = 0)) tgt (pc + 3)) := by
  intro D cA ad N p l e R s m args below meth c d X L st h o ho
  obtain ⟨hx, hb, hr, hml, hown, hts, hlk, hK, hnj, hR⟩ := X
  unfold mj_if mi_go at ho
  split at ho
  · split at ho
    · rename_i hc
      cases ho
      intro Q k H locs ls hl hP hN hS
      exact lv_if_eq hx hb hd ht (fun _ => k H locs ls hl hP hN hS) (fun hn => absurd (of_decide_eq_true hc) hn)
    · rename_i hc
      cases ho
      intro Q k H locs ls hl hP hN hS
      exact lv_if_eq hx hb hd ht (fun hn => absurd hn (fun hn => hc (decide_eq_true hn))) (fun _ => k H locs ls hl hP hN hS)
  · cases ho
theorem ms_if_lt {off : Int} {tgt : Nat} (hd : decode (inf M).2.1 pc = .ok (.ifCond .lt off, 3)) (ht : (pc : Int) + off = (tgt : Int)) : mi_snd G cl inf M pc (mj_if (fun x => decide (x < 0)) tgt (pc + 3)) := by
  intro D cA ad N p l e R s m args below meth c d X L st h o ho
  obtain ⟨hx, hb, hr, hml, hown, hts, hlk, hK, hnj, hR⟩ := X
  unfold mj_if mi_go at ho
  split at ho
  · split at ho
    · rename_i hc
      cases ho
      intro Q k H locs ls hl hP hN hS
      exact lv_if_lt hx hb hd ht (fun _ => k H locs ls hl hP hN hS) (fun hn => absurd (of_decide_eq_true hc) hn)
    · rename_i hc
      cases ho
      intro Q k H locs ls hl hP hN hS
      exact lv_if_lt hx hb hd ht (fun hn => absurd hn (fun hn => hc (decide_eq_true hn))) (fun _ => k H locs ls hl hP hN hS)
  · cases ho
theorem ms_if_ge {off : Int} {tgt : Nat} (hd : decode (inf M).2.1 pc = .ok (.ifCond .ge off, 3)) (ht : (pc : Int) + off = (tgt : Int)) : mi_snd G cl inf M pc (mj_if (fun x => decide (0 ≤ x)) tgt (pc + 3)) := by
  intro D cA ad N p l e R s m args below meth c d X L st h o ho
  obtain ⟨hx, hb, hr, hml, hown, hts, hlk, hK, hnj, hR⟩ := X
  unfold mj_if mi_go at ho
  split at ho
  · split at ho
    · rename_i hc
      cases ho
      intro Q k H locs ls hl hP hN hS
      exact lv_if_ge hx hb hd ht (fun _ => k H locs ls hl hP hN hS) (fun hn => absurd (of_decide_eq_true hc) hn)
    · rename_i hc
      cases ho
      intro Q k H locs ls hl hP hN hS
      exact lv_if_ge hx hb hd ht (fun hn => absurd hn (fun hn => hc (decide_eq_true hn))) (fun _ => k H locs ls hl hP hN hS)
  · cases ho
theorem ms_if_gt {off : Int} {tgt : Nat} (hd : decode (inf M).2.1 pc = .ok (.ifCond .gt off, 3)) (ht : (pc : Int) + off = (tgt : Int)) : mi_snd G cl inf M pc (mj_if (fun x => decide (0 < x)) tgt (pc + 3)) := by
  intro D cA ad N p l e R s m args below meth c d X L st h o ho
  obtain ⟨hx, hb, hr, hml, hown, hts, hlk, hK, hnj, hR⟩ := X
  unfold mj_if mi_go at ho
  split at ho
  · split at ho
    · rename_i hc
      cases ho
      intro Q k H locs ls hl hP hN hS
      exact lv_if_gt hx hb hd ht (fun _ => k H locs ls hl hP hN hS) (fun hn => absurd (of_decide_eq_true hc) hn)
    · rename_i hc
      cases ho
      intro Q k H locs ls hl hP hN hS
      exact lv_if_gt hx hb hd ht (fun hn => absurd hn (fun hn => hc (decide_eq_true hn))) (fun _ => k H locs ls hl hP hN hS)
  · cases ho
theorem ms_if_le {off : Int} {tgt : Nat} (hd : decode (inf M).2.1 pc = .ok (.ifCond .le off, 3)) (ht : (pc : Int) + off = (tgt : Int)) : mi_snd G cl inf M pc (mj_if (fun x => decide (x ≤ 0)) tgt (pc + 3)) := by
  intro D cA ad N p l e R s m args below meth c d X L st h o ho
  obtain ⟨hx, hb, hr, hml, hown, hts, hlk, hK, hnj, hR⟩ := X
  unfold mj_if mi_go at ho
  split at ho
  · split at ho
    · rename_i hc
      cases ho
      intro Q k H locs ls hl hP hN hS
      exact lv_if_le hx hb hd ht (fun _ => k H locs ls hl hP hN hS) (fun hn => absurd (of_decide_eq_true hc) hn)
    · rename_i hc
      cases ho
      intro Q k H locs ls hl hP hN hS
      exact lv_if_le hx hb hd ht (fun hn => absurd hn (fun hn => hc (decide_eq_true hn))) (fun _ => k H locs ls hl hP hN hS)
  · cases ho
theorem ms_if_ne {off : Int} {tgt : Nat} (hd : decode (inf M).2.1 pc = .ok (.ifCond .ne off, 3)) (ht : (pc : Int) + off = (tgt : Int)) : mi_snd G cl inf M pc (mj_if (fun x => decide (¬ x = 0)) tgt (pc + 3)) := by
  intro D cA ad N p l e R s m args below meth c d X L st h o ho
  obtain ⟨hx, hb, hr, hml, hown, hts, hlk, hK, hnj, hR⟩ := X
  unfold mj_if mi_go at ho
  split at ho
  · split at ho
    · rename_i hc
      cases ho
      intro Q k H locs ls hl hP hN hS
      exact lv_if_ne hx hb hd ht (fun _ => k H locs ls hl hP hN hS) (fun hn => absurd hn (of_decide_eq_true hc))
    · rename_i hc
      cases ho
      intro Q k H locs ls hl hP hN hS
      exact lv_if_ne hx hb hd ht (fun hn => absurd (decide_eq_true hn) hc) (fun _ => k H locs ls hl hP hN hS)
  · cases ho
theorem ms_icmp_eq {off : Int} {tgt : Nat} (hd : decode (inf M).2.1 pc = .ok (.if_icmp .eq off, 3)) (ht : (pc : Int) + off = (tgt : Int)) : mi_snd G cl inf M pc (mj_cmp (fun x y => decide (x = y)) tgt (pc + 3)) := by
  intro D cA ad N p l e R s m args below meth c d X L st h o ho
  obtain ⟨hx, hb, hr, hml, hown, hts, hlk, hK, hnj, hR⟩ := X
  unfold mj_cmp mi_go at ho
  split at ho
  · split at ho
    · rename_i hc
      cases ho
      intro Q k H locs ls hl hP hN hS
      exact lv_icmp_eq hx hb hd ht (fun _ => k H locs ls hl hP hN hS) (fun hn => absurd (of_decide_eq_true hc) hn)
    · rename_i hc
      cases ho
      intro Q k H locs ls hl hP hN hS
      exact lv_icmp_eq hx hb hd ht (fun hn => absurd hn (fun hn => hc (decide_eq_true hn))) (fun _ => k H locs ls hl hP hN hS)
  · cases ho
theorem ms_icmp_lt {off : Int} {tgt : Nat} (hd : decode (inf M).2.1 pc = .ok (.if_icmp .lt off, 3)) (ht : (pc : Int) + off = (tgt : Int)) : mi_snd G cl inf M pc (mj_cmp (fun x y => decide (x < y)) tgt (pc + 3)) := by
  intro D cA ad N p l e R s m args below meth c d X L st h o ho
  obtain ⟨hx, hb, hr, hml, hown, hts, hlk, hK, hnj, hR⟩ := X
  unfold mj_cmp mi_go at ho
  split at ho
  · split at ho
    · rename_i hc
      cases ho
      intro Q k H locs ls hl hP hN hS
      exact lv_icmp_lt hx hb hd ht (fun _ => k H locs ls hl hP hN hS) (fun hn => absurd (of_decide_eq_true hc) hn)
    · rename_i hc
      cases ho
      intro Q k H locs ls hl hP hN hS
      exact lv_icmp_lt hx hb hd ht (fun hn => absurd hn (fun hn => hc (decide_eq_true hn))) (fun _ => k H locs ls hl hP hN hS)
  · cases ho
theorem ms_icmp_ge {off : Int} {tgt : Nat} (hd : decode (inf M).2.1 pc = .ok (.if_icmp .ge off, 3)) (ht : (pc : Int) + off = (tgt : Int)) : mi_snd G cl inf M pc (mj_cmp (fun x y => decide (y ≤ x)) tgt (pc + 3)) := by
  intro D cA ad N p l e R s m args below meth c d X L st h o ho
  obtain ⟨hx, hb, hr, hml, hown, hts, hlk, hK, hnj, hR⟩ := X
  unfold mj_cmp mi_go at ho
  split at ho
  · split at ho
    · rename_i hc
      cases ho
      intro Q k H locs ls hl hP hN hS
      exact lv_icmp_ge hx hb hd ht (fun _ => k H locs ls hl hP hN hS) (fun hn => absurd (of_decide_eq_true hc) hn)
    · rename_i hc
      cases ho
      intro Q k H locs ls hl hP hN hS
      exact lv_icmp_ge hx hb hd ht (fun hn => absurd hn (fun hn => hc (decide_eq_true hn))) (fun _ => k H locs ls hl hP hN hS)
  · cases ho
theorem ms_icmp_gt {off : Int} {tgt : Nat} (hd : decode (inf M).2.1 pc = .ok (.if_icmp .gt off, 3)) (ht : (pc : Int) + off = (tgt : Int)) : mi_snd G cl inf M pc (mj_cmp (fun x y => decide (y < x)) tgt (pc + 3)) := by
  intro D cA ad N p l e R s m args below meth c d X L st h o ho
  obtain ⟨hx, hb, hr, hml, hown, hts, hlk, hK, hnj, hR⟩ := X
  unfold mj_cmp mi_go at ho
  split at ho
  · split at ho
    · rename_i hc
      cases ho
      intro Q k H locs ls hl hP hN hS
      exact lv_icmp_gt hx hb hd ht (fun _ => k H locs ls hl hP hN hS) (fun hn => absurd (of_decide_eq_true hc) hn)
    · rename_i hc
      cases ho
      intro Q k H locs ls hl hP hN hS
      exact lv_icmp_gt hx hb hd ht (fun hn => absurd hn (fun hn => hc (decide_eq_true hn))) (fun _ => k H locs ls hl hP hN hS)
  · cases ho
theorem ms_icmp_le {off : Int} {tgt : Nat} (hd : decode (inf M).2.1 pc = .ok (.if_icmp .le off, 3)) (ht : (pc : Int) + off = (tgt : Int)) : mi_snd G cl inf M pc (mj_cmp (fun x y => decide (x ≤ y)) tgt (pc + 3)) := by
  intro D cA ad N p l e R s m args below meth c d X L st h o ho
  obtain ⟨hx, hb, hr, hml, hown, hts, hlk, hK, hnj, hR⟩ := X
  unfold mj_cmp mi_go at ho
  split at ho
  · split at ho
    · rename_i hc
      cases ho
      intro Q k H locs ls hl hP hN hS
      exact lv_icmp_le hx hb hd ht (fun _ => k H locs ls hl hP hN hS) (fun hn => absurd (of_decide_eq_true hc) hn)
    · rename_i hc
      cases ho
      intro Q k H locs ls hl hP hN hS
      exact lv_icmp_le hx hb hd ht (fun hn => absurd hn (fun hn => hc (decide_eq_true hn))) (fun _ => k H locs ls hl hP hN hS)
  · cases ho
theorem ms_icmp_ne {off : Int} {tgt : Nat} (hd : decode (inf M).2.1 pc = .ok (.if_icmp .ne off, 3)) (ht : (pc : Int) + off = (tgt : Int)) : mi_snd G cl inf M pc (mj_cmp (fun x y => decide (¬ x = y)) tgt (pc + 3)) := by
  intro D cA ad N p l e R s m args below meth c d X L st h o ho
  obtain ⟨hx, hb, hr, hml, hown, hts, hlk, hK, hnj, hR⟩ := X
  unfold mj_cmp mi_go at ho
  split at ho
  · split at ho
    · rename_i hc
      cases ho
      intro Q k H locs ls hl hP hN hS
      exact lv_icmp_ne hx hb hd ht (fun _ => k H locs ls hl hP hN hS) (fun hn => absurd hn (of_decide_eq_true hc))
    · rename_i hc
      cases ho
      intro Q k H locs ls hl hP hN hS
      exact lv_icmp_ne hx hb hd ht (fun hn => absurd (decide_eq_true hn) hc) (fun _ => k H locs ls hl hP hN hS)
  · cases ho
theorem ms_look {dflt : Int} {ps : Array (Int × Int)} {len : Nat} {f : Int32 → Nat} (hd : decode (inf M).2.1 pc = .ok (.lookupswitch dflt ps, len)) (hp : (ps.toList.zip (ps.toList.drop 1)).all (fun (a, next) => a.1 < next.1) = true) (hf : ∀ x : Int32, (pc : Int) + Op.lookupswitch.offset ps.toList dflt x.toInt = (f x : Int)) : mi_snd G cl inf M pc (mj_sw f) := by
  intro D cA ad N p l e R s m args below meth c d X L st h o ho
  obtain ⟨hx, hb, hr, hml, hown, hts, hlk, hK, hnj, hR⟩ := X
  unfold mj_sw mi_go at ho
  split at ho
  · rename_i x r
    cases ho
    intro Q k H locs ls hl hP hN hS
    exact lv_lookup hx hb hd hp rfl (hf x) (k H locs ls hl hP hN hS)
  · cases ho
theorem ms_table {dflt lo hi : Int} {offs : Array Int} {len td : Nat} {ts : List Nat} (hd : decode (inf M).2.1 pc = .ok (.tableswitch dflt lo hi offs, len)) (hdf : (pc : Int) + dflt = (td : Int)) (hof : offs.toList.map (fun z => (pc : Int) + z) = ts.map (fun (z : Nat) => (z : Int))) (hhi : hi = lo + ts.length - 1) : mi_snd G cl inf M pc (mj_sw (mi_tab lo ts td)) := by
  intro D cA ad N p l e R s m args below meth c d X L st h o ho
  obtain ⟨hx, hb, hr, hml, hown, hts, hlk, hK, hnj, hR⟩ := X
  unfold mj_sw mi_go at ho
  split at ho
  · rename_i x r
    cases ho
    intro Q k H locs ls hl hP hN hS
    have k := k H locs ls hl hP hN hS
    dsimp only at k
    unfold mi_tab at k
    have hlen : offs.size = ts.length := by
      have := congrArg List.length hof
      simpa using this
    by_cases h1 : x.toInt < lo
    · rw [if_pos h1] at k
      exact lv_tableOut hx hb hd (Or.inl h1) hdf k
    · rw [if_neg h1, List.getD_eq_getElem?_getD] at k
      by_cases h2 : (x.toInt - lo).toNat < ts.length
      · rw [List.getElem?_eq_getElem h2, Option.getD_some] at k
        have h3 : (x.toInt - lo).toNat < offs.size := by omega
        have h4 := congrArg (fun l => l[(x.toInt - lo).toNat]?) hof
        simp only [List.getElem?_map, List.getElem?_eq_getElem h2, Option.map_some] at h4
        rw [Array.getElem?_toList, Array.getElem?_eq_getElem h3, Option.map_some, Option.some.injEq] at h4
        exact lv_tableIn hx hb hd h1 (by omega) (Array.getElem?_eq_getElem h3) h4 k
      · rw [List.getElem?_eq_none (by omega), Option.getD_none] at k
        exact lv_tableOut hx hb hd (Or.inr (by omega)) hdf k
  · cases ho
theorem ms_get {C : String} {T : u_T} {Nf ci k index : Nat} (hd : decode (inf M).2.1 pc = .ok (.getfield index, 3)) (hc : cl[ci]? = some (C, T, Nf)) (hin : ∀ w ∈ u_ws C T Nf, w ∈ G) (hk : k < Nf) (hw : Cond.fieldLink (inf M).1.cls index (T k).1 (T k).2.1 (T k).2.2.1 ∈ G) : mi_snd G cl inf M pc (mj_get ci k (pc + 3)) := by
  intro D cA ad N p l e R s m args below meth c d X L st h o ho
  obtain ⟨hx, hb, hr, hml, hown, hts, hlk, hK, hnj, hR⟩ := X
  unfold mj_get mi_go at ho
  split at ho
  · rename_i q r
    obtain ⟨ob, hob, ho⟩ := Option.bind_eq_some_iff.mp ho
    obtain ⟨v, hv, ho⟩ := Option.bind_eq_some_iff.mp ho
    split at ho
    · rename_i hci
      cases ho
      intro Q kk H locs ls hl hP hN hS
      subst hci
      exact va_get (D := D) hx hb hts hin hown hK hP q (mi_w_at (mi_ob_iff.mp hob)) hc k hk (hts _ hw) (fun _ h9 => h9) (by rw [List.getElem?_map, hv]; rfl) hd (kk H locs ls hl hP hN hS)
    · cases ho
  · cases ho
theorem ms_putI {C : String} {T : u_T} {Nf ci k index : Nat} {ty0 : Nat → FieldType} (hd : decode (inf M).2.1 pc = .ok (.putfield index, 3)) (hc : cl[ci]? = some (C, T, Nf)) (hin : ∀ w ∈ u_ws C T Nf, w ∈ G) (hty : ∀ k, k < Nf → parseFieldDescriptor (T k).2.2.1 = some (ty0 k)) (hnm : ∀ a, a < Nf → ∀ b, b < Nf → a ≠ b → (T a).2.1 ≠ (T b).2.1) (hk : k < Nf) (hw : Cond.fieldLink (inf M).1.cls index (T k).1 (T k).2.1 (T k).2.2.1 ∈ G) (hfin : (T k).2.2.2 = false) (hft : parseFieldDescriptor (T k).2.2.1 = some .int) : mi_snd G cl inf M pc (mj_putI ci k (pc + 3)) := by
  intro D cA ad N p l e R s m args below meth c d X L st h o ho
  obtain ⟨hx, hb, hr, hml, hown, hts, hlk, hK, hnj, hR⟩ := X
  unfold mj_putI mi_go at ho
  split at ho
  · rename_i x q r
    obtain ⟨ob, hob, ho⟩ := Option.bind_eq_some_iff.mp ho
    split at ho
    · rename_i hcc
      cases ho
      intro Q kk H locs ls hl hP hN hS
      have hlen : k < ob.2.length := hcc.2
      have hci : ob.1 = ci := hcc.1
      subst hci
      refine va_put (D := D) (v := .int x) (ty := .int) hx hb hts hin ty0 hty hnm hown hK hP (mi_D hnj hN) hS q (mi_w_at (mi_ob_iff.mp hob)) hc k hk (hts _ hw) (fun _ h9 => h9) hfin hft rfl rfl (by simpa using hlen) hd (fun H1 locs1 hP1 hD1 hS1 => ?_)
      refine kk H1 locs1 ls hl (mi_put (c := .inl (ob.1, ob.2.set k (.inl x))) hP1 ?_) (by rw [List.length_set]; exact hN) hS1
      show _ = (ad q, Sum.inr (ob.1, (ob.2.set k (.inl x)).map (mi_cv ad)))
      rw [List.map_set]
      rfl
    · cases ho
  · cases ho
theorem ms_putZ {C : String} {T : u_T} {Nf ci k index : Nat} {ty0 : Nat → FieldType} (hd : decode (inf M).2.1 pc = .ok (.putfield index, 3)) (hc : cl[ci]? = some (C, T, Nf)) (hin : ∀ w ∈ u_ws C T Nf, w ∈ G) (hty : ∀ k, k < Nf → parseFieldDescriptor (T k).2.2.1 = some (ty0 k)) (hnm : ∀ a, a < Nf → ∀ b, b < Nf → a ≠ b → (T a).2.1 ≠ (T b).2.1) (hk : k < Nf) (hw : Cond.fieldLink (inf M).1.cls index (T k).1 (T k).2.1 (T k).2.2.1 ∈ G) (hfin : (T k).2.2.2 = false) (hft : parseFieldDescriptor (T k).2.2.1 = some .boolean) : mi_snd G cl inf M pc (mj_putZ ci k (pc + 3)) := by
  intro D cA ad N p l e R s m args below meth c d X L st h o ho
  obtain ⟨hx, hb, hr, hml, hown, hts, hlk, hK, hnj, hR⟩ := X
  unfold mj_putZ mi_go at ho
  split at ho
  · rename_i x q r
    obtain ⟨ob, hob, ho⟩ := Option.bind_eq_some_iff.mp ho
    split at ho
    · rename_i hcc
      cases ho
      intro Q kk H locs ls hl hP hN hS
      have hlen : k < ob.2.length := hcc.2.1
      have hci : ob.1 = ci := hcc.1
      subst hci
      refine va_put (D := D) (v := .int x) (ty := .boolean) hx hb hts hin ty0 hty hnm hown hK hP (mi_D hnj hN) hS q (mi_w_at (mi_ob_iff.mp hob)) hc k hk (hts _ hw) (fun _ h9 => h9) hfin hft (by rcases hcc.2.2 with e9 | e9 <;> rw [e9] <;> rfl) (by rcases hcc.2.2 with e9 | e9 <;> rw [e9] <;> rfl) (by simpa using hlen) hd (fun H1 locs1 hP1 hD1 hS1 => ?_)
      refine kk H1 locs1 ls hl (mi_put (c := .inl (ob.1, ob.2.set k (.inl x))) hP1 ?_) (by rw [List.length_set]; exact hN) hS1
      show _ = (ad q, Sum.inr (ob.1, (ob.2.set k (.inl x)).map (mi_cv ad)))
      rw [List.map_set]
      rfl
    · cases ho
  · cases ho
theorem ms_getN {C host : String} {T : u_T} {Nf ci k index : Nat} (hd : decode (inf M).2.1 pc = .ok (.getfield index, 3)) (hc : cl[ci]? = some (C, T, Nf)) (hin : ∀ w ∈ u_ws C T Nf, w ∈ G) (hk : k < Nf) (hw : Cond.fieldLinkNest (inf M).1.cls index (T k).1 (T k).2.1 (T k).2.2.1 host ∈ G) : mi_snd G cl inf M pc (mj_get ci k (pc + 3)) := by
  intro D cA ad N p l e R s m args below meth c d X L st h o ho
  obtain ⟨hx, hb, hr, hml, hown, hts, hlk, hK, hnj, hR⟩ := X
  unfold mj_get mi_go at ho
  split at ho
  · rename_i q r
    obtain ⟨ob, hob, ho⟩ := Option.bind_eq_some_iff.mp ho
    obtain ⟨v, hv, ho⟩ := Option.bind_eq_some_iff.mp ho
    split at ho
    · rename_i hci
      cases ho
      intro Q kk H locs ls hl hP hN hS
      subst hci
      exact va_getN (D := D) hx hb hts hin hown hK hP q (mi_w_at (mi_ob_iff.mp hob)) hc k hk (hts _ hw) (fun _ h9 => h9) (by rw [List.getElem?_map, hv]; rfl) hd (kk H locs ls hl hP hN hS)
    · cases ho
  · cases ho
theorem ms_putNI {C host : String} {T : u_T} {Nf ci k index : Nat} {ty0 : Nat → FieldType} (hd : decode (inf M).2.1 pc = .ok (.putfield index, 3)) (hc : cl[ci]? = some (C, T, Nf)) (hin : ∀ w ∈ u_ws C T Nf, w ∈ G) (hty : ∀ k, k < Nf → parseFieldDescriptor (T k).2.2.1 = some (ty0 k)) (hnm : ∀ a, a < Nf → ∀ b, b < Nf → a ≠ b → (T a).2.1 ≠ (T b).2.1) (hk : k < Nf) (hw : Cond.fieldLinkNest (inf M).1.cls index (T k).1 (T k).2.1 (T k).2.2.1 host ∈ G) (hfin : (T k).2.2.2 = false) (hft : parseFieldDescriptor (T k).2.2.1 = some .int) : mi_snd G cl inf M pc (mj_putI ci k (pc + 3)) := by
  intro D cA ad N p l e R s m args below meth c d X L st h o ho
  obtain ⟨hx, hb, hr, hml, hown, hts, hlk, hK, hnj, hR⟩ := X
  unfold mj_putI mi_go at ho
  split at ho
  · rename_i x q r
    obtain ⟨ob, hob, ho⟩ := Option.bind_eq_some_iff.mp ho
    split at ho
    · rename_i hcc
      cases ho
      intro Q kk H locs ls hl hP hN hS
      have hlen : k < ob.2.length := hcc.2
      have hci : ob.1 = ci := hcc.1
      subst hci
      refine va_putN (D := D) (v := .int x) (ty := .int) hx hb hts hin ty0 hty hnm hown hK hP (mi_D hnj hN) hS q (mi_w_at (mi_ob_iff.mp hob)) hc k hk (hts _ hw) (fun _ h9 => h9) hfin hft rfl rfl (by simpa using hlen) hd (fun H1 locs1 hP1 hD1 hS1 => ?_)
      refine kk H1 locs1 ls hl (mi_put (c := .inl (ob.1, ob.2.set k (.inl x))) hP1 ?_) (by rw [List.length_set]; exact hN) hS1
      show _ = (ad q, Sum.inr (ob.1, (ob.2.set k (.inl x)).map (mi_cv ad)))
      rw [List.map_set]
      rfl
    · cases ho
  · cases ho
theorem ms_putNZ {C host : String} {T : u_T} {Nf ci k index : Nat} {ty0 : Nat → FieldType} (hd : decode (inf M).2.1 pc = .ok (.putfield index, 3)) (hc : cl[ci]? = some (C, T, Nf)) (hin : ∀ w ∈ u_ws C T Nf, w ∈ G) (hty : ∀ k, k < Nf → parseFieldDescriptor (T k).2.2.1 = some (ty0 k)) (hnm : ∀ a, a < Nf → ∀ b, b < Nf → a ≠ b → (T a).2.1 ≠ (T b).2.1) (hk : k < Nf) (hw : Cond.fieldLinkNest (inf M).1.cls index (T k).1 (T k).2.1 (T k).2.2.1 host ∈ G) (hfin : (T k).2.2.2 = false) (hft : parseFieldDescriptor (T k).2.2.1 = some .boolean) : mi_snd G cl inf M pc (mj_putZ ci k (pc + 3)) := by
  intro D cA ad N p l e R s m args below meth c d X L st h o ho
  obtain ⟨hx, hb, hr, hml, hown, hts, hlk, hK, hnj, hR⟩ := X
  unfold mj_putZ mi_go at ho
  split at ho
  · rename_i x q r
    obtain ⟨ob, hob, ho⟩ := Option.bind_eq_some_iff.mp ho
    split at ho
    · rename_i hcc
      cases ho
      intro Q kk H locs ls hl hP hN hS
      have hlen : k < ob.2.length := hcc.2.1
      have hci : ob.1 = ci := hcc.1
      subst hci
      refine va_putN (D := D) (v := .int x) (ty := .boolean) hx hb hts hin ty0 hty hnm hown hK hP (mi_D hnj hN) hS q (mi_w_at (mi_ob_iff.mp hob)) hc k hk (hts _ hw) (fun _ h9 => h9) hfin hft (by rcases hcc.2.2 with e9 | e9 <;> rw [e9] <;> rfl) (by rcases hcc.2.2 with e9 | e9 <;> rw [e9] <;> rfl) (by simpa using hlen) hd (fun H1 locs1 hP1 hD1 hS1 => ?_)
      refine kk H1 locs1 ls hl (mi_put (c := .inl (ob.1, ob.2.set k (.inl x))) hP1 ?_) (by rw [List.length_set]; exact hN) hS1
      show _ = (ad q, Sum.inr (ob.1, (ob.2.set k (.inl x)).map (mi_cv ad)))
      rw [List.map_set]
      rfl
    · cases ho
  · cases ho
theorem ms_ald0 (hd : decode (inf M).2.1 pc = .ok (.iaload, 1)) : mi_snd G cl inf M pc (mj_ald 0 (pc + 1)) := by
  intro D cA ad N p l e R s m args below meth c d X L st h o ho
  obtain ⟨hx, hb, hr, hml, hown, hts, hlk, hK, hnj, hR⟩ := X
  unfold mj_ald mi_go at ho
  split at ho
  · rename_i i q r
    obtain ⟨a, ha, ho⟩ := Option.bind_eq_some_iff.mp ho
    split at ho
    · rename_i hcc
      cases ho
      intro Q kk H locs ls hl hP hN hS
      obtain ⟨t, n, f⟩ := a
      obtain ⟨ht, hi⟩ := hcc
      dsimp only at ht hi
      subst ht
      exact va_iald (D := D) hx hb hK hP q 0 (mi_w_at (mi_ar_iff.mp ha)) rfl (mi_vin hi) hd (kk H locs ls hl hP hN hS)
    · cases ho
  · cases ho
theorem ms_ald1 (hd : decode (inf M).2.1 pc = .ok (.baload, 1)) : mi_snd G cl inf M pc (mj_ald 1 (pc + 1)) := by
  intro D cA ad N p l e R s m args below meth c d X L st h o ho
  obtain ⟨hx, hb, hr, hml, hown, hts, hlk, hK, hnj, hR⟩ := X
  unfold mj_ald mi_go at ho
  split at ho
  · rename_i i q r
    obtain ⟨a, ha, ho⟩ := Option.bind_eq_some_iff.mp ho
    split at ho
    · rename_i hcc
      cases ho
      intro Q kk H locs ls hl hP hN hS
      obtain ⟨t, n, f⟩ := a
      obtain ⟨ht, hi⟩ := hcc
      dsimp only at ht hi
      subst ht
      exact va_bald (D := D) hx hb hK hP q 1 (mi_w_at (mi_ar_iff.mp ha)) rfl (mi_vin hi) hd (kk H locs ls hl hP hN hS)
    · cases ho
  · cases ho
theorem ms_iast (hd : decode (inf M).2.1 pc = .ok (.iastore, 1)) : mi_snd G cl inf M pc (mj_iast (pc + 1)) := by
  intro D cA ad N p l e R s m args below meth c d X L st h o ho
  obtain ⟨hx, hb, hr, hml, hown, hts, hlk, hK, hnj, hR⟩ := X
  unfold mj_iast mi_go at ho
  split at ho
  · rename_i x i q r
    obtain ⟨a, ha, ho⟩ := Option.bind_eq_some_iff.mp ho
    split at ho
    · rename_i hcc
      cases ho
      intro Q kk H locs ls hl hP hN hS
      obtain ⟨t, n, f⟩ := a
      obtain ⟨ht, hi⟩ := hcc
      dsimp only at ht hi
      subst ht
      refine va_iast (D := D) hx hb hK hP (mi_D hnj hN) hS q 0 (mi_w_at (mi_ar_iff.mp ha)) rfl (mi_vin hi) hd (fun H1 locs1 hP1 hD1 hS1 => ?_)
      exact kk H1 locs1 ls hl (mi_put (c := .inr (.inl (0, n, upd f i.toNatClampNeg x))) hP1 rfl) (by rw [List.length_set]; exact hN) hS1
    · cases ho
  · cases ho
theorem ms_bast (hd : decode (inf M).2.1 pc = .ok (.bastore, 1)) : mi_snd G cl inf M pc (mj_bast (pc + 1)) := by
  intro D cA ad N p l e R s m args below meth c d X L st h o ho
  obtain ⟨hx, hb, hr, hml, hown, hts, hlk, hK, hnj, hR⟩ := X
  unfold mj_bast mi_go at ho
  split at ho
  · rename_i x i q r
    obtain ⟨a, ha, ho⟩ := Option.bind_eq_some_iff.mp ho
    split at ho
    · rename_i hcc
      cases ho
      intro Q kk H locs ls hl hP hN hS
      obtain ⟨t, n, f⟩ := a
      obtain ⟨ht, hi⟩ := hcc
      dsimp only at ht hi
      subst ht
      refine va_bast (D := D) hx hb hK hP (mi_D hnj hN) hS q 1 (mi_w_at (mi_ar_iff.mp ha)) rfl (mi_vin hi) hd (fun H1 locs1 hP1 hD1 hS1 => ?_)
      exact kk H1 locs1 ls hl (mi_put (c := .inr (.inl (1, n, upd f i.toNatClampNeg (vp_nar .byte x)))) hP1 rfl) (by rw [List.length_set]; exact hN) hS1
    · cases ho
  · cases ho
theorem ms_aald (hd : decode (inf M).2.1 pc = .ok (.aaload, 1)) : mi_snd G cl inf M pc (mj_aald (pc + 1)) := by
  intro D cA ad N p l e R s m args below meth c d X L st h o ho
  obtain ⟨hx, hb, hr, hml, hown, hts, hlk, hK, hnj, hR⟩ := X
  unfold mj_aald mi_go at ho
  split at ho
  · rename_i i q r
    obtain ⟨a, ha, ho⟩ := Option.bind_eq_some_iff.mp ho
    split at ho
    · rename_i hcc
      cases ho
      intro Q kk H locs ls hl hP hN hS
      obtain ⟨t, n, f⟩ := a
      obtain ⟨ht, hi⟩ := hcc
      dsimp only at ht hi
      subst ht
      have hin := mi_vin hi
      have hlt : i.toNatClampNeg < n := Nat.not_le.mp fun q => hin (Or.inr q)
      refine W.aald (v := va_rf ((f i.toNatClampNeg).map ad)) (ty := .array .int) hx hb (hP q _ (mi_w_at (mi_rr_iff.mp ha))) ((hK.2 2 _ rfl).1 n (fun j => va_rf ((f j).map ad))) rfl (fun q => by cases q) (by show ¬ (i < 0 ∨ (arrV _ _ _).slots.size ≤ _); rw [arrV_size]; exact hin) (by show (arrV _ _ _).slots[_]? = _; rw [arrV_read _ _ hlt]) rfl rfl hd ?_
      have h9 := kk H locs ls hl hP hN hS
      dsimp only at h9
      rw [List.map_cons] at h9
      have e9 : mi_cv ad (.inr (.inr (f i.toNatClampNeg))) = va_rf ((f i.toNatClampNeg).map ad) := by
        cases f i.toNatClampNeg <;> rfl
      rw [e9] at h9
      exact h9
    · cases ho
  · cases ho
theorem ms_alen (hd : decode (inf M).2.1 pc = .ok (.arraylength, 1)) : mi_snd G cl inf M pc (mj_alen (pc + 1)) := by
  intro D cA ad N p l e R s m args below meth c d X L st h o ho
  obtain ⟨hx, hb, hr, hml, hown, hts, hlk, hK, hnj, hR⟩ := X
  unfold mj_alen mi_go at ho
  split at ho
  · rename_i q r
    obtain ⟨a, ha, ho⟩ := Option.bind_eq_some_iff.mp ho
    split at ho
    · rename_i hcc
      cases ho
      intro Q kk H locs ls hl hP hN hS
      obtain ⟨t, n, f⟩ := a
      dsimp only at hcc
      subst hcc
      exact va_alen (D := D) hx hb hK hP q 0 (mi_w_at (mi_ar_iff.mp ha)) (ty := .int) rfl rfl hd (kk H locs ls hl hP hN hS)
    · cases ho
  · cases ho
theorem ms_copy {index : Nat} (hd : decode (inf M).2.1 pc = .ok (.invokestatic index, 3)) (h1 : Cond.methodLink (inf M).1.cls index arraycopyName ∈ G) (h2 : Cond.native arraycopyName ∈ G) (h3 : Cond.static arraycopyName ∈ G) (h4 : Cond.initialized "java/lang/System" ∈ G) : mi_snd G cl inf M pc (mj_copy (pc + 3)) := by
  intro D cA ad N p l e R s m args below meth c d X L st h o ho
  obtain ⟨hx, hb, hr, hml, hown, hts, hlk, hK, hnj, hR⟩ := X
  unfold mj_copy mi_go at ho
  split at ho
  · rename_i n dp q1 sp q0
    split at ho
    · cases ho
    · rename_i hd0
      obtain ⟨a, ha, ho⟩ := Option.bind_eq_some_iff.mp ho
      obtain ⟨b, hb0, ho⟩ := Option.bind_eq_some_iff.mp ho
      split at ho
      · rename_i hcc
        cases ho
        intro Q kk H locs ls hl hP hN hS
        obtain ⟨t, n0, f⟩ := a
        obtain ⟨t', n1, g⟩ := b
        obtain ⟨ht, ht', c1, c2, c3, c4, c5⟩ := hcc
        dsimp only at ht ht' c4 c5
        subst ht; subst ht'; subst hR
        refine va_copyi (D := D) hx hb (hml.trans hl.2.1.symm) hown (hts _ h1) (hts _ h2) (hts _ h3) (hts _ h4) hK hP (mi_D hnj hN) hS q0 q1 0 0 (mi_w_at (mi_ar_iff.mp ha)) (mi_w_at (mi_ar_iff.mp hb0)) (ty := .int) rfl rfl rfl c1 c2 c3 c4 c5 (fun _ _ => rfl) (Nat.pos_of_ne_zero hd0) ?_ hd (fun H1 locs1 hP1 hD1 hS1 => ?_)
        · have : nativeFrameWords "java/lang/System" "arraycopy" 5 + 11 ≤ 64 := by decide
          show (0 : Nat) + _ ≤ 64 * d
          omega
        · exact kk H1 locs1 ls hl (mi_put (c := .inr (.inl (0, n1, va_cpy f g sp.toNatClampNeg dp.toNatClampNeg n.toNatClampNeg))) hP1 rfl) (by rw [List.length_set]; exact hN) hS1
      · cases ho
  · cases ho
theorem ms_ret (hd : decode (inf M).2.1 pc = .ok (.return_, 1)) (hrt : (inf M).2.2.2 = none) : mi_snd G cl inf M pc (mj_ret) := by
  intro D cA ad N p l e R s m args below meth c d X L st h o ho
  obtain ⟨hx, hb, hr, hml, hown, hts, hlk, hK, hnj, hR⟩ := X
  unfold mj_ret at ho
  split at ho
  · cases ho
    intro H locs ls hl hP hN hS
    exact W.vret hx hb (hr.trans hrt) (fun t ht hW => ⟨⟨rfl, hN, by rw [ht]; exact hP, va_K.moved hW.alike hK⟩, hS.F ht⟩) hS.2.2 hd hlk
  · cases ho
theorem ms_iret (hd : decode (inf M).2.1 pc = .ok (.ireturn, 1)) (hrt : (inf M).2.2.2 = some .int) : mi_snd G cl inf M pc (mj_iret) := by
  intro D cA ad N p l e R s m args below meth c d X L st h o ho
  obtain ⟨hx, hb, hr, hml, hown, hts, hlk, hK, hnj, hR⟩ := X
  unfold mj_iret at ho
  split at ho
  · cases ho
    intro H locs ls hl hP hN hS
    exact W.iret hx hb (hr.trans hrt) (fun t ht hW => ⟨⟨rfl, hN, by rw [ht]; exact hP, va_K.moved hW.alike hK⟩, hS.F ht⟩) hS.2.2 hd hlk
  · cases ho
theorem ms_zret (hd : decode (inf M).2.1 pc = .ok (.ireturn, 1)) (hrt : (inf M).2.2.2 = some .boolean) : mi_snd G cl inf M pc (mj_zret) := by
  intro D cA ad N p l e R s m args below meth c d X L st h o ho
  obtain ⟨hx, hb, hr, hml, hown, hts, hlk, hK, hnj, hR⟩ := X
  unfold mj_zret at ho
  split at ho
  · split at ho
    · rename_i hc
      cases ho
      intro H locs ls hl hP hN hS
      exact W.zret hx hb (hr.trans hrt) (by rcases hc with e9 | e9 <;> rw [e9] <;> rfl) (fun t ht hW => ⟨⟨rfl, hN, by rw [ht]; exact hP, va_K.moved hW.alike hK⟩, hS.F ht⟩) hS.2.2 hd hlk
    · cases ho
  · cases ho
end mi_sound1
section mi_sound2
variable {G : List Cond} {cl : List vw_C} {inf : Nat → mi_M} {M pc : Nat}
theorem mi_good {y : mi_M} (hc : Cond.code y.1 y.2.1 y.2.2.1 y.2.2.2 ∈ G) : GoodIn G (mi_ws G y) := by
  intro w hw
  rcases List.mem_cons.mp hw with rfl | hw
  · exact ⟨hc, good_of_word rfl⟩
  · exact ⟨(List.mem_filter.mp hw).1, good_of_word (List.mem_filter.mp hw).2⟩
/-- behind a call -/
theorem mi_back {D : va_G} {cA : Nat → ClassId} {ad : Nat → Nat} {N : Nat} {p : Program} {l : Launch} {e : Env} {R : Room} {s : State} {m : MethodId} {args a : Array Value} {below : List Frame} {meth : Method} {c : Code} {H : Heap} {locs : List Loc} {Q : State → Prop} {pc : Nat} {ls : Array Slot} {st0 rest : List Value} {v : Option mi_V} {h1 : mi_H} {A0 A1 free : Nat → Prop} {cells slots : Nat}
    (hr : va_Run p l e R s m args below meth c H locs cells slots 0 0 (F0 m pc ls st0) rest (mi_Q cl D cA ad N v h1 A1 a) free) (hS : va_S A0 s.heap H locs) (hA : ∀ q, q < H.size → A1 q → A0 q) (hf : ∀ q, free q → A0 q)
    (kk : ∀ (H1 : Heap) (locs1 : List Loc), va_P D cl (mi_w ad cA h1) H1 → h1.length = N → va_S A0 s.heap H1 locs1 → W p l e R s m args below meth c H1 locs1 cells slots Q (F0 m (pc + 3) ls ((v.map (mi_cv ad)).toList ++ rest))) : W p l e R s m args below meth c H locs cells slots Q (F0 m pc ls st0) := by
  intro T hT X
  obtain ⟨v', st₀, t, T', L, h0, X', hL, e1, e2, ⟨⟨hv, hn, hp, hk0⟩, hz, hk⟩, st⟩ := hr T hT X
  cases hv
  rw [h0] at hz hk
  obtain ⟨t2, a1, b1⟩ := kk T'.heap (locs ++ L) (by rw [e1]; exact hp) hn
    ⟨Nat.le_trans hS.1 (by rw [e1]; exact hz), fun q h1 h2 => by rw [e1, hk q (Nat.lt_of_lt_of_le h1 hS.1) (fun z => h2 (hA q (Nat.lt_of_lt_of_le h1 hS.1) z))]; exact hS.2.1 q h1 h2, fun q hq => by
      rcases List.mem_append.mp hq with h | h
      · exact hS.2.2 q h
      · exact hf _ (hL q h)⟩ T' rfl X'
  exact ⟨t2, st t2 a1, b1⟩
theorem mi_blind {D : va_G} {cA : Nat → ClassId} {ad : Nat → Nat} {vs : mi_S} {h : mi_H} {sz : Nat} : FrameBlind (mi_Pc G cl D cA ad vs h sz) := by
  intro a U g mk q
  obtain ⟨q0, q1, qP, qK, qN⟩ := q
  exact ⟨q0, q1, qP, va_K.moved (u := U) (U := U.calling g mk a) (Vm.Alike.refl U.vm) qK, fun w hw hn => va_Nw.same (u := U) (U := U.calling g mk a) (mi_ot hn) rfl (qN w hw hn)⟩
theorem mi_tail {ad : Nat → Nat} (v : Option mi_V) (r : mi_S) : (v.toList ++ r).map (mi_cv ad) = (v.map (mi_cv ad)).toList ++ r.map (mi_cv ad) := by
  cases v <;> simp
theorem mi_Aw {ad : Nat → Nat} {N a b q : Nat} (h : a ≤ b) (x : mi_A ad N b q) : mi_A ad N a q := by
  rcases x with x | x
  · exact Or.inl x
  · exact Or.inr (Nat.le_trans h x)

theorem ms_callS {M' n mx index : Nat} (hcode : Cond.code (inf M').1 (inf M').2.1 (inf M').2.2.1 (inf M').2.2.2 ∈ G) (hd : decode (inf M).2.1 pc = .ok (.invokestatic index, 3)) (hw : Cond.methodLink (inf M).1.cls index (inf M').1 ∈ G) (hst : Cond.static (inf M').1 ∈ G) (hini : Cond.initialized (inf M').1.cls ∈ G) (hy : (inf M').1.cls ≠ "java/lang/invoke/MethodHandle" ∧ (inf M').1.cls ≠ "java/lang/invoke/VarHandle" ∧ (parseMethodDescriptor (inf M').1.desc).map (fun d => d.parameters.length) = some n) (hmx : (inf M').2.2.1 = mx) (hm45 : mx ≤ 45) : mi_snd G cl inf M pc (mj_callS M' n mx (pc + 3)) := by
  intro D cA ad N p l e R s m args below meth c d X L st h o ho
  obtain ⟨hx, hb, hr, hml, hown, hts, hlk, hK, hnj, hR⟩ := X
  unfold mj_callS at ho
  split at ho
  · rename_i hcc
    obtain ⟨g1, g2, g3, g4⟩ := hcc
    cases ho
    refine ⟨⟨by rw [List.all_reverse]; exact g3, by show (st.take n).reverse.length ≤ (inf M').2.2.1; rw [hmx, List.length_reverse, List.length_take]; omega⟩, ?_⟩
    intro Q d' v h1 hdd hmet k H locs ls hl hP hN hS
    subst hdd; subst hR
    have hrr : (mi_rm d').frames + 1 ≤ (mi_rm (d' + 1)).frames ∧ 8 + ((inf M').2.2.1 + 11) + (mi_rm d').locals ≤ (mi_rm (d' + 1)).locals := ⟨Nat.le_refl _, by show 8 + (_ + 11) + 64 * d' ≤ 64 * (d' + 1); omega⟩
    have hp : PreS s H (mi_Pc G cl D cA ad (st.take n).reverse h H.size) ((st.take n).reverse.map (mi_cv ad)) := ⟨mi_blind, fun U hU hW => ⟨rfl, by rw [hU], by rw [hU]; exact hP, va_K.moved hW.alike hK, mi_wm hts hW⟩⟩
    refine mi_back (va_runS (As := (st.take n).reverse.map (mi_cv ad)) (rest := (st.drop n).map (mi_cv ad)) ⟨hx, hb, hml, hown, hts⟩ (hmet hN H.size) ⟨callB_of n hts (mi_good hcode) rfl rfl rfl (hts _ hini) (hts _ hw) hy hrr, hts _ hst⟩ hp rfl (by simp [Nat.min_eq_left g1]) hl.2.1 (by show st.map (mi_cv ad) = _; rw [← List.map_reverse, List.reverse_reverse, ← List.map_append, List.take_append_drop]) (lv_room (by have := mi_cats (ad := ad) (st.drop n); omega)) hd ⟨Nat.le_refl _, Nat.le_refl _⟩) hS (fun q _ hq => mi_Aw hS.1 hq) (fun q hq => mi_Aw hS.1 hq) (fun H1 locs1 hP1 hN1 hS1 => ?_)
    rw [← mi_tail]
    exact k H1 locs1 ls hl hP1 hN1 hS1
  · cases ho
theorem ms_callV {M' n mx index ci : Nat} (hcode : Cond.code (inf M').1 (inf M').2.1 (inf M').2.2.1 (inf M').2.2.2 ∈ G) (hd : decode (inf M).2.1 pc = .ok (.invokevirtual index, 3)) (hw : Cond.methodLink (inf M).1.cls index (inf M').1 ∈ G) (hst : Cond.instanceMethod (inf M').1 ∈ G) {C : String} {T : u_T} {Nf : Nat} (hc : cl[ci]? = some (C, T, Nf)) (hsel : Cond.selects C (inf M').1 (inf M').1 ∈ G) (hini : Cond.initialized (inf M').1.cls ∈ G) (hy : (inf M').1.cls ≠ "java/lang/invoke/MethodHandle" ∧ (inf M').1.cls ≠ "java/lang/invoke/VarHandle" ∧ (parseMethodDescriptor (inf M').1.desc).map (fun d => d.parameters.length) = some n) (hmx : (inf M').2.2.1 = mx) (hm45 : mx ≤ 45) : mi_snd G cl inf M pc (mj_callV ci M' n mx (pc + 3)) := by
  intro D cA ad N p l e R s m args below meth c d X L st h o ho
  obtain ⟨hx, hb, hr, hml, hown, hts, hlk, hK, hnj, hR⟩ := X
  unfold mj_callV at ho
  split at ho
  · rename_i q r hdr
    obtain ⟨ob, hob, ho⟩ := Option.bind_eq_some_iff.mp ho
    split at ho
    · rename_i hcc
      obtain ⟨g2, g3, g4⟩ := hcc
      split at ho
      · rename_i g1
        cases ho
        subst g1
        refine ⟨⟨by show (true && (st.take n).reverse.all mi_c1) = true; rw [List.all_reverse, g3]; rfl, by show ((st.take n).reverse.length + 1) ≤ (inf M').2.2.1; rw [hmx, List.length_reverse, List.length_take]; omega⟩, ?_⟩
        intro Q d' v h1 hdd hmet k H locs ls hl hP hN hS
        subst hdd; subst hR
        have hrr : (mi_rm d').frames + 1 ≤ (mi_rm (d' + 1)).frames ∧ 8 + ((inf M').2.2.1 + 11) + (mi_rm d').locals ≤ (mi_rm (d' + 1)).locals := ⟨Nat.le_refl _, by show 8 + (_ + 11) + 64 * d' ≤ 64 * (d' + 1); omega⟩
        have g1 : n ≤ st.length := by
          have := congrArg List.length hdr
          simp at this
          omega
        have hp : PreV s H C (ad q) (mi_Pc G cl D cA ad (.inr (.inr (some q)) :: (st.take n).reverse) h H.size) ((st.take n).reverse.map (mi_cv ad)) := ⟨mi_blind, va_recv hK hP hc (mi_w_at (mi_ob_iff.mp hob)), fun U hU hW => ⟨rfl, by rw [hU], by rw [hU]; exact hP, va_K.moved hW.alike hK, mi_wm hts hW⟩⟩
        refine mi_back (va_runV (As := (st.take n).reverse.map (mi_cv ad)) (rest := r.map (mi_cv ad)) ⟨hx, hb, hml, hown, hts⟩ (hmet hN H.size) ⟨callB_of n hts (mi_good hcode) rfl rfl rfl (hts _ hini) (hts _ hw) hy hrr, hts _ hst, hts _ hsel⟩ hp rfl (by simp [Nat.min_eq_left g1]) hl.2.1 (by show st.map (mi_cv ad) = _; rw [← List.map_reverse, List.reverse_reverse]; show _ = (st.take n).map (mi_cv ad) ++ (Sum.inr (Sum.inr (some q)) :: r : mi_S).map (mi_cv ad); rw [← hdr, ← List.map_append, List.take_append_drop]) (lv_room (by have := mi_cats (ad := ad) r; omega)) hd ⟨Nat.le_refl _, Nat.le_refl _⟩) hS (fun q _ hq => mi_Aw hS.1 hq) (fun q hq => mi_Aw hS.1 hq) (fun H1 locs1 hP1 hN1 hS1 => ?_)
        rw [← mi_tail]
        exact k H1 locs1 ls hl hP1 hN1 hS1
      · cases ho
    · cases ho
  · cases ho
theorem ms_callSN {M' n mx index : Nat} {host : String} (hcode : Cond.code (inf M').1 (inf M').2.1 (inf M').2.2.1 (inf M').2.2.2 ∈ G) (hd : decode (inf M).2.1 pc = .ok (.invokestatic index, 3)) (hw : Cond.methodLinkNest (inf M).1.cls index (inf M').1 host ∈ G) (hst : Cond.static (inf M').1 ∈ G) (hini : Cond.initialized (inf M').1.cls ∈ G) (hy : (inf M').1.cls ≠ "java/lang/invoke/MethodHandle" ∧ (inf M').1.cls ≠ "java/lang/invoke/VarHandle" ∧ (parseMethodDescriptor (inf M').1.desc).map (fun d => d.parameters.length) = some n) (hmx : (inf M').2.2.1 = mx) (hm45 : mx ≤ 45) : mi_snd G cl inf M pc (mj_callS M' n mx (pc + 3)) := by
  intro D cA ad N p l e R s m args below meth c d X L st h o ho
  obtain ⟨hx, hb, hr, hml, hown, hts, hlk, hK, hnj, hR⟩ := X
  unfold mj_callS at ho
  split at ho
  · rename_i hcc
    obtain ⟨g1, g2, g3, g4⟩ := hcc
    cases ho
    refine ⟨⟨by rw [List.all_reverse]; exact g3, by show (st.take n).reverse.length ≤ (inf M').2.2.1; rw [hmx, List.length_reverse, List.length_take]; omega⟩, ?_⟩
    intro Q d' v h1 hdd hmet k H locs ls hl hP hN hS
    subst hdd; subst hR
    have hrr : (mi_rm d').frames + 1 ≤ (mi_rm (d' + 1)).frames ∧ 8 + ((inf M').2.2.1 + 11) + (mi_rm d').locals ≤ (mi_rm (d' + 1)).locals := ⟨Nat.le_refl _, by show 8 + (_ + 11) + 64 * d' ≤ 64 * (d' + 1); omega⟩
    have hp : PreS s H (mi_Pc G cl D cA ad (st.take n).reverse h H.size) ((st.take n).reverse.map (mi_cv ad)) := ⟨mi_blind, fun U hU hW => ⟨rfl, by rw [hU], by rw [hU]; exact hP, va_K.moved hW.alike hK, mi_wm hts hW⟩⟩
    refine mi_back (va_runSN (As := (st.take n).reverse.map (mi_cv ad)) (rest := (st.drop n).map (mi_cv ad)) ⟨hx, hb, hml, hown, hts⟩ (hmet hN H.size) ⟨va_cnB n hts (mi_good hcode) rfl rfl rfl (va_Nw.of rfl (hts _ hw)) (hts _ hini) hy hrr, hts _ hst, trivial⟩ hp rfl (by simp [Nat.min_eq_left g1]) hl.2.1 (by show st.map (mi_cv ad) = _; rw [← List.map_reverse, List.reverse_reverse, ← List.map_append, List.take_append_drop]) (lv_room (by have := mi_cats (ad := ad) (st.drop n); omega)) hd ⟨Nat.le_refl _, Nat.le_refl _⟩) hS (fun q _ hq => mi_Aw hS.1 hq) (fun q hq => mi_Aw hS.1 hq) (fun H1 locs1 hP1 hN1 hS1 => ?_)
    rw [← mi_tail]
    exact k H1 locs1 ls hl hP1 hN1 hS1
  · cases ho
theorem ms_callVN {M' n mx index ci : Nat} {host : String} (hcode : Cond.code (inf M').1 (inf M').2.1 (inf M').2.2.1 (inf M').2.2.2 ∈ G) (hd : decode (inf M).2.1 pc = .ok (.invokevirtual index, 3)) (hw : Cond.methodLinkNest (inf M).1.cls index (inf M').1 host ∈ G) (hst : Cond.instanceMethod (inf M').1 ∈ G) {C : String} {T : u_T} {Nf : Nat} (hc : cl[ci]? = some (C, T, Nf)) (hsel : Cond.selects C (inf M').1 (inf M').1 ∈ G) (hini : Cond.initialized (inf M').1.cls ∈ G) (hy : (inf M').1.cls ≠ "java/lang/invoke/MethodHandle" ∧ (inf M').1.cls ≠ "java/lang/invoke/VarHandle" ∧ (parseMethodDescriptor (inf M').1.desc).map (fun d => d.parameters.length) = some n) (hmx : (inf M').2.2.1 = mx) (hm45 : mx ≤ 45) : mi_snd G cl inf M pc (mj_callV ci M' n mx (pc + 3)) := by
  intro D cA ad N p l e R s m args below meth c d X L st h o ho
  obtain ⟨hx, hb, hr, hml, hown, hts, hlk, hK, hnj, hR⟩ := X
  unfold mj_callV at ho
  split at ho
  · rename_i q r hdr
    obtain ⟨ob, hob, ho⟩ := Option.bind_eq_some_iff.mp ho
    split at ho
    · rename_i hcc
      obtain ⟨g2, g3, g4⟩ := hcc
      split at ho
      · rename_i g1
        cases ho
        subst g1
        refine ⟨⟨by show (true && (st.take n).reverse.all mi_c1) = true; rw [List.all_reverse, g3]; rfl, by show ((st.take n).reverse.length + 1) ≤ (inf M').2.2.1; rw [hmx, List.length_reverse, List.length_take]; omega⟩, ?_⟩
        intro Q d' v h1 hdd hmet k H locs ls hl hP hN hS
        subst hdd; subst hR
        have hrr : (mi_rm d').frames + 1 ≤ (mi_rm (d' + 1)).frames ∧ 8 + ((inf M').2.2.1 + 11) + (mi_rm d').locals ≤ (mi_rm (d' + 1)).locals := ⟨Nat.le_refl _, by show 8 + (_ + 11) + 64 * d' ≤ 64 * (d' + 1); omega⟩
        have g1 : n ≤ st.length := by
          have := congrArg List.length hdr
          simp at this
          omega
        have hp : PreV s H C (ad q) (mi_Pc G cl D cA ad (.inr (.inr (some q)) :: (st.take n).reverse) h H.size) ((st.take n).reverse.map (mi_cv ad)) := ⟨mi_blind, va_recv hK hP hc (mi_w_at (mi_ob_iff.mp hob)), fun U hU hW => ⟨rfl, by rw [hU], by rw [hU]; exact hP, va_K.moved hW.alike hK, mi_wm hts hW⟩⟩
        refine mi_back (va_runVN (As := (st.take n).reverse.map (mi_cv ad)) (rest := r.map (mi_cv ad)) ⟨hx, hb, hml, hown, hts⟩ (hmet hN H.size) ⟨va_cnB n hts (mi_good hcode) rfl rfl rfl (va_Nw.of rfl (hts _ hw)) (hts _ hini) hy hrr, hts _ hst, hts _ hsel⟩ hp rfl (by simp [Nat.min_eq_left g1]) hl.2.1 (by show st.map (mi_cv ad) = _; rw [← List.map_reverse, List.reverse_reverse]; show _ = (st.take n).map (mi_cv ad) ++ (Sum.inr (Sum.inr (some q)) :: r : mi_S).map (mi_cv ad); rw [← hdr, ← List.map_append, List.take_append_drop]) (lv_room (by have := mi_cats (ad := ad) r; omega)) hd ⟨Nat.le_refl _, Nat.le_refl _⟩) hS (fun q _ hq => mi_Aw hS.1 hq) (fun q hq => mi_Aw hS.1 hq) (fun H1 locs1 hP1 hN1 hS1 => ?_)
        rw [← mi_tail]
        exact k H1 locs1 ls hl hP1 hN1 hS1
      · cases ho
    · cases ho
  · cases ho
end mi_sound2
theorem mi_ent_mem {ad : Nat → Nat} : ∀ (vs : mi_S) (k i : Nat) (v : mi_V), vs.all mi_c1 = true → (vs.map some)[i]? = some (some v) → (k + i, mi_cv ad v) ∈ lv_args k (vs.map (mi_cv ad))
  | [], k, i, v, _, e => by simp at e
  | x :: vs, k, i, v, ha, e => by
    simp only [List.all_cons, Bool.and_eq_true] at ha
    have hx : ¬ (mi_cv ad x).category = 2 := by rw [mi_cat ha.1]; decide
    show _ ∈ (k, mi_cv ad x) :: lv_args (if (mi_cv ad x).category = 2 then k + 2 else k + 1) (vs.map (mi_cv ad))
    rw [if_neg hx]
    cases i with
    | zero =>
      simp at e
      subst e
      exact List.mem_cons_self
    | succ i =>
      have e1 : (vs.map some)[i]? = some (some v) := by simpa using e
      have := mi_ent_mem (ad := ad) vs (k + 1) i v ha.2 e1
      rw [show k + 1 + i = k + (i + 1) by omega] at this
      exact List.mem_cons_of_mem _ this
theorem mi_sl_len {ad : Nat → Nat} : ∀ (vs : mi_S), vs.all mi_c1 = true → (lg_sl (vs.map (mi_cv ad))).length = vs.length
  | [], _ => rfl
  | x :: vs, ha => by
    simp only [List.all_cons, Bool.and_eq_true] at ha
    have h1 := mi_sl_len (ad := ad) vs ha.2
    have hx : ¬ (mi_cv ad x).category = 2 := by rw [mi_cat ha.1]; decide
    unfold lg_sl at h1 ⊢
    rw [List.map_cons, List.flatMap_cons, if_neg hx, List.length_append, h1]
    simp only [List.length_cons, List.length_nil]
    omega
theorem mi_ofW {l : Launch} {y : MethodName} {ws ws' : List Cond} {rm : Room} {Pc : Array Value → State → Prop} {Qc : Array Value → State → Outcome → State → Prop} {mc ms : Nat} {free : Addr → Prop} {cc : ByteArray} {maxL : Nat} {ret : Option FieldType} (hy : plainFor y = true) (hw : ws = Cond.code y cc maxL ret :: ws')
    (body : ∀ p e s m args below meth c s₁, BodyLoose p l y (headSpec ws rm) cc maxL ret e s m args below meth c s₁ → c.maxLocals = maxL → Pc args s → W p l e (headSpec ws rm).room s m args below meth c s.heap [] 0 0 (MQ below Qc args s mc ms free) (entryFrame m args maxL)) : Met l y ws rm Pc Qc mc ms free := by
  refine MetFree.of_bodySF (code := cc) (maxLocals := maxL) (ret := ret) hy ?_ ?_
  · intro args s m h hn
    obtain ⟨meth, c, h1, h2, h3, h4, h5, h6, -, -⟩ := Cond.code_spec hn (atoms_spec (ws := ws) h _ (by rw [hw]; exact List.mem_cons_self))
    exact ⟨meth, c, h1, h2, h3, h4, h5, h6⟩
  · intro p e s m args below meth c s₁ B hml hP _
    have hh0 : s₁.heap = s.heap := by rw [B.state]; rfl
    obtain ⟨t, a1, o, b1, b2, b3⟩ := body p e s m args below meth c s₁ B hml hP s₁ hh0 (Stand.of_body B)
    exact ⟨t, o, a1, b1, b2, ⟨b3.1, b3.2⟩⟩
theorem mi_main {G : List Cond} {cl : List vw_C} {inf : Nat → mi_M} {P : Nat → Nat → mi_I} {l : Launch} {D : va_G} {cA : Nat → ClassId} {ad : Nat → Nat} {N : Nat} (hS : ∀ M pc, mi_snd G cl inf M pc (P M pc)) (hgn : ∀ w ∈ G, goodWord w = true ∨ mi_nw w = true) (hp : ∀ M, plainFor (inf M).1 = true) (hnj : mi_nj ad N) :
    ∀ (d n M : Nat) (vs : mi_S) (h : mi_H) (r : Option mi_V × mi_H), vs.all mi_c1 = true → vs.length ≤ (inf M).2.2.1 → mi_run P (fun M => (inf M).2.2.1) n d M 0 (mi_ent (inf M).2.2.1 vs) [] h = some r → mi_met G cl D cA ad N l (inf M) d vs h r.1 r.2 := by
  intro d
  induction d using Nat.strongRecOn with
  | ind d ih =>
  intro n M vs h r hc1 hlen hrun hN sz
  refine mi_ofW (cc := (inf M).2.1) (maxL := (inf M).2.2.1) (ret := (inf M).2.2.2) (hp M) rfl ?_
  intro p e s m args below meth c s₁ B hml hv
  obtain ⟨rfl, hsz, hP, hK, hNw⟩ := hv
  have hts : ∀ w ∈ G, w.before (vs.map (mi_cv ad)).toArray s = true := fun w hw => by
    rcases hgn w hw with hg | hn
    · exact atoms_spec (ws := mi_ws G (inf M)) B.pre w (List.mem_cons_of_mem _ (List.mem_filter.mpr ⟨hw, hg⟩))
    · exact va_Nw.use (mi_ot hn) (hNw w hw hn)
  have X : mi_X G cl D cA ad N (inf M) d p (mi_rm d) s m (vs.map (mi_cv ad)).toArray meth c := ⟨B.exec, B.bytes, B.returns, hml, findClass_of_methodNamed B.named, hts, B.notSynchronized, hK, hnj, rfl⟩
  subst hsz
  have key : ∀ (n pc : Nat) (L : mi_L) (st : mi_S) (h : mi_H), mi_run P (fun M => (inf M).2.2.1) n d M pc L st h = some r → mi_G cl D cA ad N (inf M).2.2.1 p l e (mi_rm d) s m (vs.map (mi_cv ad)).toArray below meth c (MQ below (mi_Q cl D cA ad N r.1 r.2 (mi_A ad N s.heap.size)) (vs.map (mi_cv ad)).toArray s 0 0 (mi_A ad N s.heap.size)) pc L st h := by
    intro n
    induction n with
    | zero =>
      intro pc L st h e1
      simp [mi_run] at e1
    | succ n ihn =>
      intro pc L st h e1
      rw [mi_run] at e1
      have hs := hS M pc D cA ad N p l e (mi_rm d) s m (vs.map (mi_cv ad)).toArray below meth c d X L st h
      generalize ho : P M pc d L st h = o at e1
      match o, e1, ho with
      | none, e1, _ => cases e1
      | some (.inl q), e1, ho => exact hs _ ho _ (ihn _ _ _ _ e1)
      | some (.inr (.inl r')), e1, ho =>
        cases e1
        exact hs _ ho
      | some (.inr (.inr q)), e1, ho =>
        by_cases hd : d = 0
        · dsimp only at e1
          rw [if_pos hd] at e1
          cases e1
        · dsimp only at e1
          rw [if_neg hd] at e1
          obtain ⟨r1, f1, f2⟩ := Option.bind_eq_some_iff.mp e1
          obtain ⟨⟨a1, a2⟩, hs⟩ := hs _ ho
          exact hs _ (d - 1) r1.1 r1.2 (by omega) (ih (d - 1) (by omega) n q.1 _ _ r1 a1 a2 f1) (ihn _ _ _ _ f2)
  have h0 := key n 0 (mi_ent (inf M).2.2.1 vs) [] h hrun
  rw [lg_entry_eq]
  have hl := lv_entry (vs.map (mi_cv ad)) (n := (inf M).2.2.1) (by rw [mi_sl_len vs hc1]; exact hlen)
  refine h0 s.heap [] _ ⟨by unfold mi_ent; simp; omega, hl.1, hl.2.1, fun q hq => ?_⟩ hP hN va_S.rf
  obtain ⟨i, x⟩ := q
  obtain ⟨v, hv, rfl⟩ := mi_ll_mem.mp hq
  unfold mi_ent at hv
  rw [List.getElem?_append] at hv
  split at hv
  · have := mi_ent_mem (ad := ad) vs 0 i v hc1 hv
    rw [Nat.zero_add] at this
    exact hl.2.2 _ this
  · rw [List.getElem?_replicate] at hv
    split at hv <;> cases hv


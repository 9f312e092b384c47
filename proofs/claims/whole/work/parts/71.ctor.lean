/-! constructors: what all of them need -/
theorem km {w : Cond} {y : mi_M} (h : w ∈ cs_G) (g : goodWord w = true) : w ∈ mi_ws cs_G y := List.mem_cons_of_mem _ (List.mem_filter.mpr ⟨h, g⟩)
theorem kgo {y : mi_M} : ∀ w ∈ (mi_ws cs_G y).tail, w ∈ mi_ws cs_G y := fun _ h => List.mem_cons_of_mem _ h
def kx (U : State) : Prop := (∀ w ∈ cs_G, mi_nw w = true → va_Nw w U) ∧ va_AOA .int U
theorem kx_warm {s U : State} (hW : s.WarmedH U.vm) (h : kx s) : kx U := by
  refine ⟨fun w hw hn => ?_, va_AOA.moved hW.alike h.2⟩
  have h1 := h.1 w hw hn
  cases w <;> first | (cases hn; done) | exact va_Nw.warmF hW h1 | exact va_Nw.warmM hW h1
theorem kx_call {U : State} {g : JFrame} {mk : MethodId} {a : Array Value} (h : kx U) : kx (U.calling g mk a) := ⟨fun w hw hn => va_Nw.same (u := U) (U := U.calling g mk a) (mi_ot hn) rfl (h.1 w hw hn), va_AOA.moved (u := U) (U := U.calling g mk a) (Vm.Alike.refl U.vm) h.2⟩
theorem kx_of {args : Array Value} {s : State} (hts : ∀ w ∈ cs_G, w.before args s = true) (ha : (Cond.arrayOver (.array .int)).before args s = true) : kx s := by
  refine ⟨fun w hw hn => ?_, ha⟩
  have h1 := hts w hw
  cases w <;> first | (cases hn; done) | exact va_Nw.of rfl h1
def kP (D : va_G) (cA : Nat → ClassId) (q : Nat) (e : va_E) (av : List Value) (sz : Nat) : Array Value → State → Prop := va_Pc av (fun U => U.heap.size = sz ∧ va_P D cs_cl [(q, e)] U.heap ∧ va_K D cs_cl (mi_ty cA) U ∧ va_D (fun _ => True) [(q, e)] ∧ kx U)
def kQ (D : va_G) (cA : Nat → ClassId) (wl : (Nat → Nat) → va_W) (A : Nat → Prop) : Array Value → State → Outcome → State → Prop := va_Qv (fun _ : Nat → Nat => True) (fun u t => va_P D cs_cl (wl u) t.heap ∧ va_K D cs_cl (mi_ty cA) t ∧ va_D A (wl u)) A
theorem kP_pre {D : va_G} {cA : Nat → ClassId} {q : Nat} {e : va_E} {av : List Value} {s : State} {H : Heap} (hP : va_P D cs_cl [(q, e)] H) (hK : va_K D cs_cl (mi_ty cA) s) (hD : va_D (fun _ => True) [(q, e)]) (hx : kx s) : PreS s H (kP D cA q e av H.size) av := ⟨fun a U g mk z => by
    obtain ⟨q0, q1, qP, qK, qD, qx⟩ := z
    exact ⟨q0, q1, qP, va_K.moved (u := U) (U := U.calling g mk a) (Vm.Alike.refl U.vm) qK, qD, kx_call qx⟩, fun U hU hW => ⟨rfl, by rw [hU], by rw [hU]; exact hP, va_K.moved hW.alike hK, hD, kx_warm hW hx⟩⟩
theorem k_same {D : va_G} {cl : List vw_C} {tys : List (ClassId × FieldType)} {s : State} {i j : Nat} {c c' : ClassId} {ty : FieldType} (hK : va_K D cl tys s) (hi : tys[i]? = some (c, ty)) (hj : tys[j]? = some (c', ty)) (ht : ty = .int ∨ ty = .byte ∨ ty = .array .int) : c = c' := by
  have h1 := (hK.2 i _ hi).2
  have h2 := (hK.2 j _ hj).2
  rcases ht with rfl | rfl | rfl
  · have h1 : s.vm.findClass _ = some c := h1
    have h2 : s.vm.findClass _ = some c' := h2
    rw [h1] at h2
    exact Option.some.inj h2
  · have h1 : s.vm.findClass _ = some c := h1
    have h2 : s.vm.findClass _ = some c' := h2
    rw [h1] at h2
    exact Option.some.inj h2
  · have h1 : s.vm.findClass _ = some c := h1
    have h2 : s.vm.findClass _ = some c' := h2
    rw [h1] at h2
    exact Option.some.inj h2
theorem va_P.one {D : va_G} {cl : List vw_C} {ws : va_W} {q : Nat × va_E} {H : Heap} (h : va_P D cl (ws ++ [q]) H) : va_P D cl [q] H := fun k x hx => h (ws.length + k) x (by
  rw [List.getElem?_append_right (Nat.le_add_right _ _), Nat.add_sub_cancel_left]
  exact hx)
theorem va_D.one {q : Nat × va_E} : va_D (fun _ => True) [q] := ⟨fun i j x y hx hy _ => by
    have h1 : i < 1 := (List.getElem?_eq_some_iff.mp hx).1
    have h2 : j < 1 := (List.getElem?_eq_some_iff.mp hy).1
    omega, fun _ _ _ => trivial⟩
theorem kf {A : Nat → Prop} {ws : va_W} {q : Nat} {e : va_E} {H0 H : Heap} {locs : List Loc} (hD : va_D A (ws ++ [(q, e)])) (hS : va_S A H0 H locs) (hA : ∀ x, H0.size ≤ x → A x) : ∀ x, va_A [(q, e)] H.size x → A x := by
  rintro x (⟨k, e', h⟩ | h)
  · have h1 : k < 1 := (List.getElem?_eq_some_iff.mp h).1
    rw [show k = 0 by omega] at h
    cases h
    exact hD.2 ws.length (q, e) (by rw [List.getElem?_append_right (Nat.le_refl _), Nat.sub_self]; rfl)
  · exact hA x (Nat.le_trans hS.1 h)
theorem kj {D : va_G} {cl : List vw_C} {A : Nat → Prop} {ws w1 : va_W} {q : Nat} {e : va_E} {H H1 : Heap} (hP : va_P D cl (ws ++ [(q, e)]) H) (hD : va_D A (ws ++ [(q, e)])) (hk : ∀ x, x < H.size → ¬ va_A [(q, e)] H.size x → H1[x]? = H[x]?) (hF : ∀ x, va_A [(q, e)] H.size x → A x) (hP1 : va_P D cl w1 H1) (hD1 : va_D (va_A [(q, e)] H.size) w1) : va_P D cl (ws ++ w1) H1 ∧ va_D A (ws ++ w1) := by
  have hold : ∀ (k : Nat) (x : Nat × va_E), ws[k]? = some x → x.1 < H.size ∧ ¬ va_A [(q, e)] H.size x.1 := fun k x hx => by
    have hlt : k < ws.length := (List.getElem?_eq_some_iff.mp hx).1
    have hx' : (ws ++ [(q, e)])[k]? = some x := by rw [List.getElem?_append_left hlt]; exact hx
    have h1 : x.1 < H.size := (hP k x hx').lt
    refine ⟨h1, ?_⟩
    rintro (⟨j, e', h⟩ | h)
    · have h2 : j < 1 := (List.getElem?_eq_some_iff.mp h).1
      rw [show j = 0 by omega] at h
      cases h
      have := hD.1 k ws.length x (x.1, e) hx' (by rw [List.getElem?_append_right (Nat.le_refl _), Nat.sub_self]; rfl) rfl
      omega
    · omega
  have hw : va_P D cl ws H := fun k x hx => hP k x (by rw [List.getElem?_append_left (List.getElem?_eq_some_iff.mp hx).1]; exact hx)
  refine ⟨(hw.kept fun k x hx => hk x.1 (hold k x hx).1 (hold k x hx).2).app hP1, fun i j x y hx hy e => ?_, fun k x hx => ?_⟩
  · by_cases hi : i < ws.length
    · rw [List.getElem?_append_left hi] at hx
      by_cases hj : j < ws.length
      · rw [List.getElem?_append_left hj] at hy
        exact hD.1 i j x y (by rw [List.getElem?_append_left hi]; exact hx) (by rw [List.getElem?_append_left hj]; exact hy) e
      · rw [List.getElem?_append_right (by omega)] at hy
        exact absurd (by rw [e]; exact hD1.2 _ y hy) (hold i x hx).2
    · rw [List.getElem?_append_right (by omega)] at hx
      by_cases hj : j < ws.length
      · rw [List.getElem?_append_left hj] at hy
        exact absurd (by rw [← e]; exact hD1.2 _ x hx) (hold j y hy).2
      · rw [List.getElem?_append_right (by omega)] at hy
        have := hD1.1 _ _ x y hx hy e
        omega
  · by_cases hi : k < ws.length
    · rw [List.getElem?_append_left hi] at hx
      exact hD.2 k x (by rw [List.getElem?_append_left hi]; exact hx)
    · rw [List.getElem?_append_right (by omega)] at hx
      exact hF _ (hD1.2 _ x hx)
theorem k_inner (c : ClassId) (K : Nat) : Jvm.Free.Multi.innerC c K (defaultValue .int) = vp_cell c (K, .inl (fun _ => 0)) := by
  show ({ cls := c, slots := Array.replicate K (.int 0), vm := .none } : Cell) = _
  rw [arrV_new]
  rfl
theorem k_pl {X : va_W} {l : List Nat} {f : Nat → va_E} {e : va_E} {D : va_G} {cl : List vw_C} {H : Heap} (h : va_P D cl (X ++ va_pl ([] ++ l) (vr_up f l e)) H) : va_P D cl (X ++ l.map (fun a => (a, e))) H := by
  rw [← vr_rows (L := []) (fun a _ h => by cases h)] at h
  exact h
theorem k_plD {X : va_W} {l : List Nat} {f : Nat → va_E} {e : va_E} {A : Nat → Prop} (h : va_D A (X ++ va_pl ([] ++ l) (vr_up f l e))) : va_D A (X ++ l.map (fun a => (a, e))) := by
  rw [← vr_rows (L := []) (fun a _ h => by cases h)] at h
  exact h
theorem kgood {y y' : mi_M} (hc : Cond.code y'.1 y'.2.1 y'.2.2.1 y'.2.2.2 ∈ cs_G) : GoodIn (mi_ws cs_G y) (mi_ws cs_G y') := by
  intro w hw
  rcases List.mem_cons.mp hw with rfl | hw
  · exact ⟨km hc rfl, good_of_word rfl⟩
  · exact ⟨List.mem_cons_of_mem _ hw, good_of_word (List.mem_filter.mp hw).2⟩

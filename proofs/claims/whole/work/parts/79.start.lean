theorem gw_16 : Cond.instantiable "CliqueSearch" (10 : Nat) ∈ cs_G := List.mem_filter.mpr ⟨List.mem_append_right _ (List.mem_append_left _ (List.mem_of_getElem? (i := 16) rfl)), rfl⟩
theorem gw_630 : Cond.instantiable "CliqueSearchModel" (18 : Nat) ∈ cs_G := List.mem_filter.mpr ⟨List.mem_append_right _ (List.mem_append_right _ (List.mem_append_right _ (List.mem_append_left _ (List.mem_of_getElem? (i := 150) rfl)))), rfl⟩
theorem gw_15 : Cond.classLink "CliqueSearchLaw" (7 : Nat) "CliqueSearch" ∈ cs_G := List.mem_filter.mpr ⟨List.mem_append_right _ (List.mem_append_left _ (List.mem_of_getElem? (i := 15) rfl)), rfl⟩
theorem gw_19 : Cond.code ({ cls := "CliqueSearch", name := "<init>", desc := "()V" } : MethodName) prog_1_method_1_code (1 : Nat) (Option.none : Option FieldType) ∈ cs_G := List.mem_filter.mpr ⟨List.mem_append_right _ (List.mem_append_left _ (List.mem_of_getElem? (i := 19) rfl)), rfl⟩
theorem gw_17 : Cond.methodLink "CliqueSearchLaw" (9 : Nat) ({ cls := "CliqueSearch", name := "<init>", desc := "()V" } : MethodName) ∈ cs_G := List.mem_filter.mpr ⟨List.mem_append_right _ (List.mem_append_left _ (List.mem_of_getElem? (i := 17) rfl)), rfl⟩
theorem gw_18 : Cond.instanceMethod ({ cls := "CliqueSearch", name := "<init>", desc := "()V" } : MethodName) ∈ cs_G := List.mem_filter.mpr ⟨List.mem_append_right _ (List.mem_append_left _ (List.mem_of_getElem? (i := 18) rfl)), rfl⟩
theorem gw_629 : Cond.classLink "CliqueSearchLaw" (10 : Nat) "CliqueSearchModel" ∈ cs_G := List.mem_filter.mpr ⟨List.mem_append_right _ (List.mem_append_right _ (List.mem_append_right _ (List.mem_append_left _ (List.mem_of_getElem? (i := 149) rfl)))), rfl⟩
theorem gw_633 : Cond.code ({ cls := "CliqueSearchModel", name := "<init>", desc := "()V" } : MethodName) prog_11_method_3_code (1 : Nat) (Option.none : Option FieldType) ∈ cs_G := List.mem_filter.mpr ⟨List.mem_append_right _ (List.mem_append_right _ (List.mem_append_right _ (List.mem_append_left _ (List.mem_of_getElem? (i := 153) rfl)))), rfl⟩
theorem gw_631 : Cond.methodLink "CliqueSearchLaw" (12 : Nat) ({ cls := "CliqueSearchModel", name := "<init>", desc := "()V" } : MethodName) ∈ cs_G := List.mem_filter.mpr ⟨List.mem_append_right _ (List.mem_append_right _ (List.mem_append_right _ (List.mem_append_left _ (List.mem_of_getElem? (i := 151) rfl)))), rfl⟩
theorem gw_632 : Cond.instanceMethod ({ cls := "CliqueSearchModel", name := "<init>", desc := "()V" } : MethodName) ∈ cs_G := List.mem_filter.mpr ⟨List.mem_append_right _ (List.mem_append_right _ (List.mem_append_right _ (List.mem_append_left _ (List.mem_of_getElem? (i := 152) rfl)))), rfl⟩
theorem gl_over : Cond.arrayOver (.array .int) ∈ lw_tbl := List.mem_append_right _ (List.mem_append_left _ (List.mem_of_getElem? (i := 97) rfl))
theorem vk_i {D : va_G} {cl : List vw_C} {H : Heap} {a n : Nat} {c : ClassId} {f g : Nat → Int32} (h1 : va_at D cl (a, .inl (c, n, .inl f)) H) (h : ∀ i, i < n → f i = g i) : va_at D cl (a, .inl (c, n, .inl g)) H := by
  have h1 : H[a]? = some (vp_cell c (n, .inl f)) := h1
  show H[a]? = some (vp_cell c (n, .inl g))
  rw [h1, vp_cell_i, vp_cell_i]
  unfold arrV
  congr 3
  funext x
  show Value.int (f x.val) = Value.int (g x.val)
  rw [h x.val x.isLt]
theorem vk_q {D : va_G} {cl : List vw_C} {H : Heap} {a n : Nat} {c : ClassId} {f g : Nat → Option Nat} (h1 : va_at D cl (a, .inl (c, n, .inr (.inr (.inr (.inr f))))) H) (h : ∀ i, i < n → f i = g i) : va_at D cl (a, .inl (c, n, .inr (.inr (.inr (.inr g))))) H := by
  have h1 : H[a]? = some (vp_cell c (n, .inr (.inr (.inr (.inr f))))) := h1
  show H[a]? = some (vp_cell c (n, .inr (.inr (.inr (.inr g)))))
  rw [h1, vp_cell_q, vp_cell_q]
  unfold arrV
  congr 3
  funext x
  show va_rf (f x.val) = va_rf (g x.val)
  rw [h x.val x.isLt]
def hp_0 : mi_H := hp (0, 0, fun _ => 0, fun _ => 0) (fun _ => 0, fun _ => 0, 0, -1) (fun _ => 0, fun _ => 0, 0, -1) (fun _ => 0, -1) (fun _ _ => 0, fun _ => 0, 0, 0, 0) (fun _ => 0, fun _ => 0, -1) (fun _ _ => 0, 0, 0, 0, 0, 0, 0, 0) (0, 0, 0, 0, 0) (fun i => if i < 16 then some 0 else none, fun i => if i < 16 then some 0 else none, fun _ => 0, fun _ => 0, 0, 0) (fun _ => 0) (0, 0, fun _ => 0, fun _ => 0, fun _ => 0, fun _ => 0, fun _ => 0, fun _ => 0, 0, 0, 0, 0, 0, 0, 0, 0, 0, fun _ => 0)
theorem cx_m1 {P : Prop} : cx_ok (-1) 0 P := ⟨.inl rfl, fun e => ((cn_m1e (by decide)).mp e).elim⟩
theorem IV_start : IV 0 hp_0 := by
  have hz : ∀ i : Nat, (0 : Nat).testBit i = false := Nat.zero_testBit
  have hs : ∀ i : Nat, (0 : Nat) < 65536 := fun _ => by decide
  refine ⟨_, _, _, _, _, _, _, _, _, _, _, rfl, ⟨⟨⟨by decide, hs, fun _ _ => rfl⟩, fun _ _ => ?_, hz, fun i h => absurd h (Nat.not_lt_zero i), fun _ => Nat.zero_le _⟩, Nat.le_refl 0⟩, ⟨rfl, rfl, rfl⟩, ⟨hs, cx_m1⟩, ⟨hs, cx_m1⟩, cx_m1, cx_m1, ⟨rfl, Nat.zero_le 1⟩, rfl, ⟨⟨fun i v h => ?_, fun i v h => ?_, fun _ => by show 0 < 16; decide, fun _ => by show 0 < 16; decide, Nat.zero_le 16⟩, fun i hi => if_neg (by omega), fun i hi => if_neg (by omega)⟩, hs⟩
  · show (0 : Nat).testBit _ = (0 : Nat).testBit _
    rw [hz, hz]
  · have h : (if i < 16 then some 0 else none) = some v := h
    split at h
    · cases h; decide
    · cases h
  · have h : (if i < 16 then some 0 else none) = some v := h
    split at h
    · cases h; decide
    · cases h
set_option maxHeartbeats 8000000 in
set_option maxRecDepth 100000 in
/-- the law, from its entry -/
theorem whole_start {p : Program} {e : Env} {s : State} {m : MethodId} {below : List Frame} {meth : Method} {c : Code} (l : Launch) {b L : Nat} {xs : Nat → Int32} (hL : L ≤ 2048) (C0 : lw_At p s m meth c b L xs) : W p l e room_1 s m #[Value.ref b] below meth c s.heap [] 0 0 (lw_Z below #[Value.ref b] s) (entryFrame m ([Value.ref b] : List Value).toArray 4) := by
  obtain ⟨hx, hb, hr, hml, hown, hts, hX, hbl, hlocks, hgv⟩ := id C0
  have htsG : ∀ w ∈ cs_G, w.before #[Value.ref b] s = true := fun w hw => hts w (List.mem_filter.mp hw).1
  have hkx : kx s := kx_of htsG (hts _ gl_over)
  have hA : ∀ q : Nat, s.heap.size ≤ q → (fun q : Nat => s.heap.size ≤ q) q := fun _ h => h
  obtain ⟨c0, i0, hKn0⟩ := u_known (C := "CliqueSearch") (T := cs_T0) (N := 10) (n := 10) htsG cs_in0 (htsG _ gw_16)
  obtain ⟨c1, i1, hKn1⟩ := u_known (C := "CliqueSearch$Net") (T := cs_T1) (N := 4) (n := 4) htsG cs_in1 (htsG _ gw_24)
  obtain ⟨c2, i2, hKn2⟩ := u_known (C := "CliqueSearch$MaximalSets") (T := cs_T2) (N := 6) (n := 6) htsG cs_in2 (htsG _ gw_50)
  obtain ⟨c3, i3, hKn3⟩ := u_known (C := "CliqueSearch$SizeCounts") (T := cs_T3) (N := 3) (n := 3) htsG cs_in3 (htsG _ gw_75)
  obtain ⟨c4, i4, hKn4⟩ := u_known (C := "CliqueSearch$NearSets") (T := cs_T4) (N := 6) (n := 6) htsG cs_in4 (htsG _ gw_91)
  obtain ⟨c5, i5, hKn5⟩ := u_known (C := "CliqueSearch$Peeling") (T := cs_T5) (N := 4) (n := 4) htsG cs_in5 (htsG _ gw_118)
  obtain ⟨c6, i6, hKn6⟩ := u_known (C := "CliqueSearch$Search") (T := cs_T6) (N := 9) (n := 9) htsG cs_in6 (htsG _ gw_137)
  obtain ⟨c7, i7, hKn7⟩ := u_known (C := "CliqueSearch$SureCover") (T := cs_T7) (N := 6) (n := 6) htsG cs_in7 (htsG _ gw_177)
  obtain ⟨c8, i8, hKn8⟩ := u_known (C := "CliqueSearch$Matching") (T := cs_T8) (N := 7) (n := 7) htsG cs_in8 (htsG _ gw_204)
  obtain ⟨c9, i9, hKn9⟩ := u_known (C := "CliqueSearchModel") (T := cs_T9) (N := 18) (n := 18) htsG cs_in9 (htsG _ gw_630)
  obtain ⟨D, hKc⟩ : ∃ D : va_G, ∀ (k : Nat) (q : vw_C), cs_cl[k]? = some q → u_Kn s q.1 q.2.1 q.2.2 (D.1 k) (D.2 k) := by
    refine ⟨(fun k => [c0, c1, c2, c3, c4, c5, c6, c7, c8, c9].getD k c0, fun k => [i0, i1, i2, i3, i4, i5, i6, i7, i8, i9].getD k i0), ?_⟩
    intro k q hq
    match k, hq with
    | 0, hq => cases hq; exact hKn0
    | 1, hq => cases hq; exact hKn1
    | 2, hq => cases hq; exact hKn2
    | 3, hq => cases hq; exact hKn3
    | 4, hq => cases hq; exact hKn4
    | 5, hq => cases hq; exact hKn5
    | 6, hq => cases hq; exact hKn6
    | 7, hq => cases hq; exact hKn7
    | 8, hq => cases hq; exact hKn8
    | 9, hq => cases hq; exact hKn9
    | k + 10, hq => simp [cs_cl] at hq
  obtain ⟨cI, kI, pI, a1, a2, a3⟩ := Cond.arrayClass_spec (htsG _ gw_48)
  obtain ⟨cB, kB, pB, b1, b2, b3⟩ := Cond.arrayClass_spec (htsG _ gw_691)
  obtain ⟨pQ, cQ, kQ, d0, d2, d3, d1⟩ := Cond.arrayOver_specA (hts _ gl_over)
  obtain ⟨cA, hK⟩ : ∃ cA : Nat → ClassId, va_K D cs_cl (mi_ty cA) s := by
    refine ⟨fun k => [cI, cB, cQ].getD k cI, hKc, fun k q hq => ?_⟩
    match k, hq with
    | 0, hq => cases hq; exact ⟨fun n z => ⟨fun k h => (by cases h), kI, a2, pI, a3⟩, a1⟩
    | 1, hq => cases hq; exact ⟨fun n z => ⟨fun k h => (by cases h), kB, b2, pB, b3⟩, b1⟩
    | 2, hq => cases hq; exact ⟨fun n z => ⟨fun k h => (by cases h), kQ, d2, pQ, d3⟩, d1⟩
    | k + 3, hq => simp [mi_ty] at hq
  have hS : va_S (fun q : Nat => s.heap.size ≤ q) s.heap s.heap [] := va_S.rf
  have hP : va_P D cs_cl [] s.heap := fun k q h => by simp at h
  have hD : va_D (fun q : Nat => s.heap.size ≤ q) [] := ⟨fun i j p q h => by simp at h, fun k q h => by simp at h⟩
  have hl := lv_entry ([.ref b]) (n := 4) (Nat.le_of_ble_eq_true rfl)
  rw [lg_entry_eq]
  generalize (lg_sl ([.ref b]) ++ List.replicate (4 - (lg_sl ([.ref b])).length) Slot.unset).toArray = ls at hl ⊢
  have hl : lv_has ls 4 [(0, .ref b)] := hl
  refine va_new (ci := 0) (fs := [.null, .null, .null, .null, .null, .null, .null, .null, .null, .null]) (C := "CliqueSearch") (T := cs_T0) (N := 10) hx hb htsG cs_in0 cs_ty0 cs_ty0_ok hown (htsG _ gw_15) (htsG _ gw_16) (htsG _ gw_1) hK hP hD hS hA rfl (fun j hj => k_df0 j hj) (Nat.le_of_ble_eq_true rfl) (Nat.le_of_ble_eq_true rfl) dl_0 (fun q0 H hP hD hS => ?_)
  refine lv_dup hx hb dl_3 rfl ?_
  have hFc := kf (q := q0) (e := ye_CS) hD hS hA
  refine va_callv (va_runI (As := []) (rest := [.ref q0]) ⟨hx, hb, hml, hown, htsG⟩ (kc_CS l D cA q0 H.size) (cwI 0 htsG (mi_good (y := (yk_CS, prog_1_method_1_code, 1, none)) gw_19) rfl rfl rfl (htsG _ gw_1) (htsG _ gw_17) (htsG _ gw_18) rfl (by decide +kernel) ⟨Nat.le_of_ble_eq_true rfl, Nat.le_of_ble_eq_true rfl⟩) (kP_pre hP.one hK va_D.one hkx) rfl rfl hl.1 rfl (lv_room (Nat.le_of_ble_eq_true rfl)) dl_4 ⟨Nat.le_of_ble_eq_true rfl, Nat.le_of_ble_eq_true rfl⟩) hS (fun q _ h => hFc q h) hFc (fun u t H1 locs ht hvm hw hB hz1 hk1 hS => ?_)
  obtain ⟨hP1, hK1, hD1⟩ := hB
  rw [ht] at hP1
  obtain ⟨hP, hD⟩ := kj hP hD hk1 hFc hP1 hD1
  generalize H1 = H at hP hS ⊢
  refine lv_astore_n (lv' := [(1, .ref q0), (0, .ref b)]) hx hb dl_7 rfl hl (by decide) rfl (fun ls hl => ?_)
  refine va_new (ci := 9) (fs := [.int 0, .int 0, .null, .null, .null, .null, .null, .null, .int 0, .int 0, .int 0, .int 0, .int 0, .int 0, .int 0, .int 0, .int 0, .null]) (C := "CliqueSearchModel") (T := cs_T9) (N := 18) hx hb htsG cs_in9 cs_ty9 cs_ty9_ok hown (htsG _ gw_629) (htsG _ gw_630) (htsG _ gw_10) hK hP hD hS hA rfl (fun j hj => k_df9 j hj) (Nat.le_of_ble_eq_true rfl) (Nat.le_of_ble_eq_true rfl) dl_8 (fun q1 H hP hD hS => ?_)
  refine lv_dup hx hb dl_11 rfl ?_
  have hFc := kf (q := q1) (e := ye_Model) hD hS hA
  refine va_callv (va_runI (As := []) (rest := [.ref q1]) ⟨hx, hb, hml, hown, htsG⟩ (kc_Model l D cA q1 H.size) (cwI 0 htsG (mi_good (y := (yk_Model, prog_11_method_3_code, 1, none)) gw_633) rfl rfl rfl (htsG _ gw_10) (htsG _ gw_631) (htsG _ gw_632) rfl (by decide +kernel) ⟨Nat.le_of_ble_eq_true rfl, Nat.le_of_ble_eq_true rfl⟩) (kP_pre hP.one hK va_D.one hkx) rfl rfl hl.1 rfl (lv_room (Nat.le_of_ble_eq_true rfl)) dl_12 ⟨Nat.le_of_ble_eq_true rfl, Nat.le_of_ble_eq_true rfl⟩) hS (fun q _ h => hFc q h) hFc (fun w t H1 locs ht hvm hw hB hz1 hk1 hS => ?_)
  obtain ⟨hP1, hK1, hD1⟩ := hB
  rw [ht] at hP1
  obtain ⟨hP, hD⟩ := kj hP hD hk1 hFc hP1 hD1
  generalize H1 = H at hP hS ⊢
  refine lv_astore_n (lv' := [(2, .ref q1), (1, .ref q0), (0, .ref b)]) hx hb dl_15 rfl hl (by decide) rfl (fun ls hl => ?_)
  refine lv_iconst (v := nI 0) hx hb dl_16 (by decide) ?_
  refine lv_istore_n (lv' := [(3, .int (nI 0)), (2, .ref q1), (1, .ref q0), (0, .ref b)]) hx hb dl_17 rfl hl (by decide) rfl (fun ls hl => ?_)
  obtain ⟨ad, ead⟩ : ∃ ad : Nat → Nat, ad = fun k => ([q0, u 1, u 2, u 3, u 4, u 5, u 6, u 7, u 8, u 9, u 10, u 11, u 12, u 13, u 14, u 15, u 16, u 17, u 18, u 19, u 20, u 21, u 22, u 23, u 24, u 25, u 26, u 27, u 28, u 29, u 30, u 31, u 32, u 33, u 34, u 35, u 36, u 37, u 38, u 39, u 40, u 41, u 42, u 43, u 44, u 45, u 46, u 47, u 48, u 49, u 50, u 51, u 52, u 53, u 54, u 55, u 56, u 57, u 58, u 59, u 60, q1, w 0, w 1, w 2, w 3, w 4, w 5, w 6] : List Nat).getD k 0 := ⟨_, rfl⟩
  have hat : ∀ k, k < 69 → ∃ en, (([] ++ wk_CS cA q0 u) ++ wk_Model cA q1 w)[k]? = some (ad k, en) := fun k hk => by
    subst ead
    match k, hk with
    | 0, _ => exact ⟨_, rfl⟩
    | 1, _ => exact ⟨_, rfl⟩
    | 2, _ => exact ⟨_, rfl⟩
    | 3, _ => exact ⟨_, rfl⟩
    | 4, _ => exact ⟨_, rfl⟩
    | 5, _ => exact ⟨_, rfl⟩
    | 6, _ => exact ⟨_, rfl⟩
    | 7, _ => exact ⟨_, rfl⟩
    | 8, _ => exact ⟨_, rfl⟩
    | 9, _ => exact ⟨_, rfl⟩
    | 10, _ => exact ⟨_, rfl⟩
    | 11, _ => exact ⟨_, rfl⟩
    | 12, _ => exact ⟨_, rfl⟩
    | 13, _ => exact ⟨_, rfl⟩
    | 14, _ => exact ⟨_, rfl⟩
    | 15, _ => exact ⟨_, rfl⟩
    | 16, _ => exact ⟨_, rfl⟩
    | 17, _ => exact ⟨_, rfl⟩
    | 18, _ => exact ⟨_, rfl⟩
    | 19, _ => exact ⟨_, rfl⟩
    | 20, _ => exact ⟨_, rfl⟩
    | 21, _ => exact ⟨_, rfl⟩
    | 22, _ => exact ⟨_, rfl⟩
    | 23, _ => exact ⟨_, rfl⟩
    | 24, _ => exact ⟨_, rfl⟩
    | 25, _ => exact ⟨_, rfl⟩
    | 26, _ => exact ⟨_, rfl⟩
    | 27, _ => exact ⟨_, rfl⟩
    | 28, _ => exact ⟨_, rfl⟩
    | 29, _ => exact ⟨_, rfl⟩
    | 30, _ => exact ⟨_, rfl⟩
    | 31, _ => exact ⟨_, rfl⟩
    | 32, _ => exact ⟨_, rfl⟩
    | 33, _ => exact ⟨_, rfl⟩
    | 34, _ => exact ⟨_, rfl⟩
    | 35, _ => exact ⟨_, rfl⟩
    | 36, _ => exact ⟨_, rfl⟩
    | 37, _ => exact ⟨_, rfl⟩
    | 38, _ => exact ⟨_, rfl⟩
    | 39, _ => exact ⟨_, rfl⟩
    | 40, _ => exact ⟨_, rfl⟩
    | 41, _ => exact ⟨_, rfl⟩
    | 42, _ => exact ⟨_, rfl⟩
    | 43, _ => exact ⟨_, rfl⟩
    | 44, _ => exact ⟨_, rfl⟩
    | 45, _ => exact ⟨_, rfl⟩
    | 46, _ => exact ⟨_, rfl⟩
    | 47, _ => exact ⟨_, rfl⟩
    | 48, _ => exact ⟨_, rfl⟩
    | 49, _ => exact ⟨_, rfl⟩
    | 50, _ => exact ⟨_, rfl⟩
    | 51, _ => exact ⟨_, rfl⟩
    | 52, _ => exact ⟨_, rfl⟩
    | 53, _ => exact ⟨_, rfl⟩
    | 54, _ => exact ⟨_, rfl⟩
    | 55, _ => exact ⟨_, rfl⟩
    | 56, _ => exact ⟨_, rfl⟩
    | 57, _ => exact ⟨_, rfl⟩
    | 58, _ => exact ⟨_, rfl⟩
    | 59, _ => exact ⟨_, rfl⟩
    | 60, _ => exact ⟨_, rfl⟩
    | 61, _ => exact ⟨_, rfl⟩
    | 62, _ => exact ⟨_, rfl⟩
    | 63, _ => exact ⟨_, rfl⟩
    | 64, _ => exact ⟨_, rfl⟩
    | 65, _ => exact ⟨_, rfl⟩
    | 66, _ => exact ⟨_, rfl⟩
    | 67, _ => exact ⟨_, rfl⟩
    | 68, _ => exact ⟨_, rfl⟩
    | n + 69, hk => omega
  have hnj : mi_nj ad 69 := fun i j hi hj hij => by
    obtain ⟨e1, h1⟩ := hat i hi
    obtain ⟨e2, h2⟩ := hat j hj
    exact hD.1 i j _ _ h1 h2 hij
  have had : ∀ k, k < 69 → s.heap.size ≤ ad k := fun k hk => by
    obtain ⟨e1, h1⟩ := hat k hk
    exact hD.2 k _ h1
  have hrow1 : ∀ i, i < 17 → (if i < 17 then some (u (13 + (1 + i))) else none) = some (ad (14 + i)) := fun i hi => by
    subst ead
    match i, hi with
    | 0, _ => rfl
    | 1, _ => rfl
    | 2, _ => rfl
    | 3, _ => rfl
    | 4, _ => rfl
    | 5, _ => rfl
    | 6, _ => rfl
    | 7, _ => rfl
    | 8, _ => rfl
    | 9, _ => rfl
    | 10, _ => rfl
    | 11, _ => rfl
    | 12, _ => rfl
    | 13, _ => rfl
    | 14, _ => rfl
    | 15, _ => rfl
    | 16, _ => rfl
    | n + 17, hi => omega
  have hrow2 : ∀ i, i < 17 → (if i < 17 then some (u (36 + (1 + i))) else none) = some (ad (37 + i)) := fun i hi => by
    subst ead
    match i, hi with
    | 0, _ => rfl
    | 1, _ => rfl
    | 2, _ => rfl
    | 3, _ => rfl
    | 4, _ => rfl
    | 5, _ => rfl
    | 6, _ => rfl
    | 7, _ => rfl
    | 8, _ => rfl
    | 9, _ => rfl
    | 10, _ => rfl
    | 11, _ => rfl
    | 12, _ => rfl
    | 13, _ => rfl
    | 14, _ => rfl
    | 15, _ => rfl
    | 16, _ => rfl
    | n + 17, hi => omega
  have hmt : ∀ i, i < 16 → (0 : Int32) = cn_o (if i < 16 then some 0 else none) := fun i hi => by rw [if_pos hi]; rfl
  have hP2 : va_P D cs_cl (mi_w ad cA hp_0) H := fun k q hq => by
    obtain ⟨c, hc, rfl⟩ := mi_w_of hq
    clear hq hnj had hat
    subst ead
    match k, hc with
    | 0, hc => cases hc; exact hP 0 _ rfl
    | 1, hc => cases hc; exact hP 1 _ rfl
    | 2, hc => cases hc; exact hP 2 _ rfl
    | 3, hc => cases hc; exact hP 3 _ rfl
    | 4, hc => cases hc; exact hP 4 _ rfl
    | 5, hc => cases hc; exact hP 5 _ rfl
    | 6, hc => cases hc; exact hP 6 _ rfl
    | 7, hc => cases hc; exact hP 7 _ rfl
    | 8, hc => cases hc; exact hP 8 _ rfl
    | 9, hc => cases hc; exact hP 9 _ rfl
    | 10, hc => cases hc; exact hP 10 _ rfl
    | 11, hc => cases hc; exact hP 11 _ rfl
    | 12, hc => cases hc; exact hP 12 _ rfl
    | 13, hc => cases hc; exact vk_q (hP 13 _ rfl) hrow1
    | 14, hc => cases hc; exact hP 14 _ rfl
    | 15, hc => cases hc; exact hP 15 _ rfl
    | 16, hc => cases hc; exact hP 16 _ rfl
    | 17, hc => cases hc; exact hP 17 _ rfl
    | 18, hc => cases hc; exact hP 18 _ rfl
    | 19, hc => cases hc; exact hP 19 _ rfl
    | 20, hc => cases hc; exact hP 20 _ rfl
    | 21, hc => cases hc; exact hP 21 _ rfl
    | 22, hc => cases hc; exact hP 22 _ rfl
    | 23, hc => cases hc; exact hP 23 _ rfl
    | 24, hc => cases hc; exact hP 24 _ rfl
    | 25, hc => cases hc; exact hP 25 _ rfl
    | 26, hc => cases hc; exact hP 26 _ rfl
    | 27, hc => cases hc; exact hP 27 _ rfl
    | 28, hc => cases hc; exact hP 28 _ rfl
    | 29, hc => cases hc; exact hP 29 _ rfl
    | 30, hc => cases hc; exact hP 30 _ rfl
    | 31, hc => cases hc; exact hP 31 _ rfl
    | 32, hc => cases hc; exact hP 32 _ rfl
    | 33, hc => cases hc; exact hP 33 _ rfl
    | 34, hc => cases hc; exact hP 34 _ rfl
    | 35, hc => cases hc; exact hP 35 _ rfl
    | 36, hc => cases hc; exact vk_q (hP 36 _ rfl) hrow2
    | 37, hc => cases hc; exact hP 37 _ rfl
    | 38, hc => cases hc; exact hP 38 _ rfl
    | 39, hc => cases hc; exact hP 39 _ rfl
    | 40, hc => cases hc; exact hP 40 _ rfl
    | 41, hc => cases hc; exact hP 41 _ rfl
    | 42, hc => cases hc; exact hP 42 _ rfl
    | 43, hc => cases hc; exact hP 43 _ rfl
    | 44, hc => cases hc; exact hP 44 _ rfl
    | 45, hc => cases hc; exact hP 45 _ rfl
    | 46, hc => cases hc; exact hP 46 _ rfl
    | 47, hc => cases hc; exact hP 47 _ rfl
    | 48, hc => cases hc; exact hP 48 _ rfl
    | 49, hc => cases hc; exact hP 49 _ rfl
    | 50, hc => cases hc; exact hP 50 _ rfl
    | 51, hc => cases hc; exact hP 51 _ rfl
    | 52, hc => cases hc; exact hP 52 _ rfl
    | 53, hc => cases hc; exact hP 53 _ rfl
    | 54, hc => cases hc; exact hP 54 _ rfl
    | 55, hc => cases hc; exact hP 55 _ rfl
    | 56, hc => cases hc; exact vk_i (hP 56 _ rfl) hmt
    | 57, hc => cases hc; exact vk_i (hP 57 _ rfl) hmt
    | 58, hc => cases hc; exact hP 58 _ rfl
    | 59, hc => cases hc; exact hP 59 _ rfl
    | 60, hc => cases hc; exact hP 60 _ rfl
    | 61, hc => cases hc; exact hP 61 _ rfl
    | 62, hc => cases hc; exact hP 62 _ rfl
    | 63, hc => cases hc; exact hP 63 _ rfl
    | 64, hc => cases hc; exact hP 64 _ rfl
    | 65, hc => cases hc; exact hP 65 _ rfl
    | 66, hc => cases hc; exact hP 66 _ rfl
    | 67, hc => cases hc; exact hP 67 _ rfl
    | 68, hc => cases hc; exact hP 68 _ rfl
    | n + 69, hc => exact absurd (show hp_0[n + 69]? = none from List.getElem?_eq_none (by show 69 ≤ n + 69; omega)) (by rw [hc]; exact fun e => by cases e)
  have hl2 : lv_has ls 4 [(0, .ref b), (1, .ref (ad 0)), (2, .ref (ad 61)), (3, .int (nI 0))] := by
    subst ead
    exact lv_sub hl [3, 2, 1, 0] rfl
  exact law_loop hL C0 hK hnj had (L + 1) 0 0 hp_0 (Nat.zero_le L) (by omega) rfl IV_start H _ hP2 hS ls hl2

theorem gw_262 : Cond.methodLink "CliqueSearchLaw" (13 : Nat) ({ cls := "CliqueSearch", name := "node", desc := "(I)I" } : MethodName) ∈ cs_G := List.mem_filter.mpr ⟨List.mem_append_right _ (List.mem_append_right _ (List.mem_append_left _ (List.mem_of_getElem? (i := 22) rfl))), rfl⟩
theorem gw_692 : Cond.methodLink "CliqueSearchLaw" (17 : Nat) ({ cls := "CliqueSearchModel", name := "node", desc := "(I)I" } : MethodName) ∈ cs_G := List.mem_filter.mpr ⟨List.mem_append_right _ (List.mem_append_right _ (List.mem_append_right _ (List.mem_append_left _ (List.mem_of_getElem? (i := 212) rfl)))), rfl⟩
theorem gw_278 : Cond.methodLink "CliqueSearchLaw" (18 : Nat) ({ cls := "CliqueSearch", name := "edge", desc := "(IIZ)I" } : MethodName) ∈ cs_G := List.mem_filter.mpr ⟨List.mem_append_right _ (List.mem_append_right _ (List.mem_append_left _ (List.mem_of_getElem? (i := 38) rfl))), rfl⟩
theorem gw_699 : Cond.methodLink "CliqueSearchLaw" (22 : Nat) ({ cls := "CliqueSearchModel", name := "edge", desc := "(IIZ)I" } : MethodName) ∈ cs_G := List.mem_filter.mpr ⟨List.mem_append_right _ (List.mem_append_right _ (List.mem_append_right _ (List.mem_append_left _ (List.mem_of_getElem? (i := 219) rfl)))), rfl⟩
theorem gw_298 : Cond.methodLink "CliqueSearchLaw" (23 : Nat) ({ cls := "CliqueSearch", name := "weight", desc := "(II)I" } : MethodName) ∈ cs_G := List.mem_filter.mpr ⟨List.mem_append_right _ (List.mem_append_right _ (List.mem_append_left _ (List.mem_of_getElem? (i := 58) rfl))), rfl⟩
theorem gw_707 : Cond.methodLink "CliqueSearchLaw" (27 : Nat) ({ cls := "CliqueSearchModel", name := "weight", desc := "(II)I" } : MethodName) ∈ cs_G := List.mem_filter.mpr ⟨List.mem_append_right _ (List.mem_append_right _ (List.mem_append_right _ (List.mem_append_left _ (List.mem_of_getElem? (i := 227) rfl)))), rfl⟩
theorem gw_306 : Cond.methodLink "CliqueSearchLaw" (28 : Nat) ({ cls := "CliqueSearch", name := "neighbours", desc := "(I)I" } : MethodName) ∈ cs_G := List.mem_filter.mpr ⟨List.mem_append_right _ (List.mem_append_right _ (List.mem_append_left _ (List.mem_of_getElem? (i := 66) rfl))), rfl⟩
theorem gw_711 : Cond.methodLink "CliqueSearchLaw" (31 : Nat) ({ cls := "CliqueSearchModel", name := "neighbours", desc := "(I)I" } : MethodName) ∈ cs_G := List.mem_filter.mpr ⟨List.mem_append_right _ (List.mem_append_right _ (List.mem_append_right _ (List.mem_append_left _ (List.mem_of_getElem? (i := 231) rfl)))), rfl⟩
theorem gw_310 : Cond.methodLink "CliqueSearchLaw" (32 : Nat) ({ cls := "CliqueSearch", name := "greatest", desc := "()I" } : MethodName) ∈ cs_G := List.mem_filter.mpr ⟨List.mem_append_right _ (List.mem_append_right _ (List.mem_append_left _ (List.mem_of_getElem? (i := 70) rfl))), rfl⟩
theorem gw_715 : Cond.methodLink "CliqueSearchLaw" (36 : Nat) ({ cls := "CliqueSearchModel", name := "greatest", desc := "()I" } : MethodName) ∈ cs_G := List.mem_filter.mpr ⟨List.mem_append_right _ (List.mem_append_right _ (List.mem_append_right _ (List.mem_append_left _ (List.mem_of_getElem? (i := 235) rfl)))), rfl⟩
theorem gw_351 : Cond.methodLink "CliqueSearchLaw" (37 : Nat) ({ cls := "CliqueSearch", name := "heaviest", desc := "()I" } : MethodName) ∈ cs_G := List.mem_filter.mpr ⟨List.mem_append_right _ (List.mem_append_right _ (List.mem_append_left _ (List.mem_of_getElem? (i := 111) rfl))), rfl⟩
theorem gw_750 : Cond.methodLink "CliqueSearchLaw" (40 : Nat) ({ cls := "CliqueSearchModel", name := "heaviest", desc := "()I" } : MethodName) ∈ cs_G := List.mem_filter.mpr ⟨List.mem_append_right _ (List.mem_append_right _ (List.mem_append_right _ (List.mem_append_right _ (List.mem_of_getElem? (i := 30) rfl)))), rfl⟩
theorem gw_364 : Cond.methodLink "CliqueSearchLaw" (41 : Nat) ({ cls := "CliqueSearch", name := "maximal", desc := "()I" } : MethodName) ∈ cs_G := List.mem_filter.mpr ⟨List.mem_append_right _ (List.mem_append_right _ (List.mem_append_left _ (List.mem_of_getElem? (i := 124) rfl))), rfl⟩
theorem gw_754 : Cond.methodLink "CliqueSearchLaw" (44 : Nat) ({ cls := "CliqueSearchModel", name := "maximal", desc := "()I" } : MethodName) ∈ cs_G := List.mem_filter.mpr ⟨List.mem_append_right _ (List.mem_append_right _ (List.mem_append_right _ (List.mem_append_right _ (List.mem_of_getElem? (i := 34) rfl)))), rfl⟩
theorem gw_372 : Cond.methodLink "CliqueSearchLaw" (45 : Nat) ({ cls := "CliqueSearch", name := "maximal", desc := "(I)I" } : MethodName) ∈ cs_G := List.mem_filter.mpr ⟨List.mem_append_right _ (List.mem_append_right _ (List.mem_append_left _ (List.mem_of_getElem? (i := 132) rfl))), rfl⟩
theorem gw_762 : Cond.methodLink "CliqueSearchLaw" (47 : Nat) ({ cls := "CliqueSearchModel", name := "maximal", desc := "(I)I" } : MethodName) ∈ cs_G := List.mem_filter.mpr ⟨List.mem_append_right _ (List.mem_append_right _ (List.mem_append_right _ (List.mem_append_right _ (List.mem_of_getElem? (i := 42) rfl)))), rfl⟩
theorem gw_380 : Cond.methodLink "CliqueSearchLaw" (48 : Nat) ({ cls := "CliqueSearch", name := "cliques", desc := "(I)I" } : MethodName) ∈ cs_G := List.mem_filter.mpr ⟨List.mem_append_right _ (List.mem_append_right _ (List.mem_append_left _ (List.mem_of_getElem? (i := 140) rfl))), rfl⟩
theorem gw_766 : Cond.methodLink "CliqueSearchLaw" (51 : Nat) ({ cls := "CliqueSearchModel", name := "cliques", desc := "(I)I" } : MethodName) ∈ cs_G := List.mem_filter.mpr ⟨List.mem_append_right _ (List.mem_append_right _ (List.mem_append_right _ (List.mem_append_right _ (List.mem_of_getElem? (i := 46) rfl)))), rfl⟩
theorem gw_412 : Cond.methodLink "CliqueSearchLaw" (52 : Nat) ({ cls := "CliqueSearch", name := "cover", desc := "()I" } : MethodName) ∈ cs_G := List.mem_filter.mpr ⟨List.mem_append_right _ (List.mem_append_right _ (List.mem_append_left _ (List.mem_of_getElem? (i := 172) rfl))), rfl⟩
theorem gw_770 : Cond.methodLink "CliqueSearchLaw" (55 : Nat) ({ cls := "CliqueSearchModel", name := "cover", desc := "()I" } : MethodName) ∈ cs_G := List.mem_filter.mpr ⟨List.mem_append_right _ (List.mem_append_right _ (List.mem_append_right _ (List.mem_append_right _ (List.mem_of_getElem? (i := 50) rfl)))), rfl⟩
theorem gw_421 : Cond.methodLink "CliqueSearchLaw" (56 : Nat) ({ cls := "CliqueSearch", name := "apart", desc := "()I" } : MethodName) ∈ cs_G := List.mem_filter.mpr ⟨List.mem_append_right _ (List.mem_append_right _ (List.mem_append_left _ (List.mem_of_getElem? (i := 181) rfl))), rfl⟩
theorem gw_774 : Cond.methodLink "CliqueSearchLaw" (59 : Nat) ({ cls := "CliqueSearchModel", name := "apart", desc := "()I" } : MethodName) ∈ cs_G := List.mem_filter.mpr ⟨List.mem_append_right _ (List.mem_append_right _ (List.mem_append_right _ (List.mem_append_right _ (List.mem_of_getElem? (i := 54) rfl)))), rfl⟩
theorem gw_425 : Cond.methodLink "CliqueSearchLaw" (60 : Nat) ({ cls := "CliqueSearch", name := "near", desc := "(I)I" } : MethodName) ∈ cs_G := List.mem_filter.mpr ⟨List.mem_append_right _ (List.mem_append_right _ (List.mem_append_left _ (List.mem_of_getElem? (i := 185) rfl))), rfl⟩
theorem gw_778 : Cond.methodLink "CliqueSearchLaw" (63 : Nat) ({ cls := "CliqueSearchModel", name := "near", desc := "(I)I" } : MethodName) ∈ cs_G := List.mem_filter.mpr ⟨List.mem_append_right _ (List.mem_append_right _ (List.mem_append_right _ (List.mem_append_right _ (List.mem_of_getElem? (i := 58) rfl)))), rfl⟩
theorem gw_473 : Cond.methodLink "CliqueSearchLaw" (64 : Nat) ({ cls := "CliqueSearch", name := "colours", desc := "(I)I" } : MethodName) ∈ cs_G := List.mem_filter.mpr ⟨List.mem_append_right _ (List.mem_append_right _ (List.mem_append_left _ (List.mem_of_getElem? (i := 233) rfl))), rfl⟩
theorem gw_782 : Cond.methodLink "CliqueSearchLaw" (67 : Nat) ({ cls := "CliqueSearchModel", name := "colours", desc := "(I)I" } : MethodName) ∈ cs_G := List.mem_filter.mpr ⟨List.mem_append_right _ (List.mem_append_right _ (List.mem_append_right _ (List.mem_append_right _ (List.mem_of_getElem? (i := 62) rfl)))), rfl⟩
theorem gw_483 : Cond.methodLink "CliqueSearchLaw" (68 : Nat) ({ cls := "CliqueSearch", name := "colour", desc := "(II)I" } : MethodName) ∈ cs_G := List.mem_filter.mpr ⟨List.mem_append_right _ (List.mem_append_right _ (List.mem_append_right _ (List.mem_append_left _ (List.mem_of_getElem? (i := 3) rfl)))), rfl⟩
theorem gw_790 : Cond.methodLink "CliqueSearchLaw" (71 : Nat) ({ cls := "CliqueSearchModel", name := "colour", desc := "(II)I" } : MethodName) ∈ cs_G := List.mem_filter.mpr ⟨List.mem_append_right _ (List.mem_append_right _ (List.mem_append_right _ (List.mem_append_right _ (List.mem_of_getElem? (i := 70) rfl)))), rfl⟩
theorem gw_487 : Cond.methodLink "CliqueSearchLaw" (72 : Nat) ({ cls := "CliqueSearch", name := "peeled", desc := "(I)I" } : MethodName) ∈ cs_G := List.mem_filter.mpr ⟨List.mem_append_right _ (List.mem_append_right _ (List.mem_append_right _ (List.mem_append_left _ (List.mem_of_getElem? (i := 7) rfl)))), rfl⟩
theorem gw_794 : Cond.methodLink "CliqueSearchLaw" (75 : Nat) ({ cls := "CliqueSearchModel", name := "peeled", desc := "(I)I" } : MethodName) ∈ cs_G := List.mem_filter.mpr ⟨List.mem_append_right _ (List.mem_append_right _ (List.mem_append_right _ (List.mem_append_right _ (List.mem_of_getElem? (i := 74) rfl)))), rfl⟩
theorem gw_503 : Cond.methodLink "CliqueSearchLaw" (76 : Nat) ({ cls := "CliqueSearch", name := "core", desc := "(I)I" } : MethodName) ∈ cs_G := List.mem_filter.mpr ⟨List.mem_append_right _ (List.mem_append_right _ (List.mem_append_right _ (List.mem_append_left _ (List.mem_of_getElem? (i := 23) rfl)))), rfl⟩
theorem gw_802 : Cond.methodLink "CliqueSearchLaw" (79 : Nat) ({ cls := "CliqueSearchModel", name := "core", desc := "(I)I" } : MethodName) ∈ cs_G := List.mem_filter.mpr ⟨List.mem_append_right _ (List.mem_append_right _ (List.mem_append_right _ (List.mem_append_right _ (List.mem_of_getElem? (i := 82) rfl)))), rfl⟩
theorem gw_511 : Cond.methodLink "CliqueSearchLaw" (80 : Nat) ({ cls := "CliqueSearch", name := "search", desc := "(I)I" } : MethodName) ∈ cs_G := List.mem_filter.mpr ⟨List.mem_append_right _ (List.mem_append_right _ (List.mem_append_right _ (List.mem_append_left _ (List.mem_of_getElem? (i := 31) rfl)))), rfl⟩
theorem gw_806 : Cond.methodLink "CliqueSearchLaw" (83 : Nat) ({ cls := "CliqueSearchModel", name := "search", desc := "(I)I" } : MethodName) ∈ cs_G := List.mem_filter.mpr ⟨List.mem_append_right _ (List.mem_append_right _ (List.mem_append_right _ (List.mem_append_right _ (List.mem_of_getElem? (i := 86) rfl)))), rfl⟩
theorem gw_528 : Cond.methodLink "CliqueSearchLaw" (84 : Nat) ({ cls := "CliqueSearch", name := "searched", desc := "(I)I" } : MethodName) ∈ cs_G := List.mem_filter.mpr ⟨List.mem_append_right _ (List.mem_append_right _ (List.mem_append_right _ (List.mem_append_left _ (List.mem_of_getElem? (i := 48) rfl)))), rfl⟩
theorem gw_815 : Cond.methodLink "CliqueSearchLaw" (87 : Nat) ({ cls := "CliqueSearchModel", name := "searched", desc := "(I)I" } : MethodName) ∈ cs_G := List.mem_filter.mpr ⟨List.mem_append_right _ (List.mem_append_right _ (List.mem_append_right _ (List.mem_append_right _ (List.mem_of_getElem? (i := 95) rfl)))), rfl⟩
theorem gw_532 : Cond.methodLink "CliqueSearchLaw" (88 : Nat) ({ cls := "CliqueSearch", name := "sure", desc := "(I)I" } : MethodName) ∈ cs_G := List.mem_filter.mpr ⟨List.mem_append_right _ (List.mem_append_right _ (List.mem_append_right _ (List.mem_append_left _ (List.mem_of_getElem? (i := 52) rfl)))), rfl⟩
theorem gw_819 : Cond.methodLink "CliqueSearchLaw" (91 : Nat) ({ cls := "CliqueSearchModel", name := "sure", desc := "(I)I" } : MethodName) ∈ cs_G := List.mem_filter.mpr ⟨List.mem_append_right _ (List.mem_append_right _ (List.mem_append_right _ (List.mem_append_right _ (List.mem_of_getElem? (i := 99) rfl)))), rfl⟩
theorem gw_560 : Cond.methodLink "CliqueSearchLaw" (92 : Nat) ({ cls := "CliqueSearch", name := "taken", desc := "(I)I" } : MethodName) ∈ cs_G := List.mem_filter.mpr ⟨List.mem_append_right _ (List.mem_append_right _ (List.mem_append_right _ (List.mem_append_left _ (List.mem_of_getElem? (i := 80) rfl)))), rfl⟩
theorem gw_835 : Cond.methodLink "CliqueSearchLaw" (95 : Nat) ({ cls := "CliqueSearchModel", name := "taken", desc := "(I)I" } : MethodName) ∈ cs_G := List.mem_filter.mpr ⟨List.mem_append_right _ (List.mem_append_right _ (List.mem_append_right _ (List.mem_append_right _ (List.mem_of_getElem? (i := 115) rfl)))), rfl⟩
theorem gw_564 : Cond.methodLink "CliqueSearchLaw" (96 : Nat) ({ cls := "CliqueSearch", name := "sides", desc := "()I" } : MethodName) ∈ cs_G := List.mem_filter.mpr ⟨List.mem_append_right _ (List.mem_append_right _ (List.mem_append_right _ (List.mem_append_left _ (List.mem_of_getElem? (i := 84) rfl)))), rfl⟩
theorem gw_839 : Cond.methodLink "CliqueSearchLaw" (99 : Nat) ({ cls := "CliqueSearchModel", name := "sides", desc := "()I" } : MethodName) ∈ cs_G := List.mem_filter.mpr ⟨List.mem_append_right _ (List.mem_append_right _ (List.mem_append_right _ (List.mem_append_right _ (List.mem_of_getElem? (i := 119) rfl)))), rfl⟩
theorem gw_576 : Cond.methodLink "CliqueSearchLaw" (100 : Nat) ({ cls := "CliqueSearch", name := "pairs", desc := "()I" } : MethodName) ∈ cs_G := List.mem_filter.mpr ⟨List.mem_append_right _ (List.mem_append_right _ (List.mem_append_right _ (List.mem_append_left _ (List.mem_of_getElem? (i := 96) rfl)))), rfl⟩
theorem gw_847 : Cond.methodLink "CliqueSearchLaw" (103 : Nat) ({ cls := "CliqueSearchModel", name := "pairs", desc := "()I" } : MethodName) ∈ cs_G := List.mem_filter.mpr ⟨List.mem_append_right _ (List.mem_append_right _ (List.mem_append_right _ (List.mem_append_right _ (List.mem_of_getElem? (i := 127) rfl)))), rfl⟩
theorem gw_618 : Cond.methodLink "CliqueSearchLaw" (104 : Nat) ({ cls := "CliqueSearch", name := "count", desc := "(I)I" } : MethodName) ∈ cs_G := List.mem_filter.mpr ⟨List.mem_append_right _ (List.mem_append_right _ (List.mem_append_right _ (List.mem_append_left _ (List.mem_of_getElem? (i := 138) rfl)))), rfl⟩
theorem gw_851 : Cond.methodLink "CliqueSearchLaw" (107 : Nat) ({ cls := "CliqueSearchModel", name := "count", desc := "(I)I" } : MethodName) ∈ cs_G := List.mem_filter.mpr ⟨List.mem_append_right _ (List.mem_append_right _ (List.mem_append_right _ (List.mem_append_right _ (List.mem_of_getElem? (i := 131) rfl)))), rfl⟩
def lw_P (b : Addr) (xs : List Int32) (args : Array Value) (s : State) : Prop := args = #[.ref b] ∧ s.IntsAt b xs ∧ xs.length ≤ 2048 ∧ (Jvm.Cond.and given_1 narrow_1).before args s = true
def lw_Q (_ : Array Value) (s : State) (o : Outcome) (t : State) : Prop := o = .returned (some (.int 1)) ∧ Framed s o t [] 600000 7302250
def lw_Z (below : List Frame) (a : Array Value) (s : State) : State → Prop := fun t => ∃ o, t.status = .running ∧ Ended t below o ∧ lw_Q a s o t
/-- the law's own end, with 1 on the stack, nothing written that was there before, its room as the claim has it -/
theorem lw_ret {p : Program} {l : Launch} {e : Env} {s : State} {m : MethodId} {below : List Frame} {meth : Method} {c : Code} {b : Nat} (hx : p.tables.exec = Jvm.exec) (hb : c.code = code) (hr : meth.sig.returnType = ret) (hlocks : meth.locks = false) {pc : Nat} {H : Heap} {ls : Array Slot} (hdg : decode code pc = .ok (.ireturn, 1)) : W p l e room_1 s m #[Value.ref b] below meth c H [] 600000 7302250 (lw_Z below #[Value.ref b] s) (F0 m pc ls [.int 1]) := by
  intro T hT X
  obtain ⟨fs, hret, hrun, hended, hW, hframe⟩ := X.leave (v := some (.int 1)) (hlocks := hlocks) (fun h => by rw [hr] at h; cases h)
  have hmeth' : T.vm.method? m = some meth := X.method'
  refine ⟨T.setFrames fs, ?_, .returned (some (.int 1)), hrun, hended, rfl, ⟨_, rfl⟩, hW, hframe⟩
  jvm_step X.here [X.here.top, hx, hb, hdg, hmeth', hr, ret, narrow_b1]
  (try refine ⟨rfl, ?_⟩); (try refine ⟨rfl, ?_⟩)
  first | (intro acts; rw [hret _ acts rfl rfl rfl]) | rw [hret _ _ rfl rfl rfl]
  exact Steps.refl _
/-- what holds at the law's entry: the machine, the code, the tables' words (any of lw_tbl by 'hts w (by decide +kernel)'), the script of L ints xs at the cell b, what the Statement gives of the start (any of its parts by flat_of_before) -/
def lw_At (p : Program) (s : State) (m : MethodId) (meth : Method) (c : Code) (b L : Nat) (xs : Nat → Int32) : Prop :=
  p.tables.exec = Jvm.exec ∧ c.code = code ∧ meth.sig.returnType = ret ∧ c.maxLocals = 4 ∧ s.vm.findClass R_law = some m.cls ∧ (∀ w ∈ lw_tbl, w.before #[Value.ref b] s = true) ∧ va_X b L xs s s.heap ∧ b < s.heap.size ∧ meth.locks = false ∧ (Jvm.Cond.and given_1 narrow_1).before #[Value.ref b] s = true
theorem IV_up {ch : Nat} {h : mi_H} (I : IV ch h) : IV (ch + 1) h := by
  obtain ⟨n, zj, za, zc, ze, zp, zx, zu, zm, zk, zr, rfl, i0, i1⟩ := I
  exact ⟨n, zj, za, zc, ze, zp, zx, zu, zm, zk, zr, rfl, ⟨i0.1, by omega⟩, i1⟩
theorem lw_le {i L : Nat} (hL : L ≤ 2048) (hi : i ≤ L) (h : ¬ nI i > Int32.ofNat L - 4) : i + 4 ≤ L := by
  have h1 : Int32.ofNat L - 4 = nI L - nI 4 := rfl
  rw [h1] at h
  by_cases h4 : 4 ≤ L
  · rw [cn_sub h4] at h
    have h2 : ¬ nI (L - 4) < nI i := h
    rw [nI_ltI (by omega) (by omega)] at h2
    omega
  · exfalso
    apply h
    show nI L - nI 4 < nI i
    have : L = 0 ∨ L = 1 ∨ L = 2 ∨ L = 3 := by omega
    rw [Int32.lt_iff_toInt_lt, nI_toInt (by omega)]
    rcases this with e | e | e | e <;> subst e
    · rw [show (nI 0 - nI 4).toInt = -4 by decide +kernel]; omega
    · rw [show (nI 1 - nI 4).toInt = -3 by decide +kernel]; omega
    · rw [show (nI 2 - nI 4).toInt = -2 by decide +kernel]; omega
    · rw [show (nI 3 - nI 4).toInt = -1 by decide +kernel]; omega
set_option maxHeartbeats 8000000 in
set_option maxRecDepth 100000 in
/-- the law's loop -/
theorem law_loop {p : Program} {l : Launch} {e : Env} {s : State} {m : MethodId} {below : List Frame} {meth : Method} {c : Code} {D : va_G} {cA : Nat → ClassId} {ad : Nat → Nat} {b L : Nat} {xs : Nat → Int32} (hL : L ≤ 2048) (C0 : lw_At p s m meth c b L xs) (hK : va_K D cs_cl (mi_ty cA) s) (hnj : mi_nj ad 69) (had : ∀ k, k < 69 → s.heap.size ≤ ad k) :
    ∀ (n i ch : Nat) (h : mi_H), i ≤ L → L + 1 ≤ i + n → i = 4 * ch → IV ch h → ∀ (H : Heap) (locs : List Loc), va_P D cs_cl (mi_w ad cA h) H → va_S (fun q => s.heap.size ≤ q) s.heap H locs → ∀ (ls : Array Slot), lv_has ls 4 [(0, .ref b), (1, .ref (ad 0)), (2, .ref (ad 61)), (3, .int (nI i))] → W p l e room_1 s m #[Value.ref b] below meth c H locs 69 67962 (lw_Z below #[Value.ref b] s) (F0 m 18 ls []) := by
  obtain ⟨hx, hb, hr, hml, hown, hts, hX, hbl, hlocks, hgv⟩ := C0
  have htsG : ∀ w ∈ cs_G, w.before #[Value.ref b] s = true := fun w hw => hts w (List.mem_filter.mp hw).1
  have hbA : ¬ (fun q : Nat => s.heap.size ≤ q) b := Nat.not_le.mpr hbl
  intro n
  induction n with
  | zero =>
    intro i ch h h1 h2
    exact absurd h2 (by omega)
  | succ n ih =>
    intro i ch h hi hni hch4 I H locs hP hS ls hl
    have hN := IV_l I
    obtain ⟨fs0, h0e⟩ := IV_0 I
    have hch : ch + 1 < 2 ^ 31 := by omega
    refine lv_iload_n hx hb dl_18 rfl (lv_at hl 3 rfl) ?_
    refine lv_aload_n hx hb dl_19 rfl (lv_at hl 0 rfl) ?_
    refine va_slen hx hb hX hbl hbA hS dl_20 ?_
    refine lv_iconst (v := 4) hx hb dl_21 (by decide) ?_
    refine lv_isub hx hb dl_22 ?_
    refine lv_icmp_gt (tgt := 661) hx hb dl_23 (by decide) (fun c0 => ?_) (fun c0 => ?_)
    · refine lv_iconst (v := 1) hx hb dl_661 (by decide) ?_
      refine va_forget (fun q hq => hS.2.2 q hq) ?_
      refine W.widen (k := 600000) (n := 7302250) (by decide) (by decide) ?_
      exact lw_ret hx hb hr hlocks dl_662
    · have hlt : i + 4 ≤ L := lw_le hL hi c0
      have hin : ∀ k, 1 ≤ k → k ≤ 3 → vp_in (nI i + nI k) L := fun k h1 h2 => by
        rw [nI_add]
        exact vp_in_nI (by omega) (by omega)
      have nx : ∀ (h2 : mi_H) (H : Heap) (locs : List Loc), IV (ch + 1) h2 → va_P D cs_cl (mi_w ad cA h2) H → va_S (fun q => s.heap.size ≤ q) s.heap H locs → W p l e room_1 s m #[Value.ref b] below meth c H locs 69 67962 (lw_Z below #[Value.ref b] s) (F0 m 655 ls []) := fun h2 H locs I2 hP hS => by
        refine lv_iinc (v := nI (i + 4)) (lv' := [(3, .int (nI (i + 4))), (0, .ref b), (1, .ref (ad 0)), (2, .ref (ad 61))]) hx hb dl_655 hl (k := 3) rfl (nI_add i 4) (by decide) rfl (fun ls hl => ?_)
        refine lv_goto (tgt := 18) hx hb dl_658 (by decide) ?_
        exact ih (i + 4) (ch + 1) h2 hlt (by omega) (by omega) I2 H locs hP hS ls (lv_sub hl [1, 2, 3, 0] rfl)
      refine lv_aload_n hx hb dl_26 rfl (lv_at hl 0 rfl) ?_
      refine lv_iload_n hx hb dl_27 rfl (lv_at hl 3 rfl) ?_
      refine va_sld hx hb hX hbl hbA hS (vp_in_nI (by omega) (by omega)) dl_28 ?_
      refine lv_bipush (v := 31) hx hb dl_29 (by decide) ?_
      refine lv_iand hx hb dl_31 ?_
      refine lv_topi (fun y ey => ?_)
      rcases cl_sel (k := y) (n := 23) (by decide) with ⟨j, hj, rfl⟩ | ho
      · rcases (show j = 0 ∨ j = 1 ∨ j = 2 ∨ j = 3 ∨ j = 4 ∨ j = 5 ∨ j = 6 ∨ j = 7 ∨ j = 8 ∨ j = 9 ∨ j = 10 ∨ j = 11 ∨ j = 12 ∨ j = 13 ∨ j = 14 ∨ j = 15 ∨ j = 16 ∨ j = 17 ∨ j = 18 ∨ j = 19 ∨ j = 20 ∨ j = 21 ∨ j = 22 by omega) with rfl | rfl | rfl | rfl | rfl | rfl | rfl | rfl | rfl | rfl | rfl | rfl | rfl | rfl | rfl | rfl | rfl | rfl | rfl | rfl | rfl | rfl | rfl
        · refine lv_tableIn (off := 108) (tgt := 140) hx hb dl_32 (by decide) (by decide) rfl (by decide) ?_
          obtain ⟨h2, I2, v, hm, ⟨fs1, h61⟩, g1, g2⟩ := op_node hch I (xs (nI i + 1).toNatClampNeg)
          refine lv_aload_n hx hb dl_140 rfl (lv_at hl 1 rfl) ?_
          refine lv_aload_n hx hb dl_141 rfl (lv_at hl 0 rfl) ?_
          refine lv_iload_n hx hb dl_142 rfl (lv_at hl 3 rfl) ?_
          refine lv_iconst (v := 1) hx hb dl_143 (by decide) ?_
          refine lv_iadd hx hb dl_144 ?_
          refine va_sld hx hb hX hbl hbA hS (hin 1 (by decide) (by decide)) dl_145 ?_
          refine lw_go (n := 1) hx hb hml hown htsG hK hnj had hl g1 rfl rfl (by decide) (by decide) h0e rfl iw_c0 dl_146 gw_262 iw_i0 iw_v0 iw_n0 (by decide +kernel) (by decide) (Nat.le_of_ble_eq_true rfl) rfl hP hN hS (fun H locs hP hN hS => ?_)
          refine lv_aload_n hx hb dl_149 rfl (lv_at hl 2 rfl) ?_
          refine lv_aload_n hx hb dl_150 rfl (lv_at hl 0 rfl) ?_
          refine lv_iload_n hx hb dl_151 rfl (lv_at hl 3 rfl) ?_
          refine lv_iconst (v := 1) hx hb dl_152 (by decide) ?_
          refine lv_iadd hx hb dl_153 ?_
          refine va_sld hx hb hX hbl hbA hS (hin 1 (by decide) (by decide)) dl_154 ?_
          refine lw_go (n := 1) hx hb hml hown htsG hK hnj had hl g2 rfl rfl (by decide) (by decide) h61 rfl iw_c83 dl_155 gw_692 iw_i83 iw_v83 iw_n83 (by decide +kernel) (by decide) (Nat.le_of_ble_eq_true rfl) rfl hP hN hS (fun H locs hP hN hS => ?_)
          refine lv_icmp_eq (tgt := 655) hx hb dl_158 (by decide) (fun _ => ?_) (fun c => absurd rfl c)
          exact nx h2 H locs I2 hP hS
        · refine lv_tableIn (off := 131) (tgt := 163) hx hb dl_32 (by decide) (by decide) rfl (by decide) ?_
          obtain ⟨o, ho, ez⟩ : ∃ o : Nat, (o = 0 ∨ o = 1) ∧ (((xs (nI i + 3).toNatClampNeg) = 0 ∧ o = 0) ∨ (¬ (xs (nI i + 3).toNatClampNeg) = 0 ∧ o = 1)) := by
            by_cases hz : (xs (nI i + 3).toNatClampNeg) = 0
            · exact ⟨0, .inl rfl, .inl ⟨hz, rfl⟩⟩
            · exact ⟨1, .inr rfl, .inr ⟨hz, rfl⟩⟩
          obtain ⟨h2, I2, v, hm, ⟨fs1, h61⟩, g1, g2⟩ := op_edge hch I (xs (nI i + 1).toNatClampNeg) (xs (nI i + 2).toNatClampNeg) ho
          refine lv_aload_n hx hb dl_163 rfl (lv_at hl 1 rfl) ?_
          refine lv_aload_n hx hb dl_164 rfl (lv_at hl 0 rfl) ?_
          refine lv_iload_n hx hb dl_165 rfl (lv_at hl 3 rfl) ?_
          refine lv_iconst (v := 1) hx hb dl_166 (by decide) ?_
          refine lv_iadd hx hb dl_167 ?_
          refine va_sld hx hb hX hbl hbA hS (hin 1 (by decide) (by decide)) dl_168 ?_
          refine lv_aload_n hx hb dl_169 rfl (lv_at hl 0 rfl) ?_
          refine lv_iload_n hx hb dl_170 rfl (lv_at hl 3 rfl) ?_
          refine lv_iconst (v := 2) hx hb dl_171 (by decide) ?_
          refine lv_iadd hx hb dl_172 ?_
          refine va_sld hx hb hX hbl hbA hS (hin 2 (by decide) (by decide)) dl_173 ?_
          refine lv_aload_n hx hb dl_174 rfl (lv_at hl 0 rfl) ?_
          refine lv_iload_n hx hb dl_175 rfl (lv_at hl 3 rfl) ?_
          refine lv_iconst (v := 3) hx hb dl_176 (by decide) ?_
          refine lv_iadd hx hb dl_177 ?_
          refine va_sld hx hb hX hbl hbA hS (hin 3 (by decide) (by decide)) dl_178 ?_
          have hcut : ∀ {Qx : State → Prop} {rs : List Value}, W p l e room_1 s m #[Value.ref b] below meth c H locs 69 67962 Qx (F0 m 187 ls (.int (nI o) :: rs)) → W p l e room_1 s m #[Value.ref b] below meth c H locs 69 67962 Qx (F0 m 179 ls (.int (xs (nI i + 3).toNatClampNeg) :: rs)) := fun {Qx rs} kq => by
            refine lv_if_eq (tgt := 186) hx hb dl_179 (by decide) (fun c => ?_) (fun c => ?_)
            · rcases ez with ⟨_, e0⟩ | ⟨n0, _⟩
              · subst e0
                exact lv_iconst (v := nI 0) hx hb dl_186 (by decide) kq
              · exact absurd c n0
            · rcases ez with ⟨y0, _⟩ | ⟨_, e0⟩
              · exact absurd y0 c
              · subst e0
                refine lv_iconst (v := nI 1) hx hb dl_182 (by decide) ?_
                exact lv_goto (tgt := 187) hx hb dl_183 (by decide) kq
          refine hcut ?_
          refine lw_go (n := 3) hx hb hml hown htsG hK hnj had hl g1 rfl rfl (by decide) (by decide) h0e rfl iw_c4 dl_187 gw_278 iw_i4 iw_v4 iw_n4 (by decide +kernel) (by decide) (Nat.le_of_ble_eq_true rfl) rfl hP hN hS (fun H locs hP hN hS => ?_)
          refine lv_aload_n hx hb dl_190 rfl (lv_at hl 2 rfl) ?_
          refine lv_aload_n hx hb dl_191 rfl (lv_at hl 0 rfl) ?_
          refine lv_iload_n hx hb dl_192 rfl (lv_at hl 3 rfl) ?_
          refine lv_iconst (v := 1) hx hb dl_193 (by decide) ?_
          refine lv_iadd hx hb dl_194 ?_
          refine va_sld hx hb hX hbl hbA hS (hin 1 (by decide) (by decide)) dl_195 ?_
          refine lv_aload_n hx hb dl_196 rfl (lv_at hl 0 rfl) ?_
          refine lv_iload_n hx hb dl_197 rfl (lv_at hl 3 rfl) ?_
          refine lv_iconst (v := 2) hx hb dl_198 (by decide) ?_
          refine lv_iadd hx hb dl_199 ?_
          refine va_sld hx hb hX hbl hbA hS (hin 2 (by decide) (by decide)) dl_200 ?_
          refine lv_aload_n hx hb dl_201 rfl (lv_at hl 0 rfl) ?_
          refine lv_iload_n hx hb dl_202 rfl (lv_at hl 3 rfl) ?_
          refine lv_iconst (v := 3) hx hb dl_203 (by decide) ?_
          refine lv_iadd hx hb dl_204 ?_
          refine va_sld hx hb hX hbl hbA hS (hin 3 (by decide) (by decide)) dl_205 ?_
          have hcut : ∀ {Qx : State → Prop} {rs : List Value}, W p l e room_1 s m #[Value.ref b] below meth c H locs 69 67962 Qx (F0 m 214 ls (.int (nI o) :: rs)) → W p l e room_1 s m #[Value.ref b] below meth c H locs 69 67962 Qx (F0 m 206 ls (.int (xs (nI i + 3).toNatClampNeg) :: rs)) := fun {Qx rs} kq => by
            refine lv_if_eq (tgt := 213) hx hb dl_206 (by decide) (fun c => ?_) (fun c => ?_)
            · rcases ez with ⟨_, e0⟩ | ⟨n0, _⟩
              · subst e0
                exact lv_iconst (v := nI 0) hx hb dl_213 (by decide) kq
              · exact absurd c n0
            · rcases ez with ⟨y0, _⟩ | ⟨_, e0⟩
              · exact absurd y0 c
              · subst e0
                refine lv_iconst (v := nI 1) hx hb dl_209 (by decide) ?_
                exact lv_goto (tgt := 214) hx hb dl_210 (by decide) kq
          refine hcut ?_
          refine lw_go (n := 3) hx hb hml hown htsG hK hnj had hl g2 rfl rfl (by decide) (by decide) h61 rfl iw_c85 dl_214 gw_699 iw_i85 iw_v85 iw_n85 (by decide +kernel) (by decide) (Nat.le_of_ble_eq_true rfl) rfl hP hN hS (fun H locs hP hN hS => ?_)
          refine lv_icmp_eq (tgt := 655) hx hb dl_217 (by decide) (fun _ => ?_) (fun c => absurd rfl c)
          exact nx h2 H locs I2 hP hS
        · refine lv_tableIn (off := 190) (tgt := 222) hx hb dl_32 (by decide) (by decide) rfl (by decide) ?_
          obtain ⟨h2, I2, v, hm, ⟨fs1, h61⟩, g1, g2⟩ := op_weight I (xs (nI i + 1).toNatClampNeg) (xs (nI i + 2).toNatClampNeg)
          refine lv_aload_n hx hb dl_222 rfl (lv_at hl 1 rfl) ?_
          refine lv_aload_n hx hb dl_223 rfl (lv_at hl 0 rfl) ?_
          refine lv_iload_n hx hb dl_224 rfl (lv_at hl 3 rfl) ?_
          refine lv_iconst (v := 1) hx hb dl_225 (by decide) ?_
          refine lv_iadd hx hb dl_226 ?_
          refine va_sld hx hb hX hbl hbA hS (hin 1 (by decide) (by decide)) dl_227 ?_
          refine lv_aload_n hx hb dl_228 rfl (lv_at hl 0 rfl) ?_
          refine lv_iload_n hx hb dl_229 rfl (lv_at hl 3 rfl) ?_
          refine lv_iconst (v := 2) hx hb dl_230 (by decide) ?_
          refine lv_iadd hx hb dl_231 ?_
          refine va_sld hx hb hX hbl hbA hS (hin 2 (by decide) (by decide)) dl_232 ?_
          refine lw_go (n := 2) hx hb hml hown htsG hK hnj had hl g1 rfl rfl (by decide) (by decide) h0e rfl iw_c9 dl_233 gw_298 iw_i9 iw_v9 iw_n9 (by decide +kernel) (by decide) (Nat.le_of_ble_eq_true rfl) rfl hP hN hS (fun H locs hP hN hS => ?_)
          refine lv_aload_n hx hb dl_236 rfl (lv_at hl 2 rfl) ?_
          refine lv_aload_n hx hb dl_237 rfl (lv_at hl 0 rfl) ?_
          refine lv_iload_n hx hb dl_238 rfl (lv_at hl 3 rfl) ?_
          refine lv_iconst (v := 1) hx hb dl_239 (by decide) ?_
          refine lv_iadd hx hb dl_240 ?_
          refine va_sld hx hb hX hbl hbA hS (hin 1 (by decide) (by decide)) dl_241 ?_
          refine lv_aload_n hx hb dl_242 rfl (lv_at hl 0 rfl) ?_
          refine lv_iload_n hx hb dl_243 rfl (lv_at hl 3 rfl) ?_
          refine lv_iconst (v := 2) hx hb dl_244 (by decide) ?_
          refine lv_iadd hx hb dl_245 ?_
          refine va_sld hx hb hX hbl hbA hS (hin 2 (by decide) (by decide)) dl_246 ?_
          refine lw_go (n := 2) hx hb hml hown htsG hK hnj had hl g2 rfl rfl (by decide) (by decide) h61 rfl iw_c87 dl_247 gw_707 iw_i87 iw_v87 iw_n87 (by decide +kernel) (by decide) (Nat.le_of_ble_eq_true rfl) rfl hP hN hS (fun H locs hP hN hS => ?_)
          refine lv_icmp_eq (tgt := 655) hx hb dl_250 (by decide) (fun _ => ?_) (fun c => absurd rfl c)
          exact nx h2 H locs I2 hP hS
        · refine lv_tableIn (off := 223) (tgt := 255) hx hb dl_32 (by decide) (by decide) rfl (by decide) ?_
          obtain ⟨h2, I2, v, hm, ⟨fs1, h61⟩, g1, g2⟩ := op_neighbours I (xs (nI i + 1).toNatClampNeg)
          refine lv_aload_n hx hb dl_255 rfl (lv_at hl 1 rfl) ?_
          refine lv_aload_n hx hb dl_256 rfl (lv_at hl 0 rfl) ?_
          refine lv_iload_n hx hb dl_257 rfl (lv_at hl 3 rfl) ?_
          refine lv_iconst (v := 1) hx hb dl_258 (by decide) ?_
          refine lv_iadd hx hb dl_259 ?_
          refine va_sld hx hb hX hbl hbA hS (hin 1 (by decide) (by decide)) dl_260 ?_
          refine lw_go (n := 1) hx hb hml hown htsG hK hnj had hl g1 rfl rfl (by decide) (by decide) h0e rfl iw_c11 dl_261 gw_306 iw_i11 iw_v11 iw_n11 (by decide +kernel) (by decide) (Nat.le_of_ble_eq_true rfl) rfl hP hN hS (fun H locs hP hN hS => ?_)
          refine lv_aload_n hx hb dl_264 rfl (lv_at hl 2 rfl) ?_
          refine lv_aload_n hx hb dl_265 rfl (lv_at hl 0 rfl) ?_
          refine lv_iload_n hx hb dl_266 rfl (lv_at hl 3 rfl) ?_
          refine lv_iconst (v := 1) hx hb dl_267 (by decide) ?_
          refine lv_iadd hx hb dl_268 ?_
          refine va_sld hx hb hX hbl hbA hS (hin 1 (by decide) (by decide)) dl_269 ?_
          refine lw_go (n := 1) hx hb hml hown htsG hK hnj had hl g2 rfl rfl (by decide) (by decide) h61 rfl iw_c88 dl_270 gw_711 iw_i88 iw_v88 iw_n88 (by decide +kernel) (by decide) (Nat.le_of_ble_eq_true rfl) rfl hP hN hS (fun H locs hP hN hS => ?_)
          refine lv_icmp_eq (tgt := 655) hx hb dl_273 (by decide) (fun _ => ?_) (fun c => absurd rfl c)
          exact nx h2 H locs I2 hP hS
        · refine lv_tableIn (off := 246) (tgt := 278) hx hb dl_32 (by decide) (by decide) rfl (by decide) ?_
          obtain ⟨h2, I2, v, hm, ⟨fs1, h61⟩, g1, g2⟩ := op_greatest I 
          refine lv_aload_n hx hb dl_278 rfl (lv_at hl 1 rfl) ?_
          refine lw_go (n := 0) hx hb hml hown htsG hK hnj had hl g1 rfl rfl (by decide) (by decide) h0e rfl iw_c12 dl_279 gw_310 iw_i12 iw_v12 iw_n12 (by decide +kernel) (by decide) (Nat.le_of_ble_eq_true rfl) rfl hP hN hS (fun H locs hP hN hS => ?_)
          refine lv_aload_n hx hb dl_282 rfl (lv_at hl 2 rfl) ?_
          refine lw_go (n := 0) hx hb hml hown htsG hK hnj had hl g2 rfl rfl (by decide) (by decide) h61 rfl iw_c89 dl_283 gw_715 iw_i89 iw_v89 iw_n89 (by decide +kernel) (by decide) (Nat.le_of_ble_eq_true rfl) rfl hP hN hS (fun H locs hP hN hS => ?_)
          refine lv_icmp_eq (tgt := 655) hx hb dl_286 (by decide) (fun _ => ?_) (fun c => absurd rfl c)
          exact nx h2 H locs I2 hP hS
        · refine lv_tableIn (off := 259) (tgt := 291) hx hb dl_32 (by decide) (by decide) rfl (by decide) ?_
          obtain ⟨h2, I2, v, hm, ⟨fs1, h61⟩, g1, g2⟩ := op_heaviest I 
          refine lv_aload_n hx hb dl_291 rfl (lv_at hl 1 rfl) ?_
          refine lw_go (n := 0) hx hb hml hown htsG hK hnj had hl g1 rfl rfl (by decide) (by decide) h0e rfl iw_c21 dl_292 gw_351 iw_i21 iw_v21 iw_n21 (by decide +kernel) (by decide) (Nat.le_of_ble_eq_true rfl) rfl hP hN hS (fun H locs hP hN hS => ?_)
          refine lv_aload_n hx hb dl_295 rfl (lv_at hl 2 rfl) ?_
          refine lw_go (n := 0) hx hb hml hown htsG hK hnj had hl g2 rfl rfl (by decide) (by decide) h61 rfl iw_c98 dl_296 gw_750 iw_i98 iw_v98 iw_n98 (by decide +kernel) (by decide) (Nat.le_of_ble_eq_true rfl) rfl hP hN hS (fun H locs hP hN hS => ?_)
          refine lv_icmp_eq (tgt := 655) hx hb dl_299 (by decide) (fun _ => ?_) (fun c => absurd rfl c)
          exact nx h2 H locs I2 hP hS
        · refine lv_tableIn (off := 272) (tgt := 304) hx hb dl_32 (by decide) (by decide) rfl (by decide) ?_
          obtain ⟨h2, I2, v, hm, ⟨fs1, h61⟩, g1, g2⟩ := op_maximal I 
          refine lv_aload_n hx hb dl_304 rfl (lv_at hl 1 rfl) ?_
          refine lw_go (n := 0) hx hb hml hown htsG hK hnj had hl g1 rfl rfl (by decide) (by decide) h0e rfl iw_c24 dl_305 gw_364 iw_i24 iw_v24 iw_n24 (by decide +kernel) (by decide) (Nat.le_of_ble_eq_true rfl) rfl hP hN hS (fun H locs hP hN hS => ?_)
          refine lv_aload_n hx hb dl_308 rfl (lv_at hl 2 rfl) ?_
          refine lw_go (n := 0) hx hb hml hown htsG hK hnj had hl g2 rfl rfl (by decide) (by decide) h61 rfl iw_c99 dl_309 gw_754 iw_i99 iw_v99 iw_n99 (by decide +kernel) (by decide) (Nat.le_of_ble_eq_true rfl) rfl hP hN hS (fun H locs hP hN hS => ?_)
          refine lv_icmp_eq (tgt := 655) hx hb dl_312 (by decide) (fun _ => ?_) (fun c => absurd rfl c)
          exact nx h2 H locs I2 hP hS
        · refine lv_tableIn (off := 285) (tgt := 317) hx hb dl_32 (by decide) (by decide) rfl (by decide) ?_
          obtain ⟨h2, I2, v, hm, ⟨fs1, h61⟩, g1, g2⟩ := op_maximalK I (xs (nI i + 1).toNatClampNeg)
          refine lv_aload_n hx hb dl_317 rfl (lv_at hl 1 rfl) ?_
          refine lv_aload_n hx hb dl_318 rfl (lv_at hl 0 rfl) ?_
          refine lv_iload_n hx hb dl_319 rfl (lv_at hl 3 rfl) ?_
          refine lv_iconst (v := 1) hx hb dl_320 (by decide) ?_
          refine lv_iadd hx hb dl_321 ?_
          refine va_sld hx hb hX hbl hbA hS (hin 1 (by decide) (by decide)) dl_322 ?_
          refine lw_go (n := 1) hx hb hml hown htsG hK hnj had hl g1 rfl rfl (by decide) (by decide) h0e rfl iw_c26 dl_323 gw_372 iw_i26 iw_v26 iw_n26 (by decide +kernel) (by decide) (Nat.le_of_ble_eq_true rfl) rfl hP hN hS (fun H locs hP hN hS => ?_)
          refine lv_aload_n hx hb dl_326 rfl (lv_at hl 2 rfl) ?_
          refine lv_aload_n hx hb dl_327 rfl (lv_at hl 0 rfl) ?_
          refine lv_iload_n hx hb dl_328 rfl (lv_at hl 3 rfl) ?_
          refine lv_iconst (v := 1) hx hb dl_329 (by decide) ?_
          refine lv_iadd hx hb dl_330 ?_
          refine va_sld hx hb hX hbl hbA hS (hin 1 (by decide) (by decide)) dl_331 ?_
          refine lw_go (n := 1) hx hb hml hown htsG hK hnj had hl g2 rfl rfl (by decide) (by decide) h61 rfl iw_c101 dl_332 gw_762 iw_i101 iw_v101 iw_n101 (by decide +kernel) (by decide) (Nat.le_of_ble_eq_true rfl) rfl hP hN hS (fun H locs hP hN hS => ?_)
          refine lv_icmp_eq (tgt := 655) hx hb dl_335 (by decide) (fun _ => ?_) (fun c => absurd rfl c)
          exact nx h2 H locs I2 hP hS
        · refine lv_tableIn (off := 308) (tgt := 340) hx hb dl_32 (by decide) (by decide) rfl (by decide) ?_
          obtain ⟨h2, I2, v, hm, ⟨fs1, h61⟩, g1, g2⟩ := op_cliques I (xs (nI i + 1).toNatClampNeg)
          refine lv_aload_n hx hb dl_340 rfl (lv_at hl 1 rfl) ?_
          refine lv_aload_n hx hb dl_341 rfl (lv_at hl 0 rfl) ?_
          refine lv_iload_n hx hb dl_342 rfl (lv_at hl 3 rfl) ?_
          refine lv_iconst (v := 1) hx hb dl_343 (by decide) ?_
          refine lv_iadd hx hb dl_344 ?_
          refine va_sld hx hb hX hbl hbA hS (hin 1 (by decide) (by decide)) dl_345 ?_
          refine lw_go (n := 1) hx hb hml hown htsG hK hnj had hl g1 rfl rfl (by decide) (by decide) h0e rfl iw_c28 dl_346 gw_380 iw_i28 iw_v28 iw_n28 (by decide +kernel) (by decide) (Nat.le_of_ble_eq_true rfl) rfl hP hN hS (fun H locs hP hN hS => ?_)
          refine lv_aload_n hx hb dl_349 rfl (lv_at hl 2 rfl) ?_
          refine lv_aload_n hx hb dl_350 rfl (lv_at hl 0 rfl) ?_
          refine lv_iload_n hx hb dl_351 rfl (lv_at hl 3 rfl) ?_
          refine lv_iconst (v := 1) hx hb dl_352 (by decide) ?_
          refine lv_iadd hx hb dl_353 ?_
          refine va_sld hx hb hX hbl hbA hS (hin 1 (by decide) (by decide)) dl_354 ?_
          refine lw_go (n := 1) hx hb hml hown htsG hK hnj had hl g2 rfl rfl (by decide) (by decide) h61 rfl iw_c102 dl_355 gw_766 iw_i102 iw_v102 iw_n102 (by decide +kernel) (by decide) (Nat.le_of_ble_eq_true rfl) rfl hP hN hS (fun H locs hP hN hS => ?_)
          refine lv_icmp_eq (tgt := 655) hx hb dl_358 (by decide) (fun _ => ?_) (fun c => absurd rfl c)
          exact nx h2 H locs I2 hP hS
        · refine lv_tableIn (off := 331) (tgt := 363) hx hb dl_32 (by decide) (by decide) rfl (by decide) ?_
          obtain ⟨h2, I2, v, hm, ⟨fs1, h61⟩, g1, g2⟩ := op_cover I 
          refine lv_aload_n hx hb dl_363 rfl (lv_at hl 1 rfl) ?_
          refine lw_go (n := 0) hx hb hml hown htsG hK hnj had hl g1 rfl rfl (by decide) (by decide) h0e rfl iw_c35 dl_364 gw_412 iw_i35 iw_v35 iw_n35 (by decide +kernel) (by decide) (Nat.le_of_ble_eq_true rfl) rfl hP hN hS (fun H locs hP hN hS => ?_)
          refine lv_aload_n hx hb dl_367 rfl (lv_at hl 2 rfl) ?_
          refine lw_go (n := 0) hx hb hml hown htsG hK hnj had hl g2 rfl rfl (by decide) (by decide) h61 rfl iw_c103 dl_368 gw_770 iw_i103 iw_v103 iw_n103 (by decide +kernel) (by decide) (Nat.le_of_ble_eq_true rfl) rfl hP hN hS (fun H locs hP hN hS => ?_)
          refine lv_icmp_eq (tgt := 655) hx hb dl_371 (by decide) (fun _ => ?_) (fun c => absurd rfl c)
          exact nx h2 H locs I2 hP hS
        · refine lv_tableIn (off := 344) (tgt := 376) hx hb dl_32 (by decide) (by decide) rfl (by decide) ?_
          obtain ⟨h2, I2, v, hm, ⟨fs1, h61⟩, g1, g2⟩ := op_apart I 
          refine lv_aload_n hx hb dl_376 rfl (lv_at hl 1 rfl) ?_
          refine lw_go (n := 0) hx hb hml hown htsG hK hnj had hl g1 rfl rfl (by decide) (by decide) h0e rfl iw_c37 dl_377 gw_421 iw_i37 iw_v37 iw_n37 (by decide +kernel) (by decide) (Nat.le_of_ble_eq_true rfl) rfl hP hN hS (fun H locs hP hN hS => ?_)
          refine lv_aload_n hx hb dl_380 rfl (lv_at hl 2 rfl) ?_
          refine lw_go (n := 0) hx hb hml hown htsG hK hnj had hl g2 rfl rfl (by decide) (by decide) h61 rfl iw_c104 dl_381 gw_774 iw_i104 iw_v104 iw_n104 (by decide +kernel) (by decide) (Nat.le_of_ble_eq_true rfl) rfl hP hN hS (fun H locs hP hN hS => ?_)
          refine lv_icmp_eq (tgt := 655) hx hb dl_384 (by decide) (fun _ => ?_) (fun c => absurd rfl c)
          exact nx h2 H locs I2 hP hS
        · refine lv_tableIn (off := 357) (tgt := 389) hx hb dl_32 (by decide) (by decide) rfl (by decide) ?_
          obtain ⟨h2, I2, v, hm, ⟨fs1, h61⟩, g1, g2⟩ := op_near I (xs (nI i + 1).toNatClampNeg)
          refine lv_aload_n hx hb dl_389 rfl (lv_at hl 1 rfl) ?_
          refine lv_aload_n hx hb dl_390 rfl (lv_at hl 0 rfl) ?_
          refine lv_iload_n hx hb dl_391 rfl (lv_at hl 3 rfl) ?_
          refine lv_iconst (v := 1) hx hb dl_392 (by decide) ?_
          refine lv_iadd hx hb dl_393 ?_
          refine va_sld hx hb hX hbl hbA hS (hin 1 (by decide) (by decide)) dl_394 ?_
          refine lw_go (n := 1) hx hb hml hown htsG hK hnj had hl g1 rfl rfl (by decide) (by decide) h0e rfl iw_c38 dl_395 gw_425 iw_i38 iw_v38 iw_n38 (by decide +kernel) (by decide) (Nat.le_of_ble_eq_true rfl) rfl hP hN hS (fun H locs hP hN hS => ?_)
          refine lv_aload_n hx hb dl_398 rfl (lv_at hl 2 rfl) ?_
          refine lv_aload_n hx hb dl_399 rfl (lv_at hl 0 rfl) ?_
          refine lv_iload_n hx hb dl_400 rfl (lv_at hl 3 rfl) ?_
          refine lv_iconst (v := 1) hx hb dl_401 (by decide) ?_
          refine lv_iadd hx hb dl_402 ?_
          refine va_sld hx hb hX hbl hbA hS (hin 1 (by decide) (by decide)) dl_403 ?_
          refine lw_go (n := 1) hx hb hml hown htsG hK hnj had hl g2 rfl rfl (by decide) (by decide) h61 rfl iw_c105 dl_404 gw_778 iw_i105 iw_v105 iw_n105 (by decide +kernel) (by decide) (Nat.le_of_ble_eq_true rfl) rfl hP hN hS (fun H locs hP hN hS => ?_)
          refine lv_icmp_eq (tgt := 655) hx hb dl_407 (by decide) (fun _ => ?_) (fun c => absurd rfl c)
          exact nx h2 H locs I2 hP hS
        · refine lv_tableIn (off := 380) (tgt := 412) hx hb dl_32 (by decide) (by decide) rfl (by decide) ?_
          obtain ⟨h2, I2, v, hm, ⟨fs1, h61⟩, g1, g2⟩ := op_colours I (xs (nI i + 1).toNatClampNeg)
          refine lv_aload_n hx hb dl_412 rfl (lv_at hl 1 rfl) ?_
          refine lv_aload_n hx hb dl_413 rfl (lv_at hl 0 rfl) ?_
          refine lv_iload_n hx hb dl_414 rfl (lv_at hl 3 rfl) ?_
          refine lv_iconst (v := 1) hx hb dl_415 (by decide) ?_
          refine lv_iadd hx hb dl_416 ?_
          refine va_sld hx hb hX hbl hbA hS (hin 1 (by decide) (by decide)) dl_417 ?_
          refine lw_go (n := 1) hx hb hml hown htsG hK hnj had hl g1 rfl rfl (by decide) (by decide) h0e rfl iw_c49 dl_418 gw_473 iw_i49 iw_v49 iw_n49 (by decide +kernel) (by decide) (Nat.le_of_ble_eq_true rfl) rfl hP hN hS (fun H locs hP hN hS => ?_)
          refine lv_aload_n hx hb dl_421 rfl (lv_at hl 2 rfl) ?_
          refine lv_aload_n hx hb dl_422 rfl (lv_at hl 0 rfl) ?_
          refine lv_iload_n hx hb dl_423 rfl (lv_at hl 3 rfl) ?_
          refine lv_iconst (v := 1) hx hb dl_424 (by decide) ?_
          refine lv_iadd hx hb dl_425 ?_
          refine va_sld hx hb hX hbl hbA hS (hin 1 (by decide) (by decide)) dl_426 ?_
          refine lw_go (n := 1) hx hb hml hown htsG hK hnj had hl g2 rfl rfl (by decide) (by decide) h61 rfl iw_c106 dl_427 gw_782 iw_i106 iw_v106 iw_n106 (by decide +kernel) (by decide) (Nat.le_of_ble_eq_true rfl) rfl hP hN hS (fun H locs hP hN hS => ?_)
          refine lv_icmp_eq (tgt := 655) hx hb dl_430 (by decide) (fun _ => ?_) (fun c => absurd rfl c)
          exact nx h2 H locs I2 hP hS
        · refine lv_tableIn (off := 403) (tgt := 435) hx hb dl_32 (by decide) (by decide) rfl (by decide) ?_
          obtain ⟨h2, I2, v, hm, ⟨fs1, h61⟩, g1, g2⟩ := op_colour I (xs (nI i + 1).toNatClampNeg) (xs (nI i + 2).toNatClampNeg)
          refine lv_aload_n hx hb dl_435 rfl (lv_at hl 1 rfl) ?_
          refine lv_aload_n hx hb dl_436 rfl (lv_at hl 0 rfl) ?_
          refine lv_iload_n hx hb dl_437 rfl (lv_at hl 3 rfl) ?_
          refine lv_iconst (v := 1) hx hb dl_438 (by decide) ?_
          refine lv_iadd hx hb dl_439 ?_
          refine va_sld hx hb hX hbl hbA hS (hin 1 (by decide) (by decide)) dl_440 ?_
          refine lv_aload_n hx hb dl_441 rfl (lv_at hl 0 rfl) ?_
          refine lv_iload_n hx hb dl_442 rfl (lv_at hl 3 rfl) ?_
          refine lv_iconst (v := 2) hx hb dl_443 (by decide) ?_
          refine lv_iadd hx hb dl_444 ?_
          refine va_sld hx hb hX hbl hbA hS (hin 2 (by decide) (by decide)) dl_445 ?_
          refine lw_go (n := 2) hx hb hml hown htsG hK hnj had hl g1 rfl rfl (by decide) (by decide) h0e rfl iw_c51 dl_446 gw_483 iw_i51 iw_v51 iw_n51 (by decide +kernel) (by decide) (Nat.le_of_ble_eq_true rfl) rfl hP hN hS (fun H locs hP hN hS => ?_)
          refine lv_aload_n hx hb dl_449 rfl (lv_at hl 2 rfl) ?_
          refine lv_aload_n hx hb dl_450 rfl (lv_at hl 0 rfl) ?_
          refine lv_iload_n hx hb dl_451 rfl (lv_at hl 3 rfl) ?_
          refine lv_iconst (v := 1) hx hb dl_452 (by decide) ?_
          refine lv_iadd hx hb dl_453 ?_
          refine va_sld hx hb hX hbl hbA hS (hin 1 (by decide) (by decide)) dl_454 ?_
          refine lv_aload_n hx hb dl_455 rfl (lv_at hl 0 rfl) ?_
          refine lv_iload_n hx hb dl_456 rfl (lv_at hl 3 rfl) ?_
          refine lv_iconst (v := 2) hx hb dl_457 (by decide) ?_
          refine lv_iadd hx hb dl_458 ?_
          refine va_sld hx hb hX hbl hbA hS (hin 2 (by decide) (by decide)) dl_459 ?_
          refine lw_go (n := 2) hx hb hml hown htsG hK hnj had hl g2 rfl rfl (by decide) (by decide) h61 rfl iw_c108 dl_460 gw_790 iw_i108 iw_v108 iw_n108 (by decide +kernel) (by decide) (Nat.le_of_ble_eq_true rfl) rfl hP hN hS (fun H locs hP hN hS => ?_)
          refine lv_icmp_eq (tgt := 655) hx hb dl_463 (by decide) (fun _ => ?_) (fun c => absurd rfl c)
          exact nx h2 H locs I2 hP hS
        · refine lv_tableIn (off := 436) (tgt := 468) hx hb dl_32 (by decide) (by decide) rfl (by decide) ?_
          obtain ⟨h2, I2, v, hm, ⟨fs1, h61⟩, g1, g2⟩ := op_peeled I (xs (nI i + 1).toNatClampNeg)
          refine lv_aload_n hx hb dl_468 rfl (lv_at hl 1 rfl) ?_
          refine lv_aload_n hx hb dl_469 rfl (lv_at hl 0 rfl) ?_
          refine lv_iload_n hx hb dl_470 rfl (lv_at hl 3 rfl) ?_
          refine lv_iconst (v := 1) hx hb dl_471 (by decide) ?_
          refine lv_iadd hx hb dl_472 ?_
          refine va_sld hx hb hX hbl hbA hS (hin 1 (by decide) (by decide)) dl_473 ?_
          refine lw_go (n := 1) hx hb hml hown htsG hK hnj had hl g1 rfl rfl (by decide) (by decide) h0e rfl iw_c52 dl_474 gw_487 iw_i52 iw_v52 iw_n52 (by decide +kernel) (by decide) (Nat.le_of_ble_eq_true rfl) rfl hP hN hS (fun H locs hP hN hS => ?_)
          refine lv_aload_n hx hb dl_477 rfl (lv_at hl 2 rfl) ?_
          refine lv_aload_n hx hb dl_478 rfl (lv_at hl 0 rfl) ?_
          refine lv_iload_n hx hb dl_479 rfl (lv_at hl 3 rfl) ?_
          refine lv_iconst (v := 1) hx hb dl_480 (by decide) ?_
          refine lv_iadd hx hb dl_481 ?_
          refine va_sld hx hb hX hbl hbA hS (hin 1 (by decide) (by decide)) dl_482 ?_
          refine lw_go (n := 1) hx hb hml hown htsG hK hnj had hl g2 rfl rfl (by decide) (by decide) h61 rfl iw_c109 dl_483 gw_794 iw_i109 iw_v109 iw_n109 (by decide +kernel) (by decide) (Nat.le_of_ble_eq_true rfl) rfl hP hN hS (fun H locs hP hN hS => ?_)
          refine lv_icmp_eq (tgt := 655) hx hb dl_486 (by decide) (fun _ => ?_) (fun c => absurd rfl c)
          exact nx h2 H locs I2 hP hS
        · refine lv_tableIn (off := 459) (tgt := 491) hx hb dl_32 (by decide) (by decide) rfl (by decide) ?_
          obtain ⟨h2, I2, v, hm, ⟨fs1, h61⟩, g1, g2⟩ := op_core I (xs (nI i + 1).toNatClampNeg)
          refine lv_aload_n hx hb dl_491 rfl (lv_at hl 1 rfl) ?_
          refine lv_aload_n hx hb dl_492 rfl (lv_at hl 0 rfl) ?_
          refine lv_iload_n hx hb dl_493 rfl (lv_at hl 3 rfl) ?_
          refine lv_iconst (v := 1) hx hb dl_494 (by decide) ?_
          refine lv_iadd hx hb dl_495 ?_
          refine va_sld hx hb hX hbl hbA hS (hin 1 (by decide) (by decide)) dl_496 ?_
          refine lw_go (n := 1) hx hb hml hown htsG hK hnj had hl g1 rfl rfl (by decide) (by decide) h0e rfl iw_c55 dl_497 gw_503 iw_i55 iw_v55 iw_n55 (by decide +kernel) (by decide) (Nat.le_of_ble_eq_true rfl) rfl hP hN hS (fun H locs hP hN hS => ?_)
          refine lv_aload_n hx hb dl_500 rfl (lv_at hl 2 rfl) ?_
          refine lv_aload_n hx hb dl_501 rfl (lv_at hl 0 rfl) ?_
          refine lv_iload_n hx hb dl_502 rfl (lv_at hl 3 rfl) ?_
          refine lv_iconst (v := 1) hx hb dl_503 (by decide) ?_
          refine lv_iadd hx hb dl_504 ?_
          refine va_sld hx hb hX hbl hbA hS (hin 1 (by decide) (by decide)) dl_505 ?_
          refine lw_go (n := 1) hx hb hml hown htsG hK hnj had hl g2 rfl rfl (by decide) (by decide) h61 rfl iw_c111 dl_506 gw_802 iw_i111 iw_v111 iw_n111 (by decide +kernel) (by decide) (Nat.le_of_ble_eq_true rfl) rfl hP hN hS (fun H locs hP hN hS => ?_)
          refine lv_icmp_eq (tgt := 655) hx hb dl_509 (by decide) (fun _ => ?_) (fun c => absurd rfl c)
          exact nx h2 H locs I2 hP hS
        · refine lv_tableIn (off := 482) (tgt := 514) hx hb dl_32 (by decide) (by decide) rfl (by decide) ?_
          obtain ⟨h2, I2, v, hm, ⟨fs1, h61⟩, g1, g2⟩ := op_search I (xs (nI i + 1).toNatClampNeg)
          refine lv_aload_n hx hb dl_514 rfl (lv_at hl 1 rfl) ?_
          refine lv_aload_n hx hb dl_515 rfl (lv_at hl 0 rfl) ?_
          refine lv_iload_n hx hb dl_516 rfl (lv_at hl 3 rfl) ?_
          refine lv_iconst (v := 1) hx hb dl_517 (by decide) ?_
          refine lv_iadd hx hb dl_518 ?_
          refine va_sld hx hb hX hbl hbA hS (hin 1 (by decide) (by decide)) dl_519 ?_
          refine lw_go (n := 1) hx hb hml hown htsG hK hnj had hl g1 rfl rfl (by decide) (by decide) h0e rfl iw_c57 dl_520 gw_511 iw_i57 iw_v57 iw_n57 (by decide +kernel) (by decide) (Nat.le_of_ble_eq_true rfl) rfl hP hN hS (fun H locs hP hN hS => ?_)
          refine lv_aload_n hx hb dl_523 rfl (lv_at hl 2 rfl) ?_
          refine lv_aload_n hx hb dl_524 rfl (lv_at hl 0 rfl) ?_
          refine lv_iload_n hx hb dl_525 rfl (lv_at hl 3 rfl) ?_
          refine lv_iconst (v := 1) hx hb dl_526 (by decide) ?_
          refine lv_iadd hx hb dl_527 ?_
          refine va_sld hx hb hX hbl hbA hS (hin 1 (by decide) (by decide)) dl_528 ?_
          refine lw_go (n := 1) hx hb hml hown htsG hK hnj had hl g2 rfl rfl (by decide) (by decide) h61 rfl iw_c112 dl_529 gw_806 iw_i112 iw_v112 iw_n112 (by decide +kernel) (by decide) (Nat.le_of_ble_eq_true rfl) rfl hP hN hS (fun H locs hP hN hS => ?_)
          refine lv_icmp_eq (tgt := 655) hx hb dl_532 (by decide) (fun _ => ?_) (fun c => absurd rfl c)
          exact nx h2 H locs I2 hP hS
        · refine lv_tableIn (off := 505) (tgt := 537) hx hb dl_32 (by decide) (by decide) rfl (by decide) ?_
          obtain ⟨h2, I2, v, hm, ⟨fs1, h61⟩, g1, g2⟩ := op_searched I (xs (nI i + 1).toNatClampNeg)
          refine lv_aload_n hx hb dl_537 rfl (lv_at hl 1 rfl) ?_
          refine lv_aload_n hx hb dl_538 rfl (lv_at hl 0 rfl) ?_
          refine lv_iload_n hx hb dl_539 rfl (lv_at hl 3 rfl) ?_
          refine lv_iconst (v := 1) hx hb dl_540 (by decide) ?_
          refine lv_iadd hx hb dl_541 ?_
          refine va_sld hx hb hX hbl hbA hS (hin 1 (by decide) (by decide)) dl_542 ?_
          refine lw_go (n := 1) hx hb hml hown htsG hK hnj had hl g1 rfl rfl (by decide) (by decide) h0e rfl iw_c60 dl_543 gw_528 iw_i60 iw_v60 iw_n60 (by decide +kernel) (by decide) (Nat.le_of_ble_eq_true rfl) rfl hP hN hS (fun H locs hP hN hS => ?_)
          refine lv_aload_n hx hb dl_546 rfl (lv_at hl 2 rfl) ?_
          refine lv_aload_n hx hb dl_547 rfl (lv_at hl 0 rfl) ?_
          refine lv_iload_n hx hb dl_548 rfl (lv_at hl 3 rfl) ?_
          refine lv_iconst (v := 1) hx hb dl_549 (by decide) ?_
          refine lv_iadd hx hb dl_550 ?_
          refine va_sld hx hb hX hbl hbA hS (hin 1 (by decide) (by decide)) dl_551 ?_
          refine lw_go (n := 1) hx hb hml hown htsG hK hnj had hl g2 rfl rfl (by decide) (by decide) h61 rfl iw_c114 dl_552 gw_815 iw_i114 iw_v114 iw_n114 (by decide +kernel) (by decide) (Nat.le_of_ble_eq_true rfl) rfl hP hN hS (fun H locs hP hN hS => ?_)
          refine lv_icmp_eq (tgt := 655) hx hb dl_555 (by decide) (fun _ => ?_) (fun c => absurd rfl c)
          exact nx h2 H locs I2 hP hS
        · refine lv_tableIn (off := 528) (tgt := 560) hx hb dl_32 (by decide) (by decide) rfl (by decide) ?_
          obtain ⟨h2, I2, v, hm, ⟨fs1, h61⟩, g1, g2⟩ := op_sure I (xs (nI i + 1).toNatClampNeg)
          refine lv_aload_n hx hb dl_560 rfl (lv_at hl 1 rfl) ?_
          refine lv_aload_n hx hb dl_561 rfl (lv_at hl 0 rfl) ?_
          refine lv_iload_n hx hb dl_562 rfl (lv_at hl 3 rfl) ?_
          refine lv_iconst (v := 1) hx hb dl_563 (by decide) ?_
          refine lv_iadd hx hb dl_564 ?_
          refine va_sld hx hb hX hbl hbA hS (hin 1 (by decide) (by decide)) dl_565 ?_
          refine lw_go (n := 1) hx hb hml hown htsG hK hnj had hl g1 rfl rfl (by decide) (by decide) h0e rfl iw_c61 dl_566 gw_532 iw_i61 iw_v61 iw_n61 (by decide +kernel) (by decide) (Nat.le_of_ble_eq_true rfl) rfl hP hN hS (fun H locs hP hN hS => ?_)
          refine lv_aload_n hx hb dl_569 rfl (lv_at hl 2 rfl) ?_
          refine lv_aload_n hx hb dl_570 rfl (lv_at hl 0 rfl) ?_
          refine lv_iload_n hx hb dl_571 rfl (lv_at hl 3 rfl) ?_
          refine lv_iconst (v := 1) hx hb dl_572 (by decide) ?_
          refine lv_iadd hx hb dl_573 ?_
          refine va_sld hx hb hX hbl hbA hS (hin 1 (by decide) (by decide)) dl_574 ?_
          refine lw_go (n := 1) hx hb hml hown htsG hK hnj had hl g2 rfl rfl (by decide) (by decide) h61 rfl iw_c115 dl_575 gw_819 iw_i115 iw_v115 iw_n115 (by decide +kernel) (by decide) (Nat.le_of_ble_eq_true rfl) rfl hP hN hS (fun H locs hP hN hS => ?_)
          refine lv_icmp_eq (tgt := 655) hx hb dl_578 (by decide) (fun _ => ?_) (fun c => absurd rfl c)
          exact nx h2 H locs I2 hP hS
        · refine lv_tableIn (off := 551) (tgt := 583) hx hb dl_32 (by decide) (by decide) rfl (by decide) ?_
          obtain ⟨h2, I2, v, hm, ⟨fs1, h61⟩, g1, g2⟩ := op_taken I (xs (nI i + 1).toNatClampNeg)
          refine lv_aload_n hx hb dl_583 rfl (lv_at hl 1 rfl) ?_
          refine lv_aload_n hx hb dl_584 rfl (lv_at hl 0 rfl) ?_
          refine lv_iload_n hx hb dl_585 rfl (lv_at hl 3 rfl) ?_
          refine lv_iconst (v := 1) hx hb dl_586 (by decide) ?_
          refine lv_iadd hx hb dl_587 ?_
          refine va_sld hx hb hX hbl hbA hS (hin 1 (by decide) (by decide)) dl_588 ?_
          refine lw_go (n := 1) hx hb hml hown htsG hK hnj had hl g1 rfl rfl (by decide) (by decide) h0e rfl iw_c67 dl_589 gw_560 iw_i67 iw_v67 iw_n67 (by decide +kernel) (by decide) (Nat.le_of_ble_eq_true rfl) rfl hP hN hS (fun H locs hP hN hS => ?_)
          refine lv_aload_n hx hb dl_592 rfl (lv_at hl 2 rfl) ?_
          refine lv_aload_n hx hb dl_593 rfl (lv_at hl 0 rfl) ?_
          refine lv_iload_n hx hb dl_594 rfl (lv_at hl 3 rfl) ?_
          refine lv_iconst (v := 1) hx hb dl_595 (by decide) ?_
          refine lv_iadd hx hb dl_596 ?_
          refine va_sld hx hb hX hbl hbA hS (hin 1 (by decide) (by decide)) dl_597 ?_
          refine lw_go (n := 1) hx hb hml hown htsG hK hnj had hl g2 rfl rfl (by decide) (by decide) h61 rfl iw_c119 dl_598 gw_835 iw_i119 iw_v119 iw_n119 (by decide +kernel) (by decide) (Nat.le_of_ble_eq_true rfl) rfl hP hN hS (fun H locs hP hN hS => ?_)
          refine lv_icmp_eq (tgt := 655) hx hb dl_601 (by decide) (fun _ => ?_) (fun c => absurd rfl c)
          exact nx h2 H locs I2 hP hS
        · refine lv_tableIn (off := 574) (tgt := 606) hx hb dl_32 (by decide) (by decide) rfl (by decide) ?_
          obtain ⟨h2, I2, v, hm, ⟨fs1, h61⟩, g1, g2⟩ := op_sides I 
          refine lv_aload_n hx hb dl_606 rfl (lv_at hl 1 rfl) ?_
          refine lw_go (n := 0) hx hb hml hown htsG hK hnj had hl g1 rfl rfl (by decide) (by decide) h0e rfl iw_c68 dl_607 gw_564 iw_i68 iw_v68 iw_n68 (by decide +kernel) (by decide) (Nat.le_of_ble_eq_true rfl) rfl hP hN hS (fun H locs hP hN hS => ?_)
          refine lv_aload_n hx hb dl_610 rfl (lv_at hl 2 rfl) ?_
          refine lw_go (n := 0) hx hb hml hown htsG hK hnj had hl g2 rfl rfl (by decide) (by decide) h61 rfl iw_c120 dl_611 gw_839 iw_i120 iw_v120 iw_n120 (by decide +kernel) (by decide) (Nat.le_of_ble_eq_true rfl) rfl hP hN hS (fun H locs hP hN hS => ?_)
          refine lv_icmp_eq (tgt := 655) hx hb dl_614 (by decide) (fun _ => ?_) (fun c => absurd rfl c)
          exact nx h2 H locs I2 hP hS
        · refine lv_tableIn (off := 587) (tgt := 619) hx hb dl_32 (by decide) (by decide) rfl (by decide) ?_
          obtain ⟨h2, I2, v, hm, ⟨fs1, h61⟩, g1, g2⟩ := op_pairs I 
          refine lv_aload_n hx hb dl_619 rfl (lv_at hl 1 rfl) ?_
          refine lw_go (n := 0) hx hb hml hown htsG hK hnj had hl g1 rfl rfl (by decide) (by decide) h0e rfl iw_c71 dl_620 gw_576 iw_i71 iw_v71 iw_n71 (by decide +kernel) (by decide) (Nat.le_of_ble_eq_true rfl) rfl hP hN hS (fun H locs hP hN hS => ?_)
          refine lv_aload_n hx hb dl_623 rfl (lv_at hl 2 rfl) ?_
          refine lw_go (n := 0) hx hb hml hown htsG hK hnj had hl g2 rfl rfl (by decide) (by decide) h61 rfl iw_c122 dl_624 gw_847 iw_i122 iw_v122 iw_n122 (by decide +kernel) (by decide) (Nat.le_of_ble_eq_true rfl) rfl hP hN hS (fun H locs hP hN hS => ?_)
          refine lv_icmp_eq (tgt := 655) hx hb dl_627 (by decide) (fun _ => ?_) (fun c => absurd rfl c)
          exact nx h2 H locs I2 hP hS
        · refine lv_tableIn (off := 600) (tgt := 632) hx hb dl_32 (by decide) (by decide) rfl (by decide) ?_
          obtain ⟨h2, I2, v, hm, ⟨fs1, h61⟩, g1, g2⟩ := op_count I (xs (nI i + 1).toNatClampNeg)
          refine lv_aload_n hx hb dl_632 rfl (lv_at hl 1 rfl) ?_
          refine lv_aload_n hx hb dl_633 rfl (lv_at hl 0 rfl) ?_
          refine lv_iload_n hx hb dl_634 rfl (lv_at hl 3 rfl) ?_
          refine lv_iconst (v := 1) hx hb dl_635 (by decide) ?_
          refine lv_iadd hx hb dl_636 ?_
          refine va_sld hx hb hX hbl hbA hS (hin 1 (by decide) (by decide)) dl_637 ?_
          refine lw_go (n := 1) hx hb hml hown htsG hK hnj had hl g1 rfl rfl (by decide) (by decide) h0e rfl iw_c81 dl_638 gw_618 iw_i81 iw_v81 iw_n81 (by decide +kernel) (by decide) (Nat.le_of_ble_eq_true rfl) rfl hP hN hS (fun H locs hP hN hS => ?_)
          refine lv_aload_n hx hb dl_641 rfl (lv_at hl 2 rfl) ?_
          refine lv_aload_n hx hb dl_642 rfl (lv_at hl 0 rfl) ?_
          refine lv_iload_n hx hb dl_643 rfl (lv_at hl 3 rfl) ?_
          refine lv_iconst (v := 1) hx hb dl_644 (by decide) ?_
          refine lv_iadd hx hb dl_645 ?_
          refine va_sld hx hb hX hbl hbA hS (hin 1 (by decide) (by decide)) dl_646 ?_
          refine lw_go (n := 1) hx hb hml hown htsG hK hnj had hl g2 rfl rfl (by decide) (by decide) h61 rfl iw_c123 dl_647 gw_851 iw_i123 iw_v123 iw_n123 (by decide +kernel) (by decide) (Nat.le_of_ble_eq_true rfl) rfl hP hN hS (fun H locs hP hN hS => ?_)
          refine lv_icmp_eq (tgt := 655) hx hb dl_650 (by decide) (fun _ => ?_) (fun c => absurd rfl c)
          exact nx h2 H locs I2 hP hS
      · refine lv_tableOut (tgt := 655) hx hb dl_32 (by rcases ho with h9 | h9; exact .inl h9; exact .inr (by omega)) (by decide) ?_
        exact nx h H locs (IV_up I) hP hS

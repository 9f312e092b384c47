/-! the law: a call -/
def R_law : String := "CliqueSearchLaw"
theorem lw_go {D : va_G} {cA : Nat → ClassId} {ad : Nat → Nat} {p : Program} {l : Launch} {e : Env} {s : State} {m : MethodId} {args : Array Value} {below : List Frame} {meth : Method} {c : Code} {H : Heap} {locs : List Loc} {cells slots : Nat} {Q : State → Prop} {ls : Array Slot} {rest : List Value} {lv : List (Nat × Value)} {M n r ci pc index : Nat} {fs : List mi_V} {vs : mi_S} {v : Int32} {h h1 : mi_H} {C : String} {T : u_T} {Nf : Nat} {st : List Value}
    (hx : p.tables.exec = Jvm.exec) (hb : c.code = code) (hml : c.maxLocals = 4) (hown : s.vm.findClass R_law = some m.cls) (hts : ∀ w ∈ cs_G, w.before args s = true) (hK : va_K D cs_cl (mi_ty cA) s) (hnj : mi_nj ad 69) (had : ∀ k, k < 69 → s.heap.size ≤ ad k) (hl : lv_has ls 4 lv)
    (hgo : mi_Go cs_P cs_mx 32 M 0 (mi_ent (cs_mx M) (.inr (.inr (some r)) :: vs)) [] h (some (.inl v), h1)) (hc1 : vs.all mi_c1 = true) (hlen : vs.length = n) (hmx : n + 1 ≤ cs_mx M) (hm45 : cs_mx M ≤ 45) (hob : h[r]? = some (.inl (ci, fs))) (hc : cs_cl[ci]? = some (C, T, Nf))
    (hcode : Cond.code (cs_inf M).1 (cs_inf M).2.1 (cs_inf M).2.2.1 (cs_inf M).2.2.2 ∈ cs_G) (hd : decode code pc = .ok (.invokevirtual index, 3)) (hw : Cond.methodLink R_law index (cs_inf M).1 ∈ cs_G) (hst : Cond.instanceMethod (cs_inf M).1 ∈ cs_G) (hsel : Cond.selects C (cs_inf M).1 (cs_inf M).1 ∈ cs_G) (hini : Cond.initialized (cs_inf M).1.cls ∈ cs_G) (hy : (cs_inf M).1.cls ≠ "java/lang/invoke/MethodHandle" ∧ (cs_inf M).1.cls ≠ "java/lang/invoke/VarHandle" ∧ (parseMethodDescriptor (cs_inf M).1.desc).map (fun d => d.parameters.length) = some n)
    (hcs : cells ≤ 600000 ∧ slots ≤ 7302250) (hrest : (rest.map fun v => v.category).sum ≤ 8) (hstk : st = (vs.map (mi_cv ad)).reverse ++ .ref (ad r) :: rest)
    (hP : va_P D cs_cl (mi_w ad cA h) H) (hN : h.length = 69) (hS : va_S (fun q => s.heap.size ≤ q) s.heap H locs)
    (kk : ∀ (H1 : Heap) (locs1 : List Loc), va_P D cs_cl (mi_w ad cA h1) H1 → h1.length = 69 → va_S (fun q => s.heap.size ≤ q) s.heap H1 locs1 → W p l e room_1 s m args below meth c H1 locs1 cells slots Q (F0 m (pc + 3) ls (.int v :: rest))) : W p l e room_1 s m args below meth c H locs cells slots Q (F0 m pc ls st) := by
  have hmet := cs_met (l := l) (D := D) (cA := cA) (vs := .inr (.inr (some r)) :: vs) hnj (by show (true && vs.all mi_c1) = true; rw [hc1]; rfl) (by show vs.length + 1 ≤ cs_mx M; omega) hgo
  have hrr : (mi_rm 32).frames + 1 ≤ room_1.frames ∧ 8 + ((cs_inf M).2.2.1 + 11) + (mi_rm 32).locals ≤ room_1.locals := ⟨by decide, by
    have h1 : (cs_inf M).2.2.1 ≤ 45 := hm45
    show 8 + (_ + 11) + 64 * 32 ≤ 84000
    omega⟩
  have hp : PreV s H C (ad r) (mi_Pc cs_G cs_cl D cA ad (.inr (.inr (some r)) :: vs) h H.size) (vs.map (mi_cv ad)) := ⟨mi_blind, va_recv hK hP hc (mi_w_at hob), fun U hU hW => ⟨rfl, by rw [hU], by rw [hU]; exact hP, va_K.moved hW.alike hK, mi_wm hts hW⟩⟩
  have hA : ∀ q, mi_A ad 69 H.size q → s.heap.size ≤ q := by
    rintro q (⟨k, hk, rfl⟩ | hq)
    · exact had k hk
    · exact Nat.le_trans hS.1 hq
  refine mi_back (va_runV (As := vs.map (mi_cv ad)) (rest := rest) ⟨hx, hb, hml, hown, hts⟩ (hmet hN H.size) ⟨callB_of n hts (mi_good hcode) rfl rfl rfl (hts _ hini) (hts _ hw) hy hrr, hts _ hst, hts _ hsel⟩ hp rfl (by rw [List.length_map, hlen]) hl.1 hstk (lv_room hrest) hd ⟨by show cells + 0 ≤ 600000; omega, by show slots + 0 ≤ 7302250; omega⟩) hS (fun q _ hq => hA q hq) (fun q hq => hA q hq) (fun H1 locs1 hP1 hN1 hS1 => ?_)
  exact kk H1 locs1 hP1 hN1 hS1

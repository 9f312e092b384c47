/-! the program -/
def mi_at (l : List (Nat × mi_I)) (pc : Nat) : mi_I := match l with
  | [] => mj_stop
  | q :: l => bif Nat.beq q.1 pc then q.2 else mi_at l pc
theorem mi_at_snd {G : List Cond} {cl : List vw_C} {inf : Nat → mi_M} {M : Nat} : ∀ {l : List (Nat × mi_I)}, (∀ q ∈ l, mi_snd G cl inf M q.1 q.2) → ∀ pc, mi_snd G cl inf M pc (mi_at l pc)
  | [], _, pc => ms_stop
  | q :: l, h, pc => by
    unfold mi_at
    cases hb : Nat.beq q.1 pc
    · exact mi_at_snd (fun x hx => h x (List.mem_cons_of_mem _ hx)) pc
    · have e := Nat.eq_of_beq_eq_true hb
      subst e
      exact h q List.mem_cons_self
def cs_ts : List (List (Nat × mi_I)) := [ct_0, ct_1, ct_2, ct_3, ct_4, ct_5, ct_6, ct_7, ct_8, ct_9, ct_10, ct_11, ct_12, ct_13, ct_14, ct_15, ct_16, ct_17, ct_18, ct_19, ct_20, ct_21, ct_22, ct_23, ct_24, ct_25, ct_26, ct_27, ct_28, ct_29, ct_30, ct_31, ct_32, ct_33, ct_34, ct_35, ct_36, ct_37, ct_38, ct_39, ct_40, ct_41, ct_42, ct_43, ct_44, ct_45, ct_46, ct_47, ct_48, ct_49, ct_50, ct_51, ct_52, ct_53, ct_54, ct_55, ct_56, ct_57, ct_58, ct_59, ct_60, ct_61, ct_62, ct_63, ct_64, ct_65, ct_66, ct_67, ct_68, ct_69, ct_70, ct_71, ct_72, ct_73, ct_74, ct_75, ct_76, ct_77, ct_78, ct_79, ct_80, ct_81, ct_82, ct_83, ct_84, ct_85, ct_86, ct_87, ct_88, ct_89, ct_90, ct_91, ct_92, ct_93, ct_94, ct_95, ct_96, ct_97, ct_98, ct_99, ct_100, ct_101, ct_102, ct_103, ct_104, ct_105, ct_106, ct_107, ct_108, ct_109, ct_110, ct_111, ct_112, ct_113, ct_114, ct_115, ct_116, ct_117, ct_118, ct_119, ct_120, ct_121, ct_122, ct_123]
def cs_P (M pc : Nat) : mi_I := mi_at (cs_ts.getD M []) pc
def cs_mx (M : Nat) : Nat := (cs_inf M).2.2.1
theorem cs_sq : ∀ M, ∀ q ∈ cs_ts.getD M [], mi_snd cs_G cs_cl cs_inf M q.1 q.2
  | 0 => sd_0
  | 1 => sd_1
  | 2 => sd_2
  | 3 => sd_3
  | 4 => sd_4
  | 5 => sd_5
  | 6 => sd_6
  | 7 => sd_7
  | 8 => sd_8
  | 9 => sd_9
  | 10 => sd_10
  | 11 => sd_11
  | 12 => sd_12
  | 13 => sd_13
  | 14 => sd_14
  | 15 => sd_15
  | 16 => sd_16
  | 17 => sd_17
  | 18 => sd_18
  | 19 => sd_19
  | 20 => sd_20
  | 21 => sd_21
  | 22 => sd_22
  | 23 => sd_23
  | 24 => sd_24
  | 25 => sd_25
  | 26 => sd_26
  | 27 => sd_27
  | 28 => sd_28
  | 29 => sd_29
  | 30 => sd_30
  | 31 => sd_31
  | 32 => sd_32
  | 33 => sd_33
  | 34 => sd_34
  | 35 => sd_35
  | 36 => sd_36
  | 37 => sd_37
  | 38 => sd_38
  | 39 => sd_39
  | 40 => sd_40
  | 41 => sd_41
  | 42 => sd_42
  | 43 => sd_43
  | 44 => sd_44
  | 45 => sd_45
  | 46 => sd_46
  | 47 => sd_47
  | 48 => sd_48
  | 49 => sd_49
  | 50 => sd_50
  | 51 => sd_51
  | 52 => sd_52
  | 53 => sd_53
  | 54 => sd_54
  | 55 => sd_55
  | 56 => sd_56
  | 57 => sd_57
  | 58 => sd_58
  | 59 => sd_59
  | 60 => sd_60
  | 61 => sd_61
  | 62 => sd_62
  | 63 => sd_63
  | 64 => sd_64
  | 65 => sd_65
  | 66 => sd_66
  | 67 => sd_67
  | 68 => sd_68
  | 69 => sd_69
  | 70 => sd_70
  | 71 => sd_71
  | 72 => sd_72
  | 73 => sd_73
  | 74 => sd_74
  | 75 => sd_75
  | 76 => sd_76
  | 77 => sd_77
  | 78 => sd_78
  | 79 => sd_79
  | 80 => sd_80
  | 81 => sd_81
  | 82 => sd_82
  | 83 => sd_83
  | 84 => sd_84
  | 85 => sd_85
  | 86 => sd_86
  | 87 => sd_87
  | 88 => sd_88
  | 89 => sd_89
  | 90 => sd_90
  | 91 => sd_91
  | 92 => sd_92
  | 93 => sd_93
  | 94 => sd_94
  | 95 => sd_95
  | 96 => sd_96
  | 97 => sd_97
  | 98 => sd_98
  | 99 => sd_99
  | 100 => sd_100
  | 101 => sd_101
  | 102 => sd_102
  | 103 => sd_103
  | 104 => sd_104
  | 105 => sd_105
  | 106 => sd_106
  | 107 => sd_107
  | 108 => sd_108
  | 109 => sd_109
  | 110 => sd_110
  | 111 => sd_111
  | 112 => sd_112
  | 113 => sd_113
  | 114 => sd_114
  | 115 => sd_115
  | 116 => sd_116
  | 117 => sd_117
  | 118 => sd_118
  | 119 => sd_119
  | 120 => sd_120
  | 121 => sd_121
  | 122 => sd_122
  | 123 => sd_123
  | n + 124 => fun q (h : q ∈ ([] : List (Nat × mi_I))) => absurd h List.not_mem_nil
theorem cs_snd (M pc : Nat) : mi_snd cs_G cs_cl cs_inf M pc (cs_P M pc) := mi_at_snd (cs_sq M) pc
theorem cs_pl (M : Nat) : plainFor (cs_inf M).1 = true := by
  have h : cs_infs.all (fun y => plainFor y.1) = true := by decide +kernel
  unfold cs_inf
  rw [List.getD_eq_getElem?_getD]
  cases e : cs_infs[M]? with
  | none => decide +kernel
  | some y => exact List.all_eq_true.mp h y (List.mem_of_getElem? e)
/-- a run of the small machine is what the method does -/
theorem cs_met {l : Launch} {D : va_G} {cA : Nat → ClassId} {ad : Nat → Nat} {N d M : Nat} {vs : mi_S} {h h1 : mi_H} {v : Option mi_V} (hnj : mi_nj ad N) (hc : vs.all mi_c1 = true) (hl : vs.length ≤ cs_mx M) (hr : mi_Go cs_P cs_mx d M 0 (mi_ent (cs_mx M) vs) [] h (v, h1)) : mi_met cs_G cs_cl D cA ad N l (cs_inf M) d vs h v h1 := by
  obtain ⟨n, hn⟩ := hr
  exact mi_main cs_snd cs_gn cs_pl hnj d n M vs h (v, h1) hc hl hn

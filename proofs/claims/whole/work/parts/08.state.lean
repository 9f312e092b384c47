def cn_o : Option Nat → Int32
  | none => -1
  | some v => nI v
theorem cn_oN : cn_o none = -1 := rfl
theorem cn_oS {v : Nat} : cn_o (some v) = nI v := rfl
def up_O (f : Nat → Option Nat) (k : Nat) (x : Option Nat) : Nat → Option Nat := fun j => if j = k then x else f j
theorem up_cO {f : Nat → Option Nat} {k : Nat} {x : Option Nat} : upd (fun i => cn_o (f i)) k (cn_o x) = fun i => cn_o (up_O f k x i) := by
  funext j
  unfold upd up_O
  split <;> rfl
theorem up_cS {f : Nat → Option Nat} {k v : Nat} : upd (fun i => cn_o (f i)) k (nI v) = fun i => cn_o (up_O f k (some v) i) := by
  funext j
  unfold upd up_O
  split <;> rfl
def up_N (f : Nat → Nat) (k x : Nat) : Nat → Nat := fun j => if j = k then x else f j
def up_T (f : Nat → Nat → Nat) (k : Nat) (g : Nat → Nat) : Nat → Nat → Nat := fun j => if j = k then g else f j
theorem up_nI {f : Nat → Nat} {k x : Nat} : upd (fun i => nI (f i)) k (nI x) = fun i => nI (up_N f k x i) := by
  funext j
  unfold upd up_N
  split <;> rfl
theorem up_s {f : Nat → Nat} {k x : Nat} : up_N f k x k = x := if_pos rfl
theorem up_n {f : Nat → Nat} {k x j : Nat} (h : j ≠ k) : up_N f k x j = f j := if_neg h
theorem up_Ts {f : Nat → Nat → Nat} {k : Nat} {g : Nat → Nat} : up_T f k g k = g := if_pos rfl
theorem up_Tn {f : Nat → Nat → Nat} {k j : Nat} {g : Nat → Nat} (h : j ≠ k) : up_T f k g j = f j := if_neg h
/-! the state of class and reference: cells at places -/
abbrev st_N : Type := Nat × Nat × (Nat → Nat) × (Nat → Nat)
abbrev st_X : Type := (Nat → Nat) × (Nat → Nat) × Nat × Int32
abbrev st_C : Type := (Nat → Nat) × Int32
abbrev st_E : Type := (Nat → Nat → Nat) × (Nat → Nat) × Nat × Nat × Nat
abbrev st_P : Type := (Nat → Nat) × (Nat → Nat) × Int32
abbrev st_S : Type := (Nat → Nat → Nat) × Nat × Nat × Nat × Nat × Nat × Nat × Nat
abbrev st_U : Type := Nat × Nat × Int32 × Nat × Int32
abbrev st_M : Type := (Nat → Option Nat) × (Nat → Option Nat) × (Nat → Nat) × (Nat → Nat) × Nat × Nat
abbrev st_R : Type := Nat × Nat × (Nat → Nat) × (Nat → Nat) × (Nat → Nat) × (Nat → Nat) × (Nat → Nat) × (Nat → Nat) × Nat × Nat × Nat × Nat × Nat × Nat × Nat × Nat × Nat × (Nat → Nat)
def hp (n : st_N) (zj : st_X) (za : st_X) (zc : st_C) (ze : st_E) (zp : st_P) (zx : st_S) (zu : st_U) (zm : st_M) (zk : (Nat → Nat)) (zr : st_R) : mi_H := [
  .inl (0, [.inr (.inr (some 1)), .inr (.inr (some 4)), .inr (.inr (some 7)), .inr (.inr (some 10)), .inr (.inr (some 12)), .inr (.inr (some 32)), .inr (.inr (some 35)), .inr (.inr (some 54)), .inr (.inr (some 55)), .inr (.inr (some 60))]),
  .inl (1, [.inl (nI n.1), .inl (nI n.2.1), .inr (.inr (some 2)), .inr (.inr (some 3))]),
  .inr (.inl (0, 16, fun i => nI (n.2.2.1 i))),
  .inr (.inl (0, 16, fun i => nI (n.2.2.2 i))),
  .inl (2, [.inr (.inr (some 1)), .inl (nI 0), .inr (.inr (some 5)), .inr (.inr (some 6)), .inl (nI zj.2.2.1), .inl zj.2.2.2]),
  .inr (.inl (0, 16, fun i => nI (zj.1 i))),
  .inr (.inl (0, 324, fun i => nI (zj.2.1 i))),
  .inl (2, [.inr (.inr (some 1)), .inl (nI 1), .inr (.inr (some 8)), .inr (.inr (some 9)), .inl (nI za.2.2.1), .inl za.2.2.2]),
  .inr (.inl (0, 16, fun i => nI (za.1 i))),
  .inr (.inl (0, 324, fun i => nI (za.2.1 i))),
  .inl (3, [.inr (.inr (some 1)), .inr (.inr (some 11)), .inl zc.2]),
  .inr (.inl (0, 17, fun i => nI (zc.1 i))),
  .inl (4, [.inr (.inr (some 1)), .inr (.inr (some 13)), .inr (.inr (some 31)), .inl (nI ze.2.2.1), .inl (nI ze.2.2.2.1), .inl (nI ze.2.2.2.2)]),
  .inr (.inr (2, 17, fun i => some (14 + i))),
  .inr (.inl (0, 5, fun i => nI (ze.1 0 i))),
  .inr (.inl (0, 5, fun i => nI (ze.1 1 i))),
  .inr (.inl (0, 5, fun i => nI (ze.1 2 i))),
  .inr (.inl (0, 5, fun i => nI (ze.1 3 i))),
  .inr (.inl (0, 5, fun i => nI (ze.1 4 i))),
  .inr (.inl (0, 5, fun i => nI (ze.1 5 i))),
  .inr (.inl (0, 5, fun i => nI (ze.1 6 i))),
  .inr (.inl (0, 5, fun i => nI (ze.1 7 i))),
  .inr (.inl (0, 5, fun i => nI (ze.1 8 i))),
  .inr (.inl (0, 5, fun i => nI (ze.1 9 i))),
  .inr (.inl (0, 5, fun i => nI (ze.1 10 i))),
  .inr (.inl (0, 5, fun i => nI (ze.1 11 i))),
  .inr (.inl (0, 5, fun i => nI (ze.1 12 i))),
  .inr (.inl (0, 5, fun i => nI (ze.1 13 i))),
  .inr (.inl (0, 5, fun i => nI (ze.1 14 i))),
  .inr (.inl (0, 5, fun i => nI (ze.1 15 i))),
  .inr (.inl (0, 5, fun i => nI (ze.1 16 i))),
  .inr (.inl (0, 17, fun i => nI (ze.2.1 i))),
  .inl (5, [.inr (.inr (some 1)), .inr (.inr (some 33)), .inr (.inr (some 34)), .inl zp.2.2]),
  .inr (.inl (0, 16, fun i => nI (zp.1 i))),
  .inr (.inl (0, 16, fun i => nI (zp.2.1 i))),
  .inl (6, [.inr (.inr (some 1)), .inr (.inr (some 36)), .inl (nI zx.2.1), .inl (nI zx.2.2.1), .inl (nI zx.2.2.2.1), .inl (nI zx.2.2.2.2.1), .inl (nI zx.2.2.2.2.2.1), .inl (nI zx.2.2.2.2.2.2.1), .inl (nI zx.2.2.2.2.2.2.2)]),
  .inr (.inr (2, 17, fun i => some (37 + i))),
  .inr (.inl (0, 17, fun i => nI (zx.1 0 i))),
  .inr (.inl (0, 17, fun i => nI (zx.1 1 i))),
  .inr (.inl (0, 17, fun i => nI (zx.1 2 i))),
  .inr (.inl (0, 17, fun i => nI (zx.1 3 i))),
  .inr (.inl (0, 17, fun i => nI (zx.1 4 i))),
  .inr (.inl (0, 17, fun i => nI (zx.1 5 i))),
  .inr (.inl (0, 17, fun i => nI (zx.1 6 i))),
  .inr (.inl (0, 17, fun i => nI (zx.1 7 i))),
  .inr (.inl (0, 17, fun i => nI (zx.1 8 i))),
  .inr (.inl (0, 17, fun i => nI (zx.1 9 i))),
  .inr (.inl (0, 17, fun i => nI (zx.1 10 i))),
  .inr (.inl (0, 17, fun i => nI (zx.1 11 i))),
  .inr (.inl (0, 17, fun i => nI (zx.1 12 i))),
  .inr (.inl (0, 17, fun i => nI (zx.1 13 i))),
  .inr (.inl (0, 17, fun i => nI (zx.1 14 i))),
  .inr (.inl (0, 17, fun i => nI (zx.1 15 i))),
  .inr (.inl (0, 17, fun i => nI (zx.1 16 i))),
  .inl (7, [.inr (.inr (some 1)), .inl (nI zu.1), .inl (nI zu.2.1), .inl zu.2.2.1, .inl (nI zu.2.2.2.1), .inl zu.2.2.2.2]),
  .inl (8, [.inr (.inr (some 1)), .inr (.inr (some 56)), .inr (.inr (some 57)), .inr (.inr (some 58)), .inr (.inr (some 59)), .inl (nI zm.2.2.2.2.1), .inl (nI zm.2.2.2.2.2)]),
  .inr (.inl (0, 16, fun i => cn_o (zm.1 i))),
  .inr (.inl (0, 16, fun i => cn_o (zm.2.1 i))),
  .inr (.inl (0, 16, fun i => nI (zm.2.2.1 i))),
  .inr (.inl (0, 16, fun i => nI (zm.2.2.2.1 i))),
  .inr (.inl (0, 17, fun i => nI (zk i))),
  .inl (9, [.inl (nI zr.1), .inl (nI zr.2.1), .inr (.inr (some 62)), .inr (.inr (some 63)), .inr (.inr (some 64)), .inr (.inr (some 65)), .inr (.inr (some 66)), .inr (.inr (some 67)), .inl (nI zr.2.2.2.2.2.2.2.2.1), .inl (nI zr.2.2.2.2.2.2.2.2.2.1), .inl (nI zr.2.2.2.2.2.2.2.2.2.2.1), .inl (nI zr.2.2.2.2.2.2.2.2.2.2.2.1), .inl (nI zr.2.2.2.2.2.2.2.2.2.2.2.2.1), .inl (nI zr.2.2.2.2.2.2.2.2.2.2.2.2.2.1), .inl (nI zr.2.2.2.2.2.2.2.2.2.2.2.2.2.2.1), .inl (nI zr.2.2.2.2.2.2.2.2.2.2.2.2.2.2.2.1), .inl (nI zr.2.2.2.2.2.2.2.2.2.2.2.2.2.2.2.2.1), .inr (.inr (some 68))]),
  .inr (.inl (0, 16, fun i => nI (zr.2.2.1 i))),
  .inr (.inl (0, 16, fun i => nI (zr.2.2.2.1 i))),
  .inr (.inl (0, 1000, fun i => nI (zr.2.2.2.2.1 i))),
  .inr (.inl (0, 16, fun i => nI (zr.2.2.2.2.2.1 i))),
  .inr (.inl (0, 16, fun i => nI (zr.2.2.2.2.2.2.1 i))),
  .inr (.inl (0, 16, fun i => nI (zr.2.2.2.2.2.2.2.1 i))),
  .inr (.inl (1, 65536, fun i => nI (zr.2.2.2.2.2.2.2.2.2.2.2.2.2.2.2.2.2 i)))]
theorem rd_0 {n : st_N} {zj : st_X} {za : st_X} {zc : st_C} {ze : st_E} {zp : st_P} {zx : st_S} {zu : st_U} {zm : st_M} {zk : (Nat → Nat)} {zr : st_R} : mi_ob (hp n zj za zc ze zp zx zu zm zk zr) 0 = some (0, [.inr (.inr (some 1)), .inr (.inr (some 4)), .inr (.inr (some 7)), .inr (.inr (some 10)), .inr (.inr (some 12)), .inr (.inr (some 32)), .inr (.inr (some 35)), .inr (.inr (some 54)), .inr (.inr (some 55)), .inr (.inr (some 60))]) := rfl
theorem rd_1 {n : st_N} {zj : st_X} {za : st_X} {zc : st_C} {ze : st_E} {zp : st_P} {zx : st_S} {zu : st_U} {zm : st_M} {zk : (Nat → Nat)} {zr : st_R} : mi_ob (hp n zj za zc ze zp zx zu zm zk zr) 1 = some (1, [.inl (nI n.1), .inl (nI n.2.1), .inr (.inr (some 2)), .inr (.inr (some 3))]) := rfl
theorem wr_1 {n : st_N} {zj : st_X} {za : st_X} {zc : st_C} {ze : st_E} {zp : st_P} {zx : st_S} {zu : st_U} {zm : st_M} {zk : (Nat → Nat)} {zr : st_R} {w0 : Nat} {w1 : Nat} : (hp n zj za zc ze zp zx zu zm zk zr).set 1 (.inl (1, [.inl (nI w0), .inl (nI w1), .inr (.inr (some 2)), .inr (.inr (some 3))])) = hp (w0, w1, n.2.2.1, n.2.2.2) zj za zc ze zp zx zu zm zk zr := rfl
theorem rd_2 {n : st_N} {zj : st_X} {za : st_X} {zc : st_C} {ze : st_E} {zp : st_P} {zx : st_S} {zu : st_U} {zm : st_M} {zk : (Nat → Nat)} {zr : st_R} : mi_ar (hp n zj za zc ze zp zx zu zm zk zr) 2 = some (0, 16, fun i => nI (n.2.2.1 i)) := rfl
theorem wr_2 {n : st_N} {zj : st_X} {za : st_X} {zc : st_C} {ze : st_E} {zp : st_P} {zx : st_S} {zu : st_U} {zm : st_M} {zk : (Nat → Nat)} {zr : st_R} {f : Nat → Nat} : (hp n zj za zc ze zp zx zu zm zk zr).set 2 (.inr (.inl (0, 16, fun i => nI (f i)))) = hp (n.1, n.2.1, f, n.2.2.2) zj za zc ze zp zx zu zm zk zr := rfl
theorem rd_3 {n : st_N} {zj : st_X} {za : st_X} {zc : st_C} {ze : st_E} {zp : st_P} {zx : st_S} {zu : st_U} {zm : st_M} {zk : (Nat → Nat)} {zr : st_R} : mi_ar (hp n zj za zc ze zp zx zu zm zk zr) 3 = some (0, 16, fun i => nI (n.2.2.2 i)) := rfl
theorem wr_3 {n : st_N} {zj : st_X} {za : st_X} {zc : st_C} {ze : st_E} {zp : st_P} {zx : st_S} {zu : st_U} {zm : st_M} {zk : (Nat → Nat)} {zr : st_R} {f : Nat → Nat} : (hp n zj za zc ze zp zx zu zm zk zr).set 3 (.inr (.inl (0, 16, fun i => nI (f i)))) = hp (n.1, n.2.1, n.2.2.1, f) zj za zc ze zp zx zu zm zk zr := rfl
theorem rd_4 {n : st_N} {zj : st_X} {za : st_X} {zc : st_C} {ze : st_E} {zp : st_P} {zx : st_S} {zu : st_U} {zm : st_M} {zk : (Nat → Nat)} {zr : st_R} : mi_ob (hp n zj za zc ze zp zx zu zm zk zr) 4 = some (2, [.inr (.inr (some 1)), .inl (nI 0), .inr (.inr (some 5)), .inr (.inr (some 6)), .inl (nI zj.2.2.1), .inl zj.2.2.2]) := rfl
theorem wr_4 {n : st_N} {zj : st_X} {za : st_X} {zc : st_C} {ze : st_E} {zp : st_P} {zx : st_S} {zu : st_U} {zm : st_M} {zk : (Nat → Nat)} {zr : st_R} {w0 : Nat} {w1 : Int32} : (hp n zj za zc ze zp zx zu zm zk zr).set 4 (.inl (2, [.inr (.inr (some 1)), .inl (nI 0), .inr (.inr (some 5)), .inr (.inr (some 6)), .inl (nI w0), .inl w1])) = hp n (zj.1, zj.2.1, w0, w1) za zc ze zp zx zu zm zk zr := rfl
theorem rd_5 {n : st_N} {zj : st_X} {za : st_X} {zc : st_C} {ze : st_E} {zp : st_P} {zx : st_S} {zu : st_U} {zm : st_M} {zk : (Nat → Nat)} {zr : st_R} : mi_ar (hp n zj za zc ze zp zx zu zm zk zr) 5 = some (0, 16, fun i => nI (zj.1 i)) := rfl
theorem wr_5 {n : st_N} {zj : st_X} {za : st_X} {zc : st_C} {ze : st_E} {zp : st_P} {zx : st_S} {zu : st_U} {zm : st_M} {zk : (Nat → Nat)} {zr : st_R} {f : Nat → Nat} : (hp n zj za zc ze zp zx zu zm zk zr).set 5 (.inr (.inl (0, 16, fun i => nI (f i)))) = hp n (f, zj.2.1, zj.2.2.1, zj.2.2.2) za zc ze zp zx zu zm zk zr := rfl
theorem rd_6 {n : st_N} {zj : st_X} {za : st_X} {zc : st_C} {ze : st_E} {zp : st_P} {zx : st_S} {zu : st_U} {zm : st_M} {zk : (Nat → Nat)} {zr : st_R} : mi_ar (hp n zj za zc ze zp zx zu zm zk zr) 6 = some (0, 324, fun i => nI (zj.2.1 i)) := rfl
theorem wr_6 {n : st_N} {zj : st_X} {za : st_X} {zc : st_C} {ze : st_E} {zp : st_P} {zx : st_S} {zu : st_U} {zm : st_M} {zk : (Nat → Nat)} {zr : st_R} {f : Nat → Nat} : (hp n zj za zc ze zp zx zu zm zk zr).set 6 (.inr (.inl (0, 324, fun i => nI (f i)))) = hp n (zj.1, f, zj.2.2.1, zj.2.2.2) za zc ze zp zx zu zm zk zr := rfl
theorem rd_7 {n : st_N} {zj : st_X} {za : st_X} {zc : st_C} {ze : st_E} {zp : st_P} {zx : st_S} {zu : st_U} {zm : st_M} {zk : (Nat → Nat)} {zr : st_R} : mi_ob (hp n zj za zc ze zp zx zu zm zk zr) 7 = some (2, [.inr (.inr (some 1)), .inl (nI 1), .inr (.inr (some 8)), .inr (.inr (some 9)), .inl (nI za.2.2.1), .inl za.2.2.2]) := rfl
theorem wr_7 {n : st_N} {zj : st_X} {za : st_X} {zc : st_C} {ze : st_E} {zp : st_P} {zx : st_S} {zu : st_U} {zm : st_M} {zk : (Nat → Nat)} {zr : st_R} {w0 : Nat} {w1 : Int32} : (hp n zj za zc ze zp zx zu zm zk zr).set 7 (.inl (2, [.inr (.inr (some 1)), .inl (nI 1), .inr (.inr (some 8)), .inr (.inr (some 9)), .inl (nI w0), .inl w1])) = hp n zj (za.1, za.2.1, w0, w1) zc ze zp zx zu zm zk zr := rfl
theorem rd_8 {n : st_N} {zj : st_X} {za : st_X} {zc : st_C} {ze : st_E} {zp : st_P} {zx : st_S} {zu : st_U} {zm : st_M} {zk : (Nat → Nat)} {zr : st_R} : mi_ar (hp n zj za zc ze zp zx zu zm zk zr) 8 = some (0, 16, fun i => nI (za.1 i)) := rfl
theorem wr_8 {n : st_N} {zj : st_X} {za : st_X} {zc : st_C} {ze : st_E} {zp : st_P} {zx : st_S} {zu : st_U} {zm : st_M} {zk : (Nat → Nat)} {zr : st_R} {f : Nat → Nat} : (hp n zj za zc ze zp zx zu zm zk zr).set 8 (.inr (.inl (0, 16, fun i => nI (f i)))) = hp n zj (f, za.2.1, za.2.2.1, za.2.2.2) zc ze zp zx zu zm zk zr := rfl
theorem rd_9 {n : st_N} {zj : st_X} {za : st_X} {zc : st_C} {ze : st_E} {zp : st_P} {zx : st_S} {zu : st_U} {zm : st_M} {zk : (Nat → Nat)} {zr : st_R} : mi_ar (hp n zj za zc ze zp zx zu zm zk zr) 9 = some (0, 324, fun i => nI (za.2.1 i)) := rfl
theorem wr_9 {n : st_N} {zj : st_X} {za : st_X} {zc : st_C} {ze : st_E} {zp : st_P} {zx : st_S} {zu : st_U} {zm : st_M} {zk : (Nat → Nat)} {zr : st_R} {f : Nat → Nat} : (hp n zj za zc ze zp zx zu zm zk zr).set 9 (.inr (.inl (0, 324, fun i => nI (f i)))) = hp n zj (za.1, f, za.2.2.1, za.2.2.2) zc ze zp zx zu zm zk zr := rfl
theorem rd_10 {n : st_N} {zj : st_X} {za : st_X} {zc : st_C} {ze : st_E} {zp : st_P} {zx : st_S} {zu : st_U} {zm : st_M} {zk : (Nat → Nat)} {zr : st_R} : mi_ob (hp n zj za zc ze zp zx zu zm zk zr) 10 = some (3, [.inr (.inr (some 1)), .inr (.inr (some 11)), .inl zc.2]) := rfl
theorem wr_10 {n : st_N} {zj : st_X} {za : st_X} {zc : st_C} {ze : st_E} {zp : st_P} {zx : st_S} {zu : st_U} {zm : st_M} {zk : (Nat → Nat)} {zr : st_R} {w0 : Int32} : (hp n zj za zc ze zp zx zu zm zk zr).set 10 (.inl (3, [.inr (.inr (some 1)), .inr (.inr (some 11)), .inl w0])) = hp n zj za (zc.1, w0) ze zp zx zu zm zk zr := rfl
theorem rd_11 {n : st_N} {zj : st_X} {za : st_X} {zc : st_C} {ze : st_E} {zp : st_P} {zx : st_S} {zu : st_U} {zm : st_M} {zk : (Nat → Nat)} {zr : st_R} : mi_ar (hp n zj za zc ze zp zx zu zm zk zr) 11 = some (0, 17, fun i => nI (zc.1 i)) := rfl
theorem wr_11 {n : st_N} {zj : st_X} {za : st_X} {zc : st_C} {ze : st_E} {zp : st_P} {zx : st_S} {zu : st_U} {zm : st_M} {zk : (Nat → Nat)} {zr : st_R} {f : Nat → Nat} : (hp n zj za zc ze zp zx zu zm zk zr).set 11 (.inr (.inl (0, 17, fun i => nI (f i)))) = hp n zj za (f, zc.2) ze zp zx zu zm zk zr := rfl
theorem rd_12 {n : st_N} {zj : st_X} {za : st_X} {zc : st_C} {ze : st_E} {zp : st_P} {zx : st_S} {zu : st_U} {zm : st_M} {zk : (Nat → Nat)} {zr : st_R} : mi_ob (hp n zj za zc ze zp zx zu zm zk zr) 12 = some (4, [.inr (.inr (some 1)), .inr (.inr (some 13)), .inr (.inr (some 31)), .inl (nI ze.2.2.1), .inl (nI ze.2.2.2.1), .inl (nI ze.2.2.2.2)]) := rfl
theorem wr_12 {n : st_N} {zj : st_X} {za : st_X} {zc : st_C} {ze : st_E} {zp : st_P} {zx : st_S} {zu : st_U} {zm : st_M} {zk : (Nat → Nat)} {zr : st_R} {w0 : Nat} {w1 : Nat} {w2 : Nat} : (hp n zj za zc ze zp zx zu zm zk zr).set 12 (.inl (4, [.inr (.inr (some 1)), .inr (.inr (some 13)), .inr (.inr (some 31)), .inl (nI w0), .inl (nI w1), .inl (nI w2)])) = hp n zj za zc (ze.1, ze.2.1, w0, w1, w2) zp zx zu zm zk zr := rfl
theorem rd_13 {n : st_N} {zj : st_X} {za : st_X} {zc : st_C} {ze : st_E} {zp : st_P} {zx : st_S} {zu : st_U} {zm : st_M} {zk : (Nat → Nat)} {zr : st_R} : mi_rr (hp n zj za zc ze zp zx zu zm zk zr) 13 = some (2, 17, fun i => some (14 + i)) := rfl
theorem rr_14 {n : st_N} {zj : st_X} {za : st_X} {zc : st_C} {ze : st_E} {zp : st_P} {zx : st_S} {zu : st_U} {zm : st_M} {zk : (Nat → Nat)} {zr : st_R} {t : Nat} (ht : t < 17) : mi_ar (hp n zj za zc ze zp zx zu zm zk zr) (14 + t) = some (0, 5, fun i => nI (ze.1 t i)) := by
  match t, ht with
  | 0, _ => rfl
  | 1, _ => rfl
  | 2, _ => rfl
  | 3, _ => rfl
  | 4, _ => rfl
  | 5, _ => rfl
  | 6, _ => rfl
  | 7, _ => rfl
  | 8, _ => rfl
  | 9, _ => rfl
  | 10, _ => rfl
  | 11, _ => rfl
  | 12, _ => rfl
  | 13, _ => rfl
  | 14, _ => rfl
  | 15, _ => rfl
  | 16, _ => rfl
  | n + 17, h => omega
theorem rw_14 {n : st_N} {zj : st_X} {za : st_X} {zc : st_C} {ze : st_E} {zp : st_P} {zx : st_S} {zu : st_U} {zm : st_M} {zk : (Nat → Nat)} {zr : st_R} {t : Nat} {f : Nat → Nat} (ht : t < 17) : (hp n zj za zc ze zp zx zu zm zk zr).set (14 + t) (.inr (.inl (0, 5, fun i => nI (f i)))) = hp n zj za zc (up_T ze.1 t f, ze.2.1, ze.2.2.1, ze.2.2.2.1, ze.2.2.2.2) zp zx zu zm zk zr := by
  match t, ht with
  | 0, _ => rfl
  | 1, _ => rfl
  | 2, _ => rfl
  | 3, _ => rfl
  | 4, _ => rfl
  | 5, _ => rfl
  | 6, _ => rfl
  | 7, _ => rfl
  | 8, _ => rfl
  | 9, _ => rfl
  | 10, _ => rfl
  | 11, _ => rfl
  | 12, _ => rfl
  | 13, _ => rfl
  | 14, _ => rfl
  | 15, _ => rfl
  | 16, _ => rfl
  | n + 17, h => omega
theorem rd_14 {n : st_N} {zj : st_X} {za : st_X} {zc : st_C} {ze : st_E} {zp : st_P} {zx : st_S} {zu : st_U} {zm : st_M} {zk : (Nat → Nat)} {zr : st_R} : mi_ar (hp n zj za zc ze zp zx zu zm zk zr) 14 = some (0, 5, fun i => nI (ze.1 0 i)) := rfl
theorem wr_14 {n : st_N} {zj : st_X} {za : st_X} {zc : st_C} {ze : st_E} {zp : st_P} {zx : st_S} {zu : st_U} {zm : st_M} {zk : (Nat → Nat)} {zr : st_R} {f : Nat → Nat} : (hp n zj za zc ze zp zx zu zm zk zr).set 14 (.inr (.inl (0, 5, fun i => nI (f i)))) = hp n zj za zc (up_T ze.1 0 f, ze.2.1, ze.2.2.1, ze.2.2.2.1, ze.2.2.2.2) zp zx zu zm zk zr := rfl
theorem rd_31 {n : st_N} {zj : st_X} {za : st_X} {zc : st_C} {ze : st_E} {zp : st_P} {zx : st_S} {zu : st_U} {zm : st_M} {zk : (Nat → Nat)} {zr : st_R} : mi_ar (hp n zj za zc ze zp zx zu zm zk zr) 31 = some (0, 17, fun i => nI (ze.2.1 i)) := rfl
theorem wr_31 {n : st_N} {zj : st_X} {za : st_X} {zc : st_C} {ze : st_E} {zp : st_P} {zx : st_S} {zu : st_U} {zm : st_M} {zk : (Nat → Nat)} {zr : st_R} {f : Nat → Nat} : (hp n zj za zc ze zp zx zu zm zk zr).set 31 (.inr (.inl (0, 17, fun i => nI (f i)))) = hp n zj za zc (ze.1, f, ze.2.2.1, ze.2.2.2.1, ze.2.2.2.2) zp zx zu zm zk zr := rfl
theorem rd_32 {n : st_N} {zj : st_X} {za : st_X} {zc : st_C} {ze : st_E} {zp : st_P} {zx : st_S} {zu : st_U} {zm : st_M} {zk : (Nat → Nat)} {zr : st_R} : mi_ob (hp n zj za zc ze zp zx zu zm zk zr) 32 = some (5, [.inr (.inr (some 1)), .inr (.inr (some 33)), .inr (.inr (some 34)), .inl zp.2.2]) := rfl
theorem wr_32 {n : st_N} {zj : st_X} {za : st_X} {zc : st_C} {ze : st_E} {zp : st_P} {zx : st_S} {zu : st_U} {zm : st_M} {zk : (Nat → Nat)} {zr : st_R} {w0 : Int32} : (hp n zj za zc ze zp zx zu zm zk zr).set 32 (.inl (5, [.inr (.inr (some 1)), .inr (.inr (some 33)), .inr (.inr (some 34)), .inl w0])) = hp n zj za zc ze (zp.1, zp.2.1, w0) zx zu zm zk zr := rfl
theorem rd_33 {n : st_N} {zj : st_X} {za : st_X} {zc : st_C} {ze : st_E} {zp : st_P} {zx : st_S} {zu : st_U} {zm : st_M} {zk : (Nat → Nat)} {zr : st_R} : mi_ar (hp n zj za zc ze zp zx zu zm zk zr) 33 = some (0, 16, fun i => nI (zp.1 i)) := rfl
theorem wr_33 {n : st_N} {zj : st_X} {za : st_X} {zc : st_C} {ze : st_E} {zp : st_P} {zx : st_S} {zu : st_U} {zm : st_M} {zk : (Nat → Nat)} {zr : st_R} {f : Nat → Nat} : (hp n zj za zc ze zp zx zu zm zk zr).set 33 (.inr (.inl (0, 16, fun i => nI (f i)))) = hp n zj za zc ze (f, zp.2.1, zp.2.2) zx zu zm zk zr := rfl
theorem rd_34 {n : st_N} {zj : st_X} {za : st_X} {zc : st_C} {ze : st_E} {zp : st_P} {zx : st_S} {zu : st_U} {zm : st_M} {zk : (Nat → Nat)} {zr : st_R} : mi_ar (hp n zj za zc ze zp zx zu zm zk zr) 34 = some (0, 16, fun i => nI (zp.2.1 i)) := rfl
theorem wr_34 {n : st_N} {zj : st_X} {za : st_X} {zc : st_C} {ze : st_E} {zp : st_P} {zx : st_S} {zu : st_U} {zm : st_M} {zk : (Nat → Nat)} {zr : st_R} {f : Nat → Nat} : (hp n zj za zc ze zp zx zu zm zk zr).set 34 (.inr (.inl (0, 16, fun i => nI (f i)))) = hp n zj za zc ze (zp.1, f, zp.2.2) zx zu zm zk zr := rfl
theorem rd_35 {n : st_N} {zj : st_X} {za : st_X} {zc : st_C} {ze : st_E} {zp : st_P} {zx : st_S} {zu : st_U} {zm : st_M} {zk : (Nat → Nat)} {zr : st_R} : mi_ob (hp n zj za zc ze zp zx zu zm zk zr) 35 = some (6, [.inr (.inr (some 1)), .inr (.inr (some 36)), .inl (nI zx.2.1), .inl (nI zx.2.2.1), .inl (nI zx.2.2.2.1), .inl (nI zx.2.2.2.2.1), .inl (nI zx.2.2.2.2.2.1), .inl (nI zx.2.2.2.2.2.2.1), .inl (nI zx.2.2.2.2.2.2.2)]) := rfl
theorem wr_35 {n : st_N} {zj : st_X} {za : st_X} {zc : st_C} {ze : st_E} {zp : st_P} {zx : st_S} {zu : st_U} {zm : st_M} {zk : (Nat → Nat)} {zr : st_R} {w0 : Nat} {w1 : Nat} {w2 : Nat} {w3 : Nat} {w4 : Nat} {w5 : Nat} {w6 : Nat} : (hp n zj za zc ze zp zx zu zm zk zr).set 35 (.inl (6, [.inr (.inr (some 1)), .inr (.inr (some 36)), .inl (nI w0), .inl (nI w1), .inl (nI w2), .inl (nI w3), .inl (nI w4), .inl (nI w5), .inl (nI w6)])) = hp n zj za zc ze zp (zx.1, w0, w1, w2, w3, w4, w5, w6) zu zm zk zr := rfl
theorem rd_36 {n : st_N} {zj : st_X} {za : st_X} {zc : st_C} {ze : st_E} {zp : st_P} {zx : st_S} {zu : st_U} {zm : st_M} {zk : (Nat → Nat)} {zr : st_R} : mi_rr (hp n zj za zc ze zp zx zu zm zk zr) 36 = some (2, 17, fun i => some (37 + i)) := rfl
theorem rr_37 {n : st_N} {zj : st_X} {za : st_X} {zc : st_C} {ze : st_E} {zp : st_P} {zx : st_S} {zu : st_U} {zm : st_M} {zk : (Nat → Nat)} {zr : st_R} {t : Nat} (ht : t < 17) : mi_ar (hp n zj za zc ze zp zx zu zm zk zr) (37 + t) = some (0, 17, fun i => nI (zx.1 t i)) := by
  match t, ht with
  | 0, _ => rfl
  | 1, _ => rfl
  | 2, _ => rfl
  | 3, _ => rfl
  | 4, _ => rfl
  | 5, _ => rfl
  | 6, _ => rfl
  | 7, _ => rfl
  | 8, _ => rfl
  | 9, _ => rfl
  | 10, _ => rfl
  | 11, _ => rfl
  | 12, _ => rfl
  | 13, _ => rfl
  | 14, _ => rfl
  | 15, _ => rfl
  | 16, _ => rfl
  | n + 17, h => omega
theorem rw_37 {n : st_N} {zj : st_X} {za : st_X} {zc : st_C} {ze : st_E} {zp : st_P} {zx : st_S} {zu : st_U} {zm : st_M} {zk : (Nat → Nat)} {zr : st_R} {t : Nat} {f : Nat → Nat} (ht : t < 17) : (hp n zj za zc ze zp zx zu zm zk zr).set (37 + t) (.inr (.inl (0, 17, fun i => nI (f i)))) = hp n zj za zc ze zp (up_T zx.1 t f, zx.2.1, zx.2.2.1, zx.2.2.2.1, zx.2.2.2.2.1, zx.2.2.2.2.2.1, zx.2.2.2.2.2.2.1, zx.2.2.2.2.2.2.2) zu zm zk zr := by
  match t, ht with
  | 0, _ => rfl
  | 1, _ => rfl
  | 2, _ => rfl
  | 3, _ => rfl
  | 4, _ => rfl
  | 5, _ => rfl
  | 6, _ => rfl
  | 7, _ => rfl
  | 8, _ => rfl
  | 9, _ => rfl
  | 10, _ => rfl
  | 11, _ => rfl
  | 12, _ => rfl
  | 13, _ => rfl
  | 14, _ => rfl
  | 15, _ => rfl
  | 16, _ => rfl
  | n + 17, h => omega
theorem rd_37 {n : st_N} {zj : st_X} {za : st_X} {zc : st_C} {ze : st_E} {zp : st_P} {zx : st_S} {zu : st_U} {zm : st_M} {zk : (Nat → Nat)} {zr : st_R} : mi_ar (hp n zj za zc ze zp zx zu zm zk zr) 37 = some (0, 17, fun i => nI (zx.1 0 i)) := rfl
theorem wr_37 {n : st_N} {zj : st_X} {za : st_X} {zc : st_C} {ze : st_E} {zp : st_P} {zx : st_S} {zu : st_U} {zm : st_M} {zk : (Nat → Nat)} {zr : st_R} {f : Nat → Nat} : (hp n zj za zc ze zp zx zu zm zk zr).set 37 (.inr (.inl (0, 17, fun i => nI (f i)))) = hp n zj za zc ze zp (up_T zx.1 0 f, zx.2.1, zx.2.2.1, zx.2.2.2.1, zx.2.2.2.2.1, zx.2.2.2.2.2.1, zx.2.2.2.2.2.2.1, zx.2.2.2.2.2.2.2) zu zm zk zr := rfl
theorem rd_54 {n : st_N} {zj : st_X} {za : st_X} {zc : st_C} {ze : st_E} {zp : st_P} {zx : st_S} {zu : st_U} {zm : st_M} {zk : (Nat → Nat)} {zr : st_R} : mi_ob (hp n zj za zc ze zp zx zu zm zk zr) 54 = some (7, [.inr (.inr (some 1)), .inl (nI zu.1), .inl (nI zu.2.1), .inl zu.2.2.1, .inl (nI zu.2.2.2.1), .inl zu.2.2.2.2]) := rfl
theorem wr_54 {n : st_N} {zj : st_X} {za : st_X} {zc : st_C} {ze : st_E} {zp : st_P} {zx : st_S} {zu : st_U} {zm : st_M} {zk : (Nat → Nat)} {zr : st_R} {w0 : Nat} {w1 : Nat} {w2 : Int32} {w3 : Nat} {w4 : Int32} : (hp n zj za zc ze zp zx zu zm zk zr).set 54 (.inl (7, [.inr (.inr (some 1)), .inl (nI w0), .inl (nI w1), .inl w2, .inl (nI w3), .inl w4])) = hp n zj za zc ze zp zx (w0, w1, w2, w3, w4) zm zk zr := rfl
theorem rd_55 {n : st_N} {zj : st_X} {za : st_X} {zc : st_C} {ze : st_E} {zp : st_P} {zx : st_S} {zu : st_U} {zm : st_M} {zk : (Nat → Nat)} {zr : st_R} : mi_ob (hp n zj za zc ze zp zx zu zm zk zr) 55 = some (8, [.inr (.inr (some 1)), .inr (.inr (some 56)), .inr (.inr (some 57)), .inr (.inr (some 58)), .inr (.inr (some 59)), .inl (nI zm.2.2.2.2.1), .inl (nI zm.2.2.2.2.2)]) := rfl
theorem wr_55 {n : st_N} {zj : st_X} {za : st_X} {zc : st_C} {ze : st_E} {zp : st_P} {zx : st_S} {zu : st_U} {zm : st_M} {zk : (Nat → Nat)} {zr : st_R} {w0 : Nat} {w1 : Nat} : (hp n zj za zc ze zp zx zu zm zk zr).set 55 (.inl (8, [.inr (.inr (some 1)), .inr (.inr (some 56)), .inr (.inr (some 57)), .inr (.inr (some 58)), .inr (.inr (some 59)), .inl (nI w0), .inl (nI w1)])) = hp n zj za zc ze zp zx zu (zm.1, zm.2.1, zm.2.2.1, zm.2.2.2.1, w0, w1) zk zr := rfl
theorem rd_56 {n : st_N} {zj : st_X} {za : st_X} {zc : st_C} {ze : st_E} {zp : st_P} {zx : st_S} {zu : st_U} {zm : st_M} {zk : (Nat → Nat)} {zr : st_R} : mi_ar (hp n zj za zc ze zp zx zu zm zk zr) 56 = some (0, 16, fun i => cn_o (zm.1 i)) := rfl
theorem wr_56 {n : st_N} {zj : st_X} {za : st_X} {zc : st_C} {ze : st_E} {zp : st_P} {zx : st_S} {zu : st_U} {zm : st_M} {zk : (Nat → Nat)} {zr : st_R} {f : Nat → Option Nat} : (hp n zj za zc ze zp zx zu zm zk zr).set 56 (.inr (.inl (0, 16, fun i => cn_o (f i)))) = hp n zj za zc ze zp zx zu (f, zm.2.1, zm.2.2.1, zm.2.2.2.1, zm.2.2.2.2.1, zm.2.2.2.2.2) zk zr := rfl
theorem rd_57 {n : st_N} {zj : st_X} {za : st_X} {zc : st_C} {ze : st_E} {zp : st_P} {zx : st_S} {zu : st_U} {zm : st_M} {zk : (Nat → Nat)} {zr : st_R} : mi_ar (hp n zj za zc ze zp zx zu zm zk zr) 57 = some (0, 16, fun i => cn_o (zm.2.1 i)) := rfl
theorem wr_57 {n : st_N} {zj : st_X} {za : st_X} {zc : st_C} {ze : st_E} {zp : st_P} {zx : st_S} {zu : st_U} {zm : st_M} {zk : (Nat → Nat)} {zr : st_R} {f : Nat → Option Nat} : (hp n zj za zc ze zp zx zu zm zk zr).set 57 (.inr (.inl (0, 16, fun i => cn_o (f i)))) = hp n zj za zc ze zp zx zu (zm.1, f, zm.2.2.1, zm.2.2.2.1, zm.2.2.2.2.1, zm.2.2.2.2.2) zk zr := rfl
theorem rd_58 {n : st_N} {zj : st_X} {za : st_X} {zc : st_C} {ze : st_E} {zp : st_P} {zx : st_S} {zu : st_U} {zm : st_M} {zk : (Nat → Nat)} {zr : st_R} : mi_ar (hp n zj za zc ze zp zx zu zm zk zr) 58 = some (0, 16, fun i => nI (zm.2.2.1 i)) := rfl
theorem wr_58 {n : st_N} {zj : st_X} {za : st_X} {zc : st_C} {ze : st_E} {zp : st_P} {zx : st_S} {zu : st_U} {zm : st_M} {zk : (Nat → Nat)} {zr : st_R} {f : Nat → Nat} : (hp n zj za zc ze zp zx zu zm zk zr).set 58 (.inr (.inl (0, 16, fun i => nI (f i)))) = hp n zj za zc ze zp zx zu (zm.1, zm.2.1, f, zm.2.2.2.1, zm.2.2.2.2.1, zm.2.2.2.2.2) zk zr := rfl
theorem rd_59 {n : st_N} {zj : st_X} {za : st_X} {zc : st_C} {ze : st_E} {zp : st_P} {zx : st_S} {zu : st_U} {zm : st_M} {zk : (Nat → Nat)} {zr : st_R} : mi_ar (hp n zj za zc ze zp zx zu zm zk zr) 59 = some (0, 16, fun i => nI (zm.2.2.2.1 i)) := rfl
theorem wr_59 {n : st_N} {zj : st_X} {za : st_X} {zc : st_C} {ze : st_E} {zp : st_P} {zx : st_S} {zu : st_U} {zm : st_M} {zk : (Nat → Nat)} {zr : st_R} {f : Nat → Nat} : (hp n zj za zc ze zp zx zu zm zk zr).set 59 (.inr (.inl (0, 16, fun i => nI (f i)))) = hp n zj za zc ze zp zx zu (zm.1, zm.2.1, zm.2.2.1, f, zm.2.2.2.2.1, zm.2.2.2.2.2) zk zr := rfl
theorem rd_60 {n : st_N} {zj : st_X} {za : st_X} {zc : st_C} {ze : st_E} {zp : st_P} {zx : st_S} {zu : st_U} {zm : st_M} {zk : (Nat → Nat)} {zr : st_R} : mi_ar (hp n zj za zc ze zp zx zu zm zk zr) 60 = some (0, 17, fun i => nI (zk i)) := rfl
theorem wr_60 {n : st_N} {zj : st_X} {za : st_X} {zc : st_C} {ze : st_E} {zp : st_P} {zx : st_S} {zu : st_U} {zm : st_M} {zk : (Nat → Nat)} {zr : st_R} {f : Nat → Nat} : (hp n zj za zc ze zp zx zu zm zk zr).set 60 (.inr (.inl (0, 17, fun i => nI (f i)))) = hp n zj za zc ze zp zx zu zm f zr := rfl
theorem rd_61 {n : st_N} {zj : st_X} {za : st_X} {zc : st_C} {ze : st_E} {zp : st_P} {zx : st_S} {zu : st_U} {zm : st_M} {zk : (Nat → Nat)} {zr : st_R} : mi_ob (hp n zj za zc ze zp zx zu zm zk zr) 61 = some (9, [.inl (nI zr.1), .inl (nI zr.2.1), .inr (.inr (some 62)), .inr (.inr (some 63)), .inr (.inr (some 64)), .inr (.inr (some 65)), .inr (.inr (some 66)), .inr (.inr (some 67)), .inl (nI zr.2.2.2.2.2.2.2.2.1), .inl (nI zr.2.2.2.2.2.2.2.2.2.1), .inl (nI zr.2.2.2.2.2.2.2.2.2.2.1), .inl (nI zr.2.2.2.2.2.2.2.2.2.2.2.1), .inl (nI zr.2.2.2.2.2.2.2.2.2.2.2.2.1), .inl (nI zr.2.2.2.2.2.2.2.2.2.2.2.2.2.1), .inl (nI zr.2.2.2.2.2.2.2.2.2.2.2.2.2.2.1), .inl (nI zr.2.2.2.2.2.2.2.2.2.2.2.2.2.2.2.1), .inl (nI zr.2.2.2.2.2.2.2.2.2.2.2.2.2.2.2.2.1), .inr (.inr (some 68))]) := rfl
theorem wr_61 {n : st_N} {zj : st_X} {za : st_X} {zc : st_C} {ze : st_E} {zp : st_P} {zx : st_S} {zu : st_U} {zm : st_M} {zk : (Nat → Nat)} {zr : st_R} {w0 : Nat} {w1 : Nat} {w2 : Nat} {w3 : Nat} {w4 : Nat} {w5 : Nat} {w6 : Nat} {w7 : Nat} {w8 : Nat} {w9 : Nat} {w10 : Nat} : (hp n zj za zc ze zp zx zu zm zk zr).set 61 (.inl (9, [.inl (nI w0), .inl (nI w1), .inr (.inr (some 62)), .inr (.inr (some 63)), .inr (.inr (some 64)), .inr (.inr (some 65)), .inr (.inr (some 66)), .inr (.inr (some 67)), .inl (nI w2), .inl (nI w3), .inl (nI w4), .inl (nI w5), .inl (nI w6), .inl (nI w7), .inl (nI w8), .inl (nI w9), .inl (nI w10), .inr (.inr (some 68))])) = hp n zj za zc ze zp zx zu zm zk (w0, w1, zr.2.2.1, zr.2.2.2.1, zr.2.2.2.2.1, zr.2.2.2.2.2.1, zr.2.2.2.2.2.2.1, zr.2.2.2.2.2.2.2.1, w2, w3, w4, w5, w6, w7, w8, w9, w10, zr.2.2.2.2.2.2.2.2.2.2.2.2.2.2.2.2.2) := rfl
theorem rd_62 {n : st_N} {zj : st_X} {za : st_X} {zc : st_C} {ze : st_E} {zp : st_P} {zx : st_S} {zu : st_U} {zm : st_M} {zk : (Nat → Nat)} {zr : st_R} : mi_ar (hp n zj za zc ze zp zx zu zm zk zr) 62 = some (0, 16, fun i => nI (zr.2.2.1 i)) := rfl
theorem wr_62 {n : st_N} {zj : st_X} {za : st_X} {zc : st_C} {ze : st_E} {zp : st_P} {zx : st_S} {zu : st_U} {zm : st_M} {zk : (Nat → Nat)} {zr : st_R} {f : Nat → Nat} : (hp n zj za zc ze zp zx zu zm zk zr).set 62 (.inr (.inl (0, 16, fun i => nI (f i)))) = hp n zj za zc ze zp zx zu zm zk (zr.1, zr.2.1, f, zr.2.2.2.1, zr.2.2.2.2.1, zr.2.2.2.2.2.1, zr.2.2.2.2.2.2.1, zr.2.2.2.2.2.2.2.1, zr.2.2.2.2.2.2.2.2.1, zr.2.2.2.2.2.2.2.2.2.1, zr.2.2.2.2.2.2.2.2.2.2.1, zr.2.2.2.2.2.2.2.2.2.2.2.1, zr.2.2.2.2.2.2.2.2.2.2.2.2.1, zr.2.2.2.2.2.2.2.2.2.2.2.2.2.1, zr.2.2.2.2.2.2.2.2.2.2.2.2.2.2.1, zr.2.2.2.2.2.2.2.2.2.2.2.2.2.2.2.1, zr.2.2.2.2.2.2.2.2.2.2.2.2.2.2.2.2.1, zr.2.2.2.2.2.2.2.2.2.2.2.2.2.2.2.2.2) := rfl
theorem rd_63 {n : st_N} {zj : st_X} {za : st_X} {zc : st_C} {ze : st_E} {zp : st_P} {zx : st_S} {zu : st_U} {zm : st_M} {zk : (Nat → Nat)} {zr : st_R} : mi_ar (hp n zj za zc ze zp zx zu zm zk zr) 63 = some (0, 16, fun i => nI (zr.2.2.2.1 i)) := rfl
theorem wr_63 {n : st_N} {zj : st_X} {za : st_X} {zc : st_C} {ze : st_E} {zp : st_P} {zx : st_S} {zu : st_U} {zm : st_M} {zk : (Nat → Nat)} {zr : st_R} {f : Nat → Nat} : (hp n zj za zc ze zp zx zu zm zk zr).set 63 (.inr (.inl (0, 16, fun i => nI (f i)))) = hp n zj za zc ze zp zx zu zm zk (zr.1, zr.2.1, zr.2.2.1, f, zr.2.2.2.2.1, zr.2.2.2.2.2.1, zr.2.2.2.2.2.2.1, zr.2.2.2.2.2.2.2.1, zr.2.2.2.2.2.2.2.2.1, zr.2.2.2.2.2.2.2.2.2.1, zr.2.2.2.2.2.2.2.2.2.2.1, zr.2.2.2.2.2.2.2.2.2.2.2.1, zr.2.2.2.2.2.2.2.2.2.2.2.2.1, zr.2.2.2.2.2.2.2.2.2.2.2.2.2.1, zr.2.2.2.2.2.2.2.2.2.2.2.2.2.2.1, zr.2.2.2.2.2.2.2.2.2.2.2.2.2.2.2.1, zr.2.2.2.2.2.2.2.2.2.2.2.2.2.2.2.2.1, zr.2.2.2.2.2.2.2.2.2.2.2.2.2.2.2.2.2) := rfl
theorem rd_64 {n : st_N} {zj : st_X} {za : st_X} {zc : st_C} {ze : st_E} {zp : st_P} {zx : st_S} {zu : st_U} {zm : st_M} {zk : (Nat → Nat)} {zr : st_R} : mi_ar (hp n zj za zc ze zp zx zu zm zk zr) 64 = some (0, 1000, fun i => nI (zr.2.2.2.2.1 i)) := rfl
theorem wr_64 {n : st_N} {zj : st_X} {za : st_X} {zc : st_C} {ze : st_E} {zp : st_P} {zx : st_S} {zu : st_U} {zm : st_M} {zk : (Nat → Nat)} {zr : st_R} {f : Nat → Nat} : (hp n zj za zc ze zp zx zu zm zk zr).set 64 (.inr (.inl (0, 1000, fun i => nI (f i)))) = hp n zj za zc ze zp zx zu zm zk (zr.1, zr.2.1, zr.2.2.1, zr.2.2.2.1, f, zr.2.2.2.2.2.1, zr.2.2.2.2.2.2.1, zr.2.2.2.2.2.2.2.1, zr.2.2.2.2.2.2.2.2.1, zr.2.2.2.2.2.2.2.2.2.1, zr.2.2.2.2.2.2.2.2.2.2.1, zr.2.2.2.2.2.2.2.2.2.2.2.1, zr.2.2.2.2.2.2.2.2.2.2.2.2.1, zr.2.2.2.2.2.2.2.2.2.2.2.2.2.1, zr.2.2.2.2.2.2.2.2.2.2.2.2.2.2.1, zr.2.2.2.2.2.2.2.2.2.2.2.2.2.2.2.1, zr.2.2.2.2.2.2.2.2.2.2.2.2.2.2.2.2.1, zr.2.2.2.2.2.2.2.2.2.2.2.2.2.2.2.2.2) := rfl
theorem rd_65 {n : st_N} {zj : st_X} {za : st_X} {zc : st_C} {ze : st_E} {zp : st_P} {zx : st_S} {zu : st_U} {zm : st_M} {zk : (Nat → Nat)} {zr : st_R} : mi_ar (hp n zj za zc ze zp zx zu zm zk zr) 65 = some (0, 16, fun i => nI (zr.2.2.2.2.2.1 i)) := rfl
theorem wr_65 {n : st_N} {zj : st_X} {za : st_X} {zc : st_C} {ze : st_E} {zp : st_P} {zx : st_S} {zu : st_U} {zm : st_M} {zk : (Nat → Nat)} {zr : st_R} {f : Nat → Nat} : (hp n zj za zc ze zp zx zu zm zk zr).set 65 (.inr (.inl (0, 16, fun i => nI (f i)))) = hp n zj za zc ze zp zx zu zm zk (zr.1, zr.2.1, zr.2.2.1, zr.2.2.2.1, zr.2.2.2.2.1, f, zr.2.2.2.2.2.2.1, zr.2.2.2.2.2.2.2.1, zr.2.2.2.2.2.2.2.2.1, zr.2.2.2.2.2.2.2.2.2.1, zr.2.2.2.2.2.2.2.2.2.2.1, zr.2.2.2.2.2.2.2.2.2.2.2.1, zr.2.2.2.2.2.2.2.2.2.2.2.2.1, zr.2.2.2.2.2.2.2.2.2.2.2.2.2.1, zr.2.2.2.2.2.2.2.2.2.2.2.2.2.2.1, zr.2.2.2.2.2.2.2.2.2.2.2.2.2.2.2.1, zr.2.2.2.2.2.2.2.2.2.2.2.2.2.2.2.2.1, zr.2.2.2.2.2.2.2.2.2.2.2.2.2.2.2.2.2) := rfl
theorem rd_66 {n : st_N} {zj : st_X} {za : st_X} {zc : st_C} {ze : st_E} {zp : st_P} {zx : st_S} {zu : st_U} {zm : st_M} {zk : (Nat → Nat)} {zr : st_R} : mi_ar (hp n zj za zc ze zp zx zu zm zk zr) 66 = some (0, 16, fun i => nI (zr.2.2.2.2.2.2.1 i)) := rfl
theorem wr_66 {n : st_N} {zj : st_X} {za : st_X} {zc : st_C} {ze : st_E} {zp : st_P} {zx : st_S} {zu : st_U} {zm : st_M} {zk : (Nat → Nat)} {zr : st_R} {f : Nat → Nat} : (hp n zj za zc ze zp zx zu zm zk zr).set 66 (.inr (.inl (0, 16, fun i => nI (f i)))) = hp n zj za zc ze zp zx zu zm zk (zr.1, zr.2.1, zr.2.2.1, zr.2.2.2.1, zr.2.2.2.2.1, zr.2.2.2.2.2.1, f, zr.2.2.2.2.2.2.2.1, zr.2.2.2.2.2.2.2.2.1, zr.2.2.2.2.2.2.2.2.2.1, zr.2.2.2.2.2.2.2.2.2.2.1, zr.2.2.2.2.2.2.2.2.2.2.2.1, zr.2.2.2.2.2.2.2.2.2.2.2.2.1, zr.2.2.2.2.2.2.2.2.2.2.2.2.2.1, zr.2.2.2.2.2.2.2.2.2.2.2.2.2.2.1, zr.2.2.2.2.2.2.2.2.2.2.2.2.2.2.2.1, zr.2.2.2.2.2.2.2.2.2.2.2.2.2.2.2.2.1, zr.2.2.2.2.2.2.2.2.2.2.2.2.2.2.2.2.2) := rfl
theorem rd_67 {n : st_N} {zj : st_X} {za : st_X} {zc : st_C} {ze : st_E} {zp : st_P} {zx : st_S} {zu : st_U} {zm : st_M} {zk : (Nat → Nat)} {zr : st_R} : mi_ar (hp n zj za zc ze zp zx zu zm zk zr) 67 = some (0, 16, fun i => nI (zr.2.2.2.2.2.2.2.1 i)) := rfl
theorem wr_67 {n : st_N} {zj : st_X} {za : st_X} {zc : st_C} {ze : st_E} {zp : st_P} {zx : st_S} {zu : st_U} {zm : st_M} {zk : (Nat → Nat)} {zr : st_R} {f : Nat → Nat} : (hp n zj za zc ze zp zx zu zm zk zr).set 67 (.inr (.inl (0, 16, fun i => nI (f i)))) = hp n zj za zc ze zp zx zu zm zk (zr.1, zr.2.1, zr.2.2.1, zr.2.2.2.1, zr.2.2.2.2.1, zr.2.2.2.2.2.1, zr.2.2.2.2.2.2.1, f, zr.2.2.2.2.2.2.2.2.1, zr.2.2.2.2.2.2.2.2.2.1, zr.2.2.2.2.2.2.2.2.2.2.1, zr.2.2.2.2.2.2.2.2.2.2.2.1, zr.2.2.2.2.2.2.2.2.2.2.2.2.1, zr.2.2.2.2.2.2.2.2.2.2.2.2.2.1, zr.2.2.2.2.2.2.2.2.2.2.2.2.2.2.1, zr.2.2.2.2.2.2.2.2.2.2.2.2.2.2.2.1, zr.2.2.2.2.2.2.2.2.2.2.2.2.2.2.2.2.1, zr.2.2.2.2.2.2.2.2.2.2.2.2.2.2.2.2.2) := rfl
theorem rd_68 {n : st_N} {zj : st_X} {za : st_X} {zc : st_C} {ze : st_E} {zp : st_P} {zx : st_S} {zu : st_U} {zm : st_M} {zk : (Nat → Nat)} {zr : st_R} : mi_ar (hp n zj za zc ze zp zx zu zm zk zr) 68 = some (1, 65536, fun i => nI (zr.2.2.2.2.2.2.2.2.2.2.2.2.2.2.2.2.2 i)) := rfl
theorem wr_68 {n : st_N} {zj : st_X} {za : st_X} {zc : st_C} {ze : st_E} {zp : st_P} {zx : st_S} {zu : st_U} {zm : st_M} {zk : (Nat → Nat)} {zr : st_R} {f : Nat → Nat} : (hp n zj za zc ze zp zx zu zm zk zr).set 68 (.inr (.inl (1, 65536, fun i => nI (f i)))) = hp n zj za zc ze zp zx zu zm zk (zr.1, zr.2.1, zr.2.2.1, zr.2.2.2.1, zr.2.2.2.2.1, zr.2.2.2.2.2.1, zr.2.2.2.2.2.2.1, zr.2.2.2.2.2.2.2.1, zr.2.2.2.2.2.2.2.2.1, zr.2.2.2.2.2.2.2.2.2.1, zr.2.2.2.2.2.2.2.2.2.2.1, zr.2.2.2.2.2.2.2.2.2.2.2.1, zr.2.2.2.2.2.2.2.2.2.2.2.2.1, zr.2.2.2.2.2.2.2.2.2.2.2.2.2.1, zr.2.2.2.2.2.2.2.2.2.2.2.2.2.2.1, zr.2.2.2.2.2.2.2.2.2.2.2.2.2.2.2.1, zr.2.2.2.2.2.2.2.2.2.2.2.2.2.2.2.2.1, f) := rfl

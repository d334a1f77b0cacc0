/-! ROWS OF THE SIMPLE MACHINE: instructions that touch no cell -/
def s_lk : List (Nat × Value) → Nat → Option Value
  | [], _ => none
  | (j, v) :: t, i => bif Nat.beq j i then some v else s_lk t i
theorem s_lk_get : ∀ (lv : List (Nat × Value)) (i : Nat) {v : Value}, s_lk lv i = some v → ∃ q : Nat, lv[q]? = some (i, v) := by
  intro lv
  induction lv with
  | nil => intro i v h; cases h
  | cons a t ih =>
    obtain ⟨j, w⟩ := a
    intro i v h
    by_cases hj : Nat.beq j i = true
    · simp only [s_lk, hj, cond_true, Option.some.injEq] at h
      exact ⟨0, by rw [h, Nat.eq_of_beq_eq_true hj]; rfl⟩
    · simp only [s_lk, Bool.not_eq_true] at h hj
      rw [hj] at h
      obtain ⟨q, hq⟩ := ih i h
      exact ⟨q + 1, hq⟩
theorem s_lk_at {al : Nat → Nat} {ls : Array Slot} {nL : Nat} {lv : List (Nat × Value)} {i : Nat} {v : Value} (hl : lv_has ls nL (lv.map (fun q => (q.1, s_tr al q.2)))) (h : s_lk lv i = some v) : ls[i]? = some (.val (s_tr al v)) := by
  obtain ⟨q, hq⟩ := s_lk_get lv i h
  exact lv_at hl q (by rw [List.getElem?_map, hq]; rfl)
def s_del : List (Nat × Value) → Nat → List (Nat × Value)
  | [], _ => []
  | (j, w) :: t, i => bif !(j == i) && !(j + 1 == i && w.category == 2) then (j, w) :: s_del t i else s_del t i
def s_set (lv : List (Nat × Value)) (i : Nat) (v : Value) : List (Nat × Value) := (i, v) :: s_del lv i
def s_del2 : List (Nat × Value) → Nat → List (Nat × Value)
  | [], _ => []
  | (j, w) :: t, i => bif !(j == i) && (!(j == i + 1) && !(j + 1 == i && w.category == 2)) then (j, w) :: s_del2 t i else s_del2 t i
def s_set2 (lv : List (Nat × Value)) (i : Nat) (v : Value) : List (Nat × Value) := (i, v) :: s_del2 lv i
theorem s_set_tr {al : Nat → Nat} (lv : List (Nat × Value)) (i : Nat) (v : Value) : (i, s_tr al v) :: (lv.map (fun q => (q.1, s_tr al q.2))).filter (fun q => !(q.1 == i) && !(q.1 + 1 == i && q.2.category == 2)) = (s_set lv i v).map (fun q => (q.1, s_tr al q.2)) := by
  show _ = (i, s_tr al v) :: (s_del lv i).map (fun q => (q.1, s_tr al q.2))
  congr 1
  induction lv with
  | nil => rfl
  | cons a t ih =>
    obtain ⟨j, w⟩ := a
    simp only [List.map_cons, List.filter_cons, s_del, s_tr_cat]
    by_cases hq : (!(j == i) && !(j + 1 == i && w.category == 2)) = true
    · simp only [hq, cond_true, if_true, List.map_cons, ih]
    · simp only [hq, Bool.not_eq_true] at hq ⊢
      simp only [hq, cond_false, ih]
      simp
theorem s_set2_tr {al : Nat → Nat} (lv : List (Nat × Value)) (i : Nat) (v : Value) : (i, s_tr al v) :: (lv.map (fun q => (q.1, s_tr al q.2))).filter (fun q => !(q.1 == i) && (!(q.1 == i + 1) && !(q.1 + 1 == i && q.2.category == 2))) = (s_set2 lv i v).map (fun q => (q.1, s_tr al q.2)) := by
  show _ = (i, s_tr al v) :: (s_del2 lv i).map (fun q => (q.1, s_tr al q.2))
  congr 1
  induction lv with
  | nil => rfl
  | cons a t ih =>
    obtain ⟨j, w⟩ := a
    simp only [List.map_cons, List.filter_cons, s_del2, s_tr_cat]
    by_cases hq : (!(j == i) && (!(j == i + 1) && !(j + 1 == i && w.category == 2))) = true
    · simp only [hq, cond_true, if_true, List.map_cons, ih]
    · simp only [hq, Bool.not_eq_true] at hq ⊢
      simp only [hq, cond_false, ih]
      simp
theorem v_iadd {P : s_C} {k u n pc : Nat} {h : Nat → sE} {lv : List (Nat × Value)} {st : List Value} {x y : Int32} (hdg : decode P.1.2.1 pc = .ok (.iadd, 1)) (kk : V P k u n h (pc + 1) lv (.int (x + y) :: st)) : V P k u n h pc lv (.int y :: .int x :: st) := by
  intro l D A al0 p e s m args below meth c E al be H locs ls ha hW hS hl
  exact lv_iadd E.1 E.2.1 hdg (kk l D A al0 p e s m args below meth c E al be H locs ls ha hW hS hl)
theorem v_isub {P : s_C} {k u n pc : Nat} {h : Nat → sE} {lv : List (Nat × Value)} {st : List Value} {x y : Int32} (hdg : decode P.1.2.1 pc = .ok (.isub, 1)) (kk : V P k u n h (pc + 1) lv (.int (x - y) :: st)) : V P k u n h pc lv (.int y :: .int x :: st) := by
  intro l D A al0 p e s m args below meth c E al be H locs ls ha hW hS hl
  exact lv_isub E.1 E.2.1 hdg (kk l D A al0 p e s m args below meth c E al be H locs ls ha hW hS hl)
theorem v_imul {P : s_C} {k u n pc : Nat} {h : Nat → sE} {lv : List (Nat × Value)} {st : List Value} {x y : Int32} (hdg : decode P.1.2.1 pc = .ok (.imul, 1)) (kk : V P k u n h (pc + 1) lv (.int (x * y) :: st)) : V P k u n h pc lv (.int y :: .int x :: st) := by
  intro l D A al0 p e s m args below meth c E al be H locs ls ha hW hS hl
  exact lv_imul E.1 E.2.1 hdg (kk l D A al0 p e s m args below meth c E al be H locs ls ha hW hS hl)
theorem v_idiv {P : s_C} {k u n pc : Nat} {h : Nat → sE} {lv : List (Nat × Value)} {st : List Value} {x y : Int32} (hdg : decode P.1.2.1 pc = .ok (.idiv, 1)) (hne : ¬ y = 0) (kk : V P k u n h (pc + 1) lv (.int (x / y) :: st)) : V P k u n h pc lv (.int y :: .int x :: st) := by
  intro l D A al0 p e s m args below meth c E al be H locs ls ha hW hS hl
  exact lv_idiv E.1 E.2.1 hdg hne (kk l D A al0 p e s m args below meth c E al be H locs ls ha hW hS hl)
theorem v_irem {P : s_C} {k u n pc : Nat} {h : Nat → sE} {lv : List (Nat × Value)} {st : List Value} {x y : Int32} (hdg : decode P.1.2.1 pc = .ok (.irem, 1)) (hne : ¬ y = 0) (kk : V P k u n h (pc + 1) lv (.int (x - x / y * y) :: st)) : V P k u n h pc lv (.int y :: .int x :: st) := by
  intro l D A al0 p e s m args below meth c E al be H locs ls ha hW hS hl
  exact lv_irem E.1 E.2.1 hdg hne (kk l D A al0 p e s m args below meth c E al be H locs ls ha hW hS hl)
theorem v_ineg {P : s_C} {k u n pc : Nat} {h : Nat → sE} {lv : List (Nat × Value)} {st : List Value} {x : Int32} (hdg : decode P.1.2.1 pc = .ok (.ineg, 1)) (kk : V P k u n h (pc + 1) lv (.int (-x) :: st)) : V P k u n h pc lv (.int x :: st) := by
  intro l D A al0 p e s m args below meth c E al be H locs ls ha hW hS hl
  exact lv_ineg E.1 E.2.1 hdg (kk l D A al0 p e s m args below meth c E al be H locs ls ha hW hS hl)
theorem v_ladd {P : s_C} {k u n pc : Nat} {h : Nat → sE} {lv : List (Nat × Value)} {st : List Value} {x y : Int64} (hdg : decode P.1.2.1 pc = .ok (.ladd, 1)) (kk : V P k u n h (pc + 1) lv (.long (x + y) :: st)) : V P k u n h pc lv (.long y :: .long x :: st) := by
  intro l D A al0 p e s m args below meth c E al be H locs ls ha hW hS hl
  exact lv_ladd E.1 E.2.1 hdg (kk l D A al0 p e s m args below meth c E al be H locs ls ha hW hS hl)
theorem v_lsub {P : s_C} {k u n pc : Nat} {h : Nat → sE} {lv : List (Nat × Value)} {st : List Value} {x y : Int64} (hdg : decode P.1.2.1 pc = .ok (.lsub, 1)) (kk : V P k u n h (pc + 1) lv (.long (x - y) :: st)) : V P k u n h pc lv (.long y :: .long x :: st) := by
  intro l D A al0 p e s m args below meth c E al be H locs ls ha hW hS hl
  exact lv_lsub E.1 E.2.1 hdg (kk l D A al0 p e s m args below meth c E al be H locs ls ha hW hS hl)
theorem v_lmul {P : s_C} {k u n pc : Nat} {h : Nat → sE} {lv : List (Nat × Value)} {st : List Value} {x y : Int64} (hdg : decode P.1.2.1 pc = .ok (.lmul, 1)) (kk : V P k u n h (pc + 1) lv (.long (x * y) :: st)) : V P k u n h pc lv (.long y :: .long x :: st) := by
  intro l D A al0 p e s m args below meth c E al be H locs ls ha hW hS hl
  exact lv_lmul E.1 E.2.1 hdg (kk l D A al0 p e s m args below meth c E al be H locs ls ha hW hS hl)
theorem v_ldiv {P : s_C} {k u n pc : Nat} {h : Nat → sE} {lv : List (Nat × Value)} {st : List Value} {x y : Int64} (hdg : decode P.1.2.1 pc = .ok (.ldiv, 1)) (hne : ¬ y = 0) (kk : V P k u n h (pc + 1) lv (.long (x / y) :: st)) : V P k u n h pc lv (.long y :: .long x :: st) := by
  intro l D A al0 p e s m args below meth c E al be H locs ls ha hW hS hl
  exact lv_ldiv E.1 E.2.1 hdg hne (kk l D A al0 p e s m args below meth c E al be H locs ls ha hW hS hl)
theorem v_lrem {P : s_C} {k u n pc : Nat} {h : Nat → sE} {lv : List (Nat × Value)} {st : List Value} {x y : Int64} (hdg : decode P.1.2.1 pc = .ok (.lrem, 1)) (hne : ¬ y = 0) (kk : V P k u n h (pc + 1) lv (.long (x - x / y * y) :: st)) : V P k u n h pc lv (.long y :: .long x :: st) := by
  intro l D A al0 p e s m args below meth c E al be H locs ls ha hW hS hl
  exact lv_lrem E.1 E.2.1 hdg hne (kk l D A al0 p e s m args below meth c E al be H locs ls ha hW hS hl)
theorem v_i2l {P : s_C} {k u n pc : Nat} {h : Nat → sE} {lv : List (Nat × Value)} {st : List Value} {x : Int32} (hdg : decode P.1.2.1 pc = .ok (.i2l, 1)) (kk : V P k u n h (pc + 1) lv (.long (x.toInt64) :: st)) : V P k u n h pc lv (.int x :: st) := by
  intro l D A al0 p e s m args below meth c E al be H locs ls ha hW hS hl
  exact lv_i2l E.1 E.2.1 hdg rfl (kk l D A al0 p e s m args below meth c E al be H locs ls ha hW hS hl)
theorem v_l2i {P : s_C} {k u n pc : Nat} {h : Nat → sE} {lv : List (Nat × Value)} {st : List Value} {x : Int64} (hdg : decode P.1.2.1 pc = .ok (.l2i, 1)) (kk : V P k u n h (pc + 1) lv (.int (x.toInt32) :: st)) : V P k u n h pc lv (.long x :: st) := by
  intro l D A al0 p e s m args below meth c E al be H locs ls ha hW hS hl
  exact lv_l2i E.1 E.2.1 hdg rfl (kk l D A al0 p e s m args below meth c E al be H locs ls ha hW hS hl)
theorem v_iand {P : s_C} {k u n pc : Nat} {h : Nat → sE} {lv : List (Nat × Value)} {st : List Value} {x y : Int32} (hdg : decode P.1.2.1 pc = .ok (.iand, 1)) (kk : V P k u n h (pc + 1) lv (.int (x &&& y) :: st)) : V P k u n h pc lv (.int y :: .int x :: st) := by
  intro l D A al0 p e s m args below meth c E al be H locs ls ha hW hS hl
  exact lv_iand E.1 E.2.1 hdg (kk l D A al0 p e s m args below meth c E al be H locs ls ha hW hS hl)
theorem v_ior {P : s_C} {k u n pc : Nat} {h : Nat → sE} {lv : List (Nat × Value)} {st : List Value} {x y : Int32} (hdg : decode P.1.2.1 pc = .ok (.ior, 1)) (kk : V P k u n h (pc + 1) lv (.int (x ||| y) :: st)) : V P k u n h pc lv (.int y :: .int x :: st) := by
  intro l D A al0 p e s m args below meth c E al be H locs ls ha hW hS hl
  exact lv_ior E.1 E.2.1 hdg (kk l D A al0 p e s m args below meth c E al be H locs ls ha hW hS hl)
theorem v_ixor {P : s_C} {k u n pc : Nat} {h : Nat → sE} {lv : List (Nat × Value)} {st : List Value} {x y : Int32} (hdg : decode P.1.2.1 pc = .ok (.ixor, 1)) (kk : V P k u n h (pc + 1) lv (.int (x ^^^ y) :: st)) : V P k u n h pc lv (.int y :: .int x :: st) := by
  intro l D A al0 p e s m args below meth c E al be H locs ls ha hW hS hl
  exact lv_ixor E.1 E.2.1 hdg (kk l D A al0 p e s m args below meth c E al be H locs ls ha hW hS hl)
theorem v_ishl {P : s_C} {k u n pc : Nat} {h : Nat → sE} {lv : List (Nat × Value)} {st : List Value} {x y : Int32} (hdg : decode P.1.2.1 pc = .ok (.ishl, 1)) (kk : V P k u n h (pc + 1) lv (.int (x <<< (y &&& 31)) :: st)) : V P k u n h pc lv (.int y :: .int x :: st) := by
  intro l D A al0 p e s m args below meth c E al be H locs ls ha hW hS hl
  exact lv_ishl E.1 E.2.1 hdg (kk l D A al0 p e s m args below meth c E al be H locs ls ha hW hS hl)
theorem v_ishr {P : s_C} {k u n pc : Nat} {h : Nat → sE} {lv : List (Nat × Value)} {st : List Value} {x y : Int32} (hdg : decode P.1.2.1 pc = .ok (.ishr, 1)) (kk : V P k u n h (pc + 1) lv (.int (x >>> (y &&& 31)) :: st)) : V P k u n h pc lv (.int y :: .int x :: st) := by
  intro l D A al0 p e s m args below meth c E al be H locs ls ha hW hS hl
  exact lv_ishr E.1 E.2.1 hdg (kk l D A al0 p e s m args below meth c E al be H locs ls ha hW hS hl)
theorem v_iushr {P : s_C} {k u n pc : Nat} {h : Nat → sE} {lv : List (Nat × Value)} {st : List Value} {x y : Int32} (hdg : decode P.1.2.1 pc = .ok (.iushr, 1)) (kk : V P k u n h (pc + 1) lv (.int ((x.toUInt32 >>> (y.toUInt32 &&& Int32.toUInt32 31)).toInt32) :: st)) : V P k u n h pc lv (.int y :: .int x :: st) := by
  intro l D A al0 p e s m args below meth c E al be H locs ls ha hW hS hl
  exact lv_iushr E.1 E.2.1 hdg rfl (kk l D A al0 p e s m args below meth c E al be H locs ls ha hW hS hl)
theorem v_lor {P : s_C} {k u n pc : Nat} {h : Nat → sE} {lv : List (Nat × Value)} {st : List Value} {x y : Int64} (hdg : decode P.1.2.1 pc = .ok (.lor, 1)) (kk : V P k u n h (pc + 1) lv (.long (x ||| y) :: st)) : V P k u n h pc lv (.long y :: .long x :: st) := by
  intro l D A al0 p e s m args below meth c E al be H locs ls ha hW hS hl
  exact lv_lor E.1 E.2.1 hdg (kk l D A al0 p e s m args below meth c E al be H locs ls ha hW hS hl)
theorem v_lushr {P : s_C} {k u n pc : Nat} {h : Nat → sE} {lv : List (Nat × Value)} {st : List Value} {x : Int64} {y : Int32} (hdg : decode P.1.2.1 pc = .ok (.lushr, 1)) (kk : V P k u n h (pc + 1) lv (.long ((x.toUInt64 >>> (y.toInt64.toUInt64 &&& Int64.toUInt64 63)).toInt64) :: st)) : V P k u n h pc lv (.int y :: .long x :: st) := by
  intro l D A al0 p e s m args below meth c E al be H locs ls ha hW hS hl
  exact lv_lushr E.1 E.2.1 hdg rfl (kk l D A al0 p e s m args below meth c E al be H locs ls ha hW hS hl)
theorem v_lshl {P : s_C} {k u n pc : Nat} {h : Nat → sE} {lv : List (Nat × Value)} {st : List Value} {x : Int64} {y : Int32} (hdg : decode P.1.2.1 pc = .ok (.lshl, 1)) (kk : V P k u n h (pc + 1) lv (.long (x <<< (y.toInt64 &&& 63)) :: st)) : V P k u n h pc lv (.int y :: .long x :: st) := by
  intro l D A al0 p e s m args below meth c E al be H locs ls ha hW hS hl
  exact lv_lshl E.1 E.2.1 hdg rfl (kk l D A al0 p e s m args below meth c E al be H locs ls ha hW hS hl)
theorem v_lcmp {P : s_C} {k u n pc : Nat} {h : Nat → sE} {lv : List (Nat × Value)} {st : List Value} {x y : Int64} (hdg : decode P.1.2.1 pc = .ok (.lcmp, 1)) (kk : V P k u n h (pc + 1) lv (.int (lg_cmp x y) :: st)) : V P k u n h pc lv (.long y :: .long x :: st) := by
  intro l D A al0 p e s m args below meth c E al be H locs ls ha hW hS hl
  exact W.lcmp E.1 E.2.1 hdg (kk l D A al0 p e s m args below meth c E al be H locs ls ha hW hS hl)
theorem v_iconst {P : s_C} {k u n pc : Nat} {h : Nat → sE} {lv : List (Nat × Value)} {st : List Value} {z : Int} (hdg : decode P.1.2.1 pc = .ok (.iconst z, 1)) (kk : V P k u n h (pc + 1) lv (.int (Int32.ofInt z) :: st)) : V P k u n h pc lv (st) := by
  intro l D A al0 p e s m args below meth c E al be H locs ls ha hW hS hl
  exact lv_iconst E.1 E.2.1 hdg rfl (kk l D A al0 p e s m args below meth c E al be H locs ls ha hW hS hl)
theorem v_bipush {P : s_C} {k u n pc : Nat} {h : Nat → sE} {lv : List (Nat × Value)} {st : List Value} {z : Int} (hdg : decode P.1.2.1 pc = .ok (.bipush z, 2)) (kk : V P k u n h (pc + 2) lv (.int ((Int8.ofInt z).toInt32) :: st)) : V P k u n h pc lv (st) := by
  intro l D A al0 p e s m args below meth c E al be H locs ls ha hW hS hl
  exact lv_bipush E.1 E.2.1 hdg rfl (kk l D A al0 p e s m args below meth c E al be H locs ls ha hW hS hl)
theorem v_sipush {P : s_C} {k u n pc : Nat} {h : Nat → sE} {lv : List (Nat × Value)} {st : List Value} {z : Int} (hdg : decode P.1.2.1 pc = .ok (.sipush z, 3)) (kk : V P k u n h (pc + 3) lv (.int ((Int16.ofInt z).toInt32) :: st)) : V P k u n h pc lv (st) := by
  intro l D A al0 p e s m args below meth c E al be H locs ls ha hW hS hl
  exact lv_sipush E.1 E.2.1 hdg rfl (kk l D A al0 p e s m args below meth c E al be H locs ls ha hW hS hl)
theorem v_lconst {P : s_C} {k u n pc : Nat} {h : Nat → sE} {lv : List (Nat × Value)} {st : List Value} {z : Fin 2} (hdg : decode P.1.2.1 pc = .ok (.lconst z, 1)) (kk : V P k u n h (pc + 1) lv (.long (Int64.ofNat (z : Nat)) :: st)) : V P k u n h pc lv (st) := by
  intro l D A al0 p e s m args below meth c E al be H locs ls ha hW hS hl
  exact lv_lconst E.1 E.2.1 hdg rfl (kk l D A al0 p e s m args below meth c E al be H locs ls ha hW hS hl)
theorem v_iconst' {P : s_C} {k u n pc : Nat} {h : Nat → sE} {lv : List (Nat × Value)} {st : List Value} {z : Int} (v : Int32) (hdg : decode P.1.2.1 pc = .ok (.iconst z, 1)) (hv : Int32.ofInt z = v) (kk : V P k u n h (pc + 1) lv (.int v :: st)) : V P k u n h pc lv st := by
  intro l D A al0 p e s m args below meth c E al be H locs ls ha hW hS hl
  exact lv_iconst E.1 E.2.1 hdg hv (kk l D A al0 p e s m args below meth c E al be H locs ls ha hW hS hl)
theorem v_bipush' {P : s_C} {k u n pc : Nat} {h : Nat → sE} {lv : List (Nat × Value)} {st : List Value} {z : Int} (v : Int32) (hdg : decode P.1.2.1 pc = .ok (.bipush z, 2)) (hv : (Int8.ofInt z).toInt32 = v) (kk : V P k u n h (pc + 2) lv (.int v :: st)) : V P k u n h pc lv st := by
  intro l D A al0 p e s m args below meth c E al be H locs ls ha hW hS hl
  exact lv_bipush E.1 E.2.1 hdg hv (kk l D A al0 p e s m args below meth c E al be H locs ls ha hW hS hl)
theorem v_sipush' {P : s_C} {k u n pc : Nat} {h : Nat → sE} {lv : List (Nat × Value)} {st : List Value} {z : Int} (v : Int32) (hdg : decode P.1.2.1 pc = .ok (.sipush z, 3)) (hv : (Int16.ofInt z).toInt32 = v) (kk : V P k u n h (pc + 3) lv (.int v :: st)) : V P k u n h pc lv st := by
  intro l D A al0 p e s m args below meth c E al be H locs ls ha hW hS hl
  exact lv_sipush E.1 E.2.1 hdg hv (kk l D A al0 p e s m args below meth c E al be H locs ls ha hW hS hl)
theorem v_ldc {P : s_C} {k u n pc : Nat} {h : Nat → sE} {lv : List (Nat × Value)} {st : List Value} {index : Nat} (v : Int32) (hdg : decode P.1.2.1 pc = .ok (.ldc index, 2)) (hw : Cond.constant P.1.1.cls index v ∈ s_tb) (kk : V P k u n h (pc + 2) lv (.int v :: st)) : V P k u n h pc lv st := by
  intro l D A al0 p e s m args below meth c E al be H locs ls ha hW hS hl
  exact lv_ldc E.1 E.2.1 E.2.2.2.2.1 (E.2.2.2.2.2.1 _ hw) hdg (kk l D A al0 p e s m args below meth c E al be H locs ls ha hW hS hl)
theorem v_ldcw {P : s_C} {k u n pc : Nat} {h : Nat → sE} {lv : List (Nat × Value)} {st : List Value} {index : Nat} (v : Int32) (hdg : decode P.1.2.1 pc = .ok (.ldc_w index, 3)) (hw : Cond.constant P.1.1.cls index v ∈ s_tb) (kk : V P k u n h (pc + 3) lv (.int v :: st)) : V P k u n h pc lv st := by
  intro l D A al0 p e s m args below meth c E al be H locs ls ha hW hS hl
  exact lv_ldcw E.1 E.2.1 E.2.2.2.2.1 (E.2.2.2.2.2.1 _ hw) hdg (kk l D A al0 p e s m args below meth c E al be H locs ls ha hW hS hl)
theorem v_ldc2 {P : s_C} {k u n pc : Nat} {h : Nat → sE} {lv : List (Nat × Value)} {st : List Value} {index : Nat} (v : Int64) (hdg : decode P.1.2.1 pc = .ok (.ldc2_w index, 3)) (hw : Cond.constantLong P.1.1.cls index v ∈ s_tb) (kk : V P k u n h (pc + 3) lv (.long v :: st)) : V P k u n h pc lv st := by
  intro l D A al0 p e s m args below meth c E al be H locs ls ha hW hS hl
  exact lv_ldc2 E.1 E.2.1 E.2.2.2.2.1 (E.2.2.2.2.2.1 _ hw) hdg (kk l D A al0 p e s m args below meth c E al be H locs ls ha hW hS hl)
theorem v_iload {P : s_C} {k u n pc : Nat} {h : Nat → sE} {lv : List (Nat × Value)} {st : List Value} {i : Nat} {x : Int32} (hdg : decode P.1.2.1 pc = .ok (.iload i, 2)) (hx : s_lk lv i = some (.int x)) (kk : V P k u n h (pc + 2) lv (.int x :: st)) : V P k u n h pc lv st := by
  intro l D A al0 p e s m args below meth c E al be H locs ls ha hW hS hl
  exact lv_iload E.1 E.2.1 hdg (s_lk_at hl hx) (kk l D A al0 p e s m args below meth c E al be H locs ls ha hW hS hl)
theorem v_iload_n {P : s_C} {k u n pc : Nat} {h : Nat → sE} {lv : List (Nat × Value)} {st : List Value} {f : Fin 4} {x : Int32} (hdg : decode P.1.2.1 pc = .ok (.iload_n f, 1)) (hx : s_lk lv (f : Nat) = some (.int x)) (kk : V P k u n h (pc + 1) lv (.int x :: st)) : V P k u n h pc lv st := by
  intro l D A al0 p e s m args below meth c E al be H locs ls ha hW hS hl
  exact lv_iload_n E.1 E.2.1 hdg rfl (s_lk_at hl hx) (kk l D A al0 p e s m args below meth c E al be H locs ls ha hW hS hl)
theorem v_lload {P : s_C} {k u n pc : Nat} {h : Nat → sE} {lv : List (Nat × Value)} {st : List Value} {i : Nat} {x : Int64} (hdg : decode P.1.2.1 pc = .ok (.lload i, 2)) (hx : s_lk lv i = some (.long x)) (kk : V P k u n h (pc + 2) lv (.long x :: st)) : V P k u n h pc lv st := by
  intro l D A al0 p e s m args below meth c E al be H locs ls ha hW hS hl
  exact lv_lload E.1 E.2.1 hdg (s_lk_at hl hx) (kk l D A al0 p e s m args below meth c E al be H locs ls ha hW hS hl)
theorem v_lload_n {P : s_C} {k u n pc : Nat} {h : Nat → sE} {lv : List (Nat × Value)} {st : List Value} {f : Fin 4} {x : Int64} (hdg : decode P.1.2.1 pc = .ok (.lload_n f, 1)) (hx : s_lk lv (f : Nat) = some (.long x)) (kk : V P k u n h (pc + 1) lv (.long x :: st)) : V P k u n h pc lv st := by
  intro l D A al0 p e s m args below meth c E al be H locs ls ha hW hS hl
  exact lv_lload_n E.1 E.2.1 hdg rfl (s_lk_at hl hx) (kk l D A al0 p e s m args below meth c E al be H locs ls ha hW hS hl)
theorem v_aload {P : s_C} {k u n pc : Nat} {h : Nat → sE} {lv : List (Nat × Value)} {st : List Value} {i : Nat} {x : Nat} (hdg : decode P.1.2.1 pc = .ok (.aload i, 2)) (hx : s_lk lv i = some (.ref x)) (kk : V P k u n h (pc + 2) lv (.ref x :: st)) : V P k u n h pc lv st := by
  intro l D A al0 p e s m args below meth c E al be H locs ls ha hW hS hl
  exact lv_aload E.1 E.2.1 hdg (s_lk_at hl hx) (kk l D A al0 p e s m args below meth c E al be H locs ls ha hW hS hl)
theorem v_aload_n {P : s_C} {k u n pc : Nat} {h : Nat → sE} {lv : List (Nat × Value)} {st : List Value} {f : Fin 4} {x : Nat} (hdg : decode P.1.2.1 pc = .ok (.aload_n f, 1)) (hx : s_lk lv (f : Nat) = some (.ref x)) (kk : V P k u n h (pc + 1) lv (.ref x :: st)) : V P k u n h pc lv st := by
  intro l D A al0 p e s m args below meth c E al be H locs ls ha hW hS hl
  exact lv_aload_n E.1 E.2.1 hdg rfl (s_lk_at hl hx) (kk l D A al0 p e s m args below meth c E al be H locs ls ha hW hS hl)
theorem v_aload_no {P : s_C} {k u n pc : Nat} {h : Nat → sE} {lv : List (Nat × Value)} {st : List Value} {f : Fin 4} {x : Nat} (hdg : decode P.1.2.1 pc = .ok (.aload_n f, 1)) (hx : s_lk lv (f : Nat) = some (.retAddr x)) (kk : V P k u n h (pc + 1) lv (.retAddr x :: st)) : V P k u n h pc lv st := by
  intro l D A al0 p e s m args below meth c E al be H locs ls ha hW hS hl
  exact lv_aload_n E.1 E.2.1 hdg rfl (s_lk_at hl hx) (kk l D A al0 p e s m args below meth c E al be H locs ls ha hW hS hl)
theorem v_istore {P : s_C} {k u n pc : Nat} {h : Nat → sE} {lv : List (Nat × Value)} {st : List Value} {i : Nat} {x : Int32} (hdg : decode P.1.2.1 pc = .ok (.istore i, 2)) (hi : i < P.1.2.2.1) (kk : V P k u n h (pc + 2) (s_set lv i (.int x)) st) : V P k u n h pc lv (.int x :: st) := by
  intro l D A al0 p e s m args below meth c E al be H locs ls ha hW hS hl
  exact lv_istore E.1 E.2.1 hdg hl hi (s_set_tr lv i (.int x)) (fun ls1 hl1 => kk l D A al0 p e s m args below meth c E al be H locs ls1 ha hW hS hl1)
theorem v_istore_n {P : s_C} {k u n pc : Nat} {h : Nat → sE} {lv : List (Nat × Value)} {st : List Value} {f : Fin 4} {x : Int32} (hdg : decode P.1.2.1 pc = .ok (.istore_n f, 1)) (hi : (f : Nat) < P.1.2.2.1) (kk : V P k u n h (pc + 1) (s_set lv f (.int x)) st) : V P k u n h pc lv (.int x :: st) := by
  intro l D A al0 p e s m args below meth c E al be H locs ls ha hW hS hl
  exact lv_istore_n E.1 E.2.1 hdg rfl hl hi (s_set_tr lv f (.int x)) (fun ls1 hl1 => kk l D A al0 p e s m args below meth c E al be H locs ls1 ha hW hS hl1)
theorem v_astore {P : s_C} {k u n pc : Nat} {h : Nat → sE} {lv : List (Nat × Value)} {st : List Value} {i : Nat} {x : Nat} (hdg : decode P.1.2.1 pc = .ok (.astore i, 2)) (hi : i < P.1.2.2.1) (kk : V P k u n h (pc + 2) (s_set lv i (.ref x)) st) : V P k u n h pc lv (.ref x :: st) := by
  intro l D A al0 p e s m args below meth c E al be H locs ls ha hW hS hl
  exact lv_astore E.1 E.2.1 hdg hl hi (s_set_tr lv i (.ref x)) (fun ls1 hl1 => kk l D A al0 p e s m args below meth c E al be H locs ls1 ha hW hS hl1)
theorem v_astore_n {P : s_C} {k u n pc : Nat} {h : Nat → sE} {lv : List (Nat × Value)} {st : List Value} {f : Fin 4} {x : Nat} (hdg : decode P.1.2.1 pc = .ok (.astore_n f, 1)) (hi : (f : Nat) < P.1.2.2.1) (kk : V P k u n h (pc + 1) (s_set lv f (.ref x)) st) : V P k u n h pc lv (.ref x :: st) := by
  intro l D A al0 p e s m args below meth c E al be H locs ls ha hW hS hl
  exact lv_astore_n E.1 E.2.1 hdg rfl hl hi (s_set_tr lv f (.ref x)) (fun ls1 hl1 => kk l D A al0 p e s m args below meth c E al be H locs ls1 ha hW hS hl1)
theorem v_lstore {P : s_C} {k u n pc : Nat} {h : Nat → sE} {lv : List (Nat × Value)} {st : List Value} {i : Nat} {x : Int64} (hdg : decode P.1.2.1 pc = .ok (.lstore i, 2)) (hi : i + 1 < P.1.2.2.1) (kk : V P k u n h (pc + 2) (s_set2 lv i (.long x)) st) : V P k u n h pc lv (.long x :: st) := by
  intro l D A al0 p e s m args below meth c E al be H locs ls ha hW hS hl
  exact lv_lstore E.1 E.2.1 hdg hl hi (s_set2_tr lv i (.long x)) (fun ls1 hl1 => kk l D A al0 p e s m args below meth c E al be H locs ls1 ha hW hS hl1)
theorem v_lstore_n {P : s_C} {k u n pc : Nat} {h : Nat → sE} {lv : List (Nat × Value)} {st : List Value} {f : Fin 4} {x : Int64} (hdg : decode P.1.2.1 pc = .ok (.lstore_n f, 1)) (hi : (f : Nat) + 1 < P.1.2.2.1) (kk : V P k u n h (pc + 1) (s_set2 lv f (.long x)) st) : V P k u n h pc lv (.long x :: st) := by
  intro l D A al0 p e s m args below meth c E al be H locs ls ha hW hS hl
  exact lv_lstore_n E.1 E.2.1 hdg rfl hl hi (s_set2_tr lv f (.long x)) (fun ls1 hl1 => kk l D A al0 p e s m args below meth c E al be H locs ls1 ha hW hS hl1)
theorem v_iinc {P : s_C} {k u n pc : Nat} {h : Nat → sE} {lv : List (Nat × Value)} {st : List Value} {i : Nat} {z : Int} {x : Int32} (hdg : decode P.1.2.1 pc = .ok (.iinc i z, 3)) (hx : s_lk lv i = some (.int x)) (hi : i < P.1.2.2.1) (kk : V P k u n h (pc + 3) (s_set lv i (.int (x + Int32.ofInt z))) st) : V P k u n h pc lv st := by
  intro l D A al0 p e s m args below meth c E al be H locs ls ha hW hS hl
  obtain ⟨q, hq⟩ := s_lk_get lv i hx
  exact lv_iinc (k := q) E.1 E.2.1 hdg hl (by rw [List.getElem?_map, hq]; rfl) rfl hi (s_set_tr lv i (.int (x + Int32.ofInt z))) (fun ls1 hl1 => kk l D A al0 p e s m args below meth c E al be H locs ls1 ha hW hS hl1)
theorem v_dup {P : s_C} {k u n pc : Nat} {h : Nat → sE} {lv : List (Nat × Value)} {st : List Value} {v : Value} (hdg : decode P.1.2.1 pc = .ok (.dup, 1)) (hv : v.category = 1) (kk : V P k u n h (pc + 1) lv (v :: v :: st)) : V P k u n h pc lv (v :: st) := by
  intro l D A al0 p e s m args below meth c E al be H locs ls ha hW hS hl
  exact lv_dup E.1 E.2.1 hdg (by rw [s_tr_cat]; exact hv) (kk l D A al0 p e s m args below meth c E al be H locs ls ha hW hS hl)
theorem v_dup2 {P : s_C} {k u n pc : Nat} {h : Nat → sE} {lv : List (Nat × Value)} {st : List Value} {v w : Value} (hdg : decode P.1.2.1 pc = .ok (.dup2, 1)) (hv : v.category = 1) (hw : w.category = 1) (kk : V P k u n h (pc + 1) lv (v :: w :: v :: w :: st)) : V P k u n h pc lv (v :: w :: st) := by
  intro l D A al0 p e s m args below meth c E al be H locs ls ha hW hS hl
  exact lv_dup2_11 E.1 E.2.1 hdg (by rw [s_tr_cat]; exact hv) (by rw [s_tr_cat]; exact hw) (kk l D A al0 p e s m args below meth c E al be H locs ls ha hW hS hl)
theorem v_aconst_null {P : s_C} {k u n pc : Nat} {h : Nat → sE} {lv : List (Nat × Value)} {st : List Value} (hdg : decode P.1.2.1 pc = .ok (.aconst_null, 1)) (kk : V P k u n h (pc + 1) lv (.null :: st)) : V P k u n h pc lv st := by
  intro l D A al0 p e s m args below meth c E al be H locs ls ha hW hS hl
  exact lv_null E.1 E.2.1 hdg (kk l D A al0 p e s m args below meth c E al be H locs ls ha hW hS hl)
theorem v_goto {P : s_C} {k u n pc : Nat} {h : Nat → sE} {lv : List (Nat × Value)} {st : List Value} {off : Int} {tgt : Nat} (hdg : decode P.1.2.1 pc = .ok (.goto off, 3)) (ht : (pc : Int) + off = (tgt : Int)) (kk : V P k u n h tgt lv st) : V P k u n h pc lv st := by
  intro l D A al0 p e s m args below meth c E al be H locs ls ha hW hS hl
  exact lv_goto E.1 E.2.1 hdg ht (kk l D A al0 p e s m args below meth c E al be H locs ls ha hW hS hl)
theorem v_icmp_eq {P : s_C} {k u n pc : Nat} {h : Nat → sE} {lv : List (Nat × Value)} {st : List Value} {x y : Int32} {off : Int} {tgt : Nat} (hdg : decode P.1.2.1 pc = .ok (.if_icmp .eq off, 3)) (ht : (pc : Int) + off = (tgt : Int)) (kt : x = y → V P k u n h tgt lv st) (kf : ¬ x = y → V P k u n h (pc + 3) lv st) : V P k u n h pc lv (.int y :: .int x :: st) := by
  intro l D A al0 p e s m args below meth c E al be H locs ls ha hW hS hl
  exact lv_icmp_eq E.1 E.2.1 hdg ht (fun q => kt q l D A al0 p e s m args below meth c E al be H locs ls ha hW hS hl) (fun q => kf q l D A al0 p e s m args below meth c E al be H locs ls ha hW hS hl)
theorem v_icmp_ne {P : s_C} {k u n pc : Nat} {h : Nat → sE} {lv : List (Nat × Value)} {st : List Value} {x y : Int32} {off : Int} {tgt : Nat} (hdg : decode P.1.2.1 pc = .ok (.if_icmp .ne off, 3)) (ht : (pc : Int) + off = (tgt : Int)) (kt : ¬ x = y → V P k u n h tgt lv st) (kf : x = y → V P k u n h (pc + 3) lv st) : V P k u n h pc lv (.int y :: .int x :: st) := by
  intro l D A al0 p e s m args below meth c E al be H locs ls ha hW hS hl
  exact lv_icmp_ne E.1 E.2.1 hdg ht (fun q => kt q l D A al0 p e s m args below meth c E al be H locs ls ha hW hS hl) (fun q => kf q l D A al0 p e s m args below meth c E al be H locs ls ha hW hS hl)
theorem v_icmp_lt {P : s_C} {k u n pc : Nat} {h : Nat → sE} {lv : List (Nat × Value)} {st : List Value} {x y : Int32} {off : Int} {tgt : Nat} (hdg : decode P.1.2.1 pc = .ok (.if_icmp .lt off, 3)) (ht : (pc : Int) + off = (tgt : Int)) (kt : x < y → V P k u n h tgt lv st) (kf : ¬ x < y → V P k u n h (pc + 3) lv st) : V P k u n h pc lv (.int y :: .int x :: st) := by
  intro l D A al0 p e s m args below meth c E al be H locs ls ha hW hS hl
  exact lv_icmp_lt E.1 E.2.1 hdg ht (fun q => kt q l D A al0 p e s m args below meth c E al be H locs ls ha hW hS hl) (fun q => kf q l D A al0 p e s m args below meth c E al be H locs ls ha hW hS hl)
theorem v_icmp_ge {P : s_C} {k u n pc : Nat} {h : Nat → sE} {lv : List (Nat × Value)} {st : List Value} {x y : Int32} {off : Int} {tgt : Nat} (hdg : decode P.1.2.1 pc = .ok (.if_icmp .ge off, 3)) (ht : (pc : Int) + off = (tgt : Int)) (kt : y ≤ x → V P k u n h tgt lv st) (kf : ¬ y ≤ x → V P k u n h (pc + 3) lv st) : V P k u n h pc lv (.int y :: .int x :: st) := by
  intro l D A al0 p e s m args below meth c E al be H locs ls ha hW hS hl
  exact lv_icmp_ge E.1 E.2.1 hdg ht (fun q => kt q l D A al0 p e s m args below meth c E al be H locs ls ha hW hS hl) (fun q => kf q l D A al0 p e s m args below meth c E al be H locs ls ha hW hS hl)
theorem v_icmp_gt {P : s_C} {k u n pc : Nat} {h : Nat → sE} {lv : List (Nat × Value)} {st : List Value} {x y : Int32} {off : Int} {tgt : Nat} (hdg : decode P.1.2.1 pc = .ok (.if_icmp .gt off, 3)) (ht : (pc : Int) + off = (tgt : Int)) (kt : y < x → V P k u n h tgt lv st) (kf : ¬ y < x → V P k u n h (pc + 3) lv st) : V P k u n h pc lv (.int y :: .int x :: st) := by
  intro l D A al0 p e s m args below meth c E al be H locs ls ha hW hS hl
  exact lv_icmp_gt E.1 E.2.1 hdg ht (fun q => kt q l D A al0 p e s m args below meth c E al be H locs ls ha hW hS hl) (fun q => kf q l D A al0 p e s m args below meth c E al be H locs ls ha hW hS hl)
theorem v_icmp_le {P : s_C} {k u n pc : Nat} {h : Nat → sE} {lv : List (Nat × Value)} {st : List Value} {x y : Int32} {off : Int} {tgt : Nat} (hdg : decode P.1.2.1 pc = .ok (.if_icmp .le off, 3)) (ht : (pc : Int) + off = (tgt : Int)) (kt : x ≤ y → V P k u n h tgt lv st) (kf : ¬ x ≤ y → V P k u n h (pc + 3) lv st) : V P k u n h pc lv (.int y :: .int x :: st) := by
  intro l D A al0 p e s m args below meth c E al be H locs ls ha hW hS hl
  exact lv_icmp_le E.1 E.2.1 hdg ht (fun q => kt q l D A al0 p e s m args below meth c E al be H locs ls ha hW hS hl) (fun q => kf q l D A al0 p e s m args below meth c E al be H locs ls ha hW hS hl)
theorem v_if_eq {P : s_C} {k u n pc : Nat} {h : Nat → sE} {lv : List (Nat × Value)} {st : List Value} {x : Int32} {off : Int} {tgt : Nat} (hdg : decode P.1.2.1 pc = .ok (.ifCond .eq off, 3)) (ht : (pc : Int) + off = (tgt : Int)) (kt : x = 0 → V P k u n h tgt lv st) (kf : ¬ x = 0 → V P k u n h (pc + 3) lv st) : V P k u n h pc lv (.int x :: st) := by
  intro l D A al0 p e s m args below meth c E al be H locs ls ha hW hS hl
  exact lv_if_eq E.1 E.2.1 hdg ht (fun q => kt q l D A al0 p e s m args below meth c E al be H locs ls ha hW hS hl) (fun q => kf q l D A al0 p e s m args below meth c E al be H locs ls ha hW hS hl)
theorem v_if_ne {P : s_C} {k u n pc : Nat} {h : Nat → sE} {lv : List (Nat × Value)} {st : List Value} {x : Int32} {off : Int} {tgt : Nat} (hdg : decode P.1.2.1 pc = .ok (.ifCond .ne off, 3)) (ht : (pc : Int) + off = (tgt : Int)) (kt : ¬ x = 0 → V P k u n h tgt lv st) (kf : x = 0 → V P k u n h (pc + 3) lv st) : V P k u n h pc lv (.int x :: st) := by
  intro l D A al0 p e s m args below meth c E al be H locs ls ha hW hS hl
  exact lv_if_ne E.1 E.2.1 hdg ht (fun q => kt q l D A al0 p e s m args below meth c E al be H locs ls ha hW hS hl) (fun q => kf q l D A al0 p e s m args below meth c E al be H locs ls ha hW hS hl)
theorem v_if_lt {P : s_C} {k u n pc : Nat} {h : Nat → sE} {lv : List (Nat × Value)} {st : List Value} {x : Int32} {off : Int} {tgt : Nat} (hdg : decode P.1.2.1 pc = .ok (.ifCond .lt off, 3)) (ht : (pc : Int) + off = (tgt : Int)) (kt : x < 0 → V P k u n h tgt lv st) (kf : ¬ x < 0 → V P k u n h (pc + 3) lv st) : V P k u n h pc lv (.int x :: st) := by
  intro l D A al0 p e s m args below meth c E al be H locs ls ha hW hS hl
  exact lv_if_lt E.1 E.2.1 hdg ht (fun q => kt q l D A al0 p e s m args below meth c E al be H locs ls ha hW hS hl) (fun q => kf q l D A al0 p e s m args below meth c E al be H locs ls ha hW hS hl)
theorem v_if_ge {P : s_C} {k u n pc : Nat} {h : Nat → sE} {lv : List (Nat × Value)} {st : List Value} {x : Int32} {off : Int} {tgt : Nat} (hdg : decode P.1.2.1 pc = .ok (.ifCond .ge off, 3)) (ht : (pc : Int) + off = (tgt : Int)) (kt : 0 ≤ x → V P k u n h tgt lv st) (kf : ¬ 0 ≤ x → V P k u n h (pc + 3) lv st) : V P k u n h pc lv (.int x :: st) := by
  intro l D A al0 p e s m args below meth c E al be H locs ls ha hW hS hl
  exact lv_if_ge E.1 E.2.1 hdg ht (fun q => kt q l D A al0 p e s m args below meth c E al be H locs ls ha hW hS hl) (fun q => kf q l D A al0 p e s m args below meth c E al be H locs ls ha hW hS hl)
theorem v_if_gt {P : s_C} {k u n pc : Nat} {h : Nat → sE} {lv : List (Nat × Value)} {st : List Value} {x : Int32} {off : Int} {tgt : Nat} (hdg : decode P.1.2.1 pc = .ok (.ifCond .gt off, 3)) (ht : (pc : Int) + off = (tgt : Int)) (kt : 0 < x → V P k u n h tgt lv st) (kf : ¬ 0 < x → V P k u n h (pc + 3) lv st) : V P k u n h pc lv (.int x :: st) := by
  intro l D A al0 p e s m args below meth c E al be H locs ls ha hW hS hl
  exact lv_if_gt E.1 E.2.1 hdg ht (fun q => kt q l D A al0 p e s m args below meth c E al be H locs ls ha hW hS hl) (fun q => kf q l D A al0 p e s m args below meth c E al be H locs ls ha hW hS hl)
theorem v_if_le {P : s_C} {k u n pc : Nat} {h : Nat → sE} {lv : List (Nat × Value)} {st : List Value} {x : Int32} {off : Int} {tgt : Nat} (hdg : decode P.1.2.1 pc = .ok (.ifCond .le off, 3)) (ht : (pc : Int) + off = (tgt : Int)) (kt : x ≤ 0 → V P k u n h tgt lv st) (kf : ¬ x ≤ 0 → V P k u n h (pc + 3) lv st) : V P k u n h pc lv (.int x :: st) := by
  intro l D A al0 p e s m args below meth c E al be H locs ls ha hW hS hl
  exact lv_if_le E.1 E.2.1 hdg ht (fun q => kt q l D A al0 p e s m args below meth c E al be H locs ls ha hW hS hl) (fun q => kf q l D A al0 p e s m args below meth c E al be H locs ls ha hW hS hl)
theorem v_ifnonnull {P : s_C} {k u n pc : Nat} {h : Nat → sE} {lv : List (Nat × Value)} {st : List Value} {x : Nat} {off : Int} {tgt : Nat} (hdg : decode P.1.2.1 pc = .ok (.ifnonnull off, 3)) (ht : (pc : Int) + off = (tgt : Int)) (kk : V P k u n h tgt lv st) : V P k u n h pc lv (.ref x :: st) := by
  intro l D A al0 p e s m args below meth c E al be H locs ls ha hW hS hl
  exact lv_ifnonnull E.1 E.2.1 hdg ht (kk l D A al0 p e s m args below meth c E al be H locs ls ha hW hS hl)
theorem v_ifnonnullN {P : s_C} {k u n pc : Nat} {h : Nat → sE} {lv : List (Nat × Value)} {st : List Value} {off : Int} (hdg : decode P.1.2.1 pc = .ok (.ifnonnull off, 3)) (kk : V P k u n h (pc + 3) lv st) : V P k u n h pc lv (.null :: st) := by
  intro l D A al0 p e s m args below meth c E al be H locs ls ha hW hS hl
  exact lv_ifnonnullN E.1 E.2.1 hdg (kk l D A al0 p e s m args below meth c E al be H locs ls ha hW hS hl)
theorem v_tableIn {P : s_C} {k u n pc : Nat} {h : Nat → sE} {lv : List (Nat × Value)} {st : List Value} {dflt lo hi : Int} {offs : Array Int} {len : Nat} {x : Int32} {off : Int} {tgt : Nat} (hdg : decode P.1.2.1 pc = .ok (.tableswitch dflt lo hi offs, len)) (h1 : ¬ x.toInt < lo) (h2 : ¬ hi < x.toInt) (ho : offs[(x.toInt - lo).toNat]? = some off) (ht : (pc : Int) + off = (tgt : Int)) (kk : V P k u n h tgt lv st) : V P k u n h pc lv (.int x :: st) := by
  intro l D A al0 p e s m args below meth c E al be H locs ls ha hW hS hl
  exact lv_tableIn E.1 E.2.1 hdg h1 h2 ho ht (kk l D A al0 p e s m args below meth c E al be H locs ls ha hW hS hl)
theorem v_tableOut {P : s_C} {k u n pc : Nat} {h : Nat → sE} {lv : List (Nat × Value)} {st : List Value} {dflt lo hi : Int} {offs : Array Int} {len : Nat} {x : Int32} {tgt : Nat} (hdg : decode P.1.2.1 pc = .ok (.tableswitch dflt lo hi offs, len)) (ho : x.toInt < lo ∨ hi < x.toInt) (ht : (pc : Int) + dflt = (tgt : Int)) (kk : V P k u n h tgt lv st) : V P k u n h pc lv (.int x :: st) := by
  intro l D A al0 p e s m args below meth c E al be H locs ls ha hW hS hl
  exact lv_tableOut E.1 E.2.1 hdg ho ht (kk l D A al0 p e s m args below meth c E al be H locs ls ha hW hS hl)
theorem v_iret {P : s_C} {k u n pc : Nat} {h : Nat → sE} {lv : List (Nat × Value)} {x : Int32} (hdg : decode P.1.2.1 pc = .ok (.ireturn, 1)) (hr : P.1.2.2.2 = some .int) (hk : k ≤ P.2.2.1) (hu : u ≤ P.2.2.2.1) (hq : P.2.2.2.2.2.1 (some (.int x)) n h) : V P k u n h pc lv [.int x] := by
  intro l D A al0 p e s m args below meth c E al be H locs ls ha hW hS hl
  obtain ⟨ha1, ha2, ha3⟩ := ha
  refine W.widen hk hu ?_
  refine W.iret E.1 E.2.1 (E.2.2.1.trans hr) (fun t ht hw => ⟨⟨some (.int x), n, h, al, be, rfl, hq, ha1, ha2, ha3, by rw [ht]; exact hW.moved hw.alike⟩, hS.F ht⟩) hS.2.2 hdg E.2.2.2.2.2.2.1
theorem v_lret {P : s_C} {k u n pc : Nat} {h : Nat → sE} {lv : List (Nat × Value)} {x : Int64} (hdg : decode P.1.2.1 pc = .ok (.lreturn, 1)) (hr : P.1.2.2.2 = some .long) (hk : k ≤ P.2.2.1) (hu : u ≤ P.2.2.2.1) (hq : P.2.2.2.2.2.1 (some (.long x)) n h) : V P k u n h pc lv [.long x] := by
  intro l D A al0 p e s m args below meth c E al be H locs ls ha hW hS hl
  obtain ⟨ha1, ha2, ha3⟩ := ha
  refine W.widen hk hu ?_
  refine W.lret E.1 E.2.1 (E.2.2.1.trans hr) (fun t ht hw => ⟨⟨some (.long x), n, h, al, be, rfl, hq, ha1, ha2, ha3, by rw [ht]; exact hW.moved hw.alike⟩, hS.F ht⟩) hS.2.2 hdg E.2.2.2.2.2.2.1
theorem v_zret {P : s_C} {k u n pc : Nat} {h : Nat → sE} {lv : List (Nat × Value)} {x : Int32} (hdg : decode P.1.2.1 pc = .ok (.ireturn, 1)) (hr : P.1.2.2.2 = some .boolean) (hn : narrow .boolean (.int x) = .int x) (hk : k ≤ P.2.2.1) (hu : u ≤ P.2.2.2.1) (hq : P.2.2.2.2.2.1 (some (.int x)) n h) : V P k u n h pc lv [.int x] := by
  intro l D A al0 p e s m args below meth c E al be H locs ls ha hW hS hl
  obtain ⟨ha1, ha2, ha3⟩ := ha
  refine W.widen hk hu ?_
  refine W.zret E.1 E.2.1 (E.2.2.1.trans hr) hn (fun t ht hw => ⟨⟨some (.int x), n, h, al, be, rfl, hq, ha1, ha2, ha3, by rw [ht]; exact hW.moved hw.alike⟩, hS.F ht⟩) hS.2.2 hdg E.2.2.2.2.2.2.1
theorem v_vret {P : s_C} {k u n pc : Nat} {h : Nat → sE} {lv : List (Nat × Value)} (hdg : decode P.1.2.1 pc = .ok (.return_, 1)) (hr : P.1.2.2.2 = none) (hk : k ≤ P.2.2.1) (hu : u ≤ P.2.2.2.1) (hq : P.2.2.2.2.2.1 none n h) : V P k u n h pc lv [] := by
  intro l D A al0 p e s m args below meth c E al be H locs ls ha hW hS hl
  obtain ⟨ha1, ha2, ha3⟩ := ha
  refine W.widen hk hu ?_
  refine W.vret E.1 E.2.1 (E.2.2.1.trans hr) (fun t ht hw => ⟨⟨none, n, h, al, be, rfl, hq, ha1, ha2, ha3, by rw [ht]; exact hW.moved hw.alike⟩, hS.F ht⟩) hS.2.2 hdg E.2.2.2.2.2.2.1
theorem v_aret {P : s_C} {k u n pc : Nat} {h : Nat → sE} {lv : List (Nat × Value)} {i : Nat} {C : String} (hdg : decode P.1.2.1 pc = .ok (.areturn, 1)) (hr : P.1.2.2.2 = some (.object C)) (hk : k ≤ P.2.2.1) (hu : u ≤ P.2.2.2.1) (hq : P.2.2.2.2.2.1 (some (.ref i)) n h) : V P k u n h pc lv [.ref i] := by
  intro l D A al0 p e s m args below meth c E al be H locs ls ha hW hS hl
  obtain ⟨ha1, ha2, ha3⟩ := ha
  refine W.widen hk hu ?_
  refine W.aret E.1 E.2.1 (E.2.2.1.trans hr) (Or.inl ⟨_, rfl⟩) (Or.inr ⟨_, rfl⟩) (fun t ht hw => ⟨⟨some (.ref i), n, h, al, be, rfl, hq, ha1, ha2, ha3, by rw [ht]; exact hW.moved hw.alike⟩, hS.F ht⟩) hS.2.2 hdg E.2.2.2.2.2.2.1
theorem v_aretN {P : s_C} {k u n pc : Nat} {h : Nat → sE} {lv : List (Nat × Value)} {C : String} (hdg : decode P.1.2.1 pc = .ok (.areturn, 1)) (hr : P.1.2.2.2 = some (.object C)) (hk : k ≤ P.2.2.1) (hu : u ≤ P.2.2.2.1) (hq : P.2.2.2.2.2.1 (some .null) n h) : V P k u n h pc lv [.null] := by
  intro l D A al0 p e s m args below meth c E al be H locs ls ha hW hS hl
  obtain ⟨ha1, ha2, ha3⟩ := ha
  refine W.widen hk hu ?_
  refine W.aret E.1 E.2.1 (E.2.2.1.trans hr) (Or.inl ⟨_, rfl⟩) (Or.inl rfl) (fun t ht hw => ⟨⟨some .null, n, h, al, be, rfl, hq, ha1, ha2, ha3, by rw [ht]; exact hW.moved hw.alike⟩, hS.F ht⟩) hS.2.2 hdg E.2.2.2.2.2.2.1

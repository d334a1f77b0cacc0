/-! WP: the picture's whole numbers, what a method needs and tells as one text over them; the rows that tie it to the simple machine -/
abbrev XT : Type := Nat → Int → Int
abbrev R32 (z : Int) : Prop := -2147483648 ≤ z ∧ z ≤ 2147483647
abbrev R64 (z : Int) : Prop := -9223372036854775808 ≤ z ∧ z ≤ 9223372036854775807
theorem r32_64 {z : Int} (h : R32 z) : R64 z := ⟨Int.le_trans (by decide) h.1, Int.le_trans h.2 (by decide)⟩
theorem ix_le {i : Int} {N : Nat} (h : i < (N : Int)) (hN : Nat.ble N 2147483648 = true) : i ≤ 2147483647 := by
  have := Nat.le_of_ble_eq_true hN
  omega
/-- cell c's place i is v -/
def x_st (X : XT) (c : Nat) (i v : Int) : XT := up X c (uI (X c) i v)
/-- the first N places of cell c are those of cell b -/
def x_cp (X : XT) (b c : Nat) (N : Int) : XT := up X c (fun j => if 0 ≤ j ∧ j < N then X b j else X c j)
def Fr (h h1 : Nat → sE) : Prop := ∀ j, 115 ≤ j → h1 j = h j
theorem Fr.trans {h h1 h2 : Nat → sE} (a : Fr h h1) (b : Fr h1 h2) : Fr h h2 := fun j hj => (b j hj).trans (a j hj)
theorem Fr.up {h h1 h2 : Nat → sE} {c : Nat} (a : Fr h h1) (F : ∀ j, j ≠ c → h2 j = h1 j) (hc : Nat.blt c 115 = true) : Fr h h2 := fun j hj => (F j (Nat.ne_of_gt (Nat.lt_of_lt_of_le (Nat.le_of_ble_eq_true hc) hj))).trans (a j hj)
theorem pic_st {X : XT} {h h2 : Nat → sE} {c : Nat} {i v : Int} (hp : Pic X h) (E : h2 c = ent c (uI (X c) i v)) (F : ∀ j, j ≠ c → h2 j = h j) : Pic (x_st X c i v) h2 := Pic.up hp E F
theorem x_st_c {X : XT} {c d : Nat} {i v : Int} (h : ¬ d = c) : x_st X c i v d = X d := if_neg h
theorem x_st_s {X : XT} {c : Nat} {i v : Int} : x_st X c i v c = uI (X c) i v := if_pos rfl
theorem x_st_at {X : XT} {c : Nat} {i v : Int} : x_st X c i v c i = v := by rw [x_st_s, uI_same]
theorem x_st_ne {X : XT} {c : Nat} {i j v : Int} (h : ¬ j = i) : x_st X c i v c j = X c j := by rw [x_st_s, uI_ne h]
def pIw (n : Nat) (h : Nat → sE) (Q : Int → XT → Prop) : s_P := fun r n' h' => n = n' ∧ Fr h h' ∧ ∃ (v : Int) (X' : XT), r = some (.int (iI v)) ∧ Pic X' h' ∧ Q v X'
def pLw (n : Nat) (h : Nat → sE) (Q : Int → XT → Prop) : s_P := fun r n' h' => n = n' ∧ Fr h h' ∧ ∃ (v : Int) (X' : XT), r = some (.long (jJ v)) ∧ Pic X' h' ∧ Q v X'
def pVw (n : Nat) (h : Nat → sE) (Q : XT → Prop) : s_P := fun r n' h' => n = n' ∧ Fr h h' ∧ ∃ (X' : XT), r = none ∧ Pic X' h' ∧ Q X'
def pIr (n : Nat) (h : Nat → sE) (Q : Int → Prop) : s_P := fun r n' h' => n = n' ∧ h = h' ∧ ∃ (v : Int), r = some (.int (iI v)) ∧ Q v
def pLr (n : Nat) (h : Nat → sE) (Q : Int → Prop) : s_P := fun r n' h' => n = n' ∧ h = h' ∧ ∃ (v : Int), r = some (.long (jJ v)) ∧ Q v
def pVr (n : Nat) (h : Nat → sE) (Q : Prop) : s_P := fun r n' h' => n = n' ∧ h = h' ∧ r = none ∧ Q
-- bits
def oAnd (a b : Int) : Int := (iI a &&& iI b).toInt
def oOr (a b : Int) : Int := (iI a ||| iI b).toInt
def oXor (a b : Int) : Int := (iI a ^^^ iI b).toInt
def oShl (a b : Int) : Int := (iI a <<< (iI b &&& 31)).toInt
def oShr (a b : Int) : Int := (iI a >>> (iI b &&& 31)).toInt
def oUshr (a b : Int) : Int := (((iI a).toUInt32 >>> ((iI b).toUInt32 &&& Int32.toUInt32 31)).toInt32).toInt
def oLor (a b : Int) : Int := (jJ a ||| jJ b).toInt
def oLshl (a b : Int) : Int := (jJ a <<< ((iI b).toInt64 &&& 63)).toInt
def oLushr (a b : Int) : Int := (((jJ a).toUInt64 >>> ((iI b).toInt64.toUInt64 &&& Int64.toUInt64 63)).toInt64).toInt
theorem iI_toInt (x : Int32) : iI x.toInt = x := Int32.ofInt_toInt x
theorem jJ_toInt (x : Int64) : jJ x.toInt = x := Int64.ofInt_toInt x
def absI (a : Int) : Int := if 0 ≤ a then a else 0 - a

theorem v_iandI {P : s_C} {k u n pc : Nat} {h : Nat → sE} {lv : List (Nat × Value)} {st : List Value} {a b : Int} (hdg : decode P.1.2.1 pc = .ok (.iand, 1)) (kk : V P k u n h (pc + 1) lv (.int (iI (oAnd a b)) :: st)) : V P k u n h pc lv (.int (iI b) :: .int (iI a) :: st) := v_iand hdg (by rw [oAnd, iI_toInt] at kk; exact kk)
theorem v_iorI {P : s_C} {k u n pc : Nat} {h : Nat → sE} {lv : List (Nat × Value)} {st : List Value} {a b : Int} (hdg : decode P.1.2.1 pc = .ok (.ior, 1)) (kk : V P k u n h (pc + 1) lv (.int (iI (oOr a b)) :: st)) : V P k u n h pc lv (.int (iI b) :: .int (iI a) :: st) := v_ior hdg (by rw [oOr, iI_toInt] at kk; exact kk)
theorem v_ixorI {P : s_C} {k u n pc : Nat} {h : Nat → sE} {lv : List (Nat × Value)} {st : List Value} {a b : Int} (hdg : decode P.1.2.1 pc = .ok (.ixor, 1)) (kk : V P k u n h (pc + 1) lv (.int (iI (oXor a b)) :: st)) : V P k u n h pc lv (.int (iI b) :: .int (iI a) :: st) := v_ixor hdg (by rw [oXor, iI_toInt] at kk; exact kk)
theorem v_ishlI {P : s_C} {k u n pc : Nat} {h : Nat → sE} {lv : List (Nat × Value)} {st : List Value} {a b : Int} (hdg : decode P.1.2.1 pc = .ok (.ishl, 1)) (kk : V P k u n h (pc + 1) lv (.int (iI (oShl a b)) :: st)) : V P k u n h pc lv (.int (iI b) :: .int (iI a) :: st) := v_ishl hdg (by rw [oShl, iI_toInt] at kk; exact kk)
theorem v_ishrI {P : s_C} {k u n pc : Nat} {h : Nat → sE} {lv : List (Nat × Value)} {st : List Value} {a b : Int} (hdg : decode P.1.2.1 pc = .ok (.ishr, 1)) (kk : V P k u n h (pc + 1) lv (.int (iI (oShr a b)) :: st)) : V P k u n h pc lv (.int (iI b) :: .int (iI a) :: st) := v_ishr hdg (by rw [oShr, iI_toInt] at kk; exact kk)
theorem v_iushrI {P : s_C} {k u n pc : Nat} {h : Nat → sE} {lv : List (Nat × Value)} {st : List Value} {a b : Int} (hdg : decode P.1.2.1 pc = .ok (.iushr, 1)) (kk : V P k u n h (pc + 1) lv (.int (iI (oUshr a b)) :: st)) : V P k u n h pc lv (.int (iI b) :: .int (iI a) :: st) := v_iushr hdg (by rw [oUshr, iI_toInt] at kk; exact kk)
theorem v_lorI {P : s_C} {k u n pc : Nat} {h : Nat → sE} {lv : List (Nat × Value)} {st : List Value} {a b : Int} (hdg : decode P.1.2.1 pc = .ok (.lor, 1)) (kk : V P k u n h (pc + 1) lv (.long (jJ (oLor a b)) :: st)) : V P k u n h pc lv (.long (jJ b) :: .long (jJ a) :: st) := v_lor hdg (by rw [oLor, jJ_toInt] at kk; exact kk)
theorem v_lshlI {P : s_C} {k u n pc : Nat} {h : Nat → sE} {lv : List (Nat × Value)} {st : List Value} {a b : Int} (hdg : decode P.1.2.1 pc = .ok (.lshl, 1)) (kk : V P k u n h (pc + 1) lv (.long (jJ (oLshl a b)) :: st)) : V P k u n h pc lv (.int (iI b) :: .long (jJ a) :: st) := v_lshl hdg (by rw [oLshl, jJ_toInt] at kk; exact kk)
theorem v_lushrI {P : s_C} {k u n pc : Nat} {h : Nat → sE} {lv : List (Nat × Value)} {st : List Value} {a b : Int} (hdg : decode P.1.2.1 pc = .ok (.lushr, 1)) (kk : V P k u n h (pc + 1) lv (.long (jJ (oLushr a b)) :: st)) : V P k u n h pc lv (.int (iI b) :: .long (jJ a) :: st) := v_lushr hdg (by rw [oLushr, jJ_toInt] at kk; exact kk)
theorem jJ_div {a b : Int} (a0 : 0 ≤ a) (a1 : a ≤ 9223372036854775807) (b0 : 0 < b) (b1 : b ≤ 9223372036854775807) : jJ a / jJ b = jJ (a / b) := by
  have h2 : a / b ≤ a := Int.ediv_le_self b a0
  have h3 : 0 ≤ a / b := Int.ediv_nonneg a0 (by omega)
  rw [← Int64.toInt_inj, Int64.toInt_div, jJ_to (by omega) a1, jJ_to (by omega) b1, jJ_to (by omega) (by omega), Int.tdiv_eq_ediv_of_nonneg a0]
  exact Int.bmod_eq_of_le (by omega) (by omega)
theorem jJ_rem {a b : Int} (a0 : 0 ≤ a) (a1 : a ≤ 9223372036854775807) (b0 : 0 < b) (b1 : b ≤ 9223372036854775807) : jJ a - jJ a / jJ b * jJ b = jJ (a % b) := by
  rw [jJ_div a0 a1 b0 b1, jJ_mul, jJ_sub]
  congr 1
  have h := Int.emod_add_mul_ediv a b
  have h2 := Int.mul_comm b (a / b)
  omega
theorem tdiv_r {a b : Int} : -a.natAbs ≤ Int.tdiv a b ∧ Int.tdiv a b ≤ a.natAbs := by
  have h := Int.natAbs_tdiv a b
  have h2 : a.natAbs.div b.natAbs ≤ a.natAbs := Nat.div_le_self _ _
  rw [← h] at h2
  omega
theorem jJ_divT {a b : Int} (ra : R64 a) (rb : R64 b) (hb : ¬ b = 0) (a0 : -1000000000000000000 ≤ a) : jJ a / jJ b = jJ (Int.tdiv a b) := by
  have h := tdiv_r (a := a) (b := b)
  rw [← Int64.toInt_inj, Int64.toInt_div, jJ_to ra.1 ra.2, jJ_to rb.1 rb.2, jJ_to (by omega) (by omega)]
  exact Int.bmod_eq_of_le (by omega) (by omega)
theorem jJ_remT {a b : Int} (ra : R64 a) (rb : R64 b) (hb : ¬ b = 0) (a0 : -1000000000000000000 ≤ a) : jJ a - jJ a / jJ b * jJ b = jJ (Int.tmod a b) := by
  rw [jJ_divT ra rb hb a0, jJ_mul, jJ_sub]
  congr 1
  have h := Int.tmod_add_mul_tdiv a b
  have h2 := Int.mul_comm b (Int.tdiv a b)
  omega
theorem jJ_z {b : Int} (rb : R64 b) (hb : ¬ b = 0) : ¬ jJ b = 0 := by
  rw [show (0 : Int64) = jJ 0 from rfl, jJ_eq rb.1 rb.2 (by decide) (by decide)]; exact hb
theorem v_ldivI {P : s_C} {k u n pc : Nat} {h : Nat → sE} {lv : List (Nat × Value)} {st : List Value} {a b : Int} (hdg : decode P.1.2.1 pc = .ok (.ldiv, 1)) (a0 : 0 ≤ a) (a1 : a ≤ 9223372036854775807) (b0 : 0 < b) (b1 : b ≤ 9223372036854775807) (kk : V P k u n h (pc + 1) lv (.long (jJ (a / b)) :: st)) : V P k u n h pc lv (.long (jJ b) :: .long (jJ a) :: st) := v_ldiv hdg (jJ_z ⟨by omega, b1⟩ (by omega)) (by rw [jJ_div a0 a1 b0 b1]; exact kk)
theorem v_lremI {P : s_C} {k u n pc : Nat} {h : Nat → sE} {lv : List (Nat × Value)} {st : List Value} {a b : Int} (hdg : decode P.1.2.1 pc = .ok (.lrem, 1)) (a0 : 0 ≤ a) (a1 : a ≤ 9223372036854775807) (b0 : 0 < b) (b1 : b ≤ 9223372036854775807) (kk : V P k u n h (pc + 1) lv (.long (jJ (a % b)) :: st)) : V P k u n h pc lv (.long (jJ b) :: .long (jJ a) :: st) := v_lrem hdg (jJ_z ⟨by omega, b1⟩ (by omega)) (by rw [jJ_rem a0 a1 b0 b1]; exact kk)
theorem v_ldivT {P : s_C} {k u n pc : Nat} {h : Nat → sE} {lv : List (Nat × Value)} {st : List Value} {a b : Int} (hdg : decode P.1.2.1 pc = .ok (.ldiv, 1)) (ra : R64 a) (rb : R64 b) (hb : ¬ b = 0) (a0 : -1000000000000000000 ≤ a) (kk : V P k u n h (pc + 1) lv (.long (jJ (Int.tdiv a b)) :: st)) : V P k u n h pc lv (.long (jJ b) :: .long (jJ a) :: st) := v_ldiv hdg (jJ_z rb hb) (by rw [jJ_divT ra rb hb a0]; exact kk)
theorem v_lremT {P : s_C} {k u n pc : Nat} {h : Nat → sE} {lv : List (Nat × Value)} {st : List Value} {a b : Int} (hdg : decode P.1.2.1 pc = .ok (.lrem, 1)) (ra : R64 a) (rb : R64 b) (hb : ¬ b = 0) (a0 : -1000000000000000000 ≤ a) (kk : V P k u n h (pc + 1) lv (.long (jJ (Int.tmod a b)) :: st)) : V P k u n h pc lv (.long (jJ b) :: .long (jJ a) :: st) := v_lrem hdg (jJ_z rb hb) (by rw [jJ_remT ra rb hb a0]; exact kk)
theorem v_absI {P : s_C} {k u n pc : Nat} {h : Nat → sE} {lv : List (Nat × Value)} {st : List Value} {a : Int} {index : Nat} (hdg : decode P.1.2.1 pc = .ok (.invokestatic index, 3)) (hw : s_J_abs P.1.1.cls index) (hcat : (st.map fun v => v.category).sum ≤ 8) (hd : 1 ≤ P.2.1) (hk : k ≤ P.2.2.1) (hu : u ≤ P.2.2.2.1) (ra : -2147483647 ≤ a ∧ a ≤ 2147483647) (kk : V P k u n h (pc + 3) lv (.int (iI (absI a)) :: st)) : V P k u n h pc lv (.int (iI a) :: st) := v_abs hdg hw hcat hd hk hu (by rw [show (0 : Int32) = iI 0 from rfl, iI_sub, iI_if, s_ifc (iI_le (by decide) (by decide) (by omega) ra.2)]; exact kk)
theorem jJ_if (c : Prop) [Decidable c] (a b : Int) : (if c then jJ a else jJ b) = jJ (if c then a else b) := by split <;> rfl
theorem v_minlI {P : s_C} {k u n pc : Nat} {h : Nat → sE} {lv : List (Nat × Value)} {st : List Value} {a b : Int} {index : Nat} (hdg : decode P.1.2.1 pc = .ok (.invokestatic index, 3)) (hw : s_J_minl P.1.1.cls index) (hcat : (st.map fun v => v.category).sum ≤ 8) (hd : 1 ≤ P.2.1) (hk : k ≤ P.2.2.1) (hu : u ≤ P.2.2.2.1) (a0 : -9223372036854775808 ≤ a) (a1 : a ≤ 9223372036854775807) (b0 : -9223372036854775808 ≤ b) (b1 : b ≤ 9223372036854775807) (kk : V P k u n h (pc + 3) lv (.long (jJ (min a b)) :: st)) : V P k u n h pc lv (.long (jJ b) :: .long (jJ a) :: st) := v_minl hdg hw hcat hd hk hu (by rw [jJ_if, s_ifc (jJ_lt b0 b1 a0 a1), show (if b < a then b else a) = min a b by omega]; exact kk)
theorem iI_nbz {v : Int} (q : v = 0 ∨ v = 1) : narrow .boolean (.int (iI v)) = .int (iI v) := by rcases q with rfl | rfl <;> decide
theorem iI_nbs {v : Int} (q : v = 0 ∨ v = 1) : ∀ al, narrow .boolean (s_tr al (.int (iI v))) = s_tr al (.int (iI v)) ∧ fits .boolean (s_tr al (.int (iI v))) = true := fun _ => ⟨iI_nbz q, by rcases q with rfl | rfl <;> rfl⟩
theorem bI_nbs {c : Prop} [Decidable c] : ∀ al, narrow .boolean (s_tr al (.int (bI c))) = s_tr al (.int (bI c)) ∧ fits .boolean (s_tr al (.int (bI c))) = true := by
  unfold bI; exact iI_nbs (by split <;> simp)
theorem v_zretZ {P : s_C} {k u n pc : Nat} {h : Nat → sE} {lv : List (Nat × Value)} {v : Int} (hdg : decode P.1.2.1 pc = .ok (.ireturn, 1)) (hr : P.1.2.2.2 = some .boolean) (q : v = 0 ∨ v = 1) (hk : k ≤ P.2.2.1) (hu : u ≤ P.2.2.2.1) (hq : P.2.2.2.2.2.1 (some (.int (iI v))) n h) : V P k u n h pc lv [.int (iI v)] := v_zret hdg hr (iI_nbz q) hk hu hq
theorem v_copyI {P : s_C} {k u n pc : Nat} {h : Nat → sE} {lv : List (Nat × Value)} {st : List Value} {index i0 i1 n0 n1 : Nat} {f g : Int → Int} {N : Nat} (hdg : decode P.1.2.1 pc = .ok (.invokestatic index, 3)) (hw : s_J_copy P.1.1.cls index) (he0 : h i0 = aI n0 f) (he1 : h i1 = aI n1 g) (hi0 : i0 < n) (hi1 : i1 < n) (hN : Nat.ble N 2147483647 = true) (h4 : Nat.ble N n0 = true) (h5 : Nat.ble N n1 = true) (hcat : (st.map fun v => v.category).sum ≤ 8) (hd : 1 ≤ P.2.1) (kk : ∀ h' : Nat → sE, h' i1 = aI n1 (fun j => if 0 ≤ j ∧ j < (N : Int) then f j else g j) → (∀ j, j ≠ i1 → h' j = h j) → V P k u n h' (pc + 3) lv st) : V P k u n h pc lv (.int (iI (N : Int)) :: .int (iI 0) :: .ref i1 :: .int (iI 0) :: .ref i0 :: st) := by
  have hN := Nat.le_of_ble_eq_true hN
  have h4 := Nat.le_of_ble_eq_true h4
  have h5 := Nat.le_of_ble_eq_true h5
  have e0 : (iI 0).toNatClampNeg = 0 := by decide
  have eN : (iI (N : Int)).toNatClampNeg = N := by have := iI_nat (a := (N : Int)) (by omega) (by omega); omega
  refine v_copyi (sp := iI 0) (dp := iI 0) (z := iI (N : Int)) hdg hw he0 he1 hi0 hi1 (by decide) (by decide) (by rw [show (0 : Int32) = iI 0 from rfl, iI_lt (by omega) (by omega) (by omega) (by omega)]; omega) (by rw [e0, eN]; omega) (by rw [e0, eN]; omega) hcat hd (fun h' E F => kk h' ?_ F)
  rw [E, e0, eN]
  unfold aI
  congr 4
  funext j
  by_cases q : j < N
  · rw [pk_cpy_in (Nat.zero_le _) (by omega)]; dsimp only; rw [if_pos (by omega)]; congr 2; omega
  · rw [pk_cpy_out (by omega)]; dsimp only; rw [if_neg (by omega)]
theorem v_callVp {P : s_C} {k u n pc : Nat} {h : Nat → sE} {lv : List (Nat × Value)} {st : List Value} {stk as : List Value} {index d2 : Nat} {M : s_M} {i ci : Nat} {fs : List Value} {np : Nat} {v : Value} (hdg : decode P.1.2.1 pc = .ok (.invokevirtual index, 3)) (hm : s_MV P.1.1.cls index M np) (hsp : Sp M d2 0 0 (.ref i :: as) n h (qR (some v) n h)) (he : h i = .inr (ci, fs)) (hci : s_cl[ci]?.map (fun q => q.1) = some M.1.cls) (hi : i < n) (hstk : stk = as.reverse ++ .ref i :: st) (hnp : as.length = np) (hcat : (st.map fun v => v.category).sum ≤ 8) (hd : d2 + 1 ≤ P.2.1) (hk : k + 0 ≤ P.2.2.1) (hu : u + 0 ≤ P.2.2.2.1) (kk : V P k u n h (pc + 3) lv (v :: st)) : V P k u n h pc lv stk := v_callV hdg hm hsp he hci hi hstk hnp hcat hd hk hu ⟨Or.inl (fun _ _ _ q => q.2.1), fun r n1 h1 q => by obtain ⟨rfl, rfl, rfl⟩ := q; exact kk⟩
theorem v_callVIw {P : s_C} {k u n pc : Nat} {h : Nat → sE} {lv : List (Nat × Value)} {st : List Value} {stk as : List Value} {index d2 : Nat} {M : s_M} {i ci : Nat} {fs : List Value} {np : Nat} {Q : Int → XT → Prop} (hdg : decode P.1.2.1 pc = .ok (.invokevirtual index, 3)) (hm : s_MV P.1.1.cls index M np) (hsp : Sp M d2 0 0 (.ref i :: as) n h (pIw n h Q)) (he : h i = .inr (ci, fs)) (hci : s_cl[ci]?.map (fun q => q.1) = some M.1.cls) (hi : i < n) (hstk : stk = as.reverse ++ .ref i :: st) (hnp : as.length = np) (hcat : (st.map fun v => v.category).sum ≤ 8) (hd : d2 + 1 ≤ P.2.1) (hk : k + 0 ≤ P.2.2.1) (hu : u + 0 ≤ P.2.2.2.1) (kk : ∀ (v : Int) (X1 : XT) (h1 : Nat → sE), Pic X1 h1 → Fr h h1 → Q v X1 → V P k u n h1 (pc + 3) lv (.int (iI v) :: st)) : V P k u n h pc lv stk := v_callV hdg hm hsp he hci hi hstk hnp hcat hd hk hu ⟨Or.inl (fun _ _ _ q => q.1.symm), fun r n1 h1 q => by obtain ⟨rfl, f1, v, X1, rfl, p1, q1⟩ := q; exact kk v X1 h1 p1 f1 q1⟩
theorem v_callVIr {P : s_C} {k u n pc : Nat} {h : Nat → sE} {lv : List (Nat × Value)} {st : List Value} {stk as : List Value} {index d2 : Nat} {M : s_M} {i ci : Nat} {fs : List Value} {np : Nat} {Q : Int → Prop} (hdg : decode P.1.2.1 pc = .ok (.invokevirtual index, 3)) (hm : s_MV P.1.1.cls index M np) (hsp : Sp M d2 0 0 (.ref i :: as) n h (pIr n h Q)) (he : h i = .inr (ci, fs)) (hci : s_cl[ci]?.map (fun q => q.1) = some M.1.cls) (hi : i < n) (hstk : stk = as.reverse ++ .ref i :: st) (hnp : as.length = np) (hcat : (st.map fun v => v.category).sum ≤ 8) (hd : d2 + 1 ≤ P.2.1) (hk : k + 0 ≤ P.2.2.1) (hu : u + 0 ≤ P.2.2.2.1) (kk : ∀ (v : Int), Q v → V P k u n h (pc + 3) lv (.int (iI v) :: st)) : V P k u n h pc lv stk := v_callV hdg hm hsp he hci hi hstk hnp hcat hd hk hu ⟨Or.inl (fun _ _ _ q => q.1.symm), fun r n1 h1 q => by obtain ⟨rfl, rfl, v, rfl, q1⟩ := q; exact kk v q1⟩
theorem v_callVLw {P : s_C} {k u n pc : Nat} {h : Nat → sE} {lv : List (Nat × Value)} {st : List Value} {stk as : List Value} {index d2 : Nat} {M : s_M} {i ci : Nat} {fs : List Value} {np : Nat} {Q : Int → XT → Prop} (hdg : decode P.1.2.1 pc = .ok (.invokevirtual index, 3)) (hm : s_MV P.1.1.cls index M np) (hsp : Sp M d2 0 0 (.ref i :: as) n h (pLw n h Q)) (he : h i = .inr (ci, fs)) (hci : s_cl[ci]?.map (fun q => q.1) = some M.1.cls) (hi : i < n) (hstk : stk = as.reverse ++ .ref i :: st) (hnp : as.length = np) (hcat : (st.map fun v => v.category).sum ≤ 8) (hd : d2 + 1 ≤ P.2.1) (hk : k + 0 ≤ P.2.2.1) (hu : u + 0 ≤ P.2.2.2.1) (kk : ∀ (v : Int) (X1 : XT) (h1 : Nat → sE), Pic X1 h1 → Fr h h1 → Q v X1 → V P k u n h1 (pc + 3) lv (.long (jJ v) :: st)) : V P k u n h pc lv stk := v_callV hdg hm hsp he hci hi hstk hnp hcat hd hk hu ⟨Or.inl (fun _ _ _ q => q.1.symm), fun r n1 h1 q => by obtain ⟨rfl, f1, v, X1, rfl, p1, q1⟩ := q; exact kk v X1 h1 p1 f1 q1⟩
theorem v_callVLr {P : s_C} {k u n pc : Nat} {h : Nat → sE} {lv : List (Nat × Value)} {st : List Value} {stk as : List Value} {index d2 : Nat} {M : s_M} {i ci : Nat} {fs : List Value} {np : Nat} {Q : Int → Prop} (hdg : decode P.1.2.1 pc = .ok (.invokevirtual index, 3)) (hm : s_MV P.1.1.cls index M np) (hsp : Sp M d2 0 0 (.ref i :: as) n h (pLr n h Q)) (he : h i = .inr (ci, fs)) (hci : s_cl[ci]?.map (fun q => q.1) = some M.1.cls) (hi : i < n) (hstk : stk = as.reverse ++ .ref i :: st) (hnp : as.length = np) (hcat : (st.map fun v => v.category).sum ≤ 8) (hd : d2 + 1 ≤ P.2.1) (hk : k + 0 ≤ P.2.2.1) (hu : u + 0 ≤ P.2.2.2.1) (kk : ∀ (v : Int), Q v → V P k u n h (pc + 3) lv (.long (jJ v) :: st)) : V P k u n h pc lv stk := v_callV hdg hm hsp he hci hi hstk hnp hcat hd hk hu ⟨Or.inl (fun _ _ _ q => q.1.symm), fun r n1 h1 q => by obtain ⟨rfl, rfl, v, rfl, q1⟩ := q; exact kk v q1⟩
theorem v_callVVw {P : s_C} {k u n pc : Nat} {h : Nat → sE} {lv : List (Nat × Value)} {st : List Value} {stk as : List Value} {index d2 : Nat} {M : s_M} {i ci : Nat} {fs : List Value} {np : Nat} {Q : XT → Prop} (hdg : decode P.1.2.1 pc = .ok (.invokevirtual index, 3)) (hm : s_MV P.1.1.cls index M np) (hsp : Sp M d2 0 0 (.ref i :: as) n h (pVw n h Q)) (he : h i = .inr (ci, fs)) (hci : s_cl[ci]?.map (fun q => q.1) = some M.1.cls) (hi : i < n) (hstk : stk = as.reverse ++ .ref i :: st) (hnp : as.length = np) (hcat : (st.map fun v => v.category).sum ≤ 8) (hd : d2 + 1 ≤ P.2.1) (hk : k + 0 ≤ P.2.2.1) (hu : u + 0 ≤ P.2.2.2.1) (kk : ∀ (X1 : XT) (h1 : Nat → sE), Pic X1 h1 → Fr h h1 → Q X1 → V P k u n h1 (pc + 3) lv st) : V P k u n h pc lv stk := v_callV hdg hm hsp he hci hi hstk hnp hcat hd hk hu ⟨Or.inl (fun _ _ _ q => q.1.symm), fun r n1 h1 q => by obtain ⟨rfl, f1, X1, rfl, p1, q1⟩ := q; exact kk X1 h1 p1 f1 q1⟩
theorem v_callVVr {P : s_C} {k u n pc : Nat} {h : Nat → sE} {lv : List (Nat × Value)} {st : List Value} {stk as : List Value} {index d2 : Nat} {M : s_M} {i ci : Nat} {fs : List Value} {np : Nat} {Q : Prop} (hdg : decode P.1.2.1 pc = .ok (.invokevirtual index, 3)) (hm : s_MV P.1.1.cls index M np) (hsp : Sp M d2 0 0 (.ref i :: as) n h (pVr n h Q)) (he : h i = .inr (ci, fs)) (hci : s_cl[ci]?.map (fun q => q.1) = some M.1.cls) (hi : i < n) (hstk : stk = as.reverse ++ .ref i :: st) (hnp : as.length = np) (hcat : (st.map fun v => v.category).sum ≤ 8) (hd : d2 + 1 ≤ P.2.1) (hk : k + 0 ≤ P.2.2.1) (hu : u + 0 ≤ P.2.2.2.1) (kk : Q → V P k u n h (pc + 3) lv st) : V P k u n h pc lv stk := v_callV hdg hm hsp he hci hi hstk hnp hcat hd hk hu ⟨Or.inl (fun _ _ _ q => q.1.symm), fun r n1 h1 q => by obtain ⟨rfl, rfl, rfl, q1⟩ := q; exact kk q1⟩
theorem v_callSp {P : s_C} {k u n pc : Nat} {h : Nat → sE} {lv : List (Nat × Value)} {st : List Value} {stk as : List Value} {index d2 : Nat} {M : s_M} {np : Nat} {v : Value} (hdg : decode P.1.2.1 pc = .ok (.invokestatic index, 3)) (hm : s_MS P.1.1.cls index M np) (hsp : Sp M d2 0 0 (as) n h (qR (some v) n h)) (hstk : stk = as.reverse ++ st) (hnp : as.length = np) (hcat : (st.map fun v => v.category).sum ≤ 8) (hd : d2 + 1 ≤ P.2.1) (hk : k + 0 ≤ P.2.2.1) (hu : u + 0 ≤ P.2.2.2.1) (kk : V P k u n h (pc + 3) lv (v :: st)) : V P k u n h pc lv stk := v_callS hdg hm hsp hstk hnp hcat hd hk hu ⟨Or.inl (fun _ _ _ q => q.2.1), fun r n1 h1 q => by obtain ⟨rfl, rfl, rfl⟩ := q; exact kk⟩
theorem v_callSIw {P : s_C} {k u n pc : Nat} {h : Nat → sE} {lv : List (Nat × Value)} {st : List Value} {stk as : List Value} {index d2 : Nat} {M : s_M} {np : Nat} {Q : Int → XT → Prop} (hdg : decode P.1.2.1 pc = .ok (.invokestatic index, 3)) (hm : s_MS P.1.1.cls index M np) (hsp : Sp M d2 0 0 (as) n h (pIw n h Q)) (hstk : stk = as.reverse ++ st) (hnp : as.length = np) (hcat : (st.map fun v => v.category).sum ≤ 8) (hd : d2 + 1 ≤ P.2.1) (hk : k + 0 ≤ P.2.2.1) (hu : u + 0 ≤ P.2.2.2.1) (kk : ∀ (v : Int) (X1 : XT) (h1 : Nat → sE), Pic X1 h1 → Fr h h1 → Q v X1 → V P k u n h1 (pc + 3) lv (.int (iI v) :: st)) : V P k u n h pc lv stk := v_callS hdg hm hsp hstk hnp hcat hd hk hu ⟨Or.inl (fun _ _ _ q => q.1.symm), fun r n1 h1 q => by obtain ⟨rfl, f1, v, X1, rfl, p1, q1⟩ := q; exact kk v X1 h1 p1 f1 q1⟩
theorem v_callSIr {P : s_C} {k u n pc : Nat} {h : Nat → sE} {lv : List (Nat × Value)} {st : List Value} {stk as : List Value} {index d2 : Nat} {M : s_M} {np : Nat} {Q : Int → Prop} (hdg : decode P.1.2.1 pc = .ok (.invokestatic index, 3)) (hm : s_MS P.1.1.cls index M np) (hsp : Sp M d2 0 0 (as) n h (pIr n h Q)) (hstk : stk = as.reverse ++ st) (hnp : as.length = np) (hcat : (st.map fun v => v.category).sum ≤ 8) (hd : d2 + 1 ≤ P.2.1) (hk : k + 0 ≤ P.2.2.1) (hu : u + 0 ≤ P.2.2.2.1) (kk : ∀ (v : Int), Q v → V P k u n h (pc + 3) lv (.int (iI v) :: st)) : V P k u n h pc lv stk := v_callS hdg hm hsp hstk hnp hcat hd hk hu ⟨Or.inl (fun _ _ _ q => q.1.symm), fun r n1 h1 q => by obtain ⟨rfl, rfl, v, rfl, q1⟩ := q; exact kk v q1⟩
theorem v_callSLw {P : s_C} {k u n pc : Nat} {h : Nat → sE} {lv : List (Nat × Value)} {st : List Value} {stk as : List Value} {index d2 : Nat} {M : s_M} {np : Nat} {Q : Int → XT → Prop} (hdg : decode P.1.2.1 pc = .ok (.invokestatic index, 3)) (hm : s_MS P.1.1.cls index M np) (hsp : Sp M d2 0 0 (as) n h (pLw n h Q)) (hstk : stk = as.reverse ++ st) (hnp : as.length = np) (hcat : (st.map fun v => v.category).sum ≤ 8) (hd : d2 + 1 ≤ P.2.1) (hk : k + 0 ≤ P.2.2.1) (hu : u + 0 ≤ P.2.2.2.1) (kk : ∀ (v : Int) (X1 : XT) (h1 : Nat → sE), Pic X1 h1 → Fr h h1 → Q v X1 → V P k u n h1 (pc + 3) lv (.long (jJ v) :: st)) : V P k u n h pc lv stk := v_callS hdg hm hsp hstk hnp hcat hd hk hu ⟨Or.inl (fun _ _ _ q => q.1.symm), fun r n1 h1 q => by obtain ⟨rfl, f1, v, X1, rfl, p1, q1⟩ := q; exact kk v X1 h1 p1 f1 q1⟩
theorem v_callSLr {P : s_C} {k u n pc : Nat} {h : Nat → sE} {lv : List (Nat × Value)} {st : List Value} {stk as : List Value} {index d2 : Nat} {M : s_M} {np : Nat} {Q : Int → Prop} (hdg : decode P.1.2.1 pc = .ok (.invokestatic index, 3)) (hm : s_MS P.1.1.cls index M np) (hsp : Sp M d2 0 0 (as) n h (pLr n h Q)) (hstk : stk = as.reverse ++ st) (hnp : as.length = np) (hcat : (st.map fun v => v.category).sum ≤ 8) (hd : d2 + 1 ≤ P.2.1) (hk : k + 0 ≤ P.2.2.1) (hu : u + 0 ≤ P.2.2.2.1) (kk : ∀ (v : Int), Q v → V P k u n h (pc + 3) lv (.long (jJ v) :: st)) : V P k u n h pc lv stk := v_callS hdg hm hsp hstk hnp hcat hd hk hu ⟨Or.inl (fun _ _ _ q => q.1.symm), fun r n1 h1 q => by obtain ⟨rfl, rfl, v, rfl, q1⟩ := q; exact kk v q1⟩
theorem v_callSVw {P : s_C} {k u n pc : Nat} {h : Nat → sE} {lv : List (Nat × Value)} {st : List Value} {stk as : List Value} {index d2 : Nat} {M : s_M} {np : Nat} {Q : XT → Prop} (hdg : decode P.1.2.1 pc = .ok (.invokestatic index, 3)) (hm : s_MS P.1.1.cls index M np) (hsp : Sp M d2 0 0 (as) n h (pVw n h Q)) (hstk : stk = as.reverse ++ st) (hnp : as.length = np) (hcat : (st.map fun v => v.category).sum ≤ 8) (hd : d2 + 1 ≤ P.2.1) (hk : k + 0 ≤ P.2.2.1) (hu : u + 0 ≤ P.2.2.2.1) (kk : ∀ (X1 : XT) (h1 : Nat → sE), Pic X1 h1 → Fr h h1 → Q X1 → V P k u n h1 (pc + 3) lv st) : V P k u n h pc lv stk := v_callS hdg hm hsp hstk hnp hcat hd hk hu ⟨Or.inl (fun _ _ _ q => q.1.symm), fun r n1 h1 q => by obtain ⟨rfl, f1, X1, rfl, p1, q1⟩ := q; exact kk X1 h1 p1 f1 q1⟩
theorem v_callSVr {P : s_C} {k u n pc : Nat} {h : Nat → sE} {lv : List (Nat × Value)} {st : List Value} {stk as : List Value} {index d2 : Nat} {M : s_M} {np : Nat} {Q : Prop} (hdg : decode P.1.2.1 pc = .ok (.invokestatic index, 3)) (hm : s_MS P.1.1.cls index M np) (hsp : Sp M d2 0 0 (as) n h (pVr n h Q)) (hstk : stk = as.reverse ++ st) (hnp : as.length = np) (hcat : (st.map fun v => v.category).sum ≤ 8) (hd : d2 + 1 ≤ P.2.1) (hk : k + 0 ≤ P.2.2.1) (hu : u + 0 ≤ P.2.2.2.1) (kk : Q → V P k u n h (pc + 3) lv st) : V P k u n h pc lv stk := v_callS hdg hm hsp hstk hnp hcat hd hk hu ⟨Or.inl (fun _ _ _ q => q.1.symm), fun r n1 h1 q => by obtain ⟨rfl, rfl, rfl, q1⟩ := q; exact kk q1⟩
theorem v_callIp {P : s_C} {k u n pc : Nat} {h : Nat → sE} {lv : List (Nat × Value)} {st : List Value} {stk as : List Value} {index d2 : Nat} {M : s_M} {i : Nat} {np : Nat} {v : Value} (hdg : decode P.1.2.1 pc = .ok (.invokespecial index, 3)) (hm : s_MI P.1.1.cls index M np) (hsp : Sp M d2 0 0 (.ref i :: as) n h (qR (some v) n h)) (hstk : stk = as.reverse ++ .ref i :: st) (hnp : as.length = np) (hcat : (st.map fun v => v.category).sum ≤ 8) (hd : d2 + 1 ≤ P.2.1) (hk : k + 0 ≤ P.2.2.1) (hu : u + 0 ≤ P.2.2.2.1) (kk : V P k u n h (pc + 3) lv (v :: st)) : V P k u n h pc lv stk := v_callI hdg hm hsp hstk hnp hcat hd hk hu ⟨Or.inl (fun _ _ _ q => q.2.1), fun r n1 h1 q => by obtain ⟨rfl, rfl, rfl⟩ := q; exact kk⟩
theorem v_callIIw {P : s_C} {k u n pc : Nat} {h : Nat → sE} {lv : List (Nat × Value)} {st : List Value} {stk as : List Value} {index d2 : Nat} {M : s_M} {i : Nat} {np : Nat} {Q : Int → XT → Prop} (hdg : decode P.1.2.1 pc = .ok (.invokespecial index, 3)) (hm : s_MI P.1.1.cls index M np) (hsp : Sp M d2 0 0 (.ref i :: as) n h (pIw n h Q)) (hstk : stk = as.reverse ++ .ref i :: st) (hnp : as.length = np) (hcat : (st.map fun v => v.category).sum ≤ 8) (hd : d2 + 1 ≤ P.2.1) (hk : k + 0 ≤ P.2.2.1) (hu : u + 0 ≤ P.2.2.2.1) (kk : ∀ (v : Int) (X1 : XT) (h1 : Nat → sE), Pic X1 h1 → Fr h h1 → Q v X1 → V P k u n h1 (pc + 3) lv (.int (iI v) :: st)) : V P k u n h pc lv stk := v_callI hdg hm hsp hstk hnp hcat hd hk hu ⟨Or.inl (fun _ _ _ q => q.1.symm), fun r n1 h1 q => by obtain ⟨rfl, f1, v, X1, rfl, p1, q1⟩ := q; exact kk v X1 h1 p1 f1 q1⟩
theorem v_callIIr {P : s_C} {k u n pc : Nat} {h : Nat → sE} {lv : List (Nat × Value)} {st : List Value} {stk as : List Value} {index d2 : Nat} {M : s_M} {i : Nat} {np : Nat} {Q : Int → Prop} (hdg : decode P.1.2.1 pc = .ok (.invokespecial index, 3)) (hm : s_MI P.1.1.cls index M np) (hsp : Sp M d2 0 0 (.ref i :: as) n h (pIr n h Q)) (hstk : stk = as.reverse ++ .ref i :: st) (hnp : as.length = np) (hcat : (st.map fun v => v.category).sum ≤ 8) (hd : d2 + 1 ≤ P.2.1) (hk : k + 0 ≤ P.2.2.1) (hu : u + 0 ≤ P.2.2.2.1) (kk : ∀ (v : Int), Q v → V P k u n h (pc + 3) lv (.int (iI v) :: st)) : V P k u n h pc lv stk := v_callI hdg hm hsp hstk hnp hcat hd hk hu ⟨Or.inl (fun _ _ _ q => q.1.symm), fun r n1 h1 q => by obtain ⟨rfl, rfl, v, rfl, q1⟩ := q; exact kk v q1⟩
theorem v_callILw {P : s_C} {k u n pc : Nat} {h : Nat → sE} {lv : List (Nat × Value)} {st : List Value} {stk as : List Value} {index d2 : Nat} {M : s_M} {i : Nat} {np : Nat} {Q : Int → XT → Prop} (hdg : decode P.1.2.1 pc = .ok (.invokespecial index, 3)) (hm : s_MI P.1.1.cls index M np) (hsp : Sp M d2 0 0 (.ref i :: as) n h (pLw n h Q)) (hstk : stk = as.reverse ++ .ref i :: st) (hnp : as.length = np) (hcat : (st.map fun v => v.category).sum ≤ 8) (hd : d2 + 1 ≤ P.2.1) (hk : k + 0 ≤ P.2.2.1) (hu : u + 0 ≤ P.2.2.2.1) (kk : ∀ (v : Int) (X1 : XT) (h1 : Nat → sE), Pic X1 h1 → Fr h h1 → Q v X1 → V P k u n h1 (pc + 3) lv (.long (jJ v) :: st)) : V P k u n h pc lv stk := v_callI hdg hm hsp hstk hnp hcat hd hk hu ⟨Or.inl (fun _ _ _ q => q.1.symm), fun r n1 h1 q => by obtain ⟨rfl, f1, v, X1, rfl, p1, q1⟩ := q; exact kk v X1 h1 p1 f1 q1⟩
theorem v_callILr {P : s_C} {k u n pc : Nat} {h : Nat → sE} {lv : List (Nat × Value)} {st : List Value} {stk as : List Value} {index d2 : Nat} {M : s_M} {i : Nat} {np : Nat} {Q : Int → Prop} (hdg : decode P.1.2.1 pc = .ok (.invokespecial index, 3)) (hm : s_MI P.1.1.cls index M np) (hsp : Sp M d2 0 0 (.ref i :: as) n h (pLr n h Q)) (hstk : stk = as.reverse ++ .ref i :: st) (hnp : as.length = np) (hcat : (st.map fun v => v.category).sum ≤ 8) (hd : d2 + 1 ≤ P.2.1) (hk : k + 0 ≤ P.2.2.1) (hu : u + 0 ≤ P.2.2.2.1) (kk : ∀ (v : Int), Q v → V P k u n h (pc + 3) lv (.long (jJ v) :: st)) : V P k u n h pc lv stk := v_callI hdg hm hsp hstk hnp hcat hd hk hu ⟨Or.inl (fun _ _ _ q => q.1.symm), fun r n1 h1 q => by obtain ⟨rfl, rfl, v, rfl, q1⟩ := q; exact kk v q1⟩
theorem v_callIVw {P : s_C} {k u n pc : Nat} {h : Nat → sE} {lv : List (Nat × Value)} {st : List Value} {stk as : List Value} {index d2 : Nat} {M : s_M} {i : Nat} {np : Nat} {Q : XT → Prop} (hdg : decode P.1.2.1 pc = .ok (.invokespecial index, 3)) (hm : s_MI P.1.1.cls index M np) (hsp : Sp M d2 0 0 (.ref i :: as) n h (pVw n h Q)) (hstk : stk = as.reverse ++ .ref i :: st) (hnp : as.length = np) (hcat : (st.map fun v => v.category).sum ≤ 8) (hd : d2 + 1 ≤ P.2.1) (hk : k + 0 ≤ P.2.2.1) (hu : u + 0 ≤ P.2.2.2.1) (kk : ∀ (X1 : XT) (h1 : Nat → sE), Pic X1 h1 → Fr h h1 → Q X1 → V P k u n h1 (pc + 3) lv st) : V P k u n h pc lv stk := v_callI hdg hm hsp hstk hnp hcat hd hk hu ⟨Or.inl (fun _ _ _ q => q.1.symm), fun r n1 h1 q => by obtain ⟨rfl, f1, X1, rfl, p1, q1⟩ := q; exact kk X1 h1 p1 f1 q1⟩
theorem v_callIVr {P : s_C} {k u n pc : Nat} {h : Nat → sE} {lv : List (Nat × Value)} {st : List Value} {stk as : List Value} {index d2 : Nat} {M : s_M} {i : Nat} {np : Nat} {Q : Prop} (hdg : decode P.1.2.1 pc = .ok (.invokespecial index, 3)) (hm : s_MI P.1.1.cls index M np) (hsp : Sp M d2 0 0 (.ref i :: as) n h (pVr n h Q)) (hstk : stk = as.reverse ++ .ref i :: st) (hnp : as.length = np) (hcat : (st.map fun v => v.category).sum ≤ 8) (hd : d2 + 1 ≤ P.2.1) (hk : k + 0 ≤ P.2.2.1) (hu : u + 0 ≤ P.2.2.2.1) (kk : Q → V P k u n h (pc + 3) lv st) : V P k u n h pc lv stk := v_callI hdg hm hsp hstk hnp hcat hd hk hu ⟨Or.inl (fun _ _ _ q => q.1.symm), fun r n1 h1 q => by obtain ⟨rfl, rfl, rfl, q1⟩ := q; exact kk q1⟩
-- the small methods once more, as texts without cases
def mvF (a x y : Int) : Int := if a = 576 ∨ a % 24 + x < 0 ∨ a % 24 + x ≥ 24 ∨ a / 24 + y < 0 ∨ a / 24 + y ≥ 24 then 576 else 24 * (a / 24 + y) + (a % 24 + x)
def caF (x y : Int) : Int := if -8 ≤ x ∧ x ≤ 15 ∧ -8 ≤ y ∧ y ≤ 15 then 24 * (y + 8) + x + 8 else -1
def sxF (a : Int) : Int := if a = 1 then 1 else if a = 3 then -1 else 0
def syF (a : Int) : Int := if a = 0 then -1 else if a = 2 then 1 else 0
abbrev cvB (s wd tl f : Int) : Prop := 0 ≤ f % 8 - (s % 24 - 8) ∧ f % 8 - (s % 24 - 8) ≤ wd - 1 ∧ 0 ≤ f / 8 - (s / 24 - 8) ∧ f / 8 - (s / 24 - 8) ≤ tl - 1
theorem qR_cg {M : s_M} {d mc ms : Nat} {as : List Value} {n : Nat} {h : Nat → sE} {v w : Value} (k : Sp M d mc ms as n h (qR (some v) n h)) (e : v = w) : Sp M d mc ms as n h (qR (some w) n h) := e ▸ k
theorem sv_X3_fieldFact {n : Nat} {h : Nat → sE} {a b : Int} {g1 g2 : Int → Int} (hn : 115 ≤ n) (H1 : h 1 = ent 1 g1) (H2 : h 2 = ent 2 g2) (ra : 0 ≤ a ∧ a ≤ 63) (rb : 0 ≤ b ∧ b ≤ 2) : Sp m_X3_fieldFact 1 0 0 [.ref 1, .int (iI a), .int (iI b)] n h (qR (some (.int (iI (g2 (b * 64 + a))))) n h) := qR_cg (sq_X3_fieldFact hn H1 H2 (by omega) (by omega)) (by rw [if_pos (by omega)])
theorem sv_X3_cloudFact {n : Nat} {h : Nat → sE} {a b : Int} {g1 g5 : Int → Int} (hn : 115 ≤ n) (H1 : h 1 = ent 1 g1) (H5 : h 5 = ent 5 g5) (ra : 0 ≤ a ∧ a < g1 9 ∧ g1 9 ≤ 5) (rb : 0 ≤ b ∧ b ≤ 4) : Sp m_X3_cloudFact 1 0 0 [.ref 1, .int (iI a), .int (iI b)] n h (qR (some (.int (iI (g5 (a * 5 + b))))) n h) := qR_cg (sp_X3_cloudFact hn H1 H5 (by omega) (by omega) (by omega)) (by rw [if_pos (by omega)])
theorem sv_X3_flagFact {n : Nat} {h : Nat → sE} {a b : Int} {g1 g6 : Int → Int} (hn : 115 ≤ n) (H1 : h 1 = ent 1 g1) (H6 : h 6 = ent 6 g6) (ra : 0 ≤ a ∧ a ≤ 23) (rb : 0 ≤ b ∧ b ≤ 2) : Sp m_X3_flagFact 1 0 0 [.ref 1, .int (iI a), .int (iI b)] n h (qR (some (.int (iI (g6 (a * 3 + b))))) n h) := qR_cg (sp_X3_flagFact hn H1 H6 (by omega) (by omega)) (by rw [if_pos (by omega)])
theorem sv_X3_contractFact {n : Nat} {h : Nat → sE} {a b : Int} {g1 g7 : Int → Int} (hn : 115 ≤ n) (H1 : h 1 = ent 1 g1) (H7 : h 7 = ent 7 g7) (ra : 0 ≤ a ∧ a ≤ 7) (rb : 0 ≤ b ∧ b ≤ 4) : Sp m_X3_contractFact 1 0 0 [.ref 1, .int (iI a), .int (iI b)] n h (qR (some (.int (iI (g7 (a * 5 + b))))) n h) := qR_cg (sp_X3_contractFact hn H1 H7 (by omega) (by omega)) (by rw [if_pos (by omega)])
theorem sv_X3_sightFact {n : Nat} {h : Nat → sE} {a b : Int} {g1 g8 : Int → Int} (hn : 115 ≤ n) (H1 : h 1 = ent 1 g1) (H8 : h 8 = ent 8 g8) (ra : 0 ≤ a ∧ a ≤ 9) (rb : 0 ≤ b ∧ b ≤ 2) : Sp m_X3_sightFact 1 0 0 [.ref 1, .int (iI a), .int (iI b)] n h (qR (some (.int (iI (g8 (a * 3 + b))))) n h) := qR_cg (sp_X3_sightFact hn H1 H8 (by omega) (by omega)) (by rw [if_pos (by omega)])
theorem sv_X8_spotAt {n : Nat} {h : Nat → sE} {a b : Int} (r : -8 ≤ a ∧ a ≤ 15 ∧ -8 ≤ b ∧ b ≤ 15) : Sp m_X8_spotAt 1 0 0 [.int (iI a), .int (iI b)] n h (qR (some (.int (iI (24 * (b + 8) + a + 8)))) n h) := qR_cg (sp_X8_spotAt (by omega) (by omega)) (by rw [if_pos (by omega)])
/-- the flags of the row: their places are as they can be -/
def FLK (r : Int → Int) : Prop := (0 ≤ r 1 ∧ r 1 ≤ 24) ∧ ∀ k : Int, 0 ≤ k → k < r 1 → 0 ≤ r (232 + k * 3) ∧ r (232 + k * 3) ≤ 10 ∧ 0 ≤ r (232 + (k * 3 + 1)) ∧ r (232 + (k * 3 + 1)) ≤ 4 ∧ 0 ≤ r (232 + (k * 3 + 2)) ∧ r (232 + (k * 3 + 2)) ≤ 3
def fRw (r : Int → Int) (c hr : Int) : Int := fOf (fun j => r (232 + j)) hr c (r 1).toNat
theorem sv_X12_flagOf {n : Nat} {h : Nat → sE} {a b : Int} {g77 g79 : Int → Int} (hn : 115 ≤ n) (H77 : h 77 = ent 77 g77) (H79 : h 79 = ent 79 g79) (ra : R32 a) (rb : R32 b) (hf : FLK g79) : Sp m_X12_flagOf 0 0 0 [.ref 77, .int (iI a), .int (iI b)] n h (qR (some (.int (iI (fRw g79 a b)))) n h) := sp_X12_flagOf hn H77 H79 ra rb hf.1 hf.2
theorem sv_X12_ofCloud {n : Nat} {h : Nat → sE} {a b : Int} {g77 g79 : Int → Int} (hn : 115 ≤ n) (H77 : h 77 = ent 77 g77) (H79 : h 79 = ent 79 g79) (ra : 0 ≤ a ∧ a ≤ 4) (rb : 0 ≤ b ∧ b ≤ 4) : Sp m_X12_ofCloud 0 0 0 [.ref 77, .int (iI a), .int (iI b)] n h (qR (some (.int (iI (g79 (15 + 5 * a + b))))) n h) := sp_X12_ofCloud hn H77 H79 ⟨ra.1, ra.2, rb⟩
theorem sv_X12_ofField {n : Nat} {h : Nat → sE} {a b : Int} {g77 g79 : Int → Int} (hn : 115 ≤ n) (H77 : h 77 = ent 77 g77) (H79 : h 79 = ent 79 g79) (ra : 0 ≤ a ∧ a ≤ 63) (rb : 0 ≤ b ∧ b ≤ 2) : Sp m_X12_ofField 0 0 0 [.ref 77, .int (iI a), .int (iI b)] n h (qR (some (.int (iI (g79 (40 + 3 * a + b))))) n h) := sp_X12_ofField hn H77 H79 ⟨ra.1, ra.2, rb⟩
theorem sv_X12_ofContract {n : Nat} {h : Nat → sE} {a b : Int} {g77 g79 : Int → Int} (hn : 115 ≤ n) (H77 : h 77 = ent 77 g77) (H79 : h 79 = ent 79 g79) (ra : 0 ≤ a ∧ a ≤ 7) (rb : 0 ≤ b ∧ b ≤ 4) : Sp m_X12_ofContract 0 0 0 [.ref 77, .int (iI a), .int (iI b)] n h (qR (some (.int (iI (g79 (304 + 5 * a + b))))) n h) := sp_X12_ofContract hn H77 H79 ⟨ra.1, ra.2, rb⟩
/-- the flags of the plain: their places are as they can be -/
def FLC (o f : Int → Int) : Prop := (0 ≤ o 10 ∧ o 10 ≤ 24) ∧ ∀ k : Int, 0 ≤ k → k < o 10 → 0 ≤ f (k * 3) ∧ f (k * 3) ≤ 10 ∧ 0 ≤ f (k * 3 + 1) ∧ f (k * 3 + 1) ≤ 4 ∧ 0 ≤ f (k * 3 + 2) ∧ f (k * 3 + 2) ≤ 3
theorem sv_X3_hasFlag {n : Nat} {h : Nat → sE} {a b : Int} {g1 g6 : Int → Int} (hn : 115 ≤ n) (H1 : h 1 = ent 1 g1) (H6 : h 6 = ent 6 g6) (ra : R32 a) (rb : R32 b) (hf : FLC g1 g6) : Sp m_X3_hasFlag 2 0 0 [.ref 1, .int (iI a), .int (iI b)] n h (qR (some (.int (bI (¬ fOf g6 a b (g1 10).toNat = -1)))) n h) := sp_X3_hasFlag hn H1 H6 ra rb hf.1 hf.2
-- the laws: which scripts (by the number of their cell; -1: none) can be in force; what they tell: script, kind, words, what without
abbrev LK : Type := (Int → Prop) × (Int → Int → (Int → Int) → Int → Int)
def lawc (X : XT) : Int := if 0 ≤ X 1 14 ∧ X 1 14 ≤ 5 then X 10 (X 1 14) else if X 1 14 = -1 then -1 else -2
def wok (w : Int → Int) : Prop := ∀ j, 0 ≤ j → j ≤ 7 → -1000 ≤ w j ∧ w j ≤ 1000
/-- toldBy tells what K says, in every world that has these cells behind the picture -/
def LKok (K : LK) (n : Nat) (h0 : Nat → sE) : Prop := ∀ (h : Nat → sE) (X : XT) (kind without : Int), Pic X h → Fr h0 h → K.1 (lawc X) → wok (X 46) → 0 ≤ kind ∧ kind ≤ 100 → 0 ≤ without ∧ without ≤ 99 → Sp m_X0_toldBy 2 0 0 [.ref 44, .int (iI kind), .int (iI without)] n h (pIw n h (fun v X' => v = K.2 (lawc X) kind (X 46) without ∧ ∀ c, ¬ c = 48 → X' c = X c))
def w_X0_toldBy (K : LK) (a0 a1 : Int) (X : XT) (Q : Int → XT → Prop) : Prop := K.1 (lawc X) ∧ wok (X 46) ∧ (0 ≤ a0 ∧ a0 ≤ 100) ∧ (0 ≤ a1 ∧ a1 ≤ 99) ∧ ∀ X', (∀ c, ¬ c = 48 → X' c = X c) → Q (K.2 (lawc X) a0 (X 46) a1) X'
theorem so_X0_toldBy {n : Nat} {h : Nat → sE} {X : XT} {K : LK} {hk : Nat → sE} (hK : LKok K n hk) {a0 a1 : Int} {Q : Int → XT → Prop} (hn : 115 ≤ n) (hp : Pic X h) (hf9 : Fr hk h) (w : w_X0_toldBy K a0 a1 X Q) : Sp m_X0_toldBy 2 0 0 [.ref 44, .int (iI a0), .int (iI a1)] n h (pIw n h Q) := by
  obtain ⟨q1, q2, q3, q4, w⟩ := w
  refine (hK h X a0 a1 hp hf9 q1 q2 q3 q4).mono ?_
  rintro r n' h' ⟨e1, f1, v, X', e2, p1, e3, e4⟩
  exact ⟨e1, f1, v, X', e2, p1, e3 ▸ w X' e4⟩
theorem dX8_stepX_0 : decode cX8_stepX 0 = .ok (.iload_n 0, 1) := by decide +kernel
theorem dX8_stepX_1 : decode cX8_stepX 1 = .ok (.iconst 0, 1) := by decide +kernel
theorem dX8_stepX_2 : decode cX8_stepX 2 = .ok (.iconst 4, 1) := by decide +kernel
theorem dX8_stepX_3 : decode cX8_stepX 3 = .ok (.invokestatic 26, 3) := by decide +kernel
theorem dX8_stepX_6 : decode cX8_stepX 6 = .ok (.ifCond .eq 11, 3) := by decide +kernel
theorem dX8_stepX_9 : decode cX8_stepX 9 = .ok (.getstatic 37, 3) := by decide +kernel
theorem dX8_stepX_12 : decode cX8_stepX 12 = .ok (.iload_n 0, 1) := by decide +kernel
theorem dX8_stepX_13 : decode cX8_stepX 13 = .ok (.iaload, 1) := by decide +kernel
theorem dX8_stepX_14 : decode cX8_stepX 14 = .ok (.goto 4, 3) := by decide +kernel
theorem dX8_stepX_17 : decode cX8_stepX 17 = .ok (.iconst 0, 1) := by decide +kernel
theorem dX8_stepX_18 : decode cX8_stepX 18 = .ok (.ireturn, 1) := by decide +kernel
theorem s_stXI {a : Int} (h0 : 0 ≤ a) (h1 : a ≤ 4) : s_stX (iI a).toNatClampNeg = iI (sxF a) := by
  have h := iI_nat h0 (by omega)
  rcases (show a = 0 ∨ a = 1 ∨ a = 2 ∨ a = 3 ∨ a = 4 by omega) with rfl | rfl | rfl | rfl | rfl <;> decide
theorem sp_X8_stepX {n : Nat} {h : Nat → sE} {a : Int} (ra : R32 a) : Sp m_X8_stepX 1 0 0 [.int (iI a)] n h (qR (some (.int (iI (sxF a)))) n h) := by
  refine Sp.ofV (by decide +kernel) (Nat.le_of_ble_eq_true rfl) ?_
  refine v_iload_n dX8_stepX_0 rfl ?_
  refine v_iconstI dX8_stepX_1 ?_
  refine v_iconstI dX8_stepX_2 ?_
  refine v_callSp dX8_stepX_3 ml_X8_26 (sp_X11_within (a := a) (b := 0) (c := 4) ra (by decide) (by decide)) rfl rfl (Nat.le_of_ble_eq_true rfl) (Nat.le_of_ble_eq_true rfl) (Nat.zero_le _) (Nat.zero_le _) ?_
  refine v_ifeqB (tgt := 17) dX8_stepX_6 (by decide) (fun c => ?_) (fun c => ?_)
  · refine v_iconstI dX8_stepX_17 ?_
    exact v_iret dX8_stepX_18 rfl (Nat.zero_le _) (Nat.zero_le _) ⟨by unfold sxF; rw [if_neg (by omega), if_neg (by omega)], rfl, rfl⟩
  · refine v_stX (i := 0) (x := iI a) (f := 0) dX8_stepX_9 dX8_stepX_12 dX8_stepX_13 sf_X8_37 rfl (iI_in c.1 (by omega) (by omega)) ?_
    rw [s_stXI c.1 c.2]
    refine v_goto (tgt := 18) dX8_stepX_14 (by decide) ?_
    exact v_iret dX8_stepX_18 rfl (Nat.zero_le _) (Nat.zero_le _) ⟨rfl, rfl, rfl⟩
theorem dX8_stepY_0 : decode cX8_stepY 0 = .ok (.iload_n 0, 1) := by decide +kernel
theorem dX8_stepY_1 : decode cX8_stepY 1 = .ok (.iconst 0, 1) := by decide +kernel
theorem dX8_stepY_2 : decode cX8_stepY 2 = .ok (.iconst 4, 1) := by decide +kernel
theorem dX8_stepY_3 : decode cX8_stepY 3 = .ok (.invokestatic 26, 3) := by decide +kernel
theorem dX8_stepY_6 : decode cX8_stepY 6 = .ok (.ifCond .eq 11, 3) := by decide +kernel
theorem dX8_stepY_9 : decode cX8_stepY 9 = .ok (.getstatic 40, 3) := by decide +kernel
theorem dX8_stepY_12 : decode cX8_stepY 12 = .ok (.iload_n 0, 1) := by decide +kernel
theorem dX8_stepY_13 : decode cX8_stepY 13 = .ok (.iaload, 1) := by decide +kernel
theorem dX8_stepY_14 : decode cX8_stepY 14 = .ok (.goto 4, 3) := by decide +kernel
theorem dX8_stepY_17 : decode cX8_stepY 17 = .ok (.iconst 0, 1) := by decide +kernel
theorem dX8_stepY_18 : decode cX8_stepY 18 = .ok (.ireturn, 1) := by decide +kernel
theorem s_stYI {a : Int} (h0 : 0 ≤ a) (h1 : a ≤ 4) : s_stY (iI a).toNatClampNeg = iI (syF a) := by
  have h := iI_nat h0 (by omega)
  rcases (show a = 0 ∨ a = 1 ∨ a = 2 ∨ a = 3 ∨ a = 4 by omega) with rfl | rfl | rfl | rfl | rfl <;> decide
theorem sp_X8_stepY {n : Nat} {h : Nat → sE} {a : Int} (ra : R32 a) : Sp m_X8_stepY 1 0 0 [.int (iI a)] n h (qR (some (.int (iI (syF a)))) n h) := by
  refine Sp.ofV (by decide +kernel) (Nat.le_of_ble_eq_true rfl) ?_
  refine v_iload_n dX8_stepY_0 rfl ?_
  refine v_iconstI dX8_stepY_1 ?_
  refine v_iconstI dX8_stepY_2 ?_
  refine v_callSp dX8_stepY_3 ml_X8_26 (sp_X11_within (a := a) (b := 0) (c := 4) ra (by decide) (by decide)) rfl rfl (Nat.le_of_ble_eq_true rfl) (Nat.le_of_ble_eq_true rfl) (Nat.zero_le _) (Nat.zero_le _) ?_
  refine v_ifeqB (tgt := 17) dX8_stepY_6 (by decide) (fun c => ?_) (fun c => ?_)
  · refine v_iconstI dX8_stepY_17 ?_
    exact v_iret dX8_stepY_18 rfl (Nat.zero_le _) (Nat.zero_le _) ⟨by unfold syF; rw [if_neg (by omega), if_neg (by omega)], rfl, rfl⟩
  · refine v_stY (i := 0) (x := iI a) (f := 0) dX8_stepY_9 dX8_stepY_12 dX8_stepY_13 sf_X8_40 rfl (iI_in c.1 (by omega) (by omega)) ?_
    rw [s_stYI c.1 c.2]
    refine v_goto (tgt := 18) dX8_stepY_14 (by decide) ?_
    exact v_iret dX8_stepY_18 rfl (Nat.zero_le _) (Nat.zero_le _) ⟨rfl, rfl, rfl⟩

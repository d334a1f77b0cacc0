/-! ROWS OF 24 BITS AND SETS OF 8 -/
abbrev bt (z j : Int) : Bool := z.toNat.testBit j.toNat
abbrev B24 (z : Int) : Prop := 0 ≤ z ∧ z < 16777216
theorem iI_bit {a : Int} (h : B24 a) (j : Nat) : (iI a).toBitVec.getLsbD j = a.toNat.testBit j := by
  obtain ⟨n, rfl⟩ := Int.eq_ofNat_of_zero_le h.1
  have e : (iI (n : Int)).toBitVec = BitVec.ofNat 32 n := by
    show (Int32.ofInt (n : Int)).toBitVec = _
    rw [Int32.toBitVec_ofInt]
    exact BitVec.ofInt_natCast 32 n
  rw [e, Int.toNat_natCast, ← BitVec.testBit_toNat, BitVec.toNat_ofNat, Nat.mod_eq_of_lt (by omega)]
theorem b24_big {a : Int} (h : B24 a) {j : Nat} (hj : 24 ≤ j) : a.toNat.testBit j = false :=
  Nat.testBit_lt_two_pow (Nat.lt_of_lt_of_le (show a.toNat < 2 ^ 24 by omega) (Nat.pow_le_pow_right (by decide) hj))
theorem bits_of {x : Int32} (p : ∀ j : Nat, 24 ≤ j → x.toBitVec.getLsbD j = false) : B24 x.toInt ∧ ∀ j : Nat, x.toInt.toNat.testBit j = x.toBitVec.getLsbD j := by
  have lt : x.toBitVec.toNat < 2 ^ 24 := Nat.lt_pow_two_of_testBit _ (fun j hj => by rw [BitVec.testBit_toNat]; exact p j hj)
  have e : x.toInt = (x.toBitVec.toNat : Int) := by
    show x.toBitVec.toInt = _
    exact BitVec.toInt_eq_toNat_of_lt (by omega)
  refine ⟨by rw [e]; omega, fun j => ?_⟩
  rw [e, Int.toNat_natCast, BitVec.testBit_toNat]
theorem oAnd_b {a b : Int} (ha : B24 a) (hb : B24 b) : B24 (oAnd a b) ∧ ∀ j : Int, bt (oAnd a b) j = (bt a j && bt b j) := by
  have e : ∀ j : Nat, (iI a &&& iI b).toBitVec.getLsbD j = (a.toNat.testBit j && b.toNat.testBit j) := fun j => by
    rw [Int32.toBitVec_and, BitVec.getLsbD_and, iI_bit ha, iI_bit hb]
  have o := bits_of (x := iI a &&& iI b) (fun j hj => by rw [e, b24_big ha hj]; rfl)
  exact ⟨o.1, fun j => (o.2 j.toNat).trans (e j.toNat)⟩
theorem oOr_b {a b : Int} (ha : B24 a) (hb : B24 b) : B24 (oOr a b) ∧ ∀ j : Int, bt (oOr a b) j = (bt a j || bt b j) := by
  have e : ∀ j : Nat, (iI a ||| iI b).toBitVec.getLsbD j = (a.toNat.testBit j || b.toNat.testBit j) := fun j => by
    rw [Int32.toBitVec_or, BitVec.getLsbD_or, iI_bit ha, iI_bit hb]
  have o := bits_of (x := iI a ||| iI b) (fun j hj => by rw [e, b24_big ha hj, b24_big hb hj]; rfl)
  exact ⟨o.1, fun j => (o.2 j.toNat).trans (e j.toNat)⟩
theorem oNot_b {a b : Int} (ha : B24 a) (hb : B24 b) : B24 (oAnd a (oXor b (-1))) ∧ ∀ j : Int, bt (oAnd a (oXor b (-1))) j = (bt a j && !bt b j) := by
  have e : ∀ j : Nat, (iI a &&& iI (oXor b (-1))).toBitVec.getLsbD j = (a.toNat.testBit j && !b.toNat.testBit j) := fun j => by
    unfold oXor
    rw [iI_toInt, Int32.toBitVec_and, BitVec.getLsbD_and, iI_bit ha, Int32.toBitVec_xor, BitVec.getLsbD_xor, iI_bit hb]
    by_cases hj : j < 32
    · rw [show (iI (-1)).toBitVec = BitVec.allOnes 32 by decide +kernel, BitVec.getLsbD_allOnes, decide_eq_true hj, Bool.xor_true]
    · rw [b24_big ha (by omega)]; rfl
  have o := bits_of (x := iI a &&& iI (oXor b (-1))) (fun j hj => by rw [e, b24_big ha hj]; rfl)
  exact ⟨o.1, fun j => (o.2 j.toNat).trans (e j.toNat)⟩
theorem ones_24 {j : Nat} : (iI 16777215).toBitVec.getLsbD j = decide (j < 24) := by
  rw [iI_bit (by decide), show (16777215 : Int).toNat = 2 ^ 24 - 1 from rfl, Nat.testBit_two_pow_sub_one]
theorem oShl_b {a n : Int} (ha : B24 a) (n0 : 0 ≤ n) (n1 : n ≤ 2) : B24 (oAnd (oShl a n) 16777215) ∧ ∀ j : Int, 0 ≤ j → bt (oAnd (oShl a n) 16777215) j = (decide (j < 24) && (decide (n ≤ j) && bt a (j - n))) := by
  have sh : (iI a <<< (iI n &&& 31)).toBitVec = (iI a).toBitVec <<< n.toNat := by
    have hn : n = 0 ∨ n = 1 ∨ n = 2 := by omega
    rcases hn with rfl | rfl | rfl <;> rfl
  have e : ∀ j : Nat, (iI (oShl a n) &&& iI 16777215).toBitVec.getLsbD j = (decide (j < 24) && (decide (n.toNat ≤ j) && a.toNat.testBit (j - n.toNat))) := fun j => by
    unfold oShl
    rw [iI_toInt, Int32.toBitVec_and, BitVec.getLsbD_and, sh, ones_24, BitVec.getLsbD_shiftLeft, iI_bit ha]
    by_cases h : j < 24
    · rw [decide_eq_true h, decide_eq_true (show j < 32 by omega)]
      by_cases h2 : j < n.toNat
      · rw [decide_eq_true h2, decide_eq_false (show ¬ n.toNat ≤ j by omega)]; rfl
      · rw [decide_eq_false h2, decide_eq_true (show n.toNat ≤ j by omega)]
        cases a.toNat.testBit (j - n.toNat) <;> rfl
    · rw [decide_eq_false h, Bool.and_false]; rfl
  have o := bits_of (x := iI (oShl a n) &&& iI 16777215) (fun j hj => by rw [e, decide_eq_false (show ¬ j < 24 by omega)]; rfl)
  refine ⟨o.1, fun j j0 => ((o.2 j.toNat).trans (e j.toNat)).trans ?_⟩
  by_cases h2 : n ≤ j
  · rw [decide_eq_true h2, decide_eq_true (show n.toNat ≤ j.toNat by omega), show j.toNat - n.toNat = (j - n).toNat by omega]
    by_cases h : j < 24
    · rw [decide_eq_true h, decide_eq_true (show j.toNat < 24 by omega)]
    · rw [decide_eq_false h, decide_eq_false (show ¬ j.toNat < 24 by omega)]
  · rw [decide_eq_false h2, decide_eq_false (show ¬ n.toNat ≤ j.toNat by omega), Bool.false_and, Bool.false_and, Bool.and_false, Bool.and_false]
theorem oUshr_b {a n : Int} (ha : B24 a) (n0 : 0 ≤ n) (n1 : n ≤ 2) : B24 (oAnd (oUshr a n) 16777215) ∧ ∀ j : Int, 0 ≤ j → bt (oAnd (oUshr a n) 16777215) j = (decide (j < 24) && bt a (j + n)) := by
  have sh : ((iI a).toUInt32 >>> ((iI n).toUInt32 &&& Int32.toUInt32 31)).toInt32.toBitVec = (iI a).toBitVec >>> n.toNat := by
    have hn : n = 0 ∨ n = 1 ∨ n = 2 := by omega
    rcases hn with rfl | rfl | rfl <;> rfl
  have e : ∀ j : Nat, (iI (oUshr a n) &&& iI 16777215).toBitVec.getLsbD j = (decide (j < 24) && a.toNat.testBit (n.toNat + j)) := fun j => by
    unfold oUshr
    rw [iI_toInt, Int32.toBitVec_and, BitVec.getLsbD_and, sh, ones_24, BitVec.getLsbD_ushiftRight, iI_bit ha, Bool.and_comm]
  have o := bits_of (x := iI (oUshr a n) &&& iI 16777215) (fun j hj => by rw [e, decide_eq_false (show ¬ j < 24 by omega)]; rfl)
  refine ⟨o.1, fun j j0 => ((o.2 j.toNat).trans (e j.toNat)).trans ?_⟩
  rw [show n.toNat + j.toNat = (j + n).toNat by omega]
  by_cases h : j < 24
  · rw [decide_eq_true h, decide_eq_true (show j.toNat < 24 by omega)]
  · rw [decide_eq_false h, decide_eq_false (show ¬ j.toNat < 24 by omega)]
theorem one_b {j : Int} (j0 : 0 ≤ j) (j1 : j ≤ 23) : B24 (oShl 1 j) ∧ ∀ i : Int, 0 ≤ i → (bt (oShl 1 j) i = true ↔ i = j) := by
  have e : oShl 1 j = ((2 ^ j.toNat : Nat) : Int) := by
    have hj : j = 0 ∨ j = 1 ∨ j = 2 ∨ j = 3 ∨ j = 4 ∨ j = 5 ∨ j = 6 ∨ j = 7 ∨ j = 8 ∨ j = 9 ∨ j = 10 ∨ j = 11 ∨ j = 12 ∨ j = 13 ∨ j = 14 ∨ j = 15 ∨ j = 16 ∨ j = 17 ∨ j = 18 ∨ j = 19 ∨ j = 20 ∨ j = 21 ∨ j = 22 ∨ j = 23 := by omega
    rcases hj with rfl | rfl | rfl | rfl | rfl | rfl | rfl | rfl | rfl | rfl | rfl | rfl | rfl | rfl | rfl | rfl | rfl | rfl | rfl | rfl | rfl | rfl | rfl | rfl <;> decide +kernel
  have lt : 2 ^ j.toNat < 2 ^ 24 := Nat.pow_lt_pow_right (by decide) (by omega)
  refine ⟨by rw [e]; generalize 2 ^ j.toNat = N at lt ⊢; omega, fun i i0 => ?_⟩
  show (oShl 1 j).toNat.testBit i.toNat = true ↔ _
  rw [e, Int.toNat_natCast, Nat.testBit_two_pow]
  rw [decide_eq_true_iff]
  omega
/-- a row is told by its bits -/
theorem b24_ext {a b : Int} (ha : B24 a) (hb : B24 b) (h : ∀ j : Int, 0 ≤ j → j < 24 → bt a j = bt b j) : a = b := by
  have : a.toNat = b.toNat := Nat.eq_of_testBit_eq (fun j => by
    by_cases hj : j < 24
    · have := h (j : Int) (by omega) (by omega)
      unfold bt at this
      rw [Int.toNat_natCast] at this; exact this
    · rw [b24_big ha (by omega), b24_big hb (by omega)])
  omega
theorem b24_0 {a : Int} (ha : B24 a) : a = 0 ↔ ∀ j : Int, 0 ≤ j → j < 24 → bt a j = false := by
  refine ⟨fun h j _ _ => by rw [h]; exact Nat.zero_testBit _, fun h => b24_ext ha (by decide) (fun j a1 b1 => by rw [h j a1 b1]; exact (Nat.zero_testBit _).symm)⟩
/-- the sets of contracts -/
theorem is_b : ∀ a : Fin 256, ∀ j : Fin 8, oAnd (oUshr (a.1 : Int) (j.1 : Int)) 1 = (if a.1.testBit j.1 then 1 else 0) ∧ oAnd (oShr (a.1 : Int) (j.1 : Int)) 1 = (if a.1.testBit j.1 then 1 else 0) := by decide +kernel

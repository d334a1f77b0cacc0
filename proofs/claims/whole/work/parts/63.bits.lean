/-! DIGITS OF THREE BITS IN A LONG -/
theorem jJ_nat {a : Nat} (h : a < 9223372036854775808) : (jJ (a : Int)).toBitVec.toNat = a := by
  have e : (jJ (a : Int)).toBitVec = BitVec.ofNat 64 a := by
    show (Int64.ofInt (a : Int)).toBitVec = _
    rw [Int64.toBitVec_ofInt]
    exact BitVec.ofInt_natCast 64 a
  rw [e, BitVec.toNat_ofNat]
  exact Nat.mod_eq_of_lt (by omega)
theorem i64_nat {x : Int64} (h : x.toBitVec.toNat < 9223372036854775808) : x.toInt = (x.toBitVec.toNat : Int) := by
  show x.toBitVec.toInt = _
  exact BitVec.toInt_eq_toNat_of_lt (by omega)
theorem oLor_nat {a b : Nat} (ha : a < 4611686018427387904) (hb : b < 4611686018427387904) : oLor (a : Int) (b : Int) = ((a ||| b : Nat) : Int) := by
  have e : ((jJ (a : Int)) ||| (jJ (b : Int))).toBitVec.toNat = a ||| b := by
    rw [Int64.toBitVec_or, BitVec.toNat_or, jJ_nat (by omega), jJ_nat (by omega)]
  have lt : a ||| b < 2 ^ 62 := Nat.or_lt_two_pow ha hb
  unfold oLor
  rw [i64_nat (by rw [e]; omega), e]
theorem oAnd_7 {z : Int} (h : 0 ≤ z) : oAnd z 7 = z % 8 := by
  obtain ⟨n, rfl⟩ := Int.eq_ofNat_of_zero_le h
  have e : (iI (n : Int) &&& iI 7).toBitVec.toNat = n % 8 := by
    rw [Int32.toBitVec_and, BitVec.toNat_and]
    have e1 : (iI (n : Int)).toBitVec.toNat = n % 4294967296 := by
      have : (iI (n : Int)).toBitVec = BitVec.ofNat 32 n := by
        show (Int32.ofInt (n : Int)).toBitVec = _
        rw [Int32.toBitVec_ofInt]
        exact BitVec.ofInt_natCast 32 n
      rw [this, BitVec.toNat_ofNat]
    rw [e1, show (iI 7).toBitVec.toNat = 2 ^ 3 - 1 by decide +kernel, Nat.and_two_pow_sub_one_eq_mod]
    omega
  unfold oAnd
  show (iI (n : Int) &&& iI 7).toBitVec.toInt = _
  rw [BitVec.toInt_eq_toNat_of_lt (by rw [e]; omega), e]
  omega
def e8 : Nat → Nat
  | 0 => 1
  | n + 1 => 8 * e8 n
theorem e8_s {n : Nat} : e8 (n + 1) = 8 * e8 n := rfl
theorem e8_2 : ∀ n : Nat, e8 n = 2 ^ (3 * n) := by
  intro n
  induction n with
  | zero => rfl
  | succ n ih => rw [e8_s, ih, show 3 * (n + 1) = 3 * n + 3 by omega, Nat.pow_add]; omega
theorem oLshl_8 {d l : Int} (d0 : 0 ≤ d) (d1 : d ≤ 4) (l0 : 0 ≤ l) (l1 : l ≤ 11) : oLshl d (3 * l) = ((d.toNat * e8 l.toNat : Nat) : Int) := by
  have hd : d = 0 ∨ d = 1 ∨ d = 2 ∨ d = 3 ∨ d = 4 := by omega
  have hl : l = 0 ∨ l = 1 ∨ l = 2 ∨ l = 3 ∨ l = 4 ∨ l = 5 ∨ l = 6 ∨ l = 7 ∨ l = 8 ∨ l = 9 ∨ l = 10 ∨ l = 11 := by omega
  rcases hd with rfl | rfl | rfl | rfl | rfl <;> rcases hl with rfl | rfl | rfl | rfl | rfl | rfl | rfl | rfl | rfl | rfl | rfl | rfl <;> decide +kernel
theorem oLushr_8 {a : Nat} {l : Int} (ha : a < 9223372036854775808) (l0 : 0 ≤ l) (l1 : l ≤ 11) : oLushr (a : Int) (3 * l) = ((a / e8 l.toNat : Nat) : Int) := by
  have hs : ((iI (3 * l)).toInt64.toUInt64 &&& Int64.toUInt64 63).toNat = 3 * l.toNat := by
    have hl : l = 0 ∨ l = 1 ∨ l = 2 ∨ l = 3 ∨ l = 4 ∨ l = 5 ∨ l = 6 ∨ l = 7 ∨ l = 8 ∨ l = 9 ∨ l = 10 ∨ l = 11 := by omega
    rcases hl with rfl | rfl | rfl | rfl | rfl | rfl | rfl | rfl | rfl | rfl | rfl | rfl <;> decide +kernel
  have e : ((jJ (a : Int)).toUInt64 >>> ((iI (3 * l)).toInt64.toUInt64 &&& Int64.toUInt64 63)).toInt64.toBitVec.toNat = a / e8 l.toNat := by
    show ((jJ (a : Int)).toUInt64 >>> ((iI (3 * l)).toInt64.toUInt64 &&& Int64.toUInt64 63)).toNat = _
    rw [UInt64.toNat_shiftRight, hs, show (jJ (a : Int)).toUInt64.toNat = a from jJ_nat ha, Nat.mod_eq_of_lt (by omega), Nat.shiftRight_eq_div_pow, e8_2]
  unfold oLushr
  rw [i64_nat (by rw [e]; exact Nat.lt_of_le_of_lt (Nat.div_le_self _ _) ha), e]
/-- one digit more -/
theorem dig_put {a l d : Nat} (ha : a < e8 l) (hd : d ≤ 4) (hl : l ≤ 11) : oLor (a : Int) (oLshl (d : Int) (3 * (l : Int))) = ((a + d * e8 l : Nat) : Int) ∧ a + d * e8 l < e8 (l + 1) := by
  have e11 : e8 l ≤ 8589934592 := by
    have hh : l = 0 ∨ l = 1 ∨ l = 2 ∨ l = 3 ∨ l = 4 ∨ l = 5 ∨ l = 6 ∨ l = 7 ∨ l = 8 ∨ l = 9 ∨ l = 10 ∨ l = 11 := by omega
    rcases hh with rfl | rfl | rfl | rfl | rfl | rfl | rfl | rfl | rfl | rfl | rfl | rfl <;> decide +kernel
  have m : d * e8 l ≤ 4 * e8 l := Nat.mul_le_mul_right _ hd
  rw [oLshl_8 (by omega) (by omega) (by omega) (by omega), Int.toNat_natCast, Int.toNat_natCast, oLor_nat (by omega) (by omega)]
  refine ⟨?_, by rw [e8_s]; omega⟩
  have o := Nat.shiftLeft_add_eq_or_of_lt (b := a) (i := 3 * l) (by rw [← e8_2]; exact ha) d
  rw [Nat.shiftLeft_eq, ← e8_2] at o
  rw [Nat.or_comm, ← o, Nat.add_comm]
/-- a digit is read -/
theorem dig_get {a : Nat} {l : Int} (ha : a < 9223372036854775808) (l0 : 0 ≤ l) (l1 : l ≤ 11) : oAnd (oLushr (a : Int) (3 * l)) 7 = ((a / e8 l.toNat % 8 : Nat) : Int) := by
  rw [oLushr_8 ha l0 l1]
  generalize a / e8 l.toNat = q
  rw [oAnd_7 (by omega)]
  omega
theorem e8_pos : ∀ n : Nat, 0 < e8 n := by
  intro n
  induction n with
  | zero => decide
  | succ n ih => rw [e8_s]; omega
theorem dig_new {a l d : Nat} (ha : a < e8 l) (hd : d ≤ 4) : (a + d * e8 l) / e8 l % 8 = d := by
  have p := e8_pos l
  rw [Nat.add_mul_div_right _ _ p, Nat.div_eq_of_lt ha]
  omega
theorem dig_old {a l d j : Nat} (hj : j < l) : (a + d * e8 l) / e8 j % 8 = a / e8 j % 8 := by
  obtain ⟨k, rfl⟩ : ∃ k, l = j + 1 + k := ⟨l - (j + 1), by omega⟩
  have e : e8 (j + 1 + k) = e8 j * (8 * e8 k) := by
    rw [e8_2, e8_2, e8_2, show 8 * 2 ^ (3 * k) = 2 ^ (3 * k + 3) by rw [Nat.pow_add]; omega, ← Nat.pow_add]
    congr 1; omega
  have p := e8_pos j
  rw [e, show d * (e8 j * (8 * e8 k)) = (d * e8 k * 8) * e8 j by rw [Nat.mul_comm (e8 j), ← Nat.mul_assoc, Nat.mul_comm 8, ← Nat.mul_assoc], Nat.add_mul_div_right _ _ p]
  exact Nat.add_mul_mod_self_right _ _ _

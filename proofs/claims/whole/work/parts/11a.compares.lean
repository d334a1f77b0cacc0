/-! COMPARES OF LONGS, SWITCHES -/
def cmI (a b : Int) : Int := if b < a then 1 else if a = b then 0 else -1
theorem cmI_r (a b : Int) : -2147483648 ≤ cmI a b ∧ cmI a b ≤ 2147483647 := by
  unfold cmI
  split
  · omega
  · split <;> omega
theorem lg_cmpI {a b : Int} (a0 : -9223372036854775808 ≤ a) (a1 : a ≤ 9223372036854775807) (b0 : -9223372036854775808 ≤ b) (b1 : b ≤ 9223372036854775807) : lg_cmp (jJ a) (jJ b) = iI (cmI a b) := by
  unfold lg_cmp cmI
  by_cases h1 : b < a
  · rw [if_pos (show jJ a > jJ b from (jJ_lt b0 b1 a0 a1).mpr h1), if_pos h1]; rfl
  · rw [if_neg (fun q => h1 ((jJ_lt b0 b1 a0 a1).mp q)), if_neg h1]
    by_cases h2 : a = b
    · rw [if_pos (by rw [h2]), if_pos h2]; rfl
    · rw [if_neg (fun q => h2 ((jJ_eq a0 a1 b0 b1).mp q)), if_neg h2]; rfl
theorem cmI_eq (a b : Int) : cmI a b = 0 ↔ a = b := by
  unfold cmI
  split
  · omega
  · split <;> omega
theorem v_lcmp_eqI {P : s_C} {k u n pc : Nat} {h : Nat → sE} {lv : List (Nat × Value)} {st : List Value} {a b : Int} {off : Int} {tgt : Nat} (hdg : decode P.1.2.1 pc = .ok (.lcmp, 1)) (hdg2 : decode P.1.2.1 (pc + 1) = .ok (.ifCond .eq off, 3)) (ht : ((pc + 1 : Nat) : Int) + off = (tgt : Int)) (a0 : -9223372036854775808 ≤ a) (a1 : a ≤ 9223372036854775807) (b0 : -9223372036854775808 ≤ b) (b1 : b ≤ 9223372036854775807) (kt : a = b → V P k u n h tgt lv st) (kf : ¬ a = b → V P k u n h (pc + 1 + 3) lv st) : V P k u n h pc lv (.long (jJ b) :: .long (jJ a) :: st) := v_lcmp hdg (by rw [lg_cmpI a0 a1 b0 b1]; exact v_if_eqI hdg2 ht (cmI_r a b).1 (cmI_r a b).2 (fun q => kt ((cmI_eq a b).mp q)) (fun q => kf (fun q2 => q ((cmI_eq a b).mpr q2))))
theorem cmI_ne (a b : Int) : ¬ cmI a b = 0 ↔ ¬ a = b := by
  unfold cmI
  split
  · omega
  · split <;> omega
theorem v_lcmp_neI {P : s_C} {k u n pc : Nat} {h : Nat → sE} {lv : List (Nat × Value)} {st : List Value} {a b : Int} {off : Int} {tgt : Nat} (hdg : decode P.1.2.1 pc = .ok (.lcmp, 1)) (hdg2 : decode P.1.2.1 (pc + 1) = .ok (.ifCond .ne off, 3)) (ht : ((pc + 1 : Nat) : Int) + off = (tgt : Int)) (a0 : -9223372036854775808 ≤ a) (a1 : a ≤ 9223372036854775807) (b0 : -9223372036854775808 ≤ b) (b1 : b ≤ 9223372036854775807) (kt : ¬ a = b → V P k u n h tgt lv st) (kf : a = b → V P k u n h (pc + 1 + 3) lv st) : V P k u n h pc lv (.long (jJ b) :: .long (jJ a) :: st) := v_lcmp hdg (by rw [lg_cmpI a0 a1 b0 b1]; exact v_if_neI hdg2 ht (cmI_r a b).1 (cmI_r a b).2 (fun q => kt ((cmI_ne a b).mp q)) (fun q => kf ((cmI_eq a b).mp q)))
theorem cmI_lt (a b : Int) : cmI a b < 0 ↔ a < b := by
  unfold cmI
  split
  · omega
  · split <;> omega
theorem v_lcmp_ltI {P : s_C} {k u n pc : Nat} {h : Nat → sE} {lv : List (Nat × Value)} {st : List Value} {a b : Int} {off : Int} {tgt : Nat} (hdg : decode P.1.2.1 pc = .ok (.lcmp, 1)) (hdg2 : decode P.1.2.1 (pc + 1) = .ok (.ifCond .lt off, 3)) (ht : ((pc + 1 : Nat) : Int) + off = (tgt : Int)) (a0 : -9223372036854775808 ≤ a) (a1 : a ≤ 9223372036854775807) (b0 : -9223372036854775808 ≤ b) (b1 : b ≤ 9223372036854775807) (kt : a < b → V P k u n h tgt lv st) (kf : ¬ a < b → V P k u n h (pc + 1 + 3) lv st) : V P k u n h pc lv (.long (jJ b) :: .long (jJ a) :: st) := v_lcmp hdg (by rw [lg_cmpI a0 a1 b0 b1]; exact v_if_ltI hdg2 ht (cmI_r a b).1 (cmI_r a b).2 (fun q => kt ((cmI_lt a b).mp q)) (fun q => kf (fun q2 => q ((cmI_lt a b).mpr q2))))
theorem cmI_ge (a b : Int) : 0 ≤ cmI a b ↔ b ≤ a := by
  unfold cmI
  split
  · omega
  · split <;> omega
theorem v_lcmp_geI {P : s_C} {k u n pc : Nat} {h : Nat → sE} {lv : List (Nat × Value)} {st : List Value} {a b : Int} {off : Int} {tgt : Nat} (hdg : decode P.1.2.1 pc = .ok (.lcmp, 1)) (hdg2 : decode P.1.2.1 (pc + 1) = .ok (.ifCond .ge off, 3)) (ht : ((pc + 1 : Nat) : Int) + off = (tgt : Int)) (a0 : -9223372036854775808 ≤ a) (a1 : a ≤ 9223372036854775807) (b0 : -9223372036854775808 ≤ b) (b1 : b ≤ 9223372036854775807) (kt : b ≤ a → V P k u n h tgt lv st) (kf : ¬ b ≤ a → V P k u n h (pc + 1 + 3) lv st) : V P k u n h pc lv (.long (jJ b) :: .long (jJ a) :: st) := v_lcmp hdg (by rw [lg_cmpI a0 a1 b0 b1]; exact v_if_geI hdg2 ht (cmI_r a b).1 (cmI_r a b).2 (fun q => kt ((cmI_ge a b).mp q)) (fun q => kf (fun q2 => q ((cmI_ge a b).mpr q2))))
theorem cmI_gt (a b : Int) : 0 < cmI a b ↔ b < a := by
  unfold cmI
  split
  · omega
  · split <;> omega
theorem v_lcmp_gtI {P : s_C} {k u n pc : Nat} {h : Nat → sE} {lv : List (Nat × Value)} {st : List Value} {a b : Int} {off : Int} {tgt : Nat} (hdg : decode P.1.2.1 pc = .ok (.lcmp, 1)) (hdg2 : decode P.1.2.1 (pc + 1) = .ok (.ifCond .gt off, 3)) (ht : ((pc + 1 : Nat) : Int) + off = (tgt : Int)) (a0 : -9223372036854775808 ≤ a) (a1 : a ≤ 9223372036854775807) (b0 : -9223372036854775808 ≤ b) (b1 : b ≤ 9223372036854775807) (kt : b < a → V P k u n h tgt lv st) (kf : ¬ b < a → V P k u n h (pc + 1 + 3) lv st) : V P k u n h pc lv (.long (jJ b) :: .long (jJ a) :: st) := v_lcmp hdg (by rw [lg_cmpI a0 a1 b0 b1]; exact v_if_gtI hdg2 ht (cmI_r a b).1 (cmI_r a b).2 (fun q => kt ((cmI_gt a b).mp q)) (fun q => kf (fun q2 => q ((cmI_gt a b).mpr q2))))
theorem cmI_le (a b : Int) : cmI a b ≤ 0 ↔ a ≤ b := by
  unfold cmI
  split
  · omega
  · split <;> omega
theorem v_lcmp_leI {P : s_C} {k u n pc : Nat} {h : Nat → sE} {lv : List (Nat × Value)} {st : List Value} {a b : Int} {off : Int} {tgt : Nat} (hdg : decode P.1.2.1 pc = .ok (.lcmp, 1)) (hdg2 : decode P.1.2.1 (pc + 1) = .ok (.ifCond .le off, 3)) (ht : ((pc + 1 : Nat) : Int) + off = (tgt : Int)) (a0 : -9223372036854775808 ≤ a) (a1 : a ≤ 9223372036854775807) (b0 : -9223372036854775808 ≤ b) (b1 : b ≤ 9223372036854775807) (kt : a ≤ b → V P k u n h tgt lv st) (kf : ¬ a ≤ b → V P k u n h (pc + 1 + 3) lv st) : V P k u n h pc lv (.long (jJ b) :: .long (jJ a) :: st) := v_lcmp hdg (by rw [lg_cmpI a0 a1 b0 b1]; exact v_if_leI hdg2 ht (cmI_r a b).1 (cmI_r a b).2 (fun q => kt ((cmI_le a b).mp q)) (fun q => kf (fun q2 => q ((cmI_le a b).mpr q2))))
theorem v_tabInI {P : s_C} {k u n pc : Nat} {h : Nat → sE} {lv : List (Nat × Value)} {st : List Value} {dflt lo hi : Int} {offs : Array Int} {len : Nat} {a : Int} {off : Int} {tgt : Nat} (z : Int) (hdg : decode P.1.2.1 pc = .ok (.tableswitch dflt lo hi offs, len)) (hz : a = z) (z0 : -2147483648 ≤ z) (z1 : z ≤ 2147483647) (h1 : ¬ z < lo) (h2 : ¬ hi < z) (ho : offs[(z - lo).toNat]? = some off) (ht : (pc : Int) + off = (tgt : Int)) (kk : V P k u n h tgt lv st) : V P k u n h pc lv (.int (iI a) :: st) := by
  subst hz
  exact v_tableIn hdg (by rw [iI_to z0 z1]; exact h1) (by rw [iI_to z0 z1]; exact h2) (by rw [iI_to z0 z1]; exact ho) ht kk
theorem v_tabOutI {P : s_C} {k u n pc : Nat} {h : Nat → sE} {lv : List (Nat × Value)} {st : List Value} {dflt lo hi : Int} {offs : Array Int} {len : Nat} {a : Int} {tgt : Nat} (hdg : decode P.1.2.1 pc = .ok (.tableswitch dflt lo hi offs, len)) (z0 : -2147483648 ≤ a) (z1 : a ≤ 2147483647) (h1 : a < lo ∨ hi < a) (ht : (pc : Int) + dflt = (tgt : Int)) (kk : V P k u n h tgt lv st) : V P k u n h pc lv (.int (iI a) :: st) :=
  v_tableOut hdg (by rw [iI_to z0 z1]; exact h1) ht kk

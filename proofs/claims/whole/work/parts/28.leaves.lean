/-! MORE LEAVES: Sky.covers, winds of clouds, lengths in common -/
theorem dX8_covers_0 : decode cX8_covers 0 = .ok (.iload_n 0, 1) := by decide +kernel
theorem dX8_covers_1 : decode cX8_covers 1 = .ok (.sipush 576, 3) := by decide +kernel
theorem dX8_covers_4 : decode cX8_covers 4 = .ok (.if_icmp .ne 5, 3) := by decide +kernel
theorem dX8_covers_7 : decode cX8_covers 7 = .ok (.iconst 0, 1) := by decide +kernel
theorem dX8_covers_8 : decode cX8_covers 8 = .ok (.ireturn, 1) := by decide +kernel
theorem dX8_covers_9 : decode cX8_covers 9 = .ok (.iload_n 3, 1) := by decide +kernel
theorem dX8_covers_10 : decode cX8_covers 10 = .ok (.bipush 8, 2) := by decide +kernel
theorem dX8_covers_12 : decode cX8_covers 12 = .ok (.irem, 1) := by decide +kernel
theorem dX8_covers_13 : decode cX8_covers 13 = .ok (.iload_n 0, 1) := by decide +kernel
theorem dX8_covers_14 : decode cX8_covers 14 = .ok (.invokestatic 30, 3) := by decide +kernel
theorem dX8_covers_17 : decode cX8_covers 17 = .ok (.isub, 1) := by decide +kernel
theorem dX8_covers_18 : decode cX8_covers 18 = .ok (.istore 4, 2) := by decide +kernel
theorem dX8_covers_20 : decode cX8_covers 20 = .ok (.iload_n 3, 1) := by decide +kernel
theorem dX8_covers_21 : decode cX8_covers 21 = .ok (.bipush 8, 2) := by decide +kernel
theorem dX8_covers_23 : decode cX8_covers 23 = .ok (.idiv, 1) := by decide +kernel
theorem dX8_covers_24 : decode cX8_covers 24 = .ok (.iload_n 0, 1) := by decide +kernel
theorem dX8_covers_25 : decode cX8_covers 25 = .ok (.invokestatic 34, 3) := by decide +kernel
theorem dX8_covers_28 : decode cX8_covers 28 = .ok (.isub, 1) := by decide +kernel
theorem dX8_covers_29 : decode cX8_covers 29 = .ok (.istore 5, 2) := by decide +kernel
theorem dX8_covers_31 : decode cX8_covers 31 = .ok (.iload 4, 2) := by decide +kernel
theorem dX8_covers_33 : decode cX8_covers 33 = .ok (.iconst 0, 1) := by decide +kernel
theorem dX8_covers_34 : decode cX8_covers 34 = .ok (.iload_n 1, 1) := by decide +kernel
theorem dX8_covers_35 : decode cX8_covers 35 = .ok (.iconst 1, 1) := by decide +kernel
theorem dX8_covers_36 : decode cX8_covers 36 = .ok (.isub, 1) := by decide +kernel
theorem dX8_covers_37 : decode cX8_covers 37 = .ok (.invokestatic 26, 3) := by decide +kernel
theorem dX8_covers_40 : decode cX8_covers 40 = .ok (.ifCond .eq 19, 3) := by decide +kernel
theorem dX8_covers_43 : decode cX8_covers 43 = .ok (.iload 5, 2) := by decide +kernel
theorem dX8_covers_45 : decode cX8_covers 45 = .ok (.iconst 0, 1) := by decide +kernel
theorem dX8_covers_46 : decode cX8_covers 46 = .ok (.iload_n 2, 1) := by decide +kernel
theorem dX8_covers_47 : decode cX8_covers 47 = .ok (.iconst 1, 1) := by decide +kernel
theorem dX8_covers_48 : decode cX8_covers 48 = .ok (.isub, 1) := by decide +kernel
theorem dX8_covers_49 : decode cX8_covers 49 = .ok (.invokestatic 26, 3) := by decide +kernel
theorem dX8_covers_52 : decode cX8_covers 52 = .ok (.ifCond .eq 7, 3) := by decide +kernel
theorem dX8_covers_55 : decode cX8_covers 55 = .ok (.iconst 1, 1) := by decide +kernel
theorem dX8_covers_56 : decode cX8_covers 56 = .ok (.goto 4, 3) := by decide +kernel
theorem dX8_covers_59 : decode cX8_covers 59 = .ok (.iconst 0, 1) := by decide +kernel
theorem dX8_covers_60 : decode cX8_covers 60 = .ok (.ireturn, 1) := by decide +kernel
theorem sp_X8_covers {n : Nat} {h : Nat → sE} {s wd tl f : Int}  (rs : 0 ≤ s ∧ s ≤ 576) (rw_ : 0 ≤ wd ∧ wd ≤ 1000) (rt_ : 0 ≤ tl ∧ tl ≤ 1000) (rf : 0 ≤ f ∧ f ≤ 63) : Sp m_X8_covers 2 0 0 [.int (iI s), .int (iI wd), .int (iI tl), .int (iI f)] n h (qR (some (.int (bI (¬ s = 576 ∧ 0 ≤ f % 8 - (s % 24 - 8) ∧ f % 8 - (s % 24 - 8) ≤ wd - 1 ∧ 0 ≤ f / 8 - (s / 24 - 8) ∧ f / 8 - (s / 24 - 8) ≤ tl - 1)))) n h) := by
  refine Sp.ofV (by decide +kernel) (Nat.le_of_ble_eq_true rfl) ?_
  refine v_iload_n dX8_covers_0 rfl ?_
  refine v_sipushI dX8_covers_1 rfl ?_
  refine v_icmp_neI (tgt := 9) dX8_covers_4 (by decide) (by omega) (by omega) (by omega) (by omega) (fun c_1 => ?_) (fun c_1 => ?_)
  · refine v_iload_n dX8_covers_9 rfl ?_
    refine v_bipushI dX8_covers_10 rfl ?_
    refine v_iremI dX8_covers_12 (by omega) (by omega) (by omega) (by omega) ?_
    refine v_iload_n dX8_covers_13 rfl ?_
    refine v_callS dX8_covers_14 ml_X8_30 (sp_X8_xOf (a := s)   (by omega)) rfl rfl (Nat.le_of_ble_eq_true rfl) (Nat.le_of_ble_eq_true rfl) (Nat.zero_le _) (Nat.zero_le _) ⟨Or.inl (fun _ _ _ q => q.2.1), fun r n1 h2 q3 => ?_⟩
    obtain ⟨rfl, rfl, rfl⟩ := q3
    try dsimp only [s_push]
    refine v_isubI dX8_covers_17 ?_
    refine v_istore dX8_covers_18 (Nat.le_of_ble_eq_true rfl) ?_
    refine v_iload_n dX8_covers_20 rfl ?_
    refine v_bipushI dX8_covers_21 rfl ?_
    refine v_idivI dX8_covers_23 (by omega) (by omega) (by omega) (by omega) ?_
    refine v_iload_n dX8_covers_24 rfl ?_
    refine v_callS dX8_covers_25 ml_X8_34 (sp_X8_yOf (a := s)   (by omega)) rfl rfl (Nat.le_of_ble_eq_true rfl) (Nat.le_of_ble_eq_true rfl) (Nat.zero_le _) (Nat.zero_le _) ⟨Or.inl (fun _ _ _ q => q.2.1), fun r n1 h4 q5 => ?_⟩
    obtain ⟨rfl, rfl, rfl⟩ := q5
    try dsimp only [s_push]
    refine v_isubI dX8_covers_28 ?_
    refine v_istore dX8_covers_29 (Nat.le_of_ble_eq_true rfl) ?_
    refine v_iload dX8_covers_31 rfl ?_
    refine v_iconstI dX8_covers_33 ?_
    refine v_iload_n dX8_covers_34 rfl ?_
    refine v_iconstI dX8_covers_35 ?_
    refine v_isubI dX8_covers_36 ?_
    refine v_callS dX8_covers_37 ml_X8_26 (sp_X11_within (a := ((f % 8) - (s % 24 - 8))) (b := 0) (c := (wd - 1))   (by omega) (by omega) (by omega)) rfl rfl (Nat.le_of_ble_eq_true rfl) (Nat.le_of_ble_eq_true rfl) (Nat.zero_le _) (Nat.zero_le _) ⟨Or.inl (fun _ _ _ q => q.2.1), fun r n1 h6 q7 => ?_⟩
    obtain ⟨rfl, rfl, rfl⟩ := q7
    try dsimp only [s_push]
    refine v_ifeqB (tgt := 59) dX8_covers_40 (by decide) (fun c_8 => ?_) (fun c_8 => ?_)
    · refine v_iconstI dX8_covers_59 ?_
      exact v_z0 dX8_covers_60 rfl (Nat.zero_le _) (Nat.zero_le _) (by first | exact ⟨(congrArg (fun x => some (Value.int x)) (bI_f (by omega)).symm), rfl, rfl⟩ | omega)
    · refine v_iload dX8_covers_43 rfl ?_
      refine v_iconstI dX8_covers_45 ?_
      refine v_iload_n dX8_covers_46 rfl ?_
      refine v_iconstI dX8_covers_47 ?_
      refine v_isubI dX8_covers_48 ?_
      refine v_callS dX8_covers_49 ml_X8_26 (sp_X11_within (a := ((f / 8) - (s / 24 - 8))) (b := 0) (c := (tl - 1))   (by omega) (by omega) (by omega)) rfl rfl (Nat.le_of_ble_eq_true rfl) (Nat.le_of_ble_eq_true rfl) (Nat.zero_le _) (Nat.zero_le _) ⟨Or.inl (fun _ _ _ q => q.2.1), fun r n1 h9 q10 => ?_⟩
      obtain ⟨rfl, rfl, rfl⟩ := q10
      try dsimp only [s_push]
      refine v_ifeqB (tgt := 59) dX8_covers_52 (by decide) (fun c_11 => ?_) (fun c_11 => ?_)
      · refine v_iconstI dX8_covers_59 ?_
        exact v_z0 dX8_covers_60 rfl (Nat.zero_le _) (Nat.zero_le _) (by first | exact ⟨(congrArg (fun x => some (Value.int x)) (bI_f (by omega)).symm), rfl, rfl⟩ | omega)
      · refine v_iconstI dX8_covers_55 ?_
        refine v_goto (tgt := 60) dX8_covers_56 (by decide) ?_
        exact v_z1 dX8_covers_60 rfl (Nat.zero_le _) (Nat.zero_le _) (by first | exact ⟨(congrArg (fun x => some (Value.int x)) (bI_t (by omega)).symm), rfl, rfl⟩ | omega)
  · refine v_iconstI dX8_covers_7 ?_
    exact v_z0 dX8_covers_8 rfl (Nat.zero_le _) (Nat.zero_le _) (by first | exact ⟨(congrArg (fun x => some (Value.int x)) (bI_f (by omega)).symm), rfl, rfl⟩ | omega)
theorem dX3_commonLength_0 : decode cX3_commonLength 0 = .ok (.iconst 0, 1) := by decide +kernel
theorem dX3_commonLength_1 : decode cX3_commonLength 1 = .ok (.iload_n 0, 1) := by decide +kernel
theorem dX3_commonLength_2 : decode cX3_commonLength 2 = .ok (.iload_n 2, 1) := by decide +kernel
theorem dX3_commonLength_3 : decode cX3_commonLength 3 = .ok (.invokestatic 99, 3) := by decide +kernel
theorem dX3_commonLength_6 : decode cX3_commonLength 6 = .ok (.invokestatic 99, 3) := by decide +kernel
theorem dX3_commonLength_9 : decode cX3_commonLength 9 = .ok (.istore 4, 2) := by decide +kernel
theorem dX3_commonLength_11 : decode cX3_commonLength 11 = .ok (.bipush 8, 2) := by decide +kernel
theorem dX3_commonLength_13 : decode cX3_commonLength 13 = .ok (.iload_n 0, 1) := by decide +kernel
theorem dX3_commonLength_14 : decode cX3_commonLength 14 = .ok (.iload_n 1, 1) := by decide +kernel
theorem dX3_commonLength_15 : decode cX3_commonLength 15 = .ok (.iadd, 1) := by decide +kernel
theorem dX3_commonLength_16 : decode cX3_commonLength 16 = .ok (.iload_n 2, 1) := by decide +kernel
theorem dX3_commonLength_17 : decode cX3_commonLength 17 = .ok (.iload_n 3, 1) := by decide +kernel
theorem dX3_commonLength_18 : decode cX3_commonLength 18 = .ok (.iadd, 1) := by decide +kernel
theorem dX3_commonLength_19 : decode cX3_commonLength 19 = .ok (.invokestatic 104, 3) := by decide +kernel
theorem dX3_commonLength_22 : decode cX3_commonLength 22 = .ok (.invokestatic 104, 3) := by decide +kernel
theorem dX3_commonLength_25 : decode cX3_commonLength 25 = .ok (.istore 5, 2) := by decide +kernel
theorem dX3_commonLength_27 : decode cX3_commonLength 27 = .ok (.iconst 0, 1) := by decide +kernel
theorem dX3_commonLength_28 : decode cX3_commonLength 28 = .ok (.iload 5, 2) := by decide +kernel
theorem dX3_commonLength_30 : decode cX3_commonLength 30 = .ok (.iload 4, 2) := by decide +kernel
theorem dX3_commonLength_32 : decode cX3_commonLength 32 = .ok (.isub, 1) := by decide +kernel
theorem dX3_commonLength_33 : decode cX3_commonLength 33 = .ok (.invokestatic 99, 3) := by decide +kernel
theorem dX3_commonLength_36 : decode cX3_commonLength 36 = .ok (.ireturn, 1) := by decide +kernel
theorem sp_X3_commonLength {n : Nat} {h : Nat → sE} {a b c d : Int}  (ra : -1000 ≤ a ∧ a ≤ 1000) (rb : -1000 ≤ b ∧ b ≤ 1000) (rc : -1000 ≤ c ∧ c ≤ 1000) (rd : -1000 ≤ d ∧ d ≤ 1000) : Sp m_X3_commonLength 1 0 0 [.int (iI a), .int (iI b), .int (iI c), .int (iI d)] n h (qR (some (.int (iI (max 0 (min 8 (min (a + b) (c + d)) - max 0 (max a c)))))) n h) := by
  refine Sp.ofV (by decide +kernel) (Nat.le_of_ble_eq_true rfl) ?_
  refine v_iconstI dX3_commonLength_0 ?_
  refine v_iload_n dX3_commonLength_1 rfl ?_
  refine v_iload_n dX3_commonLength_2 rfl ?_
  refine v_maxI dX3_commonLength_3 ml_X3_99 (Nat.le_of_ble_eq_true rfl) (Nat.le_of_ble_eq_true rfl) (Nat.zero_le _) (Nat.zero_le _) (by omega) (by omega) (by omega) (by omega) ?_
  refine v_maxI dX3_commonLength_6 ml_X3_99 (Nat.le_of_ble_eq_true rfl) (Nat.le_of_ble_eq_true rfl) (Nat.zero_le _) (Nat.zero_le _) (by omega) (by omega) (by omega) (by omega) ?_
  refine v_istore dX3_commonLength_9 (Nat.le_of_ble_eq_true rfl) ?_
  refine v_bipushI dX3_commonLength_11 rfl ?_
  refine v_iload_n dX3_commonLength_13 rfl ?_
  refine v_iload_n dX3_commonLength_14 rfl ?_
  refine v_iaddI dX3_commonLength_15 ?_
  refine v_iload_n dX3_commonLength_16 rfl ?_
  refine v_iload_n dX3_commonLength_17 rfl ?_
  refine v_iaddI dX3_commonLength_18 ?_
  refine v_minI dX3_commonLength_19 ml_X3_104 (Nat.le_of_ble_eq_true rfl) (Nat.le_of_ble_eq_true rfl) (Nat.zero_le _) (Nat.zero_le _) (by omega) (by omega) (by omega) (by omega) ?_
  refine v_minI dX3_commonLength_22 ml_X3_104 (Nat.le_of_ble_eq_true rfl) (Nat.le_of_ble_eq_true rfl) (Nat.zero_le _) (Nat.zero_le _) (by omega) (by omega) (by omega) (by omega) ?_
  refine v_istore dX3_commonLength_25 (Nat.le_of_ble_eq_true rfl) ?_
  refine v_iconstI dX3_commonLength_27 ?_
  refine v_iload dX3_commonLength_28 rfl ?_
  refine v_iload dX3_commonLength_30 rfl ?_
  refine v_isubI dX3_commonLength_32 ?_
  refine v_maxI dX3_commonLength_33 ml_X3_99 (Nat.le_of_ble_eq_true rfl) (Nat.le_of_ble_eq_true rfl) (Nat.zero_le _) (Nat.zero_le _) (by omega) (by omega) (by omega) (by omega) ?_
  exact v_iret dX3_commonLength_36 rfl (Nat.zero_le _) (Nat.zero_le _) (by first | exact ⟨(congrArg (fun x => some (Value.int x)) (congrArg iI (by first | rfl | omega | (split <;> first | rfl | omega | (split <;> first | rfl | omega))))), rfl, rfl⟩ | omega)

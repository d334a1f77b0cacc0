/-! THE REFERENCE: its small methods -/
theorem dX12_in_0 : decode cX12_in 0 = .ok (.lload_n 0, 1) := by decide +kernel
theorem dX12_in_1 : decode cX12_in 1 = .ok (.lload_n 2, 1) := by decide +kernel
theorem dX12_in_2 : decode cX12_in 2 = .ok (.lcmp, 1) := by decide +kernel
theorem dX12_in_3 : decode cX12_in 3 = .ok (.ifCond .lt 14, 3) := by decide +kernel
theorem dX12_in_6 : decode cX12_in 6 = .ok (.lload_n 0, 1) := by decide +kernel
theorem dX12_in_7 : decode cX12_in 7 = .ok (.lload 4, 2) := by decide +kernel
theorem dX12_in_9 : decode cX12_in 9 = .ok (.lcmp, 1) := by decide +kernel
theorem dX12_in_10 : decode cX12_in 10 = .ok (.ifCond .gt 7, 3) := by decide +kernel
theorem dX12_in_13 : decode cX12_in 13 = .ok (.iconst 1, 1) := by decide +kernel
theorem dX12_in_14 : decode cX12_in 14 = .ok (.goto 4, 3) := by decide +kernel
theorem dX12_in_17 : decode cX12_in 17 = .ok (.iconst 0, 1) := by decide +kernel
theorem dX12_in_18 : decode cX12_in 18 = .ok (.ireturn, 1) := by decide +kernel
theorem sp_X12_in {n : Nat} {h : Nat → sE} {v lo hi : Int}  (rv : -9223372036854775808 ≤ v ∧ v ≤ 9223372036854775807) (rlo : -9223372036854775808 ≤ lo ∧ lo ≤ 9223372036854775807) (rhi : -9223372036854775808 ≤ hi ∧ hi ≤ 9223372036854775807) : Sp m_X12_in 0 0 0 [.long (jJ v), .long (jJ lo), .long (jJ hi)] n h (qR (some (.int (bI (lo ≤ v ∧ v ≤ hi)))) n h) := by
  refine Sp.ofV (by decide +kernel) (Nat.le_of_ble_eq_true rfl) ?_
  refine v_lload_n dX12_in_0 rfl ?_
  refine v_lload_n dX12_in_1 rfl ?_
  refine v_lcmp_ltI (tgt := 17) dX12_in_2 dX12_in_3 (by decide) (by omega) (by omega) (by omega) (by omega) (fun c_1 => ?_) (fun c_1 => ?_)
  · refine v_iconstI dX12_in_17 ?_
    exact v_z0 dX12_in_18 rfl (Nat.zero_le _) (Nat.zero_le _) (by first | exact ⟨(congrArg (fun x => some (Value.int x)) (bI_f (by omega)).symm), rfl, rfl⟩ | omega)
  · refine v_lload_n dX12_in_6 rfl ?_
    refine v_lload dX12_in_7 rfl ?_
    refine v_lcmp_gtI (tgt := 17) dX12_in_9 dX12_in_10 (by decide) (by omega) (by omega) (by omega) (by omega) (fun c_2 => ?_) (fun c_2 => ?_)
    · refine v_iconstI dX12_in_17 ?_
      exact v_z0 dX12_in_18 rfl (Nat.zero_le _) (Nat.zero_le _) (by first | exact ⟨(congrArg (fun x => some (Value.int x)) (bI_f (by omega)).symm), rfl, rfl⟩ | omega)
    · refine v_iconstI dX12_in_13 ?_
      refine v_goto (tgt := 18) dX12_in_14 (by decide) ?_
      exact v_z1 dX12_in_18 rfl (Nat.zero_le _) (Nat.zero_le _) (by first | exact ⟨(congrArg (fun x => some (Value.int x)) (bI_t (by omega)).symm), rfl, rfl⟩ | omega)
theorem dX12_within_0 : decode cX12_within 0 = .ok (.lload_n 0, 1) := by decide +kernel
theorem dX12_within_1 : decode cX12_within 1 = .ok (.iload_n 2, 1) := by decide +kernel
theorem dX12_within_2 : decode cX12_within 2 = .ok (.i2l, 1) := by decide +kernel
theorem dX12_within_3 : decode cX12_within 3 = .ok (.lcmp, 1) := by decide +kernel
theorem dX12_within_4 : decode cX12_within 4 = .ok (.ifCond .ge 7, 3) := by decide +kernel
theorem dX12_within_7 : decode cX12_within 7 = .ok (.iload_n 2, 1) := by decide +kernel
theorem dX12_within_8 : decode cX12_within 8 = .ok (.goto 16, 3) := by decide +kernel
theorem dX12_within_11 : decode cX12_within 11 = .ok (.lload_n 0, 1) := by decide +kernel
theorem dX12_within_12 : decode cX12_within 12 = .ok (.iload_n 3, 1) := by decide +kernel
theorem dX12_within_13 : decode cX12_within 13 = .ok (.i2l, 1) := by decide +kernel
theorem dX12_within_14 : decode cX12_within 14 = .ok (.lcmp, 1) := by decide +kernel
theorem dX12_within_15 : decode cX12_within 15 = .ok (.ifCond .le 7, 3) := by decide +kernel
theorem dX12_within_18 : decode cX12_within 18 = .ok (.iload_n 3, 1) := by decide +kernel
theorem dX12_within_19 : decode cX12_within 19 = .ok (.goto 5, 3) := by decide +kernel
theorem dX12_within_22 : decode cX12_within 22 = .ok (.lload_n 0, 1) := by decide +kernel
theorem dX12_within_23 : decode cX12_within 23 = .ok (.l2i, 1) := by decide +kernel
theorem dX12_within_24 : decode cX12_within 24 = .ok (.ireturn, 1) := by decide +kernel
theorem sp_X12_within {n : Nat} {h : Nat → sE} {v a b : Int}  (rv : -9223372036854775808 ≤ v ∧ v ≤ 9223372036854775807) (ra : -2147483648 ≤ a ∧ a ≤ 2147483647) (rb : -2147483648 ≤ b ∧ b ≤ 2147483647) : Sp m_X12_within 0 0 0 [.long (jJ v), .int (iI a), .int (iI b)] n h (qR (some (.int (iI (if v < a then a else if b < v then b else v)))) n h) := by
  refine Sp.ofV (by decide +kernel) (Nat.le_of_ble_eq_true rfl) ?_
  refine v_lload_n dX12_within_0 rfl ?_
  refine v_iload_n dX12_within_1 rfl ?_
  refine v_i2lI dX12_within_2 (by omega) (by omega) ?_
  refine v_lcmp_geI (tgt := 11) dX12_within_3 dX12_within_4 (by decide) (by omega) (by omega) (by omega) (by omega) (fun c_1 => ?_) (fun c_1 => ?_)
  · refine v_lload_n dX12_within_11 rfl ?_
    refine v_iload_n dX12_within_12 rfl ?_
    refine v_i2lI dX12_within_13 (by omega) (by omega) ?_
    refine v_lcmp_leI (tgt := 22) dX12_within_14 dX12_within_15 (by decide) (by omega) (by omega) (by omega) (by omega) (fun c_2 => ?_) (fun c_2 => ?_)
    · refine v_lload_n dX12_within_22 rfl ?_
      refine v_l2iI dX12_within_23 ?_
      exact v_iret dX12_within_24 rfl (Nat.zero_le _) (Nat.zero_le _) (by first | exact ⟨(congrArg (fun x => some (Value.int x)) (congrArg iI (by first | rfl | omega | (split <;> first | rfl | omega | (split <;> first | rfl | omega))))), rfl, rfl⟩ | omega)
    · refine v_iload_n dX12_within_18 rfl ?_
      refine v_goto (tgt := 24) dX12_within_19 (by decide) ?_
      exact v_iret dX12_within_24 rfl (Nat.zero_le _) (Nat.zero_le _) (by first | exact ⟨(congrArg (fun x => some (Value.int x)) (congrArg iI (by first | rfl | omega | (split <;> first | rfl | omega | (split <;> first | rfl | omega))))), rfl, rfl⟩ | omega)
  · refine v_iload_n dX12_within_7 rfl ?_
    refine v_goto (tgt := 24) dX12_within_8 (by decide) ?_
    exact v_iret dX12_within_24 rfl (Nat.zero_le _) (Nat.zero_le _) (by first | exact ⟨(congrArg (fun x => some (Value.int x)) (congrArg iI (by first | rfl | omega | (split <;> first | rfl | omega | (split <;> first | rfl | omega))))), rfl, rfl⟩ | omega)
theorem dX12_isField_0 : decode cX12_isField 0 = .ok (.iload_n 0, 1) := by decide +kernel
theorem dX12_isField_1 : decode cX12_isField 1 = .ok (.i2l, 1) := by decide +kernel
theorem dX12_isField_2 : decode cX12_isField 2 = .ok (.lconst 0, 1) := by decide +kernel
theorem dX12_isField_3 : decode cX12_isField 3 = .ok (.ldc2_w 183, 3) := by decide +kernel
theorem dX12_isField_6 : decode cX12_isField 6 = .ok (.invokestatic 175, 3) := by decide +kernel
theorem dX12_isField_9 : decode cX12_isField 9 = .ok (.ireturn, 1) := by decide +kernel
theorem sp_X12_isField {n : Nat} {h : Nat → sE} {a : Int}  (ra : -2147483648 ≤ a ∧ a ≤ 2147483647) : Sp m_X12_isField 1 0 0 [.int (iI a)] n h (qR (some (.int (bI (0 ≤ a ∧ a ≤ 63)))) n h) := by
  refine Sp.ofV (by decide +kernel) (Nat.le_of_ble_eq_true rfl) ?_
  refine v_iload_n dX12_isField_0 rfl ?_
  refine v_i2lI dX12_isField_1 (by omega) (by omega) ?_
  refine v_lconstI (w := 0) dX12_isField_2 rfl ?_
  refine v_ldc2I 63 dX12_isField_3 k_X12_183 rfl ?_
  refine v_callS dX12_isField_6 ml_X12_175 (sp_X12_in (v := a) (lo := 0) (hi := 63)   (by omega) (by omega) (by omega)) rfl rfl (Nat.le_of_ble_eq_true rfl) (Nat.le_of_ble_eq_true rfl) (Nat.zero_le _) (Nat.zero_le _) ⟨Or.inl (fun _ _ _ q => q.2.1), fun r n1 h1 q2 => ?_⟩
  obtain ⟨rfl, rfl, rfl⟩ := q2
  try dsimp only [s_push]
  exact v_bretI dX12_isField_9 rfl (Nat.zero_le _) (Nat.zero_le _) (by first | exact ⟨(congrArg (fun x => some (Value.int x)) (bI_iff (by omega))), rfl, rfl⟩ | omega)
theorem dX12_isHour_0 : decode cX12_isHour 0 = .ok (.iload_n 0, 1) := by decide +kernel
theorem dX12_isHour_1 : decode cX12_isHour 1 = .ok (.i2l, 1) := by decide +kernel
theorem dX12_isHour_2 : decode cX12_isHour 2 = .ok (.lconst 0, 1) := by decide +kernel
theorem dX12_isHour_3 : decode cX12_isHour 3 = .ok (.ldc2_w 185, 3) := by decide +kernel
theorem dX12_isHour_6 : decode cX12_isHour 6 = .ok (.invokestatic 175, 3) := by decide +kernel
theorem dX12_isHour_9 : decode cX12_isHour 9 = .ok (.ireturn, 1) := by decide +kernel
theorem sp_X12_isHour {n : Nat} {h : Nat → sE} {a : Int}  (ra : -2147483648 ≤ a ∧ a ≤ 2147483647) : Sp m_X12_isHour 1 0 0 [.int (iI a)] n h (qR (some (.int (bI (0 ≤ a ∧ a ≤ 11)))) n h) := by
  refine Sp.ofV (by decide +kernel) (Nat.le_of_ble_eq_true rfl) ?_
  refine v_iload_n dX12_isHour_0 rfl ?_
  refine v_i2lI dX12_isHour_1 (by omega) (by omega) ?_
  refine v_lconstI (w := 0) dX12_isHour_2 rfl ?_
  refine v_ldc2I 11 dX12_isHour_3 k_X12_185 rfl ?_
  refine v_callS dX12_isHour_6 ml_X12_175 (sp_X12_in (v := a) (lo := 0) (hi := 11)   (by omega) (by omega) (by omega)) rfl rfl (Nat.le_of_ble_eq_true rfl) (Nat.le_of_ble_eq_true rfl) (Nat.zero_le _) (Nat.zero_le _) ⟨Or.inl (fun _ _ _ q => q.2.1), fun r n1 h1 q2 => ?_⟩
  obtain ⟨rfl, rfl, rfl⟩ := q2
  try dsimp only [s_push]
  exact v_bretI dX12_isHour_9 rfl (Nat.zero_le _) (Nat.zero_le _) (by first | exact ⟨(congrArg (fun x => some (Value.int x)) (bI_iff (by omega))), rfl, rfl⟩ | omega)
theorem dX12_isPlace_0 : decode cX12_isPlace 0 = .ok (.iload_n 0, 1) := by decide +kernel
theorem dX12_isPlace_1 : decode cX12_isPlace 1 = .ok (.i2l, 1) := by decide +kernel
theorem dX12_isPlace_2 : decode cX12_isPlace 2 = .ok (.ldc2_w 187, 3) := by decide +kernel
theorem dX12_isPlace_5 : decode cX12_isPlace 5 = .ok (.ldc2_w 189, 3) := by decide +kernel
theorem dX12_isPlace_8 : decode cX12_isPlace 8 = .ok (.invokestatic 175, 3) := by decide +kernel
theorem dX12_isPlace_11 : decode cX12_isPlace 11 = .ok (.ireturn, 1) := by decide +kernel
theorem sp_X12_isPlace {n : Nat} {h : Nat → sE} {a : Int}  (ra : -2147483648 ≤ a ∧ a ≤ 2147483647) : Sp m_X12_isPlace 1 0 0 [.int (iI a)] n h (qR (some (.int (bI (-8 ≤ a ∧ a ≤ 15)))) n h) := by
  refine Sp.ofV (by decide +kernel) (Nat.le_of_ble_eq_true rfl) ?_
  refine v_iload_n dX12_isPlace_0 rfl ?_
  refine v_i2lI dX12_isPlace_1 (by omega) (by omega) ?_
  refine v_ldc2I (-8) dX12_isPlace_2 k_X12_187 rfl ?_
  refine v_ldc2I 15 dX12_isPlace_5 k_X12_189 rfl ?_
  refine v_callS dX12_isPlace_8 ml_X12_175 (sp_X12_in (v := a) (lo := (-8)) (hi := 15)   (by omega) (by omega) (by omega)) rfl rfl (Nat.le_of_ble_eq_true rfl) (Nat.le_of_ble_eq_true rfl) (Nat.zero_le _) (Nat.zero_le _) ⟨Or.inl (fun _ _ _ q => q.2.1), fun r n1 h1 q2 => ?_⟩
  obtain ⟨rfl, rfl, rfl⟩ := q2
  try dsimp only [s_push]
  exact v_bretI dX12_isPlace_11 rfl (Nat.zero_le _) (Nat.zero_le _) (by first | exact ⟨(congrArg (fun x => some (Value.int x)) (bI_iff (by omega))), rfl, rfl⟩ | omega)
theorem dX12_isCloud_0 : decode cX12_isCloud 0 = .ok (.iload_n 1, 1) := by decide +kernel
theorem dX12_isCloud_1 : decode cX12_isCloud 1 = .ok (.i2l, 1) := by decide +kernel
theorem dX12_isCloud_2 : decode cX12_isCloud 2 = .ok (.lconst 0, 1) := by decide +kernel
theorem dX12_isCloud_3 : decode cX12_isCloud 3 = .ok (.aload_n 0, 1) := by decide +kernel
theorem dX12_isCloud_4 : decode cX12_isCloud 4 = .ok (.getfield 13, 3) := by decide +kernel
theorem dX12_isCloud_7 : decode cX12_isCloud 7 = .ok (.iconst 0, 1) := by decide +kernel
theorem dX12_isCloud_8 : decode cX12_isCloud 8 = .ok (.iaload, 1) := by decide +kernel
theorem dX12_isCloud_9 : decode cX12_isCloud 9 = .ok (.i2l, 1) := by decide +kernel
theorem dX12_isCloud_10 : decode cX12_isCloud 10 = .ok (.lconst 1, 1) := by decide +kernel
theorem dX12_isCloud_11 : decode cX12_isCloud 11 = .ok (.lsub, 1) := by decide +kernel
theorem dX12_isCloud_12 : decode cX12_isCloud 12 = .ok (.invokestatic 175, 3) := by decide +kernel
theorem dX12_isCloud_15 : decode cX12_isCloud 15 = .ok (.ireturn, 1) := by decide +kernel
theorem sp_X12_isCloud {n : Nat} {h : Nat → sE} {a : Int}  {g77 g79 : Int → Int} (hn : 115 ≤ n) (H77 : h 77 = ent 77 g77) (H79 : h 79 = ent 79 g79) (ra : -2147483648 ≤ a ∧ a ≤ 2147483647) (i0 : 0 ≤ g79 0 ∧ g79 0 ≤ 5) : Sp m_X12_isCloud 1 0 0 [.ref 77, .int (iI a)] n h (qR (some (.int (bI (0 ≤ a ∧ a ≤ g79 0 - 1)))) n h) := by
  refine Sp.ofV (by decide +kernel) (Nat.le_of_ble_eq_true rfl) ?_
  refine v_iload_n dX12_isCloud_0 rfl ?_
  refine v_i2lI dX12_isCloud_1 (by omega) (by omega) ?_
  refine v_lconstI (w := 0) dX12_isCloud_2 rfl ?_
  refine v_aload_n dX12_isCloud_3 rfl ?_
  refine v_get dX12_isCloud_4 fl_X12_13 (H77.trans (ent_77 _)) rfl (s_lt hn rfl) ?_
  refine v_iconstI dX12_isCloud_7 ?_
  refine v_ialdI dX12_isCloud_8 (H79.trans (ent_79 _)) (s_lt hn rfl) (by omega) (by omega) (by omega) ?_
  refine v_i2lI dX12_isCloud_9 (by omega) (by omega) ?_
  refine v_lconstI (w := 1) dX12_isCloud_10 rfl ?_
  refine v_lsubI dX12_isCloud_11 ?_
  refine v_callS dX12_isCloud_12 ml_X12_175 (sp_X12_in (v := a) (lo := 0) (hi := ((g79 0) - 1))   (by omega) (by omega) (by omega)) rfl rfl (Nat.le_of_ble_eq_true rfl) (Nat.le_of_ble_eq_true rfl) (Nat.zero_le _) (Nat.zero_le _) ⟨Or.inl (fun _ _ _ q => q.2.1), fun r n1 h1 q2 => ?_⟩
  obtain ⟨rfl, rfl, rfl⟩ := q2
  try dsimp only [s_push]
  exact v_bretI dX12_isCloud_15 rfl (Nat.zero_le _) (Nat.zero_le _) (by first | exact ⟨(congrArg (fun x => some (Value.int x)) (bI_iff (by omega))), rfl, rfl⟩ | omega)
theorem dX12_isShape_0 : decode cX12_isShape 0 = .ok (.iload_n 0, 1) := by decide +kernel
theorem dX12_isShape_1 : decode cX12_isShape 1 = .ok (.i2l, 1) := by decide +kernel
theorem dX12_isShape_2 : decode cX12_isShape 2 = .ok (.lconst 1, 1) := by decide +kernel
theorem dX12_isShape_3 : decode cX12_isShape 3 = .ok (.ldc2_w 210, 3) := by decide +kernel
theorem dX12_isShape_6 : decode cX12_isShape 6 = .ok (.invokestatic 175, 3) := by decide +kernel
theorem dX12_isShape_9 : decode cX12_isShape 9 = .ok (.ifCond .eq 31, 3) := by decide +kernel
theorem dX12_isShape_12 : decode cX12_isShape 12 = .ok (.iload_n 1, 1) := by decide +kernel
theorem dX12_isShape_13 : decode cX12_isShape 13 = .ok (.i2l, 1) := by decide +kernel
theorem dX12_isShape_14 : decode cX12_isShape 14 = .ok (.lconst 1, 1) := by decide +kernel
theorem dX12_isShape_15 : decode cX12_isShape 15 = .ok (.ldc2_w 210, 3) := by decide +kernel
theorem dX12_isShape_18 : decode cX12_isShape 18 = .ok (.invokestatic 175, 3) := by decide +kernel
theorem dX12_isShape_21 : decode cX12_isShape 21 = .ok (.ifCond .eq 19, 3) := by decide +kernel
theorem dX12_isShape_24 : decode cX12_isShape 24 = .ok (.iload_n 2, 1) := by decide +kernel
theorem dX12_isShape_25 : decode cX12_isShape 25 = .ok (.i2l, 1) := by decide +kernel
theorem dX12_isShape_26 : decode cX12_isShape 26 = .ok (.lconst 0, 1) := by decide +kernel
theorem dX12_isShape_27 : decode cX12_isShape 27 = .ok (.ldc2_w 203, 3) := by decide +kernel
theorem dX12_isShape_30 : decode cX12_isShape 30 = .ok (.invokestatic 175, 3) := by decide +kernel
theorem dX12_isShape_33 : decode cX12_isShape 33 = .ok (.ifCond .eq 7, 3) := by decide +kernel
theorem dX12_isShape_36 : decode cX12_isShape 36 = .ok (.iconst 1, 1) := by decide +kernel
theorem dX12_isShape_37 : decode cX12_isShape 37 = .ok (.goto 4, 3) := by decide +kernel
theorem dX12_isShape_40 : decode cX12_isShape 40 = .ok (.iconst 0, 1) := by decide +kernel
theorem dX12_isShape_41 : decode cX12_isShape 41 = .ok (.ireturn, 1) := by decide +kernel
theorem sp_X12_isShape {n : Nat} {h : Nat → sE} {a b c : Int}  (ra : -2147483648 ≤ a ∧ a ≤ 2147483647) (rb : -2147483648 ≤ b ∧ b ≤ 2147483647) (rc : -2147483648 ≤ c ∧ c ≤ 2147483647) : Sp m_X12_isShape 1 0 0 [.int (iI a), .int (iI b), .int (iI c)] n h (qR (some (.int (bI (1 ≤ a ∧ a ≤ 3 ∧ 1 ≤ b ∧ b ≤ 3 ∧ 0 ≤ c ∧ c ≤ 2)))) n h) := by
  refine Sp.ofV (by decide +kernel) (Nat.le_of_ble_eq_true rfl) ?_
  refine v_iload_n dX12_isShape_0 rfl ?_
  refine v_i2lI dX12_isShape_1 (by omega) (by omega) ?_
  refine v_lconstI (w := 1) dX12_isShape_2 rfl ?_
  refine v_ldc2I 3 dX12_isShape_3 k_X12_210 rfl ?_
  refine v_callS dX12_isShape_6 ml_X12_175 (sp_X12_in (v := a) (lo := 1) (hi := 3)   (by omega) (by omega) (by omega)) rfl rfl (Nat.le_of_ble_eq_true rfl) (Nat.le_of_ble_eq_true rfl) (Nat.zero_le _) (Nat.zero_le _) ⟨Or.inl (fun _ _ _ q => q.2.1), fun r n1 h1 q2 => ?_⟩
  obtain ⟨rfl, rfl, rfl⟩ := q2
  try dsimp only [s_push]
  refine v_ifeqB (tgt := 40) dX12_isShape_9 (by decide) (fun c_3 => ?_) (fun c_3 => ?_)
  · refine v_iconstI dX12_isShape_40 ?_
    exact v_z0 dX12_isShape_41 rfl (Nat.zero_le _) (Nat.zero_le _) (by first | exact ⟨(congrArg (fun x => some (Value.int x)) (bI_f (by omega)).symm), rfl, rfl⟩ | omega)
  · refine v_iload_n dX12_isShape_12 rfl ?_
    refine v_i2lI dX12_isShape_13 (by omega) (by omega) ?_
    refine v_lconstI (w := 1) dX12_isShape_14 rfl ?_
    refine v_ldc2I 3 dX12_isShape_15 k_X12_210 rfl ?_
    refine v_callS dX12_isShape_18 ml_X12_175 (sp_X12_in (v := b) (lo := 1) (hi := 3)   (by omega) (by omega) (by omega)) rfl rfl (Nat.le_of_ble_eq_true rfl) (Nat.le_of_ble_eq_true rfl) (Nat.zero_le _) (Nat.zero_le _) ⟨Or.inl (fun _ _ _ q => q.2.1), fun r n1 h4 q5 => ?_⟩
    obtain ⟨rfl, rfl, rfl⟩ := q5
    try dsimp only [s_push]
    refine v_ifeqB (tgt := 40) dX12_isShape_21 (by decide) (fun c_6 => ?_) (fun c_6 => ?_)
    · refine v_iconstI dX12_isShape_40 ?_
      exact v_z0 dX12_isShape_41 rfl (Nat.zero_le _) (Nat.zero_le _) (by first | exact ⟨(congrArg (fun x => some (Value.int x)) (bI_f (by omega)).symm), rfl, rfl⟩ | omega)
    · refine v_iload_n dX12_isShape_24 rfl ?_
      refine v_i2lI dX12_isShape_25 (by omega) (by omega) ?_
      refine v_lconstI (w := 0) dX12_isShape_26 rfl ?_
      refine v_ldc2I 2 dX12_isShape_27 k_X12_203 rfl ?_
      refine v_callS dX12_isShape_30 ml_X12_175 (sp_X12_in (v := c) (lo := 0) (hi := 2)   (by omega) (by omega) (by omega)) rfl rfl (Nat.le_of_ble_eq_true rfl) (Nat.le_of_ble_eq_true rfl) (Nat.zero_le _) (Nat.zero_le _) ⟨Or.inl (fun _ _ _ q => q.2.1), fun r n1 h7 q8 => ?_⟩
      obtain ⟨rfl, rfl, rfl⟩ := q8
      try dsimp only [s_push]
      refine v_ifeqB (tgt := 40) dX12_isShape_33 (by decide) (fun c_9 => ?_) (fun c_9 => ?_)
      · refine v_iconstI dX12_isShape_40 ?_
        exact v_z0 dX12_isShape_41 rfl (Nat.zero_le _) (Nat.zero_le _) (by first | exact ⟨(congrArg (fun x => some (Value.int x)) (bI_f (by omega)).symm), rfl, rfl⟩ | omega)
      · refine v_iconstI dX12_isShape_36 ?_
        refine v_goto (tgt := 41) dX12_isShape_37 (by decide) ?_
        exact v_z1 dX12_isShape_41 rfl (Nat.zero_le _) (Nat.zero_le _) (by first | exact ⟨(congrArg (fun x => some (Value.int x)) (bI_t (by omega)).symm), rfl, rfl⟩ | omega)
theorem dX12_ofCloud_0 : decode cX12_ofCloud 0 = .ok (.aload_n 0, 1) := by decide +kernel
theorem dX12_ofCloud_1 : decode cX12_ofCloud 1 = .ok (.getfield 13, 3) := by decide +kernel
theorem dX12_ofCloud_4 : decode cX12_ofCloud 4 = .ok (.bipush 15, 2) := by decide +kernel
theorem dX12_ofCloud_6 : decode cX12_ofCloud 6 = .ok (.iconst 5, 1) := by decide +kernel
theorem dX12_ofCloud_7 : decode cX12_ofCloud 7 = .ok (.iload_n 1, 1) := by decide +kernel
theorem dX12_ofCloud_8 : decode cX12_ofCloud 8 = .ok (.imul, 1) := by decide +kernel
theorem dX12_ofCloud_9 : decode cX12_ofCloud 9 = .ok (.iadd, 1) := by decide +kernel
theorem dX12_ofCloud_10 : decode cX12_ofCloud 10 = .ok (.iload_n 2, 1) := by decide +kernel
theorem dX12_ofCloud_11 : decode cX12_ofCloud 11 = .ok (.iadd, 1) := by decide +kernel
theorem dX12_ofCloud_12 : decode cX12_ofCloud 12 = .ok (.iaload, 1) := by decide +kernel
theorem dX12_ofCloud_13 : decode cX12_ofCloud 13 = .ok (.ireturn, 1) := by decide +kernel
theorem sp_X12_ofCloud {n : Nat} {h : Nat → sE} {a b : Int}  {g77 g79 : Int → Int} (hn : 115 ≤ n) (H77 : h 77 = ent 77 g77) (H79 : h 79 = ent 79 g79) (r : 0 ≤ a ∧ a ≤ 4 ∧ 0 ≤ b ∧ b ≤ 4) : Sp m_X12_ofCloud 0 0 0 [.ref 77, .int (iI a), .int (iI b)] n h (qR (some (.int (iI (g79 (15 + 5 * a + b))))) n h) := by
  refine Sp.ofV (by decide +kernel) (Nat.le_of_ble_eq_true rfl) ?_
  refine v_aload_n dX12_ofCloud_0 rfl ?_
  refine v_get dX12_ofCloud_1 fl_X12_13 (H77.trans (ent_77 _)) rfl (s_lt hn rfl) ?_
  refine v_bipushI dX12_ofCloud_4 rfl ?_
  refine v_iconstI dX12_ofCloud_6 ?_
  refine v_iload_n dX12_ofCloud_7 rfl ?_
  refine v_imulI dX12_ofCloud_8 ?_
  refine v_iaddI dX12_ofCloud_9 ?_
  refine v_iload_n dX12_ofCloud_10 rfl ?_
  refine v_iaddI dX12_ofCloud_11 ?_
  refine v_ialdI dX12_ofCloud_12 (H79.trans (ent_79 _)) (s_lt hn rfl) (by omega) (by omega) (by omega) ?_
  exact v_iret dX12_ofCloud_13 rfl (Nat.zero_le _) (Nat.zero_le _) (by first | exact ⟨(congrArg (fun x => some (Value.int x)) (congrArg iI (by first | rfl | omega | (split <;> first | rfl | omega | (split <;> first | rfl | omega))))), rfl, rfl⟩ | omega)
theorem dX12_ofField_0 : decode cX12_ofField 0 = .ok (.aload_n 0, 1) := by decide +kernel
theorem dX12_ofField_1 : decode cX12_ofField 1 = .ok (.getfield 13, 3) := by decide +kernel
theorem dX12_ofField_4 : decode cX12_ofField 4 = .ok (.bipush 40, 2) := by decide +kernel
theorem dX12_ofField_6 : decode cX12_ofField 6 = .ok (.iconst 3, 1) := by decide +kernel
theorem dX12_ofField_7 : decode cX12_ofField 7 = .ok (.iload_n 1, 1) := by decide +kernel
theorem dX12_ofField_8 : decode cX12_ofField 8 = .ok (.imul, 1) := by decide +kernel
theorem dX12_ofField_9 : decode cX12_ofField 9 = .ok (.iadd, 1) := by decide +kernel
theorem dX12_ofField_10 : decode cX12_ofField 10 = .ok (.iload_n 2, 1) := by decide +kernel
theorem dX12_ofField_11 : decode cX12_ofField 11 = .ok (.iadd, 1) := by decide +kernel
theorem dX12_ofField_12 : decode cX12_ofField 12 = .ok (.iaload, 1) := by decide +kernel
theorem dX12_ofField_13 : decode cX12_ofField 13 = .ok (.ireturn, 1) := by decide +kernel
theorem sp_X12_ofField {n : Nat} {h : Nat → sE} {a b : Int}  {g77 g79 : Int → Int} (hn : 115 ≤ n) (H77 : h 77 = ent 77 g77) (H79 : h 79 = ent 79 g79) (r : 0 ≤ a ∧ a ≤ 63 ∧ 0 ≤ b ∧ b ≤ 2) : Sp m_X12_ofField 0 0 0 [.ref 77, .int (iI a), .int (iI b)] n h (qR (some (.int (iI (g79 (40 + 3 * a + b))))) n h) := by
  refine Sp.ofV (by decide +kernel) (Nat.le_of_ble_eq_true rfl) ?_
  refine v_aload_n dX12_ofField_0 rfl ?_
  refine v_get dX12_ofField_1 fl_X12_13 (H77.trans (ent_77 _)) rfl (s_lt hn rfl) ?_
  refine v_bipushI dX12_ofField_4 rfl ?_
  refine v_iconstI dX12_ofField_6 ?_
  refine v_iload_n dX12_ofField_7 rfl ?_
  refine v_imulI dX12_ofField_8 ?_
  refine v_iaddI dX12_ofField_9 ?_
  refine v_iload_n dX12_ofField_10 rfl ?_
  refine v_iaddI dX12_ofField_11 ?_
  refine v_ialdI dX12_ofField_12 (H79.trans (ent_79 _)) (s_lt hn rfl) (by omega) (by omega) (by omega) ?_
  exact v_iret dX12_ofField_13 rfl (Nat.zero_le _) (Nat.zero_le _) (by first | exact ⟨(congrArg (fun x => some (Value.int x)) (congrArg iI (by first | rfl | omega | (split <;> first | rfl | omega | (split <;> first | rfl | omega))))), rfl, rfl⟩ | omega)
theorem dX12_ofContract_0 : decode cX12_ofContract 0 = .ok (.aload_n 0, 1) := by decide +kernel
theorem dX12_ofContract_1 : decode cX12_ofContract 1 = .ok (.getfield 13, 3) := by decide +kernel
theorem dX12_ofContract_4 : decode cX12_ofContract 4 = .ok (.sipush 304, 3) := by decide +kernel
theorem dX12_ofContract_7 : decode cX12_ofContract 7 = .ok (.iconst 5, 1) := by decide +kernel
theorem dX12_ofContract_8 : decode cX12_ofContract 8 = .ok (.iload_n 1, 1) := by decide +kernel
theorem dX12_ofContract_9 : decode cX12_ofContract 9 = .ok (.imul, 1) := by decide +kernel
theorem dX12_ofContract_10 : decode cX12_ofContract 10 = .ok (.iadd, 1) := by decide +kernel
theorem dX12_ofContract_11 : decode cX12_ofContract 11 = .ok (.iload_n 2, 1) := by decide +kernel
theorem dX12_ofContract_12 : decode cX12_ofContract 12 = .ok (.iadd, 1) := by decide +kernel
theorem dX12_ofContract_13 : decode cX12_ofContract 13 = .ok (.iaload, 1) := by decide +kernel
theorem dX12_ofContract_14 : decode cX12_ofContract 14 = .ok (.ireturn, 1) := by decide +kernel
theorem sp_X12_ofContract {n : Nat} {h : Nat → sE} {a b : Int}  {g77 g79 : Int → Int} (hn : 115 ≤ n) (H77 : h 77 = ent 77 g77) (H79 : h 79 = ent 79 g79) (r : 0 ≤ a ∧ a ≤ 7 ∧ 0 ≤ b ∧ b ≤ 4) : Sp m_X12_ofContract 0 0 0 [.ref 77, .int (iI a), .int (iI b)] n h (qR (some (.int (iI (g79 (304 + 5 * a + b))))) n h) := by
  refine Sp.ofV (by decide +kernel) (Nat.le_of_ble_eq_true rfl) ?_
  refine v_aload_n dX12_ofContract_0 rfl ?_
  refine v_get dX12_ofContract_1 fl_X12_13 (H77.trans (ent_77 _)) rfl (s_lt hn rfl) ?_
  refine v_sipushI dX12_ofContract_4 rfl ?_
  refine v_iconstI dX12_ofContract_7 ?_
  refine v_iload_n dX12_ofContract_8 rfl ?_
  refine v_imulI dX12_ofContract_9 ?_
  refine v_iaddI dX12_ofContract_10 ?_
  refine v_iload_n dX12_ofContract_11 rfl ?_
  refine v_iaddI dX12_ofContract_12 ?_
  refine v_ialdI dX12_ofContract_13 (H79.trans (ent_79 _)) (s_lt hn rfl) (by omega) (by omega) (by omega) ?_
  exact v_iret dX12_ofContract_14 rfl (Nat.zero_le _) (Nat.zero_le _) (by first | exact ⟨(congrArg (fun x => some (Value.int x)) (congrArg iI (by first | rfl | omega | (split <;> first | rfl | omega | (split <;> first | rfl | omega))))), rfl, rfl⟩ | omega)
theorem dX12_change_0 : decode cX12_change 0 = .ok (.aload_n 0, 1) := by decide +kernel
theorem dX12_change_1 : decode cX12_change 1 = .ok (.getfield 13, 3) := by decide +kernel
theorem dX12_change_4 : decode cX12_change 4 = .ok (.iload_n 1, 1) := by decide +kernel
theorem dX12_change_5 : decode cX12_change 5 = .ok (.iaload, 1) := by decide +kernel
theorem dX12_change_6 : decode cX12_change 6 = .ok (.istore_n 3, 1) := by decide +kernel
theorem dX12_change_7 : decode cX12_change 7 = .ok (.aload_n 0, 1) := by decide +kernel
theorem dX12_change_8 : decode cX12_change 8 = .ok (.getfield 13, 3) := by decide +kernel
theorem dX12_change_11 : decode cX12_change 11 = .ok (.iload_n 1, 1) := by decide +kernel
theorem dX12_change_12 : decode cX12_change 12 = .ok (.iload_n 2, 1) := by decide +kernel
theorem dX12_change_13 : decode cX12_change 13 = .ok (.iastore, 1) := by decide +kernel
theorem dX12_change_14 : decode cX12_change 14 = .ok (.aload_n 0, 1) := by decide +kernel
theorem dX12_change_15 : decode cX12_change 15 = .ok (.iconst 0, 1) := by decide +kernel
theorem dX12_change_16 : decode cX12_change 16 = .ok (.putfield 172, 3) := by decide +kernel
theorem dX12_change_19 : decode cX12_change 19 = .ok (.iload_n 3, 1) := by decide +kernel
theorem dX12_change_20 : decode cX12_change 20 = .ok (.ireturn, 1) := by decide +kernel
theorem sp_X12_change {n : Nat} {h : Nat → sE} {a b : Int}  {g77 g79 : Int → Int} (hn : 115 ≤ n) (H77 : h 77 = ent 77 g77) (H79 : h 79 = ent 79 g79) (r : 0 ≤ a ∧ a ≤ 5779) : Sp m_X12_change 0 0 0 [.ref 77, .int (iI a), .int (iI b)] n h (fun r n' h' => r = some (.int (iI (g79 a))) ∧ n' = n ∧ h' 79 = ent 79 (uI (g79) a b) ∧ h' 77 = ent 77 ((uI g77 1 0)) ∧ ∀ j, j ≠ 79 → j ≠ 77 → h' j = h j) := by
  refine Sp.ofV (by decide +kernel) (Nat.le_of_ble_eq_true rfl) ?_
  refine v_aload_n dX12_change_0 rfl ?_
  refine v_get dX12_change_1 fl_X12_13 (H77.trans (ent_77 _)) rfl (s_lt hn rfl) ?_
  refine v_iload_n dX12_change_4 rfl ?_
  refine v_ialdI dX12_change_5 (H79.trans (ent_79 _)) (s_lt hn rfl) (by omega) (by omega) (by omega) ?_
  refine v_istore_n dX12_change_6 (Nat.le_of_ble_eq_true rfl) ?_
  refine v_aload_n dX12_change_7 rfl ?_
  refine v_get dX12_change_8 fl_X12_13 (H77.trans (ent_77 _)) rfl (s_lt hn rfl) ?_
  refine v_iload_n dX12_change_11 rfl ?_
  refine v_iload_n dX12_change_12 rfl ?_
  refine v_iastI dX12_change_13 (H79.trans (ent_79 _)) (s_lt hn rfl) (by omega) (by omega) (by omega) (fun h1 E2 F3 => ?_)
  refine v_aload_n dX12_change_14 rfl ?_
  refine v_iconstI dX12_change_15 ?_
  have H4 := ((F3 77 (by decide)).trans (H77.trans (ent_77 _)))
  refine v_put dX12_change_16 fl_X12_172 H4 (s_lt hn rfl) (Nat.le_of_ble_eq_true rfl) (fun _ => ⟨rfl, rfl⟩) trivial (fun h5 E6 F7 => ?_)
  refine v_iload_n dX12_change_19 rfl ?_
  exact v_iret dX12_change_20 rfl (Nat.zero_le _) (Nat.zero_le _) (by first | exact ⟨(congrArg (fun x => some (Value.int x)) (congrArg iI (by first | rfl | omega | (split <;> first | rfl | omega | (split <;> first | rfl | omega))))), rfl, (by first | exact (show _ = ent 79 (uI g79 a b) from ((F7 79 (by decide)).trans E2)) | (rw [if_pos (by omega)]; exact (show _ = ent 79 (uI g79 a b) from ((F7 79 (by decide)).trans E2))) | (rw [if_neg (by omega)]; exact (show _ = ent 79 (uI g79 a b) from ((F7 79 (by decide)).trans E2)))), (by first | exact (show _ = ent 77 (uI g77 1 0) from E6) | (rw [if_pos (by omega)]; exact (show _ = ent 77 (uI g77 1 0) from E6)) | (rw [if_neg (by omega)]; exact (show _ = ent 77 (uI g77 1 0) from E6))), fun j m79 m77 => ((F7 j m77).trans (F3 j m79))⟩ | omega)
theorem dX12_tell_0 : decode cX12_tell 0 = .ok (.aload_n 0, 1) := by decide +kernel
theorem dX12_tell_1 : decode cX12_tell 1 = .ok (.iload_n 1, 1) := by decide +kernel
theorem dX12_tell_2 : decode cX12_tell 2 = .ok (.ifCond .ge 7, 3) := by decide +kernel
theorem dX12_tell_5 : decode cX12_tell 5 = .ok (.iload_n 1, 1) := by decide +kernel
theorem dX12_tell_6 : decode cX12_tell 6 = .ok (.goto 4, 3) := by decide +kernel
theorem dX12_tell_9 : decode cX12_tell 9 = .ok (.iconst 0, 1) := by decide +kernel
theorem dX12_tell_10 : decode cX12_tell 10 = .ok (.putfield 172, 3) := by decide +kernel
theorem dX12_tell_13 : decode cX12_tell 13 = .ok (.iload_n 1, 1) := by decide +kernel
theorem dX12_tell_14 : decode cX12_tell 14 = .ok (.ifCond .ge 14, 3) := by decide +kernel
theorem dX12_tell_17 : decode cX12_tell 17 = .ok (.aload_n 0, 1) := by decide +kernel
theorem dX12_tell_18 : decode cX12_tell 18 = .ok (.getfield 7, 3) := by decide +kernel
theorem dX12_tell_21 : decode cX12_tell 21 = .ok (.iload_n 1, 1) := by decide +kernel
theorem dX12_tell_22 : decode cX12_tell 22 = .ok (.ineg, 1) := by decide +kernel
theorem dX12_tell_23 : decode cX12_tell 23 = .ok (.dup2, 1) := by decide +kernel
theorem dX12_tell_24 : decode cX12_tell 24 = .ok (.iaload, 1) := by decide +kernel
theorem dX12_tell_25 : decode cX12_tell 25 = .ok (.iconst 1, 1) := by decide +kernel
theorem dX12_tell_26 : decode cX12_tell 26 = .ok (.iadd, 1) := by decide +kernel
theorem dX12_tell_27 : decode cX12_tell 27 = .ok (.iastore, 1) := by decide +kernel
theorem dX12_tell_28 : decode cX12_tell 28 = .ok (.iload_n 1, 1) := by decide +kernel
theorem dX12_tell_29 : decode cX12_tell 29 = .ok (.ireturn, 1) := by decide +kernel
theorem sp_X12_tell {n : Nat} {h : Nat → sE} {a : Int}  {g77 g78 : Int → Int} (hn : 115 ≤ n) (H77 : h 77 = ent 77 g77) (H78 : h 78 = ent 78 g78) (ra : -6 ≤ a ∧ a ≤ 2147483647) (i78 : ∀ j, 0 ≤ j → j ≤ 6 → -2147483648 ≤ g78 j ∧ g78 j ≤ 2147483646) : Sp m_X12_tell 0 0 0 [.ref 77, .int (iI a)] n h (fun r n' h' => r = some (.int (iI (a))) ∧ n' = n ∧ h' 77 = ent 77 ((uI g77 1 (if a < 0 then a else 0))) ∧ h' 78 = ent 78 (if a < 0 then uI (g78) (-a) (g78 (-a) + 1) else g78) ∧ ∀ j, j ≠ 77 → j ≠ 78 → h' j = h j) := by
  refine Sp.ofV (by decide +kernel) (Nat.le_of_ble_eq_true rfl) ?_
  refine v_aload_n dX12_tell_0 rfl ?_
  refine v_iload_n dX12_tell_1 rfl ?_
  refine v_if_geI (tgt := 9) dX12_tell_2 (by decide) (by omega) (by omega) (fun c_1 => ?_) (fun c_1 => ?_)
  · refine v_iconstI dX12_tell_9 ?_
    refine v_put dX12_tell_10 fl_X12_172 (H77.trans (ent_77 _)) (s_lt hn rfl) (Nat.le_of_ble_eq_true rfl) (fun _ => ⟨rfl, rfl⟩) trivial (fun h2 E3 F4 => ?_)
    refine v_iload_n dX12_tell_13 rfl ?_
    refine v_if_geI (tgt := 28) dX12_tell_14 (by decide) (by omega) (by omega) (fun c_5 => ?_) (fun c_5 => ?_)
    · refine v_iload_n dX12_tell_28 rfl ?_
      exact v_iret dX12_tell_29 rfl (Nat.zero_le _) (Nat.zero_le _) (by first | exact ⟨(congrArg (fun x => some (Value.int x)) (congrArg iI (by first | rfl | omega | (split <;> first | rfl | omega | (split <;> first | rfl | omega))))), rfl, (by first | exact (show _ = ent 77 (uI g77 1 0) from E3) | (rw [if_pos (show a < 0 by omega)]; exact (show _ = ent 77 (uI g77 1 0) from E3)) | (rw [if_neg (show ¬ a < 0 by omega)]; exact (show _ = ent 77 (uI g77 1 0) from E3))), (by first | exact (show _ = ent 78 g78 from ((F4 78 (by decide)).trans (H78.trans (ent_78 _)))) | (rw [if_pos (show a < 0 by omega)]; exact (show _ = ent 78 g78 from ((F4 78 (by decide)).trans (H78.trans (ent_78 _))))) | (rw [if_neg (show ¬ a < 0 by omega)]; exact (show _ = ent 78 g78 from ((F4 78 (by decide)).trans (H78.trans (ent_78 _)))))), fun j m77 m78 => (F4 j m77)⟩ | omega)
    · refine v_aload_n dX12_tell_17 rfl ?_
      refine v_get dX12_tell_18 fl_X12_7 E3 rfl (s_lt hn rfl) ?_
      refine v_iload_n dX12_tell_21 rfl ?_
      refine v_inegI dX12_tell_22 ?_
      refine v_dup2 dX12_tell_23 rfl rfl ?_
      have H6 := ((F4 78 (by decide)).trans (H78.trans (ent_78 _)))
      refine v_ialdI dX12_tell_24 H6 (s_lt hn rfl) (by omega) (by omega) (by omega) ?_
      refine v_iconstI dX12_tell_25 ?_
      refine v_iaddI dX12_tell_26 ?_
      refine v_iastI dX12_tell_27 H6 (s_lt hn rfl) (by omega) (by omega) (by omega) (fun h7 E8 F9 => ?_)
      refine v_iload_n dX12_tell_28 rfl ?_
      exact v_iret dX12_tell_29 rfl (Nat.zero_le _) (Nat.zero_le _) (by first | exact ⟨(congrArg (fun x => some (Value.int x)) (congrArg iI (by first | rfl | omega | (split <;> first | rfl | omega | (split <;> first | rfl | omega))))), rfl, (by first | exact (show _ = ent 77 (uI g77 1 0) from ((F9 77 (by decide)).trans E3)) | (rw [if_pos (show a < 0 by omega)]; exact (show _ = ent 77 (uI g77 1 0) from ((F9 77 (by decide)).trans E3))) | (rw [if_neg (show ¬ a < 0 by omega)]; exact (show _ = ent 77 (uI g77 1 0) from ((F9 77 (by decide)).trans E3)))), (by first | exact (show _ = ent 78 (uI g78 (-a) ((g78 (-a)) + 1)) from E8) | (rw [if_pos (show a < 0 by omega)]; exact (show _ = ent 78 (uI g78 (-a) ((g78 (-a)) + 1)) from E8)) | (rw [if_neg (show ¬ a < 0 by omega)]; exact (show _ = ent 78 (uI g78 (-a) ((g78 (-a)) + 1)) from E8))), fun j m77 m78 => ((F9 j m78).trans (F4 j m77))⟩ | omega)
  · refine v_iload_n dX12_tell_5 rfl ?_
    refine v_goto (tgt := 10) dX12_tell_6 (by decide) ?_
    refine v_put dX12_tell_10 fl_X12_172 (H77.trans (ent_77 _)) (s_lt hn rfl) (Nat.le_of_ble_eq_true rfl) (fun _ => ⟨rfl, rfl⟩) trivial (fun h10 E11 F12 => ?_)
    refine v_iload_n dX12_tell_13 rfl ?_
    refine v_if_geI (tgt := 28) dX12_tell_14 (by decide) (by omega) (by omega) (fun c_13 => ?_) (fun c_13 => ?_)
    · refine v_iload_n dX12_tell_28 rfl ?_
      exact v_iret dX12_tell_29 rfl (Nat.zero_le _) (Nat.zero_le _) (by first | exact ⟨(congrArg (fun x => some (Value.int x)) (congrArg iI (by first | rfl | omega | (split <;> first | rfl | omega | (split <;> first | rfl | omega))))), rfl, (by first | exact (show _ = ent 77 (uI g77 1 a) from E11) | (rw [if_pos (show a < 0 by omega)]; exact (show _ = ent 77 (uI g77 1 a) from E11)) | (rw [if_neg (show ¬ a < 0 by omega)]; exact (show _ = ent 77 (uI g77 1 a) from E11))), (by first | exact (show _ = ent 78 g78 from ((F12 78 (by decide)).trans (H78.trans (ent_78 _)))) | (rw [if_pos (show a < 0 by omega)]; exact (show _ = ent 78 g78 from ((F12 78 (by decide)).trans (H78.trans (ent_78 _))))) | (rw [if_neg (show ¬ a < 0 by omega)]; exact (show _ = ent 78 g78 from ((F12 78 (by decide)).trans (H78.trans (ent_78 _)))))), fun j m77 m78 => (F12 j m77)⟩ | omega)
    · refine v_aload_n dX12_tell_17 rfl ?_
      refine v_get dX12_tell_18 fl_X12_7 E11 rfl (s_lt hn rfl) ?_
      refine v_iload_n dX12_tell_21 rfl ?_
      refine v_inegI dX12_tell_22 ?_
      refine v_dup2 dX12_tell_23 rfl rfl ?_
      have H14 := ((F12 78 (by decide)).trans (H78.trans (ent_78 _)))
      refine v_ialdI dX12_tell_24 H14 (s_lt hn rfl) (by omega) (by omega) (by omega) ?_
      refine v_iconstI dX12_tell_25 ?_
      refine v_iaddI dX12_tell_26 ?_
      refine v_iastI dX12_tell_27 H14 (s_lt hn rfl) (by omega) (by omega) (by omega) (fun h15 E16 F17 => ?_)
      refine v_iload_n dX12_tell_28 rfl ?_
      exact v_iret dX12_tell_29 rfl (Nat.zero_le _) (Nat.zero_le _) (by first | exact ⟨(congrArg (fun x => some (Value.int x)) (congrArg iI (by first | rfl | omega | (split <;> first | rfl | omega | (split <;> first | rfl | omega))))), rfl, (by first | exact (show _ = ent 77 (uI g77 1 a) from ((F17 77 (by decide)).trans E11)) | (rw [if_pos (show a < 0 by omega)]; exact (show _ = ent 77 (uI g77 1 a) from ((F17 77 (by decide)).trans E11))) | (rw [if_neg (show ¬ a < 0 by omega)]; exact (show _ = ent 77 (uI g77 1 a) from ((F17 77 (by decide)).trans E11)))), (by first | exact (show _ = ent 78 (uI g78 (-a) ((g78 (-a)) + 1)) from E16) | (rw [if_pos (show a < 0 by omega)]; exact (show _ = ent 78 (uI g78 (-a) ((g78 (-a)) + 1)) from E16)) | (rw [if_neg (show ¬ a < 0 by omega)]; exact (show _ = ent 78 (uI g78 (-a) ((g78 (-a)) + 1)) from E16))), fun j m77 m78 => ((F17 j m78).trans (F12 j m77))⟩ | omega)
theorem dX12_cornerAt_0 : decode cX12_cornerAt 0 = .ok (.iload_n 0, 1) := by decide +kernel
theorem dX12_cornerAt_1 : decode cX12_cornerAt 1 = .ok (.invokestatic 216, 3) := by decide +kernel
theorem dX12_cornerAt_4 : decode cX12_cornerAt 4 = .ok (.ifCond .eq 25, 3) := by decide +kernel
theorem dX12_cornerAt_7 : decode cX12_cornerAt 7 = .ok (.iload_n 1, 1) := by decide +kernel
theorem dX12_cornerAt_8 : decode cX12_cornerAt 8 = .ok (.invokestatic 216, 3) := by decide +kernel
theorem dX12_cornerAt_11 : decode cX12_cornerAt 11 = .ok (.ifCond .eq 18, 3) := by decide +kernel
theorem dX12_cornerAt_14 : decode cX12_cornerAt 14 = .ok (.bipush 24, 2) := by decide +kernel
theorem dX12_cornerAt_16 : decode cX12_cornerAt 16 = .ok (.iload_n 1, 1) := by decide +kernel
theorem dX12_cornerAt_17 : decode cX12_cornerAt 17 = .ok (.bipush 8, 2) := by decide +kernel
theorem dX12_cornerAt_19 : decode cX12_cornerAt 19 = .ok (.iadd, 1) := by decide +kernel
theorem dX12_cornerAt_20 : decode cX12_cornerAt 20 = .ok (.imul, 1) := by decide +kernel
theorem dX12_cornerAt_21 : decode cX12_cornerAt 21 = .ok (.iload_n 0, 1) := by decide +kernel
theorem dX12_cornerAt_22 : decode cX12_cornerAt 22 = .ok (.iadd, 1) := by decide +kernel
theorem dX12_cornerAt_23 : decode cX12_cornerAt 23 = .ok (.bipush 8, 2) := by decide +kernel
theorem dX12_cornerAt_25 : decode cX12_cornerAt 25 = .ok (.iadd, 1) := by decide +kernel
theorem dX12_cornerAt_26 : decode cX12_cornerAt 26 = .ok (.goto 4, 3) := by decide +kernel
theorem dX12_cornerAt_29 : decode cX12_cornerAt 29 = .ok (.iconst (-1), 1) := by decide +kernel
theorem dX12_cornerAt_30 : decode cX12_cornerAt 30 = .ok (.ireturn, 1) := by decide +kernel
theorem sp_X12_cornerAt {n : Nat} {h : Nat → sE} {x y : Int}  (rx : -2147483648 ≤ x ∧ x ≤ 2147483647) (ry : -2147483648 ≤ y ∧ y ≤ 2147483647) : Sp m_X12_cornerAt 2 0 0 [.int (iI x), .int (iI y)] n h (qR (some (.int (iI (if -8 ≤ x ∧ x ≤ 15 ∧ -8 ≤ y ∧ y ≤ 15 then 24 * (y + 8) + x + 8 else -1)))) n h) := by
  refine Sp.ofV (by decide +kernel) (Nat.le_of_ble_eq_true rfl) ?_
  refine v_iload_n dX12_cornerAt_0 rfl ?_
  refine v_callS dX12_cornerAt_1 ml_X12_216 (sp_X12_isPlace (a := x)   (by omega)) rfl rfl (Nat.le_of_ble_eq_true rfl) (Nat.le_of_ble_eq_true rfl) (Nat.zero_le _) (Nat.zero_le _) ⟨Or.inl (fun _ _ _ q => q.2.1), fun r n1 h1 q2 => ?_⟩
  obtain ⟨rfl, rfl, rfl⟩ := q2
  try dsimp only [s_push]
  refine v_ifeqB (tgt := 29) dX12_cornerAt_4 (by decide) (fun c_3 => ?_) (fun c_3 => ?_)
  · refine v_iconstI dX12_cornerAt_29 ?_
    exact v_iret dX12_cornerAt_30 rfl (Nat.zero_le _) (Nat.zero_le _) (by first | exact ⟨(congrArg (fun x => some (Value.int x)) (congrArg iI (by first | rfl | omega | (split <;> first | rfl | omega | (split <;> first | rfl | omega))))), rfl, rfl⟩ | omega)
  · refine v_iload_n dX12_cornerAt_7 rfl ?_
    refine v_callS dX12_cornerAt_8 ml_X12_216 (sp_X12_isPlace (a := y)   (by omega)) rfl rfl (Nat.le_of_ble_eq_true rfl) (Nat.le_of_ble_eq_true rfl) (Nat.zero_le _) (Nat.zero_le _) ⟨Or.inl (fun _ _ _ q => q.2.1), fun r n1 h4 q5 => ?_⟩
    obtain ⟨rfl, rfl, rfl⟩ := q5
    try dsimp only [s_push]
    refine v_ifeqB (tgt := 29) dX12_cornerAt_11 (by decide) (fun c_6 => ?_) (fun c_6 => ?_)
    · refine v_iconstI dX12_cornerAt_29 ?_
      exact v_iret dX12_cornerAt_30 rfl (Nat.zero_le _) (Nat.zero_le _) (by first | exact ⟨(congrArg (fun x => some (Value.int x)) (congrArg iI (by first | rfl | omega | (split <;> first | rfl | omega | (split <;> first | rfl | omega))))), rfl, rfl⟩ | omega)
    · refine v_bipushI dX12_cornerAt_14 rfl ?_
      refine v_iload_n dX12_cornerAt_16 rfl ?_
      refine v_bipushI dX12_cornerAt_17 rfl ?_
      refine v_iaddI dX12_cornerAt_19 ?_
      refine v_imulI dX12_cornerAt_20 ?_
      refine v_iload_n dX12_cornerAt_21 rfl ?_
      refine v_iaddI dX12_cornerAt_22 ?_
      refine v_bipushI dX12_cornerAt_23 rfl ?_
      refine v_iaddI dX12_cornerAt_25 ?_
      refine v_goto (tgt := 30) dX12_cornerAt_26 (by decide) ?_
      exact v_iret dX12_cornerAt_30 rfl (Nat.zero_le _) (Nat.zero_le _) (by first | exact ⟨(congrArg (fun x => some (Value.int x)) (congrArg iI (by first | rfl | omega | (split <;> first | rfl | omega | (split <;> first | rfl | omega))))), rfl, rfl⟩ | omega)
theorem dX12_xOf_0 : decode cX12_xOf 0 = .ok (.iload_n 0, 1) := by decide +kernel
theorem dX12_xOf_1 : decode cX12_xOf 1 = .ok (.bipush 24, 2) := by decide +kernel
theorem dX12_xOf_3 : decode cX12_xOf 3 = .ok (.irem, 1) := by decide +kernel
theorem dX12_xOf_4 : decode cX12_xOf 4 = .ok (.bipush 8, 2) := by decide +kernel
theorem dX12_xOf_6 : decode cX12_xOf 6 = .ok (.isub, 1) := by decide +kernel
theorem dX12_xOf_7 : decode cX12_xOf 7 = .ok (.ireturn, 1) := by decide +kernel
theorem sp_X12_xOf {n : Nat} {h : Nat → sE} {a : Int}  (ra : 0 ≤ a ∧ a ≤ 2147483647) : Sp m_X12_xOf 0 0 0 [.int (iI a)] n h (qR (some (.int (iI (a % 24 - 8)))) n h) := by
  refine Sp.ofV (by decide +kernel) (Nat.le_of_ble_eq_true rfl) ?_
  refine v_iload_n dX12_xOf_0 rfl ?_
  refine v_bipushI dX12_xOf_1 rfl ?_
  refine v_iremI dX12_xOf_3 (by omega) (by omega) (by omega) (by omega) ?_
  refine v_bipushI dX12_xOf_4 rfl ?_
  refine v_isubI dX12_xOf_6 ?_
  exact v_iret dX12_xOf_7 rfl (Nat.zero_le _) (Nat.zero_le _) (by first | exact ⟨(congrArg (fun x => some (Value.int x)) (congrArg iI (by first | rfl | omega | (split <;> first | rfl | omega | (split <;> first | rfl | omega))))), rfl, rfl⟩ | omega)
theorem dX12_yOf_0 : decode cX12_yOf 0 = .ok (.iload_n 0, 1) := by decide +kernel
theorem dX12_yOf_1 : decode cX12_yOf 1 = .ok (.bipush 24, 2) := by decide +kernel
theorem dX12_yOf_3 : decode cX12_yOf 3 = .ok (.idiv, 1) := by decide +kernel
theorem dX12_yOf_4 : decode cX12_yOf 4 = .ok (.bipush 8, 2) := by decide +kernel
theorem dX12_yOf_6 : decode cX12_yOf 6 = .ok (.isub, 1) := by decide +kernel
theorem dX12_yOf_7 : decode cX12_yOf 7 = .ok (.ireturn, 1) := by decide +kernel
theorem sp_X12_yOf {n : Nat} {h : Nat → sE} {a : Int}  (ra : 0 ≤ a ∧ a ≤ 2147483647) : Sp m_X12_yOf 0 0 0 [.int (iI a)] n h (qR (some (.int (iI (a / 24 - 8)))) n h) := by
  refine Sp.ofV (by decide +kernel) (Nat.le_of_ble_eq_true rfl) ?_
  refine v_iload_n dX12_yOf_0 rfl ?_
  refine v_bipushI dX12_yOf_1 rfl ?_
  refine v_idivI dX12_yOf_3 (by omega) (by omega) (by omega) (by omega) ?_
  refine v_bipushI dX12_yOf_4 rfl ?_
  refine v_isubI dX12_yOf_6 ?_
  exact v_iret dX12_yOf_7 rfl (Nat.zero_le _) (Nat.zero_le _) (by first | exact ⟨(congrArg (fun x => some (Value.int x)) (congrArg iI (by first | rfl | omega | (split <;> first | rfl | omega | (split <;> first | rfl | omega))))), rfl, rfl⟩ | omega)
theorem dX12_stepX_0 : decode cX12_stepX 0 = .ok (.iload_n 0, 1) := by decide +kernel
theorem dX12_stepX_1 : decode cX12_stepX 1 = .ok (.iconst 1, 1) := by decide +kernel
theorem dX12_stepX_2 : decode cX12_stepX 2 = .ok (.if_icmp .ne 7, 3) := by decide +kernel
theorem dX12_stepX_5 : decode cX12_stepX 5 = .ok (.iconst 1, 1) := by decide +kernel
theorem dX12_stepX_6 : decode cX12_stepX 6 = .ok (.goto 13, 3) := by decide +kernel
theorem dX12_stepX_9 : decode cX12_stepX 9 = .ok (.iload_n 0, 1) := by decide +kernel
theorem dX12_stepX_10 : decode cX12_stepX 10 = .ok (.iconst 3, 1) := by decide +kernel
theorem dX12_stepX_11 : decode cX12_stepX 11 = .ok (.if_icmp .ne 7, 3) := by decide +kernel
theorem dX12_stepX_14 : decode cX12_stepX 14 = .ok (.iconst (-1), 1) := by decide +kernel
theorem dX12_stepX_15 : decode cX12_stepX 15 = .ok (.goto 4, 3) := by decide +kernel
theorem dX12_stepX_18 : decode cX12_stepX 18 = .ok (.iconst 0, 1) := by decide +kernel
theorem dX12_stepX_19 : decode cX12_stepX 19 = .ok (.ireturn, 1) := by decide +kernel
theorem sp_X12_stepX {n : Nat} {h : Nat → sE} {a : Int}  (ra : -2147483648 ≤ a ∧ a ≤ 2147483647) : Sp m_X12_stepX 0 0 0 [.int (iI a)] n h (qR (some (.int (iI (if a = 1 then 1 else if a = 3 then -1 else 0)))) n h) := by
  refine Sp.ofV (by decide +kernel) (Nat.le_of_ble_eq_true rfl) ?_
  refine v_iload_n dX12_stepX_0 rfl ?_
  refine v_iconstI dX12_stepX_1 ?_
  refine v_icmp_neI (tgt := 9) dX12_stepX_2 (by decide) (by omega) (by omega) (by omega) (by omega) (fun c_1 => ?_) (fun c_1 => ?_)
  · refine v_iload_n dX12_stepX_9 rfl ?_
    refine v_iconstI dX12_stepX_10 ?_
    refine v_icmp_neI (tgt := 18) dX12_stepX_11 (by decide) (by omega) (by omega) (by omega) (by omega) (fun c_2 => ?_) (fun c_2 => ?_)
    · refine v_iconstI dX12_stepX_18 ?_
      exact v_iret dX12_stepX_19 rfl (Nat.zero_le _) (Nat.zero_le _) (by first | exact ⟨(congrArg (fun x => some (Value.int x)) (congrArg iI (by first | rfl | omega | (split <;> first | rfl | omega | (split <;> first | rfl | omega))))), rfl, rfl⟩ | omega)
    · refine v_iconstI dX12_stepX_14 ?_
      refine v_goto (tgt := 19) dX12_stepX_15 (by decide) ?_
      exact v_iret dX12_stepX_19 rfl (Nat.zero_le _) (Nat.zero_le _) (by first | exact ⟨(congrArg (fun x => some (Value.int x)) (congrArg iI (by first | rfl | omega | (split <;> first | rfl | omega | (split <;> first | rfl | omega))))), rfl, rfl⟩ | omega)
  · refine v_iconstI dX12_stepX_5 ?_
    refine v_goto (tgt := 19) dX12_stepX_6 (by decide) ?_
    exact v_iret dX12_stepX_19 rfl (Nat.zero_le _) (Nat.zero_le _) (by first | exact ⟨(congrArg (fun x => some (Value.int x)) (congrArg iI (by first | rfl | omega | (split <;> first | rfl | omega | (split <;> first | rfl | omega))))), rfl, rfl⟩ | omega)
theorem dX12_stepY_0 : decode cX12_stepY 0 = .ok (.iload_n 0, 1) := by decide +kernel
theorem dX12_stepY_1 : decode cX12_stepY 1 = .ok (.ifCond .ne 7, 3) := by decide +kernel
theorem dX12_stepY_4 : decode cX12_stepY 4 = .ok (.iconst (-1), 1) := by decide +kernel
theorem dX12_stepY_5 : decode cX12_stepY 5 = .ok (.goto 13, 3) := by decide +kernel
theorem dX12_stepY_8 : decode cX12_stepY 8 = .ok (.iload_n 0, 1) := by decide +kernel
theorem dX12_stepY_9 : decode cX12_stepY 9 = .ok (.iconst 2, 1) := by decide +kernel
theorem dX12_stepY_10 : decode cX12_stepY 10 = .ok (.if_icmp .ne 7, 3) := by decide +kernel
theorem dX12_stepY_13 : decode cX12_stepY 13 = .ok (.iconst 1, 1) := by decide +kernel
theorem dX12_stepY_14 : decode cX12_stepY 14 = .ok (.goto 4, 3) := by decide +kernel
theorem dX12_stepY_17 : decode cX12_stepY 17 = .ok (.iconst 0, 1) := by decide +kernel
theorem dX12_stepY_18 : decode cX12_stepY 18 = .ok (.ireturn, 1) := by decide +kernel
theorem sp_X12_stepY {n : Nat} {h : Nat → sE} {a : Int}  (ra : -2147483648 ≤ a ∧ a ≤ 2147483647) : Sp m_X12_stepY 0 0 0 [.int (iI a)] n h (qR (some (.int (iI (if a = 0 then -1 else if a = 2 then 1 else 0)))) n h) := by
  refine Sp.ofV (by decide +kernel) (Nat.le_of_ble_eq_true rfl) ?_
  refine v_iload_n dX12_stepY_0 rfl ?_
  refine v_if_neI (tgt := 8) dX12_stepY_1 (by decide) (by omega) (by omega) (fun c_1 => ?_) (fun c_1 => ?_)
  · refine v_iload_n dX12_stepY_8 rfl ?_
    refine v_iconstI dX12_stepY_9 ?_
    refine v_icmp_neI (tgt := 17) dX12_stepY_10 (by decide) (by omega) (by omega) (by omega) (by omega) (fun c_2 => ?_) (fun c_2 => ?_)
    · refine v_iconstI dX12_stepY_17 ?_
      exact v_iret dX12_stepY_18 rfl (Nat.zero_le _) (Nat.zero_le _) (by first | exact ⟨(congrArg (fun x => some (Value.int x)) (congrArg iI (by first | rfl | omega | (split <;> first | rfl | omega | (split <;> first | rfl | omega))))), rfl, rfl⟩ | omega)
    · refine v_iconstI dX12_stepY_13 ?_
      refine v_goto (tgt := 18) dX12_stepY_14 (by decide) ?_
      exact v_iret dX12_stepY_18 rfl (Nat.zero_le _) (Nat.zero_le _) (by first | exact ⟨(congrArg (fun x => some (Value.int x)) (congrArg iI (by first | rfl | omega | (split <;> first | rfl | omega | (split <;> first | rfl | omega))))), rfl, rfl⟩ | omega)
  · refine v_iconstI dX12_stepY_4 ?_
    refine v_goto (tgt := 18) dX12_stepY_5 (by decide) ?_
    exact v_iret dX12_stepY_18 rfl (Nat.zero_le _) (Nat.zero_le _) (by first | exact ⟨(congrArg (fun x => some (Value.int x)) (congrArg iI (by first | rfl | omega | (split <;> first | rfl | omega | (split <;> first | rfl | omega))))), rfl, rfl⟩ | omega)
theorem dX12_covers_0 : decode cX12_covers 0 = .ok (.iload_n 2, 1) := by decide +kernel
theorem dX12_covers_1 : decode cX12_covers 1 = .ok (.iconst (-1), 1) := by decide +kernel
theorem dX12_covers_2 : decode cX12_covers 2 = .ok (.if_icmp .ne 5, 3) := by decide +kernel
theorem dX12_covers_5 : decode cX12_covers 5 = .ok (.iconst 0, 1) := by decide +kernel
theorem dX12_covers_6 : decode cX12_covers 6 = .ok (.ireturn, 1) := by decide +kernel
theorem dX12_covers_7 : decode cX12_covers 7 = .ok (.iload_n 3, 1) := by decide +kernel
theorem dX12_covers_8 : decode cX12_covers 8 = .ok (.bipush 8, 2) := by decide +kernel
theorem dX12_covers_10 : decode cX12_covers 10 = .ok (.irem, 1) := by decide +kernel
theorem dX12_covers_11 : decode cX12_covers 11 = .ok (.iload_n 2, 1) := by decide +kernel
theorem dX12_covers_12 : decode cX12_covers 12 = .ok (.invokestatic 417, 3) := by decide +kernel
theorem dX12_covers_15 : decode cX12_covers 15 = .ok (.isub, 1) := by decide +kernel
theorem dX12_covers_16 : decode cX12_covers 16 = .ok (.istore 4, 2) := by decide +kernel
theorem dX12_covers_18 : decode cX12_covers 18 = .ok (.iload_n 3, 1) := by decide +kernel
theorem dX12_covers_19 : decode cX12_covers 19 = .ok (.bipush 8, 2) := by decide +kernel
theorem dX12_covers_21 : decode cX12_covers 21 = .ok (.idiv, 1) := by decide +kernel
theorem dX12_covers_22 : decode cX12_covers 22 = .ok (.iload_n 2, 1) := by decide +kernel
theorem dX12_covers_23 : decode cX12_covers 23 = .ok (.invokestatic 420, 3) := by decide +kernel
theorem dX12_covers_26 : decode cX12_covers 26 = .ok (.isub, 1) := by decide +kernel
theorem dX12_covers_27 : decode cX12_covers 27 = .ok (.istore 5, 2) := by decide +kernel
theorem dX12_covers_29 : decode cX12_covers 29 = .ok (.iload 4, 2) := by decide +kernel
theorem dX12_covers_31 : decode cX12_covers 31 = .ok (.i2l, 1) := by decide +kernel
theorem dX12_covers_32 : decode cX12_covers 32 = .ok (.lconst 0, 1) := by decide +kernel
theorem dX12_covers_33 : decode cX12_covers 33 = .ok (.iload_n 0, 1) := by decide +kernel
theorem dX12_covers_34 : decode cX12_covers 34 = .ok (.i2l, 1) := by decide +kernel
theorem dX12_covers_35 : decode cX12_covers 35 = .ok (.lconst 1, 1) := by decide +kernel
theorem dX12_covers_36 : decode cX12_covers 36 = .ok (.lsub, 1) := by decide +kernel
theorem dX12_covers_37 : decode cX12_covers 37 = .ok (.invokestatic 175, 3) := by decide +kernel
theorem dX12_covers_40 : decode cX12_covers 40 = .ok (.ifCond .eq 21, 3) := by decide +kernel
theorem dX12_covers_43 : decode cX12_covers 43 = .ok (.iload 5, 2) := by decide +kernel
theorem dX12_covers_45 : decode cX12_covers 45 = .ok (.i2l, 1) := by decide +kernel
theorem dX12_covers_46 : decode cX12_covers 46 = .ok (.lconst 0, 1) := by decide +kernel
theorem dX12_covers_47 : decode cX12_covers 47 = .ok (.iload_n 1, 1) := by decide +kernel
theorem dX12_covers_48 : decode cX12_covers 48 = .ok (.i2l, 1) := by decide +kernel
theorem dX12_covers_49 : decode cX12_covers 49 = .ok (.lconst 1, 1) := by decide +kernel
theorem dX12_covers_50 : decode cX12_covers 50 = .ok (.lsub, 1) := by decide +kernel
theorem dX12_covers_51 : decode cX12_covers 51 = .ok (.invokestatic 175, 3) := by decide +kernel
theorem dX12_covers_54 : decode cX12_covers 54 = .ok (.ifCond .eq 7, 3) := by decide +kernel
theorem dX12_covers_57 : decode cX12_covers 57 = .ok (.iconst 1, 1) := by decide +kernel
theorem dX12_covers_58 : decode cX12_covers 58 = .ok (.goto 4, 3) := by decide +kernel
theorem dX12_covers_61 : decode cX12_covers 61 = .ok (.iconst 0, 1) := by decide +kernel
theorem dX12_covers_62 : decode cX12_covers 62 = .ok (.ireturn, 1) := by decide +kernel
theorem sp_X12_covers {n : Nat} {h : Nat → sE} {wd tl a f : Int}  (rw_ : 1 ≤ wd ∧ wd ≤ 3) (rt_ : 1 ≤ tl ∧ tl ≤ 3) (ra : -1 ≤ a ∧ a ≤ 575) (rf : 0 ≤ f ∧ f ≤ 63) : Sp m_X12_covers 1 0 0 [.int (iI wd), .int (iI tl), .int (iI a), .int (iI f)] n h (qR (some (.int (bI (¬ a = -1 ∧ 0 ≤ f % 8 - (a % 24 - 8) ∧ f % 8 - (a % 24 - 8) ≤ wd - 1 ∧ 0 ≤ f / 8 - (a / 24 - 8) ∧ f / 8 - (a / 24 - 8) ≤ tl - 1)))) n h) := by
  refine Sp.ofV (by decide +kernel) (Nat.le_of_ble_eq_true rfl) ?_
  refine v_iload_n dX12_covers_0 rfl ?_
  refine v_iconstI dX12_covers_1 ?_
  refine v_icmp_neI (tgt := 7) dX12_covers_2 (by decide) (by omega) (by omega) (by omega) (by omega) (fun c_1 => ?_) (fun c_1 => ?_)
  · refine v_iload_n dX12_covers_7 rfl ?_
    refine v_bipushI dX12_covers_8 rfl ?_
    refine v_iremI dX12_covers_10 (by omega) (by omega) (by omega) (by omega) ?_
    refine v_iload_n dX12_covers_11 rfl ?_
    refine v_callS dX12_covers_12 ml_X12_417 (sp_X12_xOf (a := a)   (by omega)) rfl rfl (Nat.le_of_ble_eq_true rfl) (Nat.le_of_ble_eq_true rfl) (Nat.zero_le _) (Nat.zero_le _) ⟨Or.inl (fun _ _ _ q => q.2.1), fun r n1 h2 q3 => ?_⟩
    obtain ⟨rfl, rfl, rfl⟩ := q3
    try dsimp only [s_push]
    refine v_isubI dX12_covers_15 ?_
    refine v_istore dX12_covers_16 (Nat.le_of_ble_eq_true rfl) ?_
    refine v_iload_n dX12_covers_18 rfl ?_
    refine v_bipushI dX12_covers_19 rfl ?_
    refine v_idivI dX12_covers_21 (by omega) (by omega) (by omega) (by omega) ?_
    refine v_iload_n dX12_covers_22 rfl ?_
    refine v_callS dX12_covers_23 ml_X12_420 (sp_X12_yOf (a := a)   (by omega)) rfl rfl (Nat.le_of_ble_eq_true rfl) (Nat.le_of_ble_eq_true rfl) (Nat.zero_le _) (Nat.zero_le _) ⟨Or.inl (fun _ _ _ q => q.2.1), fun r n1 h4 q5 => ?_⟩
    obtain ⟨rfl, rfl, rfl⟩ := q5
    try dsimp only [s_push]
    refine v_isubI dX12_covers_26 ?_
    refine v_istore dX12_covers_27 (Nat.le_of_ble_eq_true rfl) ?_
    refine v_iload dX12_covers_29 rfl ?_
    refine v_i2lI dX12_covers_31 (by omega) (by omega) ?_
    refine v_lconstI (w := 0) dX12_covers_32 rfl ?_
    refine v_iload_n dX12_covers_33 rfl ?_
    refine v_i2lI dX12_covers_34 (by omega) (by omega) ?_
    refine v_lconstI (w := 1) dX12_covers_35 rfl ?_
    refine v_lsubI dX12_covers_36 ?_
    refine v_callS dX12_covers_37 ml_X12_175 (sp_X12_in (v := ((f % 8) - (a % 24 - 8))) (lo := 0) (hi := (wd - 1))   (by omega) (by omega) (by omega)) rfl rfl (Nat.le_of_ble_eq_true rfl) (Nat.le_of_ble_eq_true rfl) (Nat.zero_le _) (Nat.zero_le _) ⟨Or.inl (fun _ _ _ q => q.2.1), fun r n1 h6 q7 => ?_⟩
    obtain ⟨rfl, rfl, rfl⟩ := q7
    try dsimp only [s_push]
    refine v_ifeqB (tgt := 61) dX12_covers_40 (by decide) (fun c_8 => ?_) (fun c_8 => ?_)
    · refine v_iconstI dX12_covers_61 ?_
      exact v_z0 dX12_covers_62 rfl (Nat.zero_le _) (Nat.zero_le _) (by first | exact ⟨(congrArg (fun x => some (Value.int x)) (bI_f (by omega)).symm), rfl, rfl⟩ | omega)
    · refine v_iload dX12_covers_43 rfl ?_
      refine v_i2lI dX12_covers_45 (by omega) (by omega) ?_
      refine v_lconstI (w := 0) dX12_covers_46 rfl ?_
      refine v_iload_n dX12_covers_47 rfl ?_
      refine v_i2lI dX12_covers_48 (by omega) (by omega) ?_
      refine v_lconstI (w := 1) dX12_covers_49 rfl ?_
      refine v_lsubI dX12_covers_50 ?_
      refine v_callS dX12_covers_51 ml_X12_175 (sp_X12_in (v := ((f / 8) - (a / 24 - 8))) (lo := 0) (hi := (tl - 1))   (by omega) (by omega) (by omega)) rfl rfl (Nat.le_of_ble_eq_true rfl) (Nat.le_of_ble_eq_true rfl) (Nat.zero_le _) (Nat.zero_le _) ⟨Or.inl (fun _ _ _ q => q.2.1), fun r n1 h9 q10 => ?_⟩
      obtain ⟨rfl, rfl, rfl⟩ := q10
      try dsimp only [s_push]
      refine v_ifeqB (tgt := 61) dX12_covers_54 (by decide) (fun c_11 => ?_) (fun c_11 => ?_)
      · refine v_iconstI dX12_covers_61 ?_
        exact v_z0 dX12_covers_62 rfl (Nat.zero_le _) (Nat.zero_le _) (by first | exact ⟨(congrArg (fun x => some (Value.int x)) (bI_f (by omega)).symm), rfl, rfl⟩ | omega)
      · refine v_iconstI dX12_covers_57 ?_
        refine v_goto (tgt := 62) dX12_covers_58 (by decide) ?_
        exact v_z1 dX12_covers_62 rfl (Nat.zero_le _) (Nat.zero_le _) (by first | exact ⟨(congrArg (fun x => some (Value.int x)) (bI_t (by omega)).symm), rfl, rfl⟩ | omega)
  · refine v_iconstI dX12_covers_5 ?_
    exact v_z0 dX12_covers_6 rfl (Nat.zero_le _) (Nat.zero_le _) (by first | exact ⟨(congrArg (fun x => some (Value.int x)) (bI_f (by omega)).symm), rfl, rfl⟩ | omega)
theorem dX12_away_0 : decode cX12_away 0 = .ok (.iload_n 0, 1) := by decide +kernel
theorem dX12_away_1 : decode cX12_away 1 = .ok (.ifCond .ge 8, 3) := by decide +kernel
theorem dX12_away_4 : decode cX12_away 4 = .ok (.iload_n 0, 1) := by decide +kernel
theorem dX12_away_5 : decode cX12_away 5 = .ok (.ineg, 1) := by decide +kernel
theorem dX12_away_6 : decode cX12_away 6 = .ok (.goto 4, 3) := by decide +kernel
theorem dX12_away_9 : decode cX12_away 9 = .ok (.iload_n 0, 1) := by decide +kernel
theorem dX12_away_10 : decode cX12_away 10 = .ok (.ireturn, 1) := by decide +kernel
theorem sp_X12_away {n : Nat} {h : Nat → sE} {v : Int}  (rv : -2147483647 ≤ v ∧ v ≤ 2147483647) : Sp m_X12_away 0 0 0 [.int (iI v)] n h (qR (some (.int (iI (if v < 0 then -v else v)))) n h) := by
  refine Sp.ofV (by decide +kernel) (Nat.le_of_ble_eq_true rfl) ?_
  refine v_iload_n dX12_away_0 rfl ?_
  refine v_if_geI (tgt := 9) dX12_away_1 (by decide) (by omega) (by omega) (fun c_1 => ?_) (fun c_1 => ?_)
  · refine v_iload_n dX12_away_9 rfl ?_
    exact v_iret dX12_away_10 rfl (Nat.zero_le _) (Nat.zero_le _) (by first | exact ⟨(congrArg (fun x => some (Value.int x)) (congrArg iI (by first | rfl | omega | (split <;> first | rfl | omega | (split <;> first | rfl | omega))))), rfl, rfl⟩ | omega)
  · refine v_iload_n dX12_away_4 rfl ?_
    refine v_inegI dX12_away_5 ?_
    refine v_goto (tgt := 10) dX12_away_6 (by decide) ?_
    exact v_iret dX12_away_10 rfl (Nat.zero_le _) (Nat.zero_le _) (by first | exact ⟨(congrArg (fun x => some (Value.int x)) (congrArg iI (by first | rfl | omega | (split <;> first | rfl | omega | (split <;> first | rfl | omega))))), rfl, rfl⟩ | omega)

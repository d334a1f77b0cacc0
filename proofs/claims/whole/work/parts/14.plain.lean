/-! THE PLAIN: its small methods; how a call ends -/
theorem sq_X3_isCloud {n : Nat} {h : Nat → sE} {a : Int}  {g1 : Int → Int} (hn : 115 ≤ n) (H1 : h 1 = ent 1 g1) (ra : -2147483648 ≤ a ∧ a ≤ 2147483647) (i9 : -2147483648 ≤ g1 9 ∧ g1 9 ≤ 2147483647) : Sp m_X3_isCloud 0 0 0 [.ref 1, .int (iI a)] n h (qR (some (.int (bI (0 ≤ a ∧ a < g1 9)))) n h) := by
  refine Sp.ofV (by decide +kernel) (Nat.le_of_ble_eq_true rfl) ?_
  refine v_iload_n dX3_isCloud_0 rfl ?_
  refine v_if_ltI (tgt := 16) dX3_isCloud_1 (by decide) (by omega) (by omega) (fun c_1 => ?_) (fun c_1 => ?_)
  · refine v_iconstI dX3_isCloud_16 ?_
    exact v_z0 dX3_isCloud_17 rfl (Nat.zero_le _) (Nat.zero_le _) (by first | exact ⟨(congrArg (fun x => some (Value.int x)) (bI_f (by omega)).symm), rfl, rfl⟩ | omega)
  · refine v_iload_n dX3_isCloud_4 rfl ?_
    refine v_aload_n dX3_isCloud_5 rfl ?_
    refine v_get dX3_isCloud_6 fl_X3_42 (H1.trans (ent_1 _)) rfl (s_lt hn rfl) ?_
    refine v_icmp_geI (tgt := 16) dX3_isCloud_9 (by decide) (by omega) (by omega) (by omega) (by omega) (fun c_2 => ?_) (fun c_2 => ?_)
    · refine v_iconstI dX3_isCloud_16 ?_
      exact v_z0 dX3_isCloud_17 rfl (Nat.zero_le _) (Nat.zero_le _) (by first | exact ⟨(congrArg (fun x => some (Value.int x)) (bI_f (by omega)).symm), rfl, rfl⟩ | omega)
    · refine v_iconstI dX3_isCloud_12 ?_
      refine v_goto (tgt := 17) dX3_isCloud_13 (by decide) ?_
      exact v_z1 dX3_isCloud_17 rfl (Nat.zero_le _) (Nat.zero_le _) (by first | exact ⟨(congrArg (fun x => some (Value.int x)) (bI_t (by omega)).symm), rfl, rfl⟩ | omega)
theorem sq_X3_fieldFact {n : Nat} {h : Nat → sE} {a b : Int}  {g1 g2 : Int → Int} (hn : 115 ≤ n) (H1 : h 1 = ent 1 g1) (H2 : h 2 = ent 2 g2) (ra : -2147483648 ≤ a ∧ a ≤ 2147483647) (rb : -2147483648 ≤ b ∧ b ≤ 2147483647) : Sp m_X3_fieldFact 1 0 0 [.ref 1, .int (iI a), .int (iI b)] n h (qR (some (.int (iI (if 0 ≤ a ∧ a ≤ 63 ∧ 0 ≤ b ∧ b ≤ 2 then g2 (b * 64 + a) else -1)))) n h) := by
  refine Sp.ofV (by decide +kernel) (Nat.le_of_ble_eq_true rfl) ?_
  refine v_iload_n dX3_fieldFact_0 rfl ?_
  refine v_iconstI dX3_fieldFact_1 ?_
  refine v_bipushI dX3_fieldFact_2 rfl ?_
  refine v_callS dX3_fieldFact_4 ml_X3_67 (sp_X11_within (a := a) (b := 0) (c := 63)   (by omega) (by omega) (by omega)) rfl rfl (by decide) (Nat.le_of_ble_eq_true rfl) (Nat.zero_le _) (Nat.zero_le _) ⟨Or.inl (fun _ _ _ q => q.2.1), fun r n1 h1 q2 => ?_⟩
  obtain ⟨rfl, rfl, rfl⟩ := q2
  try dsimp only [s_push]
  refine v_ifeqB (tgt := 19) dX3_fieldFact_7 (by decide) (fun c_3 => ?_) (fun c_3 => ?_)
  · refine v_iconstI dX3_fieldFact_19 ?_
    exact v_iret dX3_fieldFact_20 rfl (Nat.zero_le _) (Nat.zero_le _) (by first | exact ⟨(congrArg (fun x => some (Value.int x)) (congrArg iI (by first | rfl | omega | (split <;> first | rfl | omega | (split <;> first | rfl | omega))))), rfl, rfl⟩ | omega)
  · refine v_iload_n dX3_fieldFact_10 rfl ?_
    refine v_iconstI dX3_fieldFact_11 ?_
    refine v_iconstI dX3_fieldFact_12 ?_
    refine v_callS dX3_fieldFact_13 ml_X3_67 (sp_X11_within (a := b) (b := 0) (c := 2)   (by omega) (by omega) (by omega)) rfl rfl (by decide) (Nat.le_of_ble_eq_true rfl) (Nat.zero_le _) (Nat.zero_le _) ⟨Or.inl (fun _ _ _ q => q.2.1), fun r n1 h4 q5 => ?_⟩
    obtain ⟨rfl, rfl, rfl⟩ := q5
    try dsimp only [s_push]
    refine v_ifneB (tgt := 21) dX3_fieldFact_16 (by decide) (fun c_6 => ?_) (fun c_6 => ?_)
    · refine v_aload_n dX3_fieldFact_21 rfl ?_
      refine v_get dX3_fieldFact_22 fl_X3_9 (H1.trans (ent_1 _)) rfl (s_lt hn rfl) ?_
      refine v_iload_n dX3_fieldFact_25 rfl ?_
      refine v_bipushI dX3_fieldFact_26 rfl ?_
      refine v_imulI dX3_fieldFact_28 ?_
      refine v_iload_n dX3_fieldFact_29 rfl ?_
      refine v_iaddI dX3_fieldFact_30 ?_
      refine v_ialdI dX3_fieldFact_31 (H2.trans (ent_2 _)) (s_lt hn rfl) (by omega) (by omega) (by omega) ?_
      exact v_iret dX3_fieldFact_32 rfl (Nat.zero_le _) (Nat.zero_le _) (by first | exact ⟨(congrArg (fun x => some (Value.int x)) (congrArg iI (by first | rfl | omega | (split <;> first | rfl | omega | (split <;> first | rfl | omega))))), rfl, rfl⟩ | omega)
    · refine v_iconstI dX3_fieldFact_19 ?_
      exact v_iret dX3_fieldFact_20 rfl (Nat.zero_le _) (Nat.zero_le _) (by first | exact ⟨(congrArg (fun x => some (Value.int x)) (congrArg iI (by first | rfl | omega | (split <;> first | rfl | omega | (split <;> first | rfl | omega))))), rfl, rfl⟩ | omega)
theorem dX3_fits_0 : decode cX3_fits 0 = .ok (.iload_n 0, 1) := by decide +kernel
theorem dX3_fits_1 : decode cX3_fits 1 = .ok (.tableswitch 51 0 2 #[27, 35, 44], 27) := by decide +kernel
theorem dX3_fits_28 : decode cX3_fits 28 = .ok (.iload_n 1, 1) := by decide +kernel
theorem dX3_fits_29 : decode cX3_fits 29 = .ok (.iconst 0, 1) := by decide +kernel
theorem dX3_fits_30 : decode cX3_fits 30 = .ok (.bipush 99, 2) := by decide +kernel
theorem dX3_fits_32 : decode cX3_fits 32 = .ok (.invokestatic 67, 3) := by decide +kernel
theorem dX3_fits_35 : decode cX3_fits 35 = .ok (.ireturn, 1) := by decide +kernel
theorem dX3_fits_36 : decode cX3_fits 36 = .ok (.iload_n 1, 1) := by decide +kernel
theorem dX3_fits_37 : decode cX3_fits 37 = .ok (.iconst 1, 1) := by decide +kernel
theorem dX3_fits_38 : decode cX3_fits 38 = .ok (.sipush 999, 3) := by decide +kernel
theorem dX3_fits_41 : decode cX3_fits 41 = .ok (.invokestatic 67, 3) := by decide +kernel
theorem dX3_fits_44 : decode cX3_fits 44 = .ok (.ireturn, 1) := by decide +kernel
theorem dX3_fits_45 : decode cX3_fits 45 = .ok (.iload_n 1, 1) := by decide +kernel
theorem dX3_fits_46 : decode cX3_fits 46 = .ok (.iconst 0, 1) := by decide +kernel
theorem dX3_fits_47 : decode cX3_fits 47 = .ok (.iconst 1, 1) := by decide +kernel
theorem dX3_fits_48 : decode cX3_fits 48 = .ok (.invokestatic 67, 3) := by decide +kernel
theorem dX3_fits_51 : decode cX3_fits 51 = .ok (.ireturn, 1) := by decide +kernel
theorem dX3_fits_52 : decode cX3_fits 52 = .ok (.iconst 0, 1) := by decide +kernel
theorem dX3_fits_53 : decode cX3_fits 53 = .ok (.ireturn, 1) := by decide +kernel
theorem sp_X3_fits {n : Nat} {h : Nat → sE} {a b : Int}  (ra : -2147483648 ≤ a ∧ a ≤ 2147483647) (rb : -2147483648 ≤ b ∧ b ≤ 2147483647) : Sp m_X3_fits 1 0 0 [.int (iI a), .int (iI b)] n h (qR (some (.int (bI ((a = 0 ∧ 0 ≤ b ∧ b ≤ 99) ∨ (a = 1 ∧ 1 ≤ b ∧ b ≤ 999) ∨ (a = 2 ∧ 0 ≤ b ∧ b ≤ 1))))) n h) := by
  refine Sp.ofV (by decide +kernel) (Nat.le_of_ble_eq_true rfl) ?_
  refine v_iload_n dX3_fits_0 rfl ?_
  by_cases c_1 : a = 0
  · refine v_tabInI (tgt := 28) 0 dX3_fits_1 c_1 (by decide) (by decide) (by decide) (by decide) rfl (by decide) ?_
    refine v_iload_n dX3_fits_28 rfl ?_
    refine v_iconstI dX3_fits_29 ?_
    refine v_bipushI dX3_fits_30 rfl ?_
    refine v_callS dX3_fits_32 ml_X3_67 (sp_X11_within (a := b) (b := 0) (c := 99)   (by omega) (by omega) (by omega)) rfl rfl (by decide) (Nat.le_of_ble_eq_true rfl) (Nat.zero_le _) (Nat.zero_le _) ⟨Or.inl (fun _ _ _ q => q.2.1), fun r n1 h2 q3 => ?_⟩
    obtain ⟨rfl, rfl, rfl⟩ := q3
    try dsimp only [s_push]
    exact v_bretI dX3_fits_35 rfl (Nat.zero_le _) (Nat.zero_le _) (by first | exact ⟨(congrArg (fun x => some (Value.int x)) (bI_iff (by omega))), rfl, rfl⟩ | omega)
  by_cases c_4 : a = 1
  · refine v_tabInI (tgt := 36) 1 dX3_fits_1 c_4 (by decide) (by decide) (by decide) (by decide) rfl (by decide) ?_
    refine v_iload_n dX3_fits_36 rfl ?_
    refine v_iconstI dX3_fits_37 ?_
    refine v_sipushI dX3_fits_38 rfl ?_
    refine v_callS dX3_fits_41 ml_X3_67 (sp_X11_within (a := b) (b := 1) (c := 999)   (by omega) (by omega) (by omega)) rfl rfl (by decide) (Nat.le_of_ble_eq_true rfl) (Nat.zero_le _) (Nat.zero_le _) ⟨Or.inl (fun _ _ _ q => q.2.1), fun r n1 h5 q6 => ?_⟩
    obtain ⟨rfl, rfl, rfl⟩ := q6
    try dsimp only [s_push]
    exact v_bretI dX3_fits_44 rfl (Nat.zero_le _) (Nat.zero_le _) (by first | exact ⟨(congrArg (fun x => some (Value.int x)) (bI_iff (by omega))), rfl, rfl⟩ | omega)
  by_cases c_7 : a = 2
  · refine v_tabInI (tgt := 45) 2 dX3_fits_1 c_7 (by decide) (by decide) (by decide) (by decide) rfl (by decide) ?_
    refine v_iload_n dX3_fits_45 rfl ?_
    refine v_iconstI dX3_fits_46 ?_
    refine v_iconstI dX3_fits_47 ?_
    refine v_callS dX3_fits_48 ml_X3_67 (sp_X11_within (a := b) (b := 0) (c := 1)   (by omega) (by omega) (by omega)) rfl rfl (by decide) (Nat.le_of_ble_eq_true rfl) (Nat.zero_le _) (Nat.zero_le _) ⟨Or.inl (fun _ _ _ q => q.2.1), fun r n1 h8 q9 => ?_⟩
    obtain ⟨rfl, rfl, rfl⟩ := q9
    try dsimp only [s_push]
    exact v_bretI dX3_fits_51 rfl (Nat.zero_le _) (Nat.zero_le _) (by first | exact ⟨(congrArg (fun x => some (Value.int x)) (bI_iff (by omega))), rfl, rfl⟩ | omega)
  refine v_tabOutI (tgt := 52) dX3_fits_1 (by omega) (by omega) (by omega) (by decide) ?_
  refine v_iconstI dX3_fits_52 ?_
  exact v_z0 dX3_fits_53 rfl (Nat.zero_le _) (Nat.zero_le _) (by first | exact ⟨(congrArg (fun x => some (Value.int x)) (bI_f (by omega)).symm), rfl, rfl⟩ | omega)
theorem dX3_isTerm_0 : decode cX3_isTerm 0 = .ok (.iload_n 0, 1) := by decide +kernel
theorem dX3_isTerm_1 : decode cX3_isTerm 1 = .ok (.tableswitch 51 0 2 #[27, 35, 43], 27) := by decide +kernel
theorem dX3_isTerm_28 : decode cX3_isTerm 28 = .ok (.iload_n 1, 1) := by decide +kernel
theorem dX3_isTerm_29 : decode cX3_isTerm 29 = .ok (.iconst 0, 1) := by decide +kernel
theorem dX3_isTerm_30 : decode cX3_isTerm 30 = .ok (.bipush 99, 2) := by decide +kernel
theorem dX3_isTerm_32 : decode cX3_isTerm 32 = .ok (.invokestatic 67, 3) := by decide +kernel
theorem dX3_isTerm_35 : decode cX3_isTerm 35 = .ok (.ireturn, 1) := by decide +kernel
theorem dX3_isTerm_36 : decode cX3_isTerm 36 = .ok (.iload_n 1, 1) := by decide +kernel
theorem dX3_isTerm_37 : decode cX3_isTerm 37 = .ok (.iconst 0, 1) := by decide +kernel
theorem dX3_isTerm_38 : decode cX3_isTerm 38 = .ok (.bipush 10, 2) := by decide +kernel
theorem dX3_isTerm_40 : decode cX3_isTerm 40 = .ok (.invokestatic 67, 3) := by decide +kernel
theorem dX3_isTerm_43 : decode cX3_isTerm 43 = .ok (.ireturn, 1) := by decide +kernel
theorem dX3_isTerm_44 : decode cX3_isTerm 44 = .ok (.iload_n 1, 1) := by decide +kernel
theorem dX3_isTerm_45 : decode cX3_isTerm 45 = .ok (.iconst 0, 1) := by decide +kernel
theorem dX3_isTerm_46 : decode cX3_isTerm 46 = .ok (.bipush 9, 2) := by decide +kernel
theorem dX3_isTerm_48 : decode cX3_isTerm 48 = .ok (.invokestatic 67, 3) := by decide +kernel
theorem dX3_isTerm_51 : decode cX3_isTerm 51 = .ok (.ireturn, 1) := by decide +kernel
theorem dX3_isTerm_52 : decode cX3_isTerm 52 = .ok (.iconst 0, 1) := by decide +kernel
theorem dX3_isTerm_53 : decode cX3_isTerm 53 = .ok (.ireturn, 1) := by decide +kernel
theorem sp_X3_isTerm {n : Nat} {h : Nat → sE} {a b : Int}  (ra : -2147483648 ≤ a ∧ a ≤ 2147483647) (rb : -2147483648 ≤ b ∧ b ≤ 2147483647) : Sp m_X3_isTerm 1 0 0 [.int (iI a), .int (iI b)] n h (qR (some (.int (bI ((a = 0 ∧ 0 ≤ b ∧ b ≤ 99) ∨ (a = 1 ∧ 0 ≤ b ∧ b ≤ 10) ∨ (a = 2 ∧ 0 ≤ b ∧ b ≤ 9))))) n h) := by
  refine Sp.ofV (by decide +kernel) (Nat.le_of_ble_eq_true rfl) ?_
  refine v_iload_n dX3_isTerm_0 rfl ?_
  by_cases c_1 : a = 0
  · refine v_tabInI (tgt := 28) 0 dX3_isTerm_1 c_1 (by decide) (by decide) (by decide) (by decide) rfl (by decide) ?_
    refine v_iload_n dX3_isTerm_28 rfl ?_
    refine v_iconstI dX3_isTerm_29 ?_
    refine v_bipushI dX3_isTerm_30 rfl ?_
    refine v_callS dX3_isTerm_32 ml_X3_67 (sp_X11_within (a := b) (b := 0) (c := 99)   (by omega) (by omega) (by omega)) rfl rfl (by decide) (Nat.le_of_ble_eq_true rfl) (Nat.zero_le _) (Nat.zero_le _) ⟨Or.inl (fun _ _ _ q => q.2.1), fun r n1 h2 q3 => ?_⟩
    obtain ⟨rfl, rfl, rfl⟩ := q3
    try dsimp only [s_push]
    exact v_bretI dX3_isTerm_35 rfl (Nat.zero_le _) (Nat.zero_le _) (by first | exact ⟨(congrArg (fun x => some (Value.int x)) (bI_iff (by omega))), rfl, rfl⟩ | omega)
  by_cases c_4 : a = 1
  · refine v_tabInI (tgt := 36) 1 dX3_isTerm_1 c_4 (by decide) (by decide) (by decide) (by decide) rfl (by decide) ?_
    refine v_iload_n dX3_isTerm_36 rfl ?_
    refine v_iconstI dX3_isTerm_37 ?_
    refine v_bipushI dX3_isTerm_38 rfl ?_
    refine v_callS dX3_isTerm_40 ml_X3_67 (sp_X11_within (a := b) (b := 0) (c := 10)   (by omega) (by omega) (by omega)) rfl rfl (by decide) (Nat.le_of_ble_eq_true rfl) (Nat.zero_le _) (Nat.zero_le _) ⟨Or.inl (fun _ _ _ q => q.2.1), fun r n1 h5 q6 => ?_⟩
    obtain ⟨rfl, rfl, rfl⟩ := q6
    try dsimp only [s_push]
    exact v_bretI dX3_isTerm_43 rfl (Nat.zero_le _) (Nat.zero_le _) (by first | exact ⟨(congrArg (fun x => some (Value.int x)) (bI_iff (by omega))), rfl, rfl⟩ | omega)
  by_cases c_7 : a = 2
  · refine v_tabInI (tgt := 44) 2 dX3_isTerm_1 c_7 (by decide) (by decide) (by decide) (by decide) rfl (by decide) ?_
    refine v_iload_n dX3_isTerm_44 rfl ?_
    refine v_iconstI dX3_isTerm_45 ?_
    refine v_bipushI dX3_isTerm_46 rfl ?_
    refine v_callS dX3_isTerm_48 ml_X3_67 (sp_X11_within (a := b) (b := 0) (c := 9)   (by omega) (by omega) (by omega)) rfl rfl (by decide) (Nat.le_of_ble_eq_true rfl) (Nat.zero_le _) (Nat.zero_le _) ⟨Or.inl (fun _ _ _ q => q.2.1), fun r n1 h8 q9 => ?_⟩
    obtain ⟨rfl, rfl, rfl⟩ := q9
    try dsimp only [s_push]
    exact v_bretI dX3_isTerm_51 rfl (Nat.zero_le _) (Nat.zero_le _) (by first | exact ⟨(congrArg (fun x => some (Value.int x)) (bI_iff (by omega))), rfl, rfl⟩ | omega)
  refine v_tabOutI (tgt := 52) dX3_isTerm_1 (by omega) (by omega) (by omega) (by decide) ?_
  refine v_iconstI dX3_isTerm_52 ?_
  exact v_z0 dX3_isTerm_53 rfl (Nat.zero_le _) (Nat.zero_le _) (by first | exact ⟨(congrArg (fun x => some (Value.int x)) (bI_f (by omega)).symm), rfl, rfl⟩ | omega)
theorem dX3_setField_0 : decode cX3_setField 0 = .ok (.iload_n 1, 1) := by decide +kernel
theorem dX3_setField_1 : decode cX3_setField 1 = .ok (.iconst 0, 1) := by decide +kernel
theorem dX3_setField_2 : decode cX3_setField 2 = .ok (.bipush 63, 2) := by decide +kernel
theorem dX3_setField_4 : decode cX3_setField 4 = .ok (.invokestatic 67, 3) := by decide +kernel
theorem dX3_setField_7 : decode cX3_setField 7 = .ok (.ifCond .eq 24, 3) := by decide +kernel
theorem dX3_setField_10 : decode cX3_setField 10 = .ok (.iload_n 2, 1) := by decide +kernel
theorem dX3_setField_11 : decode cX3_setField 11 = .ok (.iconst 0, 1) := by decide +kernel
theorem dX3_setField_12 : decode cX3_setField 12 = .ok (.iconst 2, 1) := by decide +kernel
theorem dX3_setField_13 : decode cX3_setField 13 = .ok (.invokestatic 67, 3) := by decide +kernel
theorem dX3_setField_16 : decode cX3_setField 16 = .ok (.ifCond .eq 15, 3) := by decide +kernel
theorem dX3_setField_19 : decode cX3_setField 19 = .ok (.aload_n 0, 1) := by decide +kernel
theorem dX3_setField_20 : decode cX3_setField 20 = .ok (.getfield 9, 3) := by decide +kernel
theorem dX3_setField_23 : decode cX3_setField 23 = .ok (.iload_n 2, 1) := by decide +kernel
theorem dX3_setField_24 : decode cX3_setField 24 = .ok (.bipush 64, 2) := by decide +kernel
theorem dX3_setField_26 : decode cX3_setField 26 = .ok (.imul, 1) := by decide +kernel
theorem dX3_setField_27 : decode cX3_setField 27 = .ok (.iload_n 1, 1) := by decide +kernel
theorem dX3_setField_28 : decode cX3_setField 28 = .ok (.iadd, 1) := by decide +kernel
theorem dX3_setField_29 : decode cX3_setField 29 = .ok (.iload_n 3, 1) := by decide +kernel
theorem dX3_setField_30 : decode cX3_setField 30 = .ok (.iastore, 1) := by decide +kernel
theorem dX3_setField_31 : decode cX3_setField 31 = .ok (.return_, 1) := by decide +kernel
theorem sp_X3_setField {n : Nat} {h : Nat → sE} {a b v : Int}  {g1 g2 : Int → Int} (hn : 115 ≤ n) (H1 : h 1 = ent 1 g1) (H2 : h 2 = ent 2 g2) (ra : 0 ≤ a ∧ a ≤ 63) (rb : 0 ≤ b ∧ b ≤ 2) : Sp m_X3_setField 1 0 0 [.ref 1, .int (iI a), .int (iI b), .int (iI v)] n h (fun r n' h' => r = none ∧ n' = n ∧ h' 2 = ent 2 (uI (g2) (b * 64 + a) v) ∧ ∀ j, j ≠ 2 → h' j = h j) := by
  refine Sp.ofV (by decide +kernel) (Nat.le_of_ble_eq_true rfl) ?_
  refine v_iload_n dX3_setField_0 rfl ?_
  refine v_iconstI dX3_setField_1 ?_
  refine v_bipushI dX3_setField_2 rfl ?_
  refine v_callS dX3_setField_4 ml_X3_67 (sp_X11_within (a := a) (b := 0) (c := 63)   (by omega) (by omega) (by omega)) rfl rfl (by decide) (Nat.le_of_ble_eq_true rfl) (Nat.zero_le _) (Nat.zero_le _) ⟨Or.inl (fun _ _ _ q => q.2.1), fun r n1 h1 q2 => ?_⟩
  obtain ⟨rfl, rfl, rfl⟩ := q2
  try dsimp only [s_push]
  refine v_ifeqB (tgt := 31) dX3_setField_7 (by decide) (fun c_3 => ?_) (fun c_3 => ?_)
  · exact v_vret dX3_setField_31 rfl (Nat.zero_le _) (Nat.zero_le _) (by first | exact ⟨rfl, rfl, (by first | exact (show _ = ent 2 g2 from (H2.trans (ent_2 _))) | (rw [if_pos (by omega)]; exact (show _ = ent 2 g2 from (H2.trans (ent_2 _)))) | (rw [if_neg (by omega)]; exact (show _ = ent 2 g2 from (H2.trans (ent_2 _))))), fun j m2 => rfl⟩ | omega)
  · refine v_iload_n dX3_setField_10 rfl ?_
    refine v_iconstI dX3_setField_11 ?_
    refine v_iconstI dX3_setField_12 ?_
    refine v_callS dX3_setField_13 ml_X3_67 (sp_X11_within (a := b) (b := 0) (c := 2)   (by omega) (by omega) (by omega)) rfl rfl (by decide) (Nat.le_of_ble_eq_true rfl) (Nat.zero_le _) (Nat.zero_le _) ⟨Or.inl (fun _ _ _ q => q.2.1), fun r n1 h4 q5 => ?_⟩
    obtain ⟨rfl, rfl, rfl⟩ := q5
    try dsimp only [s_push]
    refine v_ifeqB (tgt := 31) dX3_setField_16 (by decide) (fun c_6 => ?_) (fun c_6 => ?_)
    · exact v_vret dX3_setField_31 rfl (Nat.zero_le _) (Nat.zero_le _) (by first | exact ⟨rfl, rfl, (by first | exact (show _ = ent 2 g2 from (H2.trans (ent_2 _))) | (rw [if_pos (by omega)]; exact (show _ = ent 2 g2 from (H2.trans (ent_2 _)))) | (rw [if_neg (by omega)]; exact (show _ = ent 2 g2 from (H2.trans (ent_2 _))))), fun j m2 => rfl⟩ | omega)
    · refine v_aload_n dX3_setField_19 rfl ?_
      refine v_get dX3_setField_20 fl_X3_9 (H1.trans (ent_1 _)) rfl (s_lt hn rfl) ?_
      refine v_iload_n dX3_setField_23 rfl ?_
      refine v_bipushI dX3_setField_24 rfl ?_
      refine v_imulI dX3_setField_26 ?_
      refine v_iload_n dX3_setField_27 rfl ?_
      refine v_iaddI dX3_setField_28 ?_
      refine v_iload_n dX3_setField_29 rfl ?_
      refine v_iastI dX3_setField_30 (H2.trans (ent_2 _)) (s_lt hn rfl) (by omega) (by omega) (by omega) (fun h7 E8 F9 => ?_)
      exact v_vret dX3_setField_31 rfl (Nat.zero_le _) (Nat.zero_le _) (by first | exact ⟨rfl, rfl, (by first | exact (show _ = ent 2 (uI g2 ((b * 64) + a) v) from E8) | (rw [if_pos (by omega)]; exact (show _ = ent 2 (uI g2 ((b * 64) + a) v) from E8)) | (rw [if_neg (by omega)]; exact (show _ = ent 2 (uI g2 ((b * 64) + a) v) from E8))), fun j m2 => (F9 j m2)⟩ | omega)
theorem dX3_cloudFact_0 : decode cX3_cloudFact 0 = .ok (.aload_n 0, 1) := by decide +kernel
theorem dX3_cloudFact_1 : decode cX3_cloudFact 1 = .ok (.iload_n 1, 1) := by decide +kernel
theorem dX3_cloudFact_2 : decode cX3_cloudFact 2 = .ok (.invokevirtual 71, 3) := by decide +kernel
theorem dX3_cloudFact_5 : decode cX3_cloudFact 5 = .ok (.ifCond .eq 12, 3) := by decide +kernel
theorem dX3_cloudFact_8 : decode cX3_cloudFact 8 = .ok (.iload_n 2, 1) := by decide +kernel
theorem dX3_cloudFact_9 : decode cX3_cloudFact 9 = .ok (.iconst 0, 1) := by decide +kernel
theorem dX3_cloudFact_10 : decode cX3_cloudFact 10 = .ok (.iconst 4, 1) := by decide +kernel
theorem dX3_cloudFact_11 : decode cX3_cloudFact 11 = .ok (.invokestatic 67, 3) := by decide +kernel
theorem dX3_cloudFact_14 : decode cX3_cloudFact 14 = .ok (.ifCond .ne 7, 3) := by decide +kernel
theorem dX3_cloudFact_17 : decode cX3_cloudFact 17 = .ok (.sipush (-1000), 3) := by decide +kernel
theorem dX3_cloudFact_20 : decode cX3_cloudFact 20 = .ok (.ireturn, 1) := by decide +kernel
theorem dX3_cloudFact_21 : decode cX3_cloudFact 21 = .ok (.aload_n 0, 1) := by decide +kernel
theorem dX3_cloudFact_22 : decode cX3_cloudFact 22 = .ok (.getfield 21, 3) := by decide +kernel
theorem dX3_cloudFact_25 : decode cX3_cloudFact 25 = .ok (.iload_n 1, 1) := by decide +kernel
theorem dX3_cloudFact_26 : decode cX3_cloudFact 26 = .ok (.iconst 5, 1) := by decide +kernel
theorem dX3_cloudFact_27 : decode cX3_cloudFact 27 = .ok (.imul, 1) := by decide +kernel
theorem dX3_cloudFact_28 : decode cX3_cloudFact 28 = .ok (.iload_n 2, 1) := by decide +kernel
theorem dX3_cloudFact_29 : decode cX3_cloudFact 29 = .ok (.iadd, 1) := by decide +kernel
theorem dX3_cloudFact_30 : decode cX3_cloudFact 30 = .ok (.iaload, 1) := by decide +kernel
theorem dX3_cloudFact_31 : decode cX3_cloudFact 31 = .ok (.ireturn, 1) := by decide +kernel
theorem sp_X3_cloudFact {n : Nat} {h : Nat → sE} {a b : Int}  {g1 g5 : Int → Int} (hn : 115 ≤ n) (H1 : h 1 = ent 1 g1) (H5 : h 5 = ent 5 g5) (ra : -2147483648 ≤ a ∧ a ≤ 2147483647) (rb : -2147483648 ≤ b ∧ b ≤ 2147483647) (i9 : 0 ≤ g1 9 ∧ g1 9 ≤ 5) : Sp m_X3_cloudFact 1 0 0 [.ref 1, .int (iI a), .int (iI b)] n h (qR (some (.int (iI (if 0 ≤ a ∧ a < g1 9 ∧ 0 ≤ b ∧ b ≤ 4 then g5 (a * 5 + b) else -1000)))) n h) := by
  refine Sp.ofV (by decide +kernel) (Nat.le_of_ble_eq_true rfl) ?_
  refine v_aload_n dX3_cloudFact_0 rfl ?_
  refine v_iload_n dX3_cloudFact_1 rfl ?_
  refine v_callV dX3_cloudFact_2 ml_X3_71 (sq_X3_isCloud (a := a) (g1 := g1) hn (show _ = ent 1 g1 from (H1.trans (ent_1 _))) (by omega) (by omega)) (H1.trans (ent_1 _)) rfl (s_lt hn rfl) rfl rfl (by decide) (Nat.le_of_ble_eq_true rfl) (Nat.zero_le _) (Nat.zero_le _) ⟨Or.inl (fun _ _ _ q => q.2.1), fun r n1 h1 q2 => ?_⟩
  obtain ⟨rfl, rfl, rfl⟩ := q2
  try dsimp only [s_push]
  refine v_ifeqB (tgt := 17) dX3_cloudFact_5 (by decide) (fun c_3 => ?_) (fun c_3 => ?_)
  · refine v_sipushI dX3_cloudFact_17 rfl ?_
    exact v_iret dX3_cloudFact_20 rfl (Nat.zero_le _) (Nat.zero_le _) (by first | exact ⟨(congrArg (fun x => some (Value.int x)) (congrArg iI (by first | rfl | omega | (split <;> first | rfl | omega | (split <;> first | rfl | omega))))), rfl, rfl⟩ | omega)
  · refine v_iload_n dX3_cloudFact_8 rfl ?_
    refine v_iconstI dX3_cloudFact_9 ?_
    refine v_iconstI dX3_cloudFact_10 ?_
    refine v_callS dX3_cloudFact_11 ml_X3_67 (sp_X11_within (a := b) (b := 0) (c := 4)   (by omega) (by omega) (by omega)) rfl rfl (by decide) (Nat.le_of_ble_eq_true rfl) (Nat.zero_le _) (Nat.zero_le _) ⟨Or.inl (fun _ _ _ q => q.2.1), fun r n1 h4 q5 => ?_⟩
    obtain ⟨rfl, rfl, rfl⟩ := q5
    try dsimp only [s_push]
    refine v_ifneB (tgt := 21) dX3_cloudFact_14 (by decide) (fun c_6 => ?_) (fun c_6 => ?_)
    · refine v_aload_n dX3_cloudFact_21 rfl ?_
      refine v_get dX3_cloudFact_22 fl_X3_21 (H1.trans (ent_1 _)) rfl (s_lt hn rfl) ?_
      refine v_iload_n dX3_cloudFact_25 rfl ?_
      refine v_iconstI dX3_cloudFact_26 ?_
      refine v_imulI dX3_cloudFact_27 ?_
      refine v_iload_n dX3_cloudFact_28 rfl ?_
      refine v_iaddI dX3_cloudFact_29 ?_
      refine v_ialdI dX3_cloudFact_30 (H5.trans (ent_5 _)) (s_lt hn rfl) (by omega) (by omega) (by omega) ?_
      exact v_iret dX3_cloudFact_31 rfl (Nat.zero_le _) (Nat.zero_le _) (by first | exact ⟨(congrArg (fun x => some (Value.int x)) (congrArg iI (by first | rfl | omega | (split <;> first | rfl | omega | (split <;> first | rfl | omega))))), rfl, rfl⟩ | omega)
    · refine v_sipushI dX3_cloudFact_17 rfl ?_
      exact v_iret dX3_cloudFact_20 rfl (Nat.zero_le _) (Nat.zero_le _) (by first | exact ⟨(congrArg (fun x => some (Value.int x)) (congrArg iI (by first | rfl | omega | (split <;> first | rfl | omega | (split <;> first | rfl | omega))))), rfl, rfl⟩ | omega)
theorem dX3_addCloud_0 : decode cX3_addCloud 0 = .ok (.aload_n 0, 1) := by decide +kernel
theorem dX3_addCloud_1 : decode cX3_addCloud 1 = .ok (.getfield 42, 3) := by decide +kernel
theorem dX3_addCloud_4 : decode cX3_addCloud 4 = .ok (.iconst 5, 1) := by decide +kernel
theorem dX3_addCloud_5 : decode cX3_addCloud 5 = .ok (.if_icmp .lt 4, 3) := by decide +kernel
theorem dX3_addCloud_8 : decode cX3_addCloud 8 = .ok (.return_, 1) := by decide +kernel
theorem dX3_addCloud_9 : decode cX3_addCloud 9 = .ok (.aload_n 0, 1) := by decide +kernel
theorem dX3_addCloud_10 : decode cX3_addCloud 10 = .ok (.getfield 42, 3) := by decide +kernel
theorem dX3_addCloud_13 : decode cX3_addCloud 13 = .ok (.iconst 5, 1) := by decide +kernel
theorem dX3_addCloud_14 : decode cX3_addCloud 14 = .ok (.imul, 1) := by decide +kernel
theorem dX3_addCloud_15 : decode cX3_addCloud 15 = .ok (.istore 6, 2) := by decide +kernel
theorem dX3_addCloud_17 : decode cX3_addCloud 17 = .ok (.aload_n 0, 1) := by decide +kernel
theorem dX3_addCloud_18 : decode cX3_addCloud 18 = .ok (.getfield 21, 3) := by decide +kernel
theorem dX3_addCloud_21 : decode cX3_addCloud 21 = .ok (.iload 6, 2) := by decide +kernel
theorem dX3_addCloud_23 : decode cX3_addCloud 23 = .ok (.iconst 0, 1) := by decide +kernel
theorem dX3_addCloud_24 : decode cX3_addCloud 24 = .ok (.iadd, 1) := by decide +kernel
theorem dX3_addCloud_25 : decode cX3_addCloud 25 = .ok (.iload_n 1, 1) := by decide +kernel
theorem dX3_addCloud_26 : decode cX3_addCloud 26 = .ok (.iastore, 1) := by decide +kernel
theorem dX3_addCloud_27 : decode cX3_addCloud 27 = .ok (.aload_n 0, 1) := by decide +kernel
theorem dX3_addCloud_28 : decode cX3_addCloud 28 = .ok (.getfield 21, 3) := by decide +kernel
theorem dX3_addCloud_31 : decode cX3_addCloud 31 = .ok (.iload 6, 2) := by decide +kernel
theorem dX3_addCloud_33 : decode cX3_addCloud 33 = .ok (.iconst 1, 1) := by decide +kernel
theorem dX3_addCloud_34 : decode cX3_addCloud 34 = .ok (.iadd, 1) := by decide +kernel
theorem dX3_addCloud_35 : decode cX3_addCloud 35 = .ok (.iload_n 2, 1) := by decide +kernel
theorem dX3_addCloud_36 : decode cX3_addCloud 36 = .ok (.iastore, 1) := by decide +kernel
theorem dX3_addCloud_37 : decode cX3_addCloud 37 = .ok (.aload_n 0, 1) := by decide +kernel
theorem dX3_addCloud_38 : decode cX3_addCloud 38 = .ok (.getfield 21, 3) := by decide +kernel
theorem dX3_addCloud_41 : decode cX3_addCloud 41 = .ok (.iload 6, 2) := by decide +kernel
theorem dX3_addCloud_43 : decode cX3_addCloud 43 = .ok (.iconst 2, 1) := by decide +kernel
theorem dX3_addCloud_44 : decode cX3_addCloud 44 = .ok (.iadd, 1) := by decide +kernel
theorem dX3_addCloud_45 : decode cX3_addCloud 45 = .ok (.iload_n 3, 1) := by decide +kernel
theorem dX3_addCloud_46 : decode cX3_addCloud 46 = .ok (.iastore, 1) := by decide +kernel
theorem dX3_addCloud_47 : decode cX3_addCloud 47 = .ok (.aload_n 0, 1) := by decide +kernel
theorem dX3_addCloud_48 : decode cX3_addCloud 48 = .ok (.getfield 21, 3) := by decide +kernel
theorem dX3_addCloud_51 : decode cX3_addCloud 51 = .ok (.iload 6, 2) := by decide +kernel
theorem dX3_addCloud_53 : decode cX3_addCloud 53 = .ok (.iconst 3, 1) := by decide +kernel
theorem dX3_addCloud_54 : decode cX3_addCloud 54 = .ok (.iadd, 1) := by decide +kernel
theorem dX3_addCloud_55 : decode cX3_addCloud 55 = .ok (.iload 4, 2) := by decide +kernel
theorem dX3_addCloud_57 : decode cX3_addCloud 57 = .ok (.iastore, 1) := by decide +kernel
theorem dX3_addCloud_58 : decode cX3_addCloud 58 = .ok (.aload_n 0, 1) := by decide +kernel
theorem dX3_addCloud_59 : decode cX3_addCloud 59 = .ok (.getfield 21, 3) := by decide +kernel
theorem dX3_addCloud_62 : decode cX3_addCloud 62 = .ok (.iload 6, 2) := by decide +kernel
theorem dX3_addCloud_64 : decode cX3_addCloud 64 = .ok (.iconst 4, 1) := by decide +kernel
theorem dX3_addCloud_65 : decode cX3_addCloud 65 = .ok (.iadd, 1) := by decide +kernel
theorem dX3_addCloud_66 : decode cX3_addCloud 66 = .ok (.iload 5, 2) := by decide +kernel
theorem dX3_addCloud_68 : decode cX3_addCloud 68 = .ok (.iastore, 1) := by decide +kernel
theorem dX3_addCloud_69 : decode cX3_addCloud 69 = .ok (.aload_n 0, 1) := by decide +kernel
theorem dX3_addCloud_70 : decode cX3_addCloud 70 = .ok (.dup, 1) := by decide +kernel
theorem dX3_addCloud_71 : decode cX3_addCloud 71 = .ok (.getfield 42, 3) := by decide +kernel
theorem dX3_addCloud_74 : decode cX3_addCloud 74 = .ok (.iconst 1, 1) := by decide +kernel
theorem dX3_addCloud_75 : decode cX3_addCloud 75 = .ok (.iadd, 1) := by decide +kernel
theorem dX3_addCloud_76 : decode cX3_addCloud 76 = .ok (.putfield 42, 3) := by decide +kernel
theorem dX3_addCloud_79 : decode cX3_addCloud 79 = .ok (.return_, 1) := by decide +kernel
theorem sp_X3_addCloud {n : Nat} {h : Nat → sE} {a b c x y : Int}  {g1 g5 : Int → Int} (hn : 115 ≤ n) (H1 : h 1 = ent 1 g1) (H5 : h 5 = ent 5 g5) (i9 : 0 ≤ g1 9 ∧ g1 9 < 5) : Sp m_X3_addCloud 0 0 0 [.ref 1, .int (iI a), .int (iI b), .int (iI c), .int (iI x), .int (iI y)] n h (fun r n' h' => r = none ∧ n' = n ∧ h' 5 = ent 5 (uI (uI (uI (uI (uI (g5) (g1 9 * 5 + 0) a) (g1 9 * 5 + 1) b) (g1 9 * 5 + 2) c) (g1 9 * 5 + 3) x) (g1 9 * 5 + 4) y) ∧ h' 1 = ent 1 ((uI g1 9 (g1 9 + 1))) ∧ ∀ j, j ≠ 5 → j ≠ 1 → h' j = h j) := by
  refine Sp.ofV (by decide +kernel) (Nat.le_of_ble_eq_true rfl) ?_
  refine v_aload_n dX3_addCloud_0 rfl ?_
  refine v_get dX3_addCloud_1 fl_X3_42 (H1.trans (ent_1 _)) rfl (s_lt hn rfl) ?_
  refine v_iconstI dX3_addCloud_4 ?_
  refine v_icmp_ltI (tgt := 9) dX3_addCloud_5 (by decide) (by omega) (by omega) (by omega) (by omega) (fun c_1 => ?_) (fun c_1 => ?_)
  · refine v_aload_n dX3_addCloud_9 rfl ?_
    refine v_get dX3_addCloud_10 fl_X3_42 (H1.trans (ent_1 _)) rfl (s_lt hn rfl) ?_
    refine v_iconstI dX3_addCloud_13 ?_
    refine v_imulI dX3_addCloud_14 ?_
    refine v_istore dX3_addCloud_15 (Nat.le_of_ble_eq_true rfl) ?_
    refine v_aload_n dX3_addCloud_17 rfl ?_
    refine v_get dX3_addCloud_18 fl_X3_21 (H1.trans (ent_1 _)) rfl (s_lt hn rfl) ?_
    refine v_iload dX3_addCloud_21 rfl ?_
    refine v_iconstI dX3_addCloud_23 ?_
    refine v_iaddI dX3_addCloud_24 ?_
    refine v_iload_n dX3_addCloud_25 rfl ?_
    refine v_iastI dX3_addCloud_26 (H5.trans (ent_5 _)) (s_lt hn rfl) (by omega) (by omega) (by omega) (fun h2 E3 F4 => ?_)
    refine v_aload_n dX3_addCloud_27 rfl ?_
    have H5 := ((F4 1 (by decide)).trans (H1.trans (ent_1 _)))
    refine v_get dX3_addCloud_28 fl_X3_21 H5 rfl (s_lt hn rfl) ?_
    refine v_iload dX3_addCloud_31 rfl ?_
    refine v_iconstI dX3_addCloud_33 ?_
    refine v_iaddI dX3_addCloud_34 ?_
    refine v_iload_n dX3_addCloud_35 rfl ?_
    refine v_iastI dX3_addCloud_36 E3 (s_lt hn rfl) (by omega) (by omega) (by omega) (fun h6 E7 F8 => ?_)
    refine v_aload_n dX3_addCloud_37 rfl ?_
    have H9 := ((F8 1 (by decide)).trans H5)
    refine v_get dX3_addCloud_38 fl_X3_21 H9 rfl (s_lt hn rfl) ?_
    refine v_iload dX3_addCloud_41 rfl ?_
    refine v_iconstI dX3_addCloud_43 ?_
    refine v_iaddI dX3_addCloud_44 ?_
    refine v_iload_n dX3_addCloud_45 rfl ?_
    refine v_iastI dX3_addCloud_46 E7 (s_lt hn rfl) (by omega) (by omega) (by omega) (fun h10 E11 F12 => ?_)
    refine v_aload_n dX3_addCloud_47 rfl ?_
    have H13 := ((F12 1 (by decide)).trans H9)
    refine v_get dX3_addCloud_48 fl_X3_21 H13 rfl (s_lt hn rfl) ?_
    refine v_iload dX3_addCloud_51 rfl ?_
    refine v_iconstI dX3_addCloud_53 ?_
    refine v_iaddI dX3_addCloud_54 ?_
    refine v_iload dX3_addCloud_55 rfl ?_
    refine v_iastI dX3_addCloud_57 E11 (s_lt hn rfl) (by omega) (by omega) (by omega) (fun h14 E15 F16 => ?_)
    refine v_aload_n dX3_addCloud_58 rfl ?_
    have H17 := ((F16 1 (by decide)).trans H13)
    refine v_get dX3_addCloud_59 fl_X3_21 H17 rfl (s_lt hn rfl) ?_
    refine v_iload dX3_addCloud_62 rfl ?_
    refine v_iconstI dX3_addCloud_64 ?_
    refine v_iaddI dX3_addCloud_65 ?_
    refine v_iload dX3_addCloud_66 rfl ?_
    refine v_iastI dX3_addCloud_68 E15 (s_lt hn rfl) (by omega) (by omega) (by omega) (fun h18 E19 F20 => ?_)
    refine v_aload_n dX3_addCloud_69 rfl ?_
    refine v_dup dX3_addCloud_70 rfl ?_
    have H21 := ((F20 1 (by decide)).trans H17)
    refine v_get dX3_addCloud_71 fl_X3_42 H21 rfl (s_lt hn rfl) ?_
    refine v_iconstI dX3_addCloud_74 ?_
    refine v_iaddI dX3_addCloud_75 ?_
    refine v_put dX3_addCloud_76 fl_X3_42 H21 (s_lt hn rfl) (Nat.le_of_ble_eq_true rfl) (fun _ => ⟨rfl, rfl⟩) trivial (fun h22 E23 F24 => ?_)
    exact v_vret dX3_addCloud_79 rfl (Nat.zero_le _) (Nat.zero_le _) (by first | exact ⟨rfl, rfl, (by first | exact (show _ = ent 5 (uI (uI (uI (uI (uI g5 (((g1 9) * 5) + 0) a) (((g1 9) * 5) + 1) b) (((g1 9) * 5) + 2) c) (((g1 9) * 5) + 3) x) (((g1 9) * 5) + 4) y) from ((F24 5 (by decide)).trans E19)) | (rw [if_pos (by omega)]; exact (show _ = ent 5 (uI (uI (uI (uI (uI g5 (((g1 9) * 5) + 0) a) (((g1 9) * 5) + 1) b) (((g1 9) * 5) + 2) c) (((g1 9) * 5) + 3) x) (((g1 9) * 5) + 4) y) from ((F24 5 (by decide)).trans E19))) | (rw [if_neg (by omega)]; exact (show _ = ent 5 (uI (uI (uI (uI (uI g5 (((g1 9) * 5) + 0) a) (((g1 9) * 5) + 1) b) (((g1 9) * 5) + 2) c) (((g1 9) * 5) + 3) x) (((g1 9) * 5) + 4) y) from ((F24 5 (by decide)).trans E19)))), (by first | exact (show _ = ent 1 (uI g1 9 ((g1 9) + 1)) from E23) | (rw [if_pos (by omega)]; exact (show _ = ent 1 (uI g1 9 ((g1 9) + 1)) from E23)) | (rw [if_neg (by omega)]; exact (show _ = ent 1 (uI g1 9 ((g1 9) + 1)) from E23))), fun j m5 m1 => ((F24 j m1).trans ((F20 j m5).trans ((F16 j m5).trans ((F12 j m5).trans ((F8 j m5).trans (F4 j m5))))))⟩ | omega)
  · exact v_vret dX3_addCloud_8 rfl (Nat.zero_le _) (Nat.zero_le _) (by first | exact ⟨rfl, rfl, (by first | exact (show _ = ent 5 g5 from (H5.trans (ent_5 _))) | (rw [if_pos (by omega)]; exact (show _ = ent 5 g5 from (H5.trans (ent_5 _)))) | (rw [if_neg (by omega)]; exact (show _ = ent 5 g5 from (H5.trans (ent_5 _))))), (by first | exact (show _ = ent 1 g1 from (H1.trans (ent_1 _))) | (rw [if_pos (by omega)]; exact (show _ = ent 1 g1 from (H1.trans (ent_1 _)))) | (rw [if_neg (by omega)]; exact (show _ = ent 1 g1 from (H1.trans (ent_1 _))))), fun j m5 m1 => rfl⟩ | omega)
theorem dX3_flagFact_0 : decode cX3_flagFact 0 = .ok (.iload_n 1, 1) := by decide +kernel
theorem dX3_flagFact_1 : decode cX3_flagFact 1 = .ok (.iconst 0, 1) := by decide +kernel
theorem dX3_flagFact_2 : decode cX3_flagFact 2 = .ok (.bipush 23, 2) := by decide +kernel
theorem dX3_flagFact_4 : decode cX3_flagFact 4 = .ok (.invokestatic 67, 3) := by decide +kernel
theorem dX3_flagFact_7 : decode cX3_flagFact 7 = .ok (.ifCond .eq 12, 3) := by decide +kernel
theorem dX3_flagFact_10 : decode cX3_flagFact 10 = .ok (.iload_n 2, 1) := by decide +kernel
theorem dX3_flagFact_11 : decode cX3_flagFact 11 = .ok (.iconst 0, 1) := by decide +kernel
theorem dX3_flagFact_12 : decode cX3_flagFact 12 = .ok (.iconst 2, 1) := by decide +kernel
theorem dX3_flagFact_13 : decode cX3_flagFact 13 = .ok (.invokestatic 67, 3) := by decide +kernel
theorem dX3_flagFact_16 : decode cX3_flagFact 16 = .ok (.ifCond .ne 5, 3) := by decide +kernel
theorem dX3_flagFact_19 : decode cX3_flagFact 19 = .ok (.iconst (-1), 1) := by decide +kernel
theorem dX3_flagFact_20 : decode cX3_flagFact 20 = .ok (.ireturn, 1) := by decide +kernel
theorem dX3_flagFact_21 : decode cX3_flagFact 21 = .ok (.aload_n 0, 1) := by decide +kernel
theorem dX3_flagFact_22 : decode cX3_flagFact 22 = .ok (.getfield 24, 3) := by decide +kernel
theorem dX3_flagFact_25 : decode cX3_flagFact 25 = .ok (.iload_n 1, 1) := by decide +kernel
theorem dX3_flagFact_26 : decode cX3_flagFact 26 = .ok (.iconst 3, 1) := by decide +kernel
theorem dX3_flagFact_27 : decode cX3_flagFact 27 = .ok (.imul, 1) := by decide +kernel
theorem dX3_flagFact_28 : decode cX3_flagFact 28 = .ok (.iload_n 2, 1) := by decide +kernel
theorem dX3_flagFact_29 : decode cX3_flagFact 29 = .ok (.iadd, 1) := by decide +kernel
theorem dX3_flagFact_30 : decode cX3_flagFact 30 = .ok (.iaload, 1) := by decide +kernel
theorem dX3_flagFact_31 : decode cX3_flagFact 31 = .ok (.ireturn, 1) := by decide +kernel
theorem sp_X3_flagFact {n : Nat} {h : Nat → sE} {a b : Int}  {g1 g6 : Int → Int} (hn : 115 ≤ n) (H1 : h 1 = ent 1 g1) (H6 : h 6 = ent 6 g6) (ra : -2147483648 ≤ a ∧ a ≤ 2147483647) (rb : -2147483648 ≤ b ∧ b ≤ 2147483647) : Sp m_X3_flagFact 1 0 0 [.ref 1, .int (iI a), .int (iI b)] n h (qR (some (.int (iI (if 0 ≤ a ∧ a ≤ 23 ∧ 0 ≤ b ∧ b ≤ 2 then g6 (a * 3 + b) else -1)))) n h) := by
  refine Sp.ofV (by decide +kernel) (Nat.le_of_ble_eq_true rfl) ?_
  refine v_iload_n dX3_flagFact_0 rfl ?_
  refine v_iconstI dX3_flagFact_1 ?_
  refine v_bipushI dX3_flagFact_2 rfl ?_
  refine v_callS dX3_flagFact_4 ml_X3_67 (sp_X11_within (a := a) (b := 0) (c := 23)   (by omega) (by omega) (by omega)) rfl rfl (by decide) (Nat.le_of_ble_eq_true rfl) (Nat.zero_le _) (Nat.zero_le _) ⟨Or.inl (fun _ _ _ q => q.2.1), fun r n1 h1 q2 => ?_⟩
  obtain ⟨rfl, rfl, rfl⟩ := q2
  try dsimp only [s_push]
  refine v_ifeqB (tgt := 19) dX3_flagFact_7 (by decide) (fun c_3 => ?_) (fun c_3 => ?_)
  · refine v_iconstI dX3_flagFact_19 ?_
    exact v_iret dX3_flagFact_20 rfl (Nat.zero_le _) (Nat.zero_le _) (by first | exact ⟨(congrArg (fun x => some (Value.int x)) (congrArg iI (by first | rfl | omega | (split <;> first | rfl | omega | (split <;> first | rfl | omega))))), rfl, rfl⟩ | omega)
  · refine v_iload_n dX3_flagFact_10 rfl ?_
    refine v_iconstI dX3_flagFact_11 ?_
    refine v_iconstI dX3_flagFact_12 ?_
    refine v_callS dX3_flagFact_13 ml_X3_67 (sp_X11_within (a := b) (b := 0) (c := 2)   (by omega) (by omega) (by omega)) rfl rfl (by decide) (Nat.le_of_ble_eq_true rfl) (Nat.zero_le _) (Nat.zero_le _) ⟨Or.inl (fun _ _ _ q => q.2.1), fun r n1 h4 q5 => ?_⟩
    obtain ⟨rfl, rfl, rfl⟩ := q5
    try dsimp only [s_push]
    refine v_ifneB (tgt := 21) dX3_flagFact_16 (by decide) (fun c_6 => ?_) (fun c_6 => ?_)
    · refine v_aload_n dX3_flagFact_21 rfl ?_
      refine v_get dX3_flagFact_22 fl_X3_24 (H1.trans (ent_1 _)) rfl (s_lt hn rfl) ?_
      refine v_iload_n dX3_flagFact_25 rfl ?_
      refine v_iconstI dX3_flagFact_26 ?_
      refine v_imulI dX3_flagFact_27 ?_
      refine v_iload_n dX3_flagFact_28 rfl ?_
      refine v_iaddI dX3_flagFact_29 ?_
      refine v_ialdI dX3_flagFact_30 (H6.trans (ent_6 _)) (s_lt hn rfl) (by omega) (by omega) (by omega) ?_
      exact v_iret dX3_flagFact_31 rfl (Nat.zero_le _) (Nat.zero_le _) (by first | exact ⟨(congrArg (fun x => some (Value.int x)) (congrArg iI (by first | rfl | omega | (split <;> first | rfl | omega | (split <;> first | rfl | omega))))), rfl, rfl⟩ | omega)
    · refine v_iconstI dX3_flagFact_19 ?_
      exact v_iret dX3_flagFact_20 rfl (Nat.zero_le _) (Nat.zero_le _) (by first | exact ⟨(congrArg (fun x => some (Value.int x)) (congrArg iI (by first | rfl | omega | (split <;> first | rfl | omega | (split <;> first | rfl | omega))))), rfl, rfl⟩ | omega)
theorem dX3_addFlag_0 : decode cX3_addFlag 0 = .ok (.aload_n 0, 1) := by decide +kernel
theorem dX3_addFlag_1 : decode cX3_addFlag 1 = .ok (.getfield 46, 3) := by decide +kernel
theorem dX3_addFlag_4 : decode cX3_addFlag 4 = .ok (.bipush 24, 2) := by decide +kernel
theorem dX3_addFlag_6 : decode cX3_addFlag 6 = .ok (.if_icmp .lt 4, 3) := by decide +kernel
theorem dX3_addFlag_9 : decode cX3_addFlag 9 = .ok (.return_, 1) := by decide +kernel
theorem dX3_addFlag_10 : decode cX3_addFlag 10 = .ok (.aload_n 0, 1) := by decide +kernel
theorem dX3_addFlag_11 : decode cX3_addFlag 11 = .ok (.getfield 46, 3) := by decide +kernel
theorem dX3_addFlag_14 : decode cX3_addFlag 14 = .ok (.iconst 3, 1) := by decide +kernel
theorem dX3_addFlag_15 : decode cX3_addFlag 15 = .ok (.imul, 1) := by decide +kernel
theorem dX3_addFlag_16 : decode cX3_addFlag 16 = .ok (.istore 4, 2) := by decide +kernel
theorem dX3_addFlag_18 : decode cX3_addFlag 18 = .ok (.aload_n 0, 1) := by decide +kernel
theorem dX3_addFlag_19 : decode cX3_addFlag 19 = .ok (.getfield 24, 3) := by decide +kernel
theorem dX3_addFlag_22 : decode cX3_addFlag 22 = .ok (.iload 4, 2) := by decide +kernel
theorem dX3_addFlag_24 : decode cX3_addFlag 24 = .ok (.iconst 0, 1) := by decide +kernel
theorem dX3_addFlag_25 : decode cX3_addFlag 25 = .ok (.iadd, 1) := by decide +kernel
theorem dX3_addFlag_26 : decode cX3_addFlag 26 = .ok (.iload_n 1, 1) := by decide +kernel
theorem dX3_addFlag_27 : decode cX3_addFlag 27 = .ok (.iastore, 1) := by decide +kernel
theorem dX3_addFlag_28 : decode cX3_addFlag 28 = .ok (.aload_n 0, 1) := by decide +kernel
theorem dX3_addFlag_29 : decode cX3_addFlag 29 = .ok (.getfield 24, 3) := by decide +kernel
theorem dX3_addFlag_32 : decode cX3_addFlag 32 = .ok (.iload 4, 2) := by decide +kernel
theorem dX3_addFlag_34 : decode cX3_addFlag 34 = .ok (.iconst 1, 1) := by decide +kernel
theorem dX3_addFlag_35 : decode cX3_addFlag 35 = .ok (.iadd, 1) := by decide +kernel
theorem dX3_addFlag_36 : decode cX3_addFlag 36 = .ok (.iload_n 2, 1) := by decide +kernel
theorem dX3_addFlag_37 : decode cX3_addFlag 37 = .ok (.iastore, 1) := by decide +kernel
theorem dX3_addFlag_38 : decode cX3_addFlag 38 = .ok (.aload_n 0, 1) := by decide +kernel
theorem dX3_addFlag_39 : decode cX3_addFlag 39 = .ok (.getfield 24, 3) := by decide +kernel
theorem dX3_addFlag_42 : decode cX3_addFlag 42 = .ok (.iload 4, 2) := by decide +kernel
theorem dX3_addFlag_44 : decode cX3_addFlag 44 = .ok (.iconst 2, 1) := by decide +kernel
theorem dX3_addFlag_45 : decode cX3_addFlag 45 = .ok (.iadd, 1) := by decide +kernel
theorem dX3_addFlag_46 : decode cX3_addFlag 46 = .ok (.iload_n 3, 1) := by decide +kernel
theorem dX3_addFlag_47 : decode cX3_addFlag 47 = .ok (.iastore, 1) := by decide +kernel
theorem dX3_addFlag_48 : decode cX3_addFlag 48 = .ok (.aload_n 0, 1) := by decide +kernel
theorem dX3_addFlag_49 : decode cX3_addFlag 49 = .ok (.dup, 1) := by decide +kernel
theorem dX3_addFlag_50 : decode cX3_addFlag 50 = .ok (.getfield 46, 3) := by decide +kernel
theorem dX3_addFlag_53 : decode cX3_addFlag 53 = .ok (.iconst 1, 1) := by decide +kernel
theorem dX3_addFlag_54 : decode cX3_addFlag 54 = .ok (.iadd, 1) := by decide +kernel
theorem dX3_addFlag_55 : decode cX3_addFlag 55 = .ok (.putfield 46, 3) := by decide +kernel
theorem dX3_addFlag_58 : decode cX3_addFlag 58 = .ok (.return_, 1) := by decide +kernel
theorem sp_X3_addFlag {n : Nat} {h : Nat → sE} {a b c : Int}  {g1 g6 : Int → Int} (hn : 115 ≤ n) (H1 : h 1 = ent 1 g1) (H6 : h 6 = ent 6 g6) (i9 : 0 ≤ g1 10 ∧ g1 10 < 24) : Sp m_X3_addFlag 0 0 0 [.ref 1, .int (iI a), .int (iI b), .int (iI c)] n h (fun r n' h' => r = none ∧ n' = n ∧ h' 6 = ent 6 (uI (uI (uI (g6) (g1 10 * 3 + 0) a) (g1 10 * 3 + 1) b) (g1 10 * 3 + 2) c) ∧ h' 1 = ent 1 ((uI g1 10 (g1 10 + 1))) ∧ ∀ j, j ≠ 6 → j ≠ 1 → h' j = h j) := by
  refine Sp.ofV (by decide +kernel) (Nat.le_of_ble_eq_true rfl) ?_
  refine v_aload_n dX3_addFlag_0 rfl ?_
  refine v_get dX3_addFlag_1 fl_X3_46 (H1.trans (ent_1 _)) rfl (s_lt hn rfl) ?_
  refine v_bipushI dX3_addFlag_4 rfl ?_
  refine v_icmp_ltI (tgt := 10) dX3_addFlag_6 (by decide) (by omega) (by omega) (by omega) (by omega) (fun c_1 => ?_) (fun c_1 => ?_)
  · refine v_aload_n dX3_addFlag_10 rfl ?_
    refine v_get dX3_addFlag_11 fl_X3_46 (H1.trans (ent_1 _)) rfl (s_lt hn rfl) ?_
    refine v_iconstI dX3_addFlag_14 ?_
    refine v_imulI dX3_addFlag_15 ?_
    refine v_istore dX3_addFlag_16 (Nat.le_of_ble_eq_true rfl) ?_
    refine v_aload_n dX3_addFlag_18 rfl ?_
    refine v_get dX3_addFlag_19 fl_X3_24 (H1.trans (ent_1 _)) rfl (s_lt hn rfl) ?_
    refine v_iload dX3_addFlag_22 rfl ?_
    refine v_iconstI dX3_addFlag_24 ?_
    refine v_iaddI dX3_addFlag_25 ?_
    refine v_iload_n dX3_addFlag_26 rfl ?_
    refine v_iastI dX3_addFlag_27 (H6.trans (ent_6 _)) (s_lt hn rfl) (by omega) (by omega) (by omega) (fun h2 E3 F4 => ?_)
    refine v_aload_n dX3_addFlag_28 rfl ?_
    have H5 := ((F4 1 (by decide)).trans (H1.trans (ent_1 _)))
    refine v_get dX3_addFlag_29 fl_X3_24 H5 rfl (s_lt hn rfl) ?_
    refine v_iload dX3_addFlag_32 rfl ?_
    refine v_iconstI dX3_addFlag_34 ?_
    refine v_iaddI dX3_addFlag_35 ?_
    refine v_iload_n dX3_addFlag_36 rfl ?_
    refine v_iastI dX3_addFlag_37 E3 (s_lt hn rfl) (by omega) (by omega) (by omega) (fun h6 E7 F8 => ?_)
    refine v_aload_n dX3_addFlag_38 rfl ?_
    have H9 := ((F8 1 (by decide)).trans H5)
    refine v_get dX3_addFlag_39 fl_X3_24 H9 rfl (s_lt hn rfl) ?_
    refine v_iload dX3_addFlag_42 rfl ?_
    refine v_iconstI dX3_addFlag_44 ?_
    refine v_iaddI dX3_addFlag_45 ?_
    refine v_iload_n dX3_addFlag_46 rfl ?_
    refine v_iastI dX3_addFlag_47 E7 (s_lt hn rfl) (by omega) (by omega) (by omega) (fun h10 E11 F12 => ?_)
    refine v_aload_n dX3_addFlag_48 rfl ?_
    refine v_dup dX3_addFlag_49 rfl ?_
    have H13 := ((F12 1 (by decide)).trans H9)
    refine v_get dX3_addFlag_50 fl_X3_46 H13 rfl (s_lt hn rfl) ?_
    refine v_iconstI dX3_addFlag_53 ?_
    refine v_iaddI dX3_addFlag_54 ?_
    refine v_put dX3_addFlag_55 fl_X3_46 H13 (s_lt hn rfl) (Nat.le_of_ble_eq_true rfl) (fun _ => ⟨rfl, rfl⟩) trivial (fun h14 E15 F16 => ?_)
    exact v_vret dX3_addFlag_58 rfl (Nat.zero_le _) (Nat.zero_le _) (by first | exact ⟨rfl, rfl, (by first | exact (show _ = ent 6 (uI (uI (uI g6 (((g1 10) * 3) + 0) a) (((g1 10) * 3) + 1) b) (((g1 10) * 3) + 2) c) from ((F16 6 (by decide)).trans E11)) | (rw [if_pos (by omega)]; exact (show _ = ent 6 (uI (uI (uI g6 (((g1 10) * 3) + 0) a) (((g1 10) * 3) + 1) b) (((g1 10) * 3) + 2) c) from ((F16 6 (by decide)).trans E11))) | (rw [if_neg (by omega)]; exact (show _ = ent 6 (uI (uI (uI g6 (((g1 10) * 3) + 0) a) (((g1 10) * 3) + 1) b) (((g1 10) * 3) + 2) c) from ((F16 6 (by decide)).trans E11)))), (by first | exact (show _ = ent 1 (uI g1 10 ((g1 10) + 1)) from E15) | (rw [if_pos (by omega)]; exact (show _ = ent 1 (uI g1 10 ((g1 10) + 1)) from E15)) | (rw [if_neg (by omega)]; exact (show _ = ent 1 (uI g1 10 ((g1 10) + 1)) from E15))), fun j m6 m1 => ((F16 j m1).trans ((F12 j m6).trans ((F8 j m6).trans (F4 j m6))))⟩ | omega)
  · exact v_vret dX3_addFlag_9 rfl (Nat.zero_le _) (Nat.zero_le _) (by first | exact ⟨rfl, rfl, (by first | exact (show _ = ent 6 g6 from (H6.trans (ent_6 _))) | (rw [if_pos (by omega)]; exact (show _ = ent 6 g6 from (H6.trans (ent_6 _)))) | (rw [if_neg (by omega)]; exact (show _ = ent 6 g6 from (H6.trans (ent_6 _))))), (by first | exact (show _ = ent 1 g1 from (H1.trans (ent_1 _))) | (rw [if_pos (by omega)]; exact (show _ = ent 1 g1 from (H1.trans (ent_1 _)))) | (rw [if_neg (by omega)]; exact (show _ = ent 1 g1 from (H1.trans (ent_1 _))))), fun j m6 m1 => rfl⟩ | omega)
theorem dX3_contractFact_0 : decode cX3_contractFact 0 = .ok (.iload_n 1, 1) := by decide +kernel
theorem dX3_contractFact_1 : decode cX3_contractFact 1 = .ok (.iconst 0, 1) := by decide +kernel
theorem dX3_contractFact_2 : decode cX3_contractFact 2 = .ok (.bipush 7, 2) := by decide +kernel
theorem dX3_contractFact_4 : decode cX3_contractFact 4 = .ok (.invokestatic 67, 3) := by decide +kernel
theorem dX3_contractFact_7 : decode cX3_contractFact 7 = .ok (.ifCond .eq 12, 3) := by decide +kernel
theorem dX3_contractFact_10 : decode cX3_contractFact 10 = .ok (.iload_n 2, 1) := by decide +kernel
theorem dX3_contractFact_11 : decode cX3_contractFact 11 = .ok (.iconst 0, 1) := by decide +kernel
theorem dX3_contractFact_12 : decode cX3_contractFact 12 = .ok (.iconst 4, 1) := by decide +kernel
theorem dX3_contractFact_13 : decode cX3_contractFact 13 = .ok (.invokestatic 67, 3) := by decide +kernel
theorem dX3_contractFact_16 : decode cX3_contractFact 16 = .ok (.ifCond .ne 5, 3) := by decide +kernel
theorem dX3_contractFact_19 : decode cX3_contractFact 19 = .ok (.iconst (-1), 1) := by decide +kernel
theorem dX3_contractFact_20 : decode cX3_contractFact 20 = .ok (.ireturn, 1) := by decide +kernel
theorem dX3_contractFact_21 : decode cX3_contractFact 21 = .ok (.aload_n 0, 1) := by decide +kernel
theorem dX3_contractFact_22 : decode cX3_contractFact 22 = .ok (.getfield 27, 3) := by decide +kernel
theorem dX3_contractFact_25 : decode cX3_contractFact 25 = .ok (.iload_n 1, 1) := by decide +kernel
theorem dX3_contractFact_26 : decode cX3_contractFact 26 = .ok (.iconst 5, 1) := by decide +kernel
theorem dX3_contractFact_27 : decode cX3_contractFact 27 = .ok (.imul, 1) := by decide +kernel
theorem dX3_contractFact_28 : decode cX3_contractFact 28 = .ok (.iload_n 2, 1) := by decide +kernel
theorem dX3_contractFact_29 : decode cX3_contractFact 29 = .ok (.iadd, 1) := by decide +kernel
theorem dX3_contractFact_30 : decode cX3_contractFact 30 = .ok (.iaload, 1) := by decide +kernel
theorem dX3_contractFact_31 : decode cX3_contractFact 31 = .ok (.ireturn, 1) := by decide +kernel
theorem sp_X3_contractFact {n : Nat} {h : Nat → sE} {a b : Int}  {g1 g7 : Int → Int} (hn : 115 ≤ n) (H1 : h 1 = ent 1 g1) (H7 : h 7 = ent 7 g7) (ra : -2147483648 ≤ a ∧ a ≤ 2147483647) (rb : -2147483648 ≤ b ∧ b ≤ 2147483647) : Sp m_X3_contractFact 1 0 0 [.ref 1, .int (iI a), .int (iI b)] n h (qR (some (.int (iI (if 0 ≤ a ∧ a ≤ 7 ∧ 0 ≤ b ∧ b ≤ 4 then g7 (a * 5 + b) else -1)))) n h) := by
  refine Sp.ofV (by decide +kernel) (Nat.le_of_ble_eq_true rfl) ?_
  refine v_iload_n dX3_contractFact_0 rfl ?_
  refine v_iconstI dX3_contractFact_1 ?_
  refine v_bipushI dX3_contractFact_2 rfl ?_
  refine v_callS dX3_contractFact_4 ml_X3_67 (sp_X11_within (a := a) (b := 0) (c := 7)   (by omega) (by omega) (by omega)) rfl rfl (by decide) (Nat.le_of_ble_eq_true rfl) (Nat.zero_le _) (Nat.zero_le _) ⟨Or.inl (fun _ _ _ q => q.2.1), fun r n1 h1 q2 => ?_⟩
  obtain ⟨rfl, rfl, rfl⟩ := q2
  try dsimp only [s_push]
  refine v_ifeqB (tgt := 19) dX3_contractFact_7 (by decide) (fun c_3 => ?_) (fun c_3 => ?_)
  · refine v_iconstI dX3_contractFact_19 ?_
    exact v_iret dX3_contractFact_20 rfl (Nat.zero_le _) (Nat.zero_le _) (by first | exact ⟨(congrArg (fun x => some (Value.int x)) (congrArg iI (by first | rfl | omega | (split <;> first | rfl | omega | (split <;> first | rfl | omega))))), rfl, rfl⟩ | omega)
  · refine v_iload_n dX3_contractFact_10 rfl ?_
    refine v_iconstI dX3_contractFact_11 ?_
    refine v_iconstI dX3_contractFact_12 ?_
    refine v_callS dX3_contractFact_13 ml_X3_67 (sp_X11_within (a := b) (b := 0) (c := 4)   (by omega) (by omega) (by omega)) rfl rfl (by decide) (Nat.le_of_ble_eq_true rfl) (Nat.zero_le _) (Nat.zero_le _) ⟨Or.inl (fun _ _ _ q => q.2.1), fun r n1 h4 q5 => ?_⟩
    obtain ⟨rfl, rfl, rfl⟩ := q5
    try dsimp only [s_push]
    refine v_ifneB (tgt := 21) dX3_contractFact_16 (by decide) (fun c_6 => ?_) (fun c_6 => ?_)
    · refine v_aload_n dX3_contractFact_21 rfl ?_
      refine v_get dX3_contractFact_22 fl_X3_27 (H1.trans (ent_1 _)) rfl (s_lt hn rfl) ?_
      refine v_iload_n dX3_contractFact_25 rfl ?_
      refine v_iconstI dX3_contractFact_26 ?_
      refine v_imulI dX3_contractFact_27 ?_
      refine v_iload_n dX3_contractFact_28 rfl ?_
      refine v_iaddI dX3_contractFact_29 ?_
      refine v_ialdI dX3_contractFact_30 (H7.trans (ent_7 _)) (s_lt hn rfl) (by omega) (by omega) (by omega) ?_
      exact v_iret dX3_contractFact_31 rfl (Nat.zero_le _) (Nat.zero_le _) (by first | exact ⟨(congrArg (fun x => some (Value.int x)) (congrArg iI (by first | rfl | omega | (split <;> first | rfl | omega | (split <;> first | rfl | omega))))), rfl, rfl⟩ | omega)
    · refine v_iconstI dX3_contractFact_19 ?_
      exact v_iret dX3_contractFact_20 rfl (Nat.zero_le _) (Nat.zero_le _) (by first | exact ⟨(congrArg (fun x => some (Value.int x)) (congrArg iI (by first | rfl | omega | (split <;> first | rfl | omega | (split <;> first | rfl | omega))))), rfl, rfl⟩ | omega)
theorem dX3_addContract_0 : decode cX3_addContract 0 = .ok (.aload_n 0, 1) := by decide +kernel
theorem dX3_addContract_1 : decode cX3_addContract 1 = .ok (.getfield 49, 3) := by decide +kernel
theorem dX3_addContract_4 : decode cX3_addContract 4 = .ok (.bipush 8, 2) := by decide +kernel
theorem dX3_addContract_6 : decode cX3_addContract 6 = .ok (.if_icmp .lt 4, 3) := by decide +kernel
theorem dX3_addContract_9 : decode cX3_addContract 9 = .ok (.return_, 1) := by decide +kernel
theorem dX3_addContract_10 : decode cX3_addContract 10 = .ok (.aload_n 0, 1) := by decide +kernel
theorem dX3_addContract_11 : decode cX3_addContract 11 = .ok (.getfield 49, 3) := by decide +kernel
theorem dX3_addContract_14 : decode cX3_addContract 14 = .ok (.iconst 5, 1) := by decide +kernel
theorem dX3_addContract_15 : decode cX3_addContract 15 = .ok (.imul, 1) := by decide +kernel
theorem dX3_addContract_16 : decode cX3_addContract 16 = .ok (.istore 6, 2) := by decide +kernel
theorem dX3_addContract_18 : decode cX3_addContract 18 = .ok (.aload_n 0, 1) := by decide +kernel
theorem dX3_addContract_19 : decode cX3_addContract 19 = .ok (.getfield 27, 3) := by decide +kernel
theorem dX3_addContract_22 : decode cX3_addContract 22 = .ok (.iload 6, 2) := by decide +kernel
theorem dX3_addContract_24 : decode cX3_addContract 24 = .ok (.iconst 0, 1) := by decide +kernel
theorem dX3_addContract_25 : decode cX3_addContract 25 = .ok (.iadd, 1) := by decide +kernel
theorem dX3_addContract_26 : decode cX3_addContract 26 = .ok (.iload_n 1, 1) := by decide +kernel
theorem dX3_addContract_27 : decode cX3_addContract 27 = .ok (.iastore, 1) := by decide +kernel
theorem dX3_addContract_28 : decode cX3_addContract 28 = .ok (.aload_n 0, 1) := by decide +kernel
theorem dX3_addContract_29 : decode cX3_addContract 29 = .ok (.getfield 27, 3) := by decide +kernel
theorem dX3_addContract_32 : decode cX3_addContract 32 = .ok (.iload 6, 2) := by decide +kernel
theorem dX3_addContract_34 : decode cX3_addContract 34 = .ok (.iconst 1, 1) := by decide +kernel
theorem dX3_addContract_35 : decode cX3_addContract 35 = .ok (.iadd, 1) := by decide +kernel
theorem dX3_addContract_36 : decode cX3_addContract 36 = .ok (.iload_n 2, 1) := by decide +kernel
theorem dX3_addContract_37 : decode cX3_addContract 37 = .ok (.iastore, 1) := by decide +kernel
theorem dX3_addContract_38 : decode cX3_addContract 38 = .ok (.aload_n 0, 1) := by decide +kernel
theorem dX3_addContract_39 : decode cX3_addContract 39 = .ok (.getfield 27, 3) := by decide +kernel
theorem dX3_addContract_42 : decode cX3_addContract 42 = .ok (.iload 6, 2) := by decide +kernel
theorem dX3_addContract_44 : decode cX3_addContract 44 = .ok (.iconst 2, 1) := by decide +kernel
theorem dX3_addContract_45 : decode cX3_addContract 45 = .ok (.iadd, 1) := by decide +kernel
theorem dX3_addContract_46 : decode cX3_addContract 46 = .ok (.iload_n 3, 1) := by decide +kernel
theorem dX3_addContract_47 : decode cX3_addContract 47 = .ok (.iastore, 1) := by decide +kernel
theorem dX3_addContract_48 : decode cX3_addContract 48 = .ok (.aload_n 0, 1) := by decide +kernel
theorem dX3_addContract_49 : decode cX3_addContract 49 = .ok (.getfield 27, 3) := by decide +kernel
theorem dX3_addContract_52 : decode cX3_addContract 52 = .ok (.iload 6, 2) := by decide +kernel
theorem dX3_addContract_54 : decode cX3_addContract 54 = .ok (.iconst 3, 1) := by decide +kernel
theorem dX3_addContract_55 : decode cX3_addContract 55 = .ok (.iadd, 1) := by decide +kernel
theorem dX3_addContract_56 : decode cX3_addContract 56 = .ok (.iload 4, 2) := by decide +kernel
theorem dX3_addContract_58 : decode cX3_addContract 58 = .ok (.iastore, 1) := by decide +kernel
theorem dX3_addContract_59 : decode cX3_addContract 59 = .ok (.aload_n 0, 1) := by decide +kernel
theorem dX3_addContract_60 : decode cX3_addContract 60 = .ok (.getfield 27, 3) := by decide +kernel
theorem dX3_addContract_63 : decode cX3_addContract 63 = .ok (.iload 6, 2) := by decide +kernel
theorem dX3_addContract_65 : decode cX3_addContract 65 = .ok (.iconst 4, 1) := by decide +kernel
theorem dX3_addContract_66 : decode cX3_addContract 66 = .ok (.iadd, 1) := by decide +kernel
theorem dX3_addContract_67 : decode cX3_addContract 67 = .ok (.iload 5, 2) := by decide +kernel
theorem dX3_addContract_69 : decode cX3_addContract 69 = .ok (.iastore, 1) := by decide +kernel
theorem dX3_addContract_70 : decode cX3_addContract 70 = .ok (.aload_n 0, 1) := by decide +kernel
theorem dX3_addContract_71 : decode cX3_addContract 71 = .ok (.dup, 1) := by decide +kernel
theorem dX3_addContract_72 : decode cX3_addContract 72 = .ok (.getfield 49, 3) := by decide +kernel
theorem dX3_addContract_75 : decode cX3_addContract 75 = .ok (.iconst 1, 1) := by decide +kernel
theorem dX3_addContract_76 : decode cX3_addContract 76 = .ok (.iadd, 1) := by decide +kernel
theorem dX3_addContract_77 : decode cX3_addContract 77 = .ok (.putfield 49, 3) := by decide +kernel
theorem dX3_addContract_80 : decode cX3_addContract 80 = .ok (.return_, 1) := by decide +kernel
theorem sp_X3_addContract {n : Nat} {h : Nat → sE} {a b c x y : Int}  {g1 g7 : Int → Int} (hn : 115 ≤ n) (H1 : h 1 = ent 1 g1) (H7 : h 7 = ent 7 g7) (i9 : 0 ≤ g1 11 ∧ g1 11 < 8) : Sp m_X3_addContract 0 0 0 [.ref 1, .int (iI a), .int (iI b), .int (iI c), .int (iI x), .int (iI y)] n h (fun r n' h' => r = none ∧ n' = n ∧ h' 7 = ent 7 (uI (uI (uI (uI (uI (g7) (g1 11 * 5 + 0) a) (g1 11 * 5 + 1) b) (g1 11 * 5 + 2) c) (g1 11 * 5 + 3) x) (g1 11 * 5 + 4) y) ∧ h' 1 = ent 1 ((uI g1 11 (g1 11 + 1))) ∧ ∀ j, j ≠ 7 → j ≠ 1 → h' j = h j) := by
  refine Sp.ofV (by decide +kernel) (Nat.le_of_ble_eq_true rfl) ?_
  refine v_aload_n dX3_addContract_0 rfl ?_
  refine v_get dX3_addContract_1 fl_X3_49 (H1.trans (ent_1 _)) rfl (s_lt hn rfl) ?_
  refine v_bipushI dX3_addContract_4 rfl ?_
  refine v_icmp_ltI (tgt := 10) dX3_addContract_6 (by decide) (by omega) (by omega) (by omega) (by omega) (fun c_1 => ?_) (fun c_1 => ?_)
  · refine v_aload_n dX3_addContract_10 rfl ?_
    refine v_get dX3_addContract_11 fl_X3_49 (H1.trans (ent_1 _)) rfl (s_lt hn rfl) ?_
    refine v_iconstI dX3_addContract_14 ?_
    refine v_imulI dX3_addContract_15 ?_
    refine v_istore dX3_addContract_16 (Nat.le_of_ble_eq_true rfl) ?_
    refine v_aload_n dX3_addContract_18 rfl ?_
    refine v_get dX3_addContract_19 fl_X3_27 (H1.trans (ent_1 _)) rfl (s_lt hn rfl) ?_
    refine v_iload dX3_addContract_22 rfl ?_
    refine v_iconstI dX3_addContract_24 ?_
    refine v_iaddI dX3_addContract_25 ?_
    refine v_iload_n dX3_addContract_26 rfl ?_
    refine v_iastI dX3_addContract_27 (H7.trans (ent_7 _)) (s_lt hn rfl) (by omega) (by omega) (by omega) (fun h2 E3 F4 => ?_)
    refine v_aload_n dX3_addContract_28 rfl ?_
    have H5 := ((F4 1 (by decide)).trans (H1.trans (ent_1 _)))
    refine v_get dX3_addContract_29 fl_X3_27 H5 rfl (s_lt hn rfl) ?_
    refine v_iload dX3_addContract_32 rfl ?_
    refine v_iconstI dX3_addContract_34 ?_
    refine v_iaddI dX3_addContract_35 ?_
    refine v_iload_n dX3_addContract_36 rfl ?_
    refine v_iastI dX3_addContract_37 E3 (s_lt hn rfl) (by omega) (by omega) (by omega) (fun h6 E7 F8 => ?_)
    refine v_aload_n dX3_addContract_38 rfl ?_
    have H9 := ((F8 1 (by decide)).trans H5)
    refine v_get dX3_addContract_39 fl_X3_27 H9 rfl (s_lt hn rfl) ?_
    refine v_iload dX3_addContract_42 rfl ?_
    refine v_iconstI dX3_addContract_44 ?_
    refine v_iaddI dX3_addContract_45 ?_
    refine v_iload_n dX3_addContract_46 rfl ?_
    refine v_iastI dX3_addContract_47 E7 (s_lt hn rfl) (by omega) (by omega) (by omega) (fun h10 E11 F12 => ?_)
    refine v_aload_n dX3_addContract_48 rfl ?_
    have H13 := ((F12 1 (by decide)).trans H9)
    refine v_get dX3_addContract_49 fl_X3_27 H13 rfl (s_lt hn rfl) ?_
    refine v_iload dX3_addContract_52 rfl ?_
    refine v_iconstI dX3_addContract_54 ?_
    refine v_iaddI dX3_addContract_55 ?_
    refine v_iload dX3_addContract_56 rfl ?_
    refine v_iastI dX3_addContract_58 E11 (s_lt hn rfl) (by omega) (by omega) (by omega) (fun h14 E15 F16 => ?_)
    refine v_aload_n dX3_addContract_59 rfl ?_
    have H17 := ((F16 1 (by decide)).trans H13)
    refine v_get dX3_addContract_60 fl_X3_27 H17 rfl (s_lt hn rfl) ?_
    refine v_iload dX3_addContract_63 rfl ?_
    refine v_iconstI dX3_addContract_65 ?_
    refine v_iaddI dX3_addContract_66 ?_
    refine v_iload dX3_addContract_67 rfl ?_
    refine v_iastI dX3_addContract_69 E15 (s_lt hn rfl) (by omega) (by omega) (by omega) (fun h18 E19 F20 => ?_)
    refine v_aload_n dX3_addContract_70 rfl ?_
    refine v_dup dX3_addContract_71 rfl ?_
    have H21 := ((F20 1 (by decide)).trans H17)
    refine v_get dX3_addContract_72 fl_X3_49 H21 rfl (s_lt hn rfl) ?_
    refine v_iconstI dX3_addContract_75 ?_
    refine v_iaddI dX3_addContract_76 ?_
    refine v_put dX3_addContract_77 fl_X3_49 H21 (s_lt hn rfl) (Nat.le_of_ble_eq_true rfl) (fun _ => ⟨rfl, rfl⟩) trivial (fun h22 E23 F24 => ?_)
    exact v_vret dX3_addContract_80 rfl (Nat.zero_le _) (Nat.zero_le _) (by first | exact ⟨rfl, rfl, (by first | exact (show _ = ent 7 (uI (uI (uI (uI (uI g7 (((g1 11) * 5) + 0) a) (((g1 11) * 5) + 1) b) (((g1 11) * 5) + 2) c) (((g1 11) * 5) + 3) x) (((g1 11) * 5) + 4) y) from ((F24 7 (by decide)).trans E19)) | (rw [if_pos (by omega)]; exact (show _ = ent 7 (uI (uI (uI (uI (uI g7 (((g1 11) * 5) + 0) a) (((g1 11) * 5) + 1) b) (((g1 11) * 5) + 2) c) (((g1 11) * 5) + 3) x) (((g1 11) * 5) + 4) y) from ((F24 7 (by decide)).trans E19))) | (rw [if_neg (by omega)]; exact (show _ = ent 7 (uI (uI (uI (uI (uI g7 (((g1 11) * 5) + 0) a) (((g1 11) * 5) + 1) b) (((g1 11) * 5) + 2) c) (((g1 11) * 5) + 3) x) (((g1 11) * 5) + 4) y) from ((F24 7 (by decide)).trans E19)))), (by first | exact (show _ = ent 1 (uI g1 11 ((g1 11) + 1)) from E23) | (rw [if_pos (by omega)]; exact (show _ = ent 1 (uI g1 11 ((g1 11) + 1)) from E23)) | (rw [if_neg (by omega)]; exact (show _ = ent 1 (uI g1 11 ((g1 11) + 1)) from E23))), fun j m7 m1 => ((F24 j m1).trans ((F20 j m7).trans ((F16 j m7).trans ((F12 j m7).trans ((F8 j m7).trans (F4 j m7))))))⟩ | omega)
  · exact v_vret dX3_addContract_9 rfl (Nat.zero_le _) (Nat.zero_le _) (by first | exact ⟨rfl, rfl, (by first | exact (show _ = ent 7 g7 from (H7.trans (ent_7 _))) | (rw [if_pos (by omega)]; exact (show _ = ent 7 g7 from (H7.trans (ent_7 _)))) | (rw [if_neg (by omega)]; exact (show _ = ent 7 g7 from (H7.trans (ent_7 _))))), (by first | exact (show _ = ent 1 g1 from (H1.trans (ent_1 _))) | (rw [if_pos (by omega)]; exact (show _ = ent 1 g1 from (H1.trans (ent_1 _)))) | (rw [if_neg (by omega)]; exact (show _ = ent 1 g1 from (H1.trans (ent_1 _))))), fun j m7 m1 => rfl⟩ | omega)
theorem dX3_sightFact_0 : decode cX3_sightFact 0 = .ok (.iload_n 1, 1) := by decide +kernel
theorem dX3_sightFact_1 : decode cX3_sightFact 1 = .ok (.iconst 0, 1) := by decide +kernel
theorem dX3_sightFact_2 : decode cX3_sightFact 2 = .ok (.bipush 9, 2) := by decide +kernel
theorem dX3_sightFact_4 : decode cX3_sightFact 4 = .ok (.invokestatic 67, 3) := by decide +kernel
theorem dX3_sightFact_7 : decode cX3_sightFact 7 = .ok (.ifCond .eq 12, 3) := by decide +kernel
theorem dX3_sightFact_10 : decode cX3_sightFact 10 = .ok (.iload_n 2, 1) := by decide +kernel
theorem dX3_sightFact_11 : decode cX3_sightFact 11 = .ok (.iconst 0, 1) := by decide +kernel
theorem dX3_sightFact_12 : decode cX3_sightFact 12 = .ok (.iconst 2, 1) := by decide +kernel
theorem dX3_sightFact_13 : decode cX3_sightFact 13 = .ok (.invokestatic 67, 3) := by decide +kernel
theorem dX3_sightFact_16 : decode cX3_sightFact 16 = .ok (.ifCond .ne 5, 3) := by decide +kernel
theorem dX3_sightFact_19 : decode cX3_sightFact 19 = .ok (.iconst (-1), 1) := by decide +kernel
theorem dX3_sightFact_20 : decode cX3_sightFact 20 = .ok (.ireturn, 1) := by decide +kernel
theorem dX3_sightFact_21 : decode cX3_sightFact 21 = .ok (.aload_n 0, 1) := by decide +kernel
theorem dX3_sightFact_22 : decode cX3_sightFact 22 = .ok (.getfield 30, 3) := by decide +kernel
theorem dX3_sightFact_25 : decode cX3_sightFact 25 = .ok (.iload_n 1, 1) := by decide +kernel
theorem dX3_sightFact_26 : decode cX3_sightFact 26 = .ok (.iconst 3, 1) := by decide +kernel
theorem dX3_sightFact_27 : decode cX3_sightFact 27 = .ok (.imul, 1) := by decide +kernel
theorem dX3_sightFact_28 : decode cX3_sightFact 28 = .ok (.iload_n 2, 1) := by decide +kernel
theorem dX3_sightFact_29 : decode cX3_sightFact 29 = .ok (.iadd, 1) := by decide +kernel
theorem dX3_sightFact_30 : decode cX3_sightFact 30 = .ok (.iaload, 1) := by decide +kernel
theorem dX3_sightFact_31 : decode cX3_sightFact 31 = .ok (.ireturn, 1) := by decide +kernel
theorem sp_X3_sightFact {n : Nat} {h : Nat → sE} {a b : Int}  {g1 g8 : Int → Int} (hn : 115 ≤ n) (H1 : h 1 = ent 1 g1) (H8 : h 8 = ent 8 g8) (ra : -2147483648 ≤ a ∧ a ≤ 2147483647) (rb : -2147483648 ≤ b ∧ b ≤ 2147483647) : Sp m_X3_sightFact 1 0 0 [.ref 1, .int (iI a), .int (iI b)] n h (qR (some (.int (iI (if 0 ≤ a ∧ a ≤ 9 ∧ 0 ≤ b ∧ b ≤ 2 then g8 (a * 3 + b) else -1)))) n h) := by
  refine Sp.ofV (by decide +kernel) (Nat.le_of_ble_eq_true rfl) ?_
  refine v_iload_n dX3_sightFact_0 rfl ?_
  refine v_iconstI dX3_sightFact_1 ?_
  refine v_bipushI dX3_sightFact_2 rfl ?_
  refine v_callS dX3_sightFact_4 ml_X3_67 (sp_X11_within (a := a) (b := 0) (c := 9)   (by omega) (by omega) (by omega)) rfl rfl (by decide) (Nat.le_of_ble_eq_true rfl) (Nat.zero_le _) (Nat.zero_le _) ⟨Or.inl (fun _ _ _ q => q.2.1), fun r n1 h1 q2 => ?_⟩
  obtain ⟨rfl, rfl, rfl⟩ := q2
  try dsimp only [s_push]
  refine v_ifeqB (tgt := 19) dX3_sightFact_7 (by decide) (fun c_3 => ?_) (fun c_3 => ?_)
  · refine v_iconstI dX3_sightFact_19 ?_
    exact v_iret dX3_sightFact_20 rfl (Nat.zero_le _) (Nat.zero_le _) (by first | exact ⟨(congrArg (fun x => some (Value.int x)) (congrArg iI (by first | rfl | omega | (split <;> first | rfl | omega | (split <;> first | rfl | omega))))), rfl, rfl⟩ | omega)
  · refine v_iload_n dX3_sightFact_10 rfl ?_
    refine v_iconstI dX3_sightFact_11 ?_
    refine v_iconstI dX3_sightFact_12 ?_
    refine v_callS dX3_sightFact_13 ml_X3_67 (sp_X11_within (a := b) (b := 0) (c := 2)   (by omega) (by omega) (by omega)) rfl rfl (by decide) (Nat.le_of_ble_eq_true rfl) (Nat.zero_le _) (Nat.zero_le _) ⟨Or.inl (fun _ _ _ q => q.2.1), fun r n1 h4 q5 => ?_⟩
    obtain ⟨rfl, rfl, rfl⟩ := q5
    try dsimp only [s_push]
    refine v_ifneB (tgt := 21) dX3_sightFact_16 (by decide) (fun c_6 => ?_) (fun c_6 => ?_)
    · refine v_aload_n dX3_sightFact_21 rfl ?_
      refine v_get dX3_sightFact_22 fl_X3_30 (H1.trans (ent_1 _)) rfl (s_lt hn rfl) ?_
      refine v_iload_n dX3_sightFact_25 rfl ?_
      refine v_iconstI dX3_sightFact_26 ?_
      refine v_imulI dX3_sightFact_27 ?_
      refine v_iload_n dX3_sightFact_28 rfl ?_
      refine v_iaddI dX3_sightFact_29 ?_
      refine v_ialdI dX3_sightFact_30 (H8.trans (ent_8 _)) (s_lt hn rfl) (by omega) (by omega) (by omega) ?_
      exact v_iret dX3_sightFact_31 rfl (Nat.zero_le _) (Nat.zero_le _) (by first | exact ⟨(congrArg (fun x => some (Value.int x)) (congrArg iI (by first | rfl | omega | (split <;> first | rfl | omega | (split <;> first | rfl | omega))))), rfl, rfl⟩ | omega)
    · refine v_iconstI dX3_sightFact_19 ?_
      exact v_iret dX3_sightFact_20 rfl (Nat.zero_le _) (Nat.zero_le _) (by first | exact ⟨(congrArg (fun x => some (Value.int x)) (congrArg iI (by first | rfl | omega | (split <;> first | rfl | omega | (split <;> first | rfl | omega))))), rfl, rfl⟩ | omega)
theorem dX3_addSight_0 : decode cX3_addSight 0 = .ok (.aload_n 0, 1) := by decide +kernel
theorem dX3_addSight_1 : decode cX3_addSight 1 = .ok (.getfield 52, 3) := by decide +kernel
theorem dX3_addSight_4 : decode cX3_addSight 4 = .ok (.bipush 10, 2) := by decide +kernel
theorem dX3_addSight_6 : decode cX3_addSight 6 = .ok (.if_icmp .lt 4, 3) := by decide +kernel
theorem dX3_addSight_9 : decode cX3_addSight 9 = .ok (.return_, 1) := by decide +kernel
theorem dX3_addSight_10 : decode cX3_addSight 10 = .ok (.aload_n 0, 1) := by decide +kernel
theorem dX3_addSight_11 : decode cX3_addSight 11 = .ok (.getfield 52, 3) := by decide +kernel
theorem dX3_addSight_14 : decode cX3_addSight 14 = .ok (.iconst 3, 1) := by decide +kernel
theorem dX3_addSight_15 : decode cX3_addSight 15 = .ok (.imul, 1) := by decide +kernel
theorem dX3_addSight_16 : decode cX3_addSight 16 = .ok (.istore 4, 2) := by decide +kernel
theorem dX3_addSight_18 : decode cX3_addSight 18 = .ok (.aload_n 0, 1) := by decide +kernel
theorem dX3_addSight_19 : decode cX3_addSight 19 = .ok (.getfield 30, 3) := by decide +kernel
theorem dX3_addSight_22 : decode cX3_addSight 22 = .ok (.iload 4, 2) := by decide +kernel
theorem dX3_addSight_24 : decode cX3_addSight 24 = .ok (.iconst 0, 1) := by decide +kernel
theorem dX3_addSight_25 : decode cX3_addSight 25 = .ok (.iadd, 1) := by decide +kernel
theorem dX3_addSight_26 : decode cX3_addSight 26 = .ok (.iload_n 1, 1) := by decide +kernel
theorem dX3_addSight_27 : decode cX3_addSight 27 = .ok (.iastore, 1) := by decide +kernel
theorem dX3_addSight_28 : decode cX3_addSight 28 = .ok (.aload_n 0, 1) := by decide +kernel
theorem dX3_addSight_29 : decode cX3_addSight 29 = .ok (.getfield 30, 3) := by decide +kernel
theorem dX3_addSight_32 : decode cX3_addSight 32 = .ok (.iload 4, 2) := by decide +kernel
theorem dX3_addSight_34 : decode cX3_addSight 34 = .ok (.iconst 1, 1) := by decide +kernel
theorem dX3_addSight_35 : decode cX3_addSight 35 = .ok (.iadd, 1) := by decide +kernel
theorem dX3_addSight_36 : decode cX3_addSight 36 = .ok (.iload_n 2, 1) := by decide +kernel
theorem dX3_addSight_37 : decode cX3_addSight 37 = .ok (.iastore, 1) := by decide +kernel
theorem dX3_addSight_38 : decode cX3_addSight 38 = .ok (.aload_n 0, 1) := by decide +kernel
theorem dX3_addSight_39 : decode cX3_addSight 39 = .ok (.getfield 30, 3) := by decide +kernel
theorem dX3_addSight_42 : decode cX3_addSight 42 = .ok (.iload 4, 2) := by decide +kernel
theorem dX3_addSight_44 : decode cX3_addSight 44 = .ok (.iconst 2, 1) := by decide +kernel
theorem dX3_addSight_45 : decode cX3_addSight 45 = .ok (.iadd, 1) := by decide +kernel
theorem dX3_addSight_46 : decode cX3_addSight 46 = .ok (.iload_n 3, 1) := by decide +kernel
theorem dX3_addSight_47 : decode cX3_addSight 47 = .ok (.iastore, 1) := by decide +kernel
theorem dX3_addSight_48 : decode cX3_addSight 48 = .ok (.aload_n 0, 1) := by decide +kernel
theorem dX3_addSight_49 : decode cX3_addSight 49 = .ok (.dup, 1) := by decide +kernel
theorem dX3_addSight_50 : decode cX3_addSight 50 = .ok (.getfield 52, 3) := by decide +kernel
theorem dX3_addSight_53 : decode cX3_addSight 53 = .ok (.iconst 1, 1) := by decide +kernel
theorem dX3_addSight_54 : decode cX3_addSight 54 = .ok (.iadd, 1) := by decide +kernel
theorem dX3_addSight_55 : decode cX3_addSight 55 = .ok (.putfield 52, 3) := by decide +kernel
theorem dX3_addSight_58 : decode cX3_addSight 58 = .ok (.return_, 1) := by decide +kernel
theorem sp_X3_addSight {n : Nat} {h : Nat → sE} {a b c : Int}  {g1 g8 : Int → Int} (hn : 115 ≤ n) (H1 : h 1 = ent 1 g1) (H8 : h 8 = ent 8 g8) (i9 : 0 ≤ g1 12 ∧ g1 12 < 10) : Sp m_X3_addSight 0 0 0 [.ref 1, .int (iI a), .int (iI b), .int (iI c)] n h (fun r n' h' => r = none ∧ n' = n ∧ h' 8 = ent 8 (uI (uI (uI (g8) (g1 12 * 3 + 0) a) (g1 12 * 3 + 1) b) (g1 12 * 3 + 2) c) ∧ h' 1 = ent 1 ((uI g1 12 (g1 12 + 1))) ∧ ∀ j, j ≠ 8 → j ≠ 1 → h' j = h j) := by
  refine Sp.ofV (by decide +kernel) (Nat.le_of_ble_eq_true rfl) ?_
  refine v_aload_n dX3_addSight_0 rfl ?_
  refine v_get dX3_addSight_1 fl_X3_52 (H1.trans (ent_1 _)) rfl (s_lt hn rfl) ?_
  refine v_bipushI dX3_addSight_4 rfl ?_
  refine v_icmp_ltI (tgt := 10) dX3_addSight_6 (by decide) (by omega) (by omega) (by omega) (by omega) (fun c_1 => ?_) (fun c_1 => ?_)
  · refine v_aload_n dX3_addSight_10 rfl ?_
    refine v_get dX3_addSight_11 fl_X3_52 (H1.trans (ent_1 _)) rfl (s_lt hn rfl) ?_
    refine v_iconstI dX3_addSight_14 ?_
    refine v_imulI dX3_addSight_15 ?_
    refine v_istore dX3_addSight_16 (Nat.le_of_ble_eq_true rfl) ?_
    refine v_aload_n dX3_addSight_18 rfl ?_
    refine v_get dX3_addSight_19 fl_X3_30 (H1.trans (ent_1 _)) rfl (s_lt hn rfl) ?_
    refine v_iload dX3_addSight_22 rfl ?_
    refine v_iconstI dX3_addSight_24 ?_
    refine v_iaddI dX3_addSight_25 ?_
    refine v_iload_n dX3_addSight_26 rfl ?_
    refine v_iastI dX3_addSight_27 (H8.trans (ent_8 _)) (s_lt hn rfl) (by omega) (by omega) (by omega) (fun h2 E3 F4 => ?_)
    refine v_aload_n dX3_addSight_28 rfl ?_
    have H5 := ((F4 1 (by decide)).trans (H1.trans (ent_1 _)))
    refine v_get dX3_addSight_29 fl_X3_30 H5 rfl (s_lt hn rfl) ?_
    refine v_iload dX3_addSight_32 rfl ?_
    refine v_iconstI dX3_addSight_34 ?_
    refine v_iaddI dX3_addSight_35 ?_
    refine v_iload_n dX3_addSight_36 rfl ?_
    refine v_iastI dX3_addSight_37 E3 (s_lt hn rfl) (by omega) (by omega) (by omega) (fun h6 E7 F8 => ?_)
    refine v_aload_n dX3_addSight_38 rfl ?_
    have H9 := ((F8 1 (by decide)).trans H5)
    refine v_get dX3_addSight_39 fl_X3_30 H9 rfl (s_lt hn rfl) ?_
    refine v_iload dX3_addSight_42 rfl ?_
    refine v_iconstI dX3_addSight_44 ?_
    refine v_iaddI dX3_addSight_45 ?_
    refine v_iload_n dX3_addSight_46 rfl ?_
    refine v_iastI dX3_addSight_47 E7 (s_lt hn rfl) (by omega) (by omega) (by omega) (fun h10 E11 F12 => ?_)
    refine v_aload_n dX3_addSight_48 rfl ?_
    refine v_dup dX3_addSight_49 rfl ?_
    have H13 := ((F12 1 (by decide)).trans H9)
    refine v_get dX3_addSight_50 fl_X3_52 H13 rfl (s_lt hn rfl) ?_
    refine v_iconstI dX3_addSight_53 ?_
    refine v_iaddI dX3_addSight_54 ?_
    refine v_put dX3_addSight_55 fl_X3_52 H13 (s_lt hn rfl) (Nat.le_of_ble_eq_true rfl) (fun _ => ⟨rfl, rfl⟩) trivial (fun h14 E15 F16 => ?_)
    exact v_vret dX3_addSight_58 rfl (Nat.zero_le _) (Nat.zero_le _) (by first | exact ⟨rfl, rfl, (by first | exact (show _ = ent 8 (uI (uI (uI g8 (((g1 12) * 3) + 0) a) (((g1 12) * 3) + 1) b) (((g1 12) * 3) + 2) c) from ((F16 8 (by decide)).trans E11)) | (rw [if_pos (by omega)]; exact (show _ = ent 8 (uI (uI (uI g8 (((g1 12) * 3) + 0) a) (((g1 12) * 3) + 1) b) (((g1 12) * 3) + 2) c) from ((F16 8 (by decide)).trans E11))) | (rw [if_neg (by omega)]; exact (show _ = ent 8 (uI (uI (uI g8 (((g1 12) * 3) + 0) a) (((g1 12) * 3) + 1) b) (((g1 12) * 3) + 2) c) from ((F16 8 (by decide)).trans E11)))), (by first | exact (show _ = ent 1 (uI g1 12 ((g1 12) + 1)) from E15) | (rw [if_pos (by omega)]; exact (show _ = ent 1 (uI g1 12 ((g1 12) + 1)) from E15)) | (rw [if_neg (by omega)]; exact (show _ = ent 1 (uI g1 12 ((g1 12) + 1)) from E15))), fun j m8 m1 => ((F16 j m1).trans ((F12 j m8).trans ((F8 j m8).trans (F4 j m8))))⟩ | omega)
  · exact v_vret dX3_addSight_9 rfl (Nat.zero_le _) (Nat.zero_le _) (by first | exact ⟨rfl, rfl, (by first | exact (show _ = ent 8 g8 from (H8.trans (ent_8 _))) | (rw [if_pos (by omega)]; exact (show _ = ent 8 g8 from (H8.trans (ent_8 _)))) | (rw [if_neg (by omega)]; exact (show _ = ent 8 g8 from (H8.trans (ent_8 _))))), (by first | exact (show _ = ent 1 g1 from (H1.trans (ent_1 _))) | (rw [if_pos (by omega)]; exact (show _ = ent 1 g1 from (H1.trans (ent_1 _)))) | (rw [if_neg (by omega)]; exact (show _ = ent 1 g1 from (H1.trans (ent_1 _))))), fun j m8 m1 => rfl⟩ | omega)
theorem dX11_grant_0 : decode cX11_grant 0 = .ok (.aload_n 0, 1) := by decide +kernel
theorem dX11_grant_1 : decode cX11_grant 1 = .ok (.iconst 0, 1) := by decide +kernel
theorem dX11_grant_2 : decode cX11_grant 2 = .ok (.putfield 99, 3) := by decide +kernel
theorem dX11_grant_5 : decode cX11_grant 5 = .ok (.iload_n 1, 1) := by decide +kernel
theorem dX11_grant_6 : decode cX11_grant 6 = .ok (.ireturn, 1) := by decide +kernel
theorem sp_X11_grant {n : Nat} {h : Nat → sE} {a : Int}  {g0 : Int → Int} (hn : 115 ≤ n) (H0 : h 0 = ent 0 g0)  : Sp m_X11_grant 0 0 0 [.ref 0, .int (iI a)] n h (fun r n' h' => r = some (.int (iI (a))) ∧ n' = n ∧ h' 0 = ent 0 ((uI g0 13 0)) ∧ ∀ j, j ≠ 0 → h' j = h j) := by
  refine Sp.ofV (by decide +kernel) (Nat.le_of_ble_eq_true rfl) ?_
  refine v_aload_n dX11_grant_0 rfl ?_
  refine v_iconstI dX11_grant_1 ?_
  refine v_put dX11_grant_2 fl_X11_99 (H0.trans (ent_0 _)) (s_lt hn rfl) (Nat.le_of_ble_eq_true rfl) (fun _ => ⟨rfl, rfl⟩) trivial (fun h1 E2 F3 => ?_)
  refine v_iload_n dX11_grant_5 rfl ?_
  exact v_iret dX11_grant_6 rfl (Nat.zero_le _) (Nat.zero_le _) (by first | exact ⟨(congrArg (fun x => some (Value.int x)) (congrArg iI (by first | rfl | omega | (split <;> first | rfl | omega | (split <;> first | rfl | omega))))), rfl, (by first | exact (show _ = ent 0 (uI g0 13 0) from E2) | (rw [if_pos (by omega)]; exact (show _ = ent 0 (uI g0 13 0) from E2)) | (rw [if_neg (by omega)]; exact (show _ = ent 0 (uI g0 13 0) from E2))), fun j m0 => (F3 j m0)⟩ | omega)
theorem dX11_refuse_0 : decode cX11_refuse 0 = .ok (.aload_n 0, 1) := by decide +kernel
theorem dX11_refuse_1 : decode cX11_refuse 1 = .ok (.iload_n 1, 1) := by decide +kernel
theorem dX11_refuse_2 : decode cX11_refuse 2 = .ok (.putfield 99, 3) := by decide +kernel
theorem dX11_refuse_5 : decode cX11_refuse 5 = .ok (.iload_n 1, 1) := by decide +kernel
theorem dX11_refuse_6 : decode cX11_refuse 6 = .ok (.bipush (-3), 2) := by decide +kernel
theorem dX11_refuse_8 : decode cX11_refuse 8 = .ok (.if_icmp .lt 10, 3) := by decide +kernel
theorem dX11_refuse_11 : decode cX11_refuse 11 = .ok (.iload_n 1, 1) := by decide +kernel
theorem dX11_refuse_12 : decode cX11_refuse 12 = .ok (.ineg, 1) := by decide +kernel
theorem dX11_refuse_13 : decode cX11_refuse 13 = .ok (.iconst 1, 1) := by decide +kernel
theorem dX11_refuse_14 : decode cX11_refuse 14 = .ok (.isub, 1) := by decide +kernel
theorem dX11_refuse_15 : decode cX11_refuse 15 = .ok (.goto 7, 3) := by decide +kernel
theorem dX11_refuse_18 : decode cX11_refuse 18 = .ok (.iload_n 1, 1) := by decide +kernel
theorem dX11_refuse_19 : decode cX11_refuse 19 = .ok (.ineg, 1) := by decide +kernel
theorem dX11_refuse_20 : decode cX11_refuse 20 = .ok (.iconst 2, 1) := by decide +kernel
theorem dX11_refuse_21 : decode cX11_refuse 21 = .ok (.isub, 1) := by decide +kernel
theorem dX11_refuse_22 : decode cX11_refuse 22 = .ok (.istore_n 2, 1) := by decide +kernel
theorem dX11_refuse_23 : decode cX11_refuse 23 = .ok (.iload_n 2, 1) := by decide +kernel
theorem dX11_refuse_24 : decode cX11_refuse 24 = .ok (.ifCond .lt 22, 3) := by decide +kernel
theorem dX11_refuse_27 : decode cX11_refuse 27 = .ok (.iload_n 2, 1) := by decide +kernel
theorem dX11_refuse_28 : decode cX11_refuse 28 = .ok (.aload_n 0, 1) := by decide +kernel
theorem dX11_refuse_29 : decode cX11_refuse 29 = .ok (.getfield 95, 3) := by decide +kernel
theorem dX11_refuse_32 : decode cX11_refuse 32 = .ok (.arraylength, 1) := by decide +kernel
theorem dX11_refuse_33 : decode cX11_refuse 33 = .ok (.if_icmp .ge 13, 3) := by decide +kernel
theorem dX11_refuse_36 : decode cX11_refuse 36 = .ok (.aload_n 0, 1) := by decide +kernel
theorem dX11_refuse_37 : decode cX11_refuse 37 = .ok (.getfield 95, 3) := by decide +kernel
theorem dX11_refuse_40 : decode cX11_refuse 40 = .ok (.iload_n 2, 1) := by decide +kernel
theorem dX11_refuse_41 : decode cX11_refuse 41 = .ok (.dup2, 1) := by decide +kernel
theorem dX11_refuse_42 : decode cX11_refuse 42 = .ok (.iaload, 1) := by decide +kernel
theorem dX11_refuse_43 : decode cX11_refuse 43 = .ok (.iconst 1, 1) := by decide +kernel
theorem dX11_refuse_44 : decode cX11_refuse 44 = .ok (.iadd, 1) := by decide +kernel
theorem dX11_refuse_45 : decode cX11_refuse 45 = .ok (.iastore, 1) := by decide +kernel
theorem dX11_refuse_46 : decode cX11_refuse 46 = .ok (.iload_n 1, 1) := by decide +kernel
theorem dX11_refuse_47 : decode cX11_refuse 47 = .ok (.ireturn, 1) := by decide +kernel
theorem sp_X11_refuse {n : Nat} {h : Nat → sE} {a : Int}  {g0 g76 : Int → Int} (hn : 115 ≤ n) (H0 : h 0 = ent 0 g0) (H76 : h 76 = ent 76 g76) (ra : -6 ≤ a ∧ a ≤ -1 ∧ ¬ a = -4) (i76 : ∀ j, 0 ≤ j → j ≤ 4 → -2147483648 ≤ g76 j ∧ g76 j ≤ 2147483646) : Sp m_X11_refuse 0 0 0 [.ref 0, .int (iI a)] n h (fun r n' h' => r = some (.int (iI (a))) ∧ n' = n ∧ h' 0 = ent 0 ((uI g0 13 (a))) ∧ h' 76 = ent 76 (uI (g76) (if -3 ≤ a then -a - 1 else -a - 2) (g76 (if -3 ≤ a then -a - 1 else -a - 2) + 1)) ∧ ∀ j, j ≠ 0 → j ≠ 76 → h' j = h j) := by
  refine Sp.ofV (by decide +kernel) (Nat.le_of_ble_eq_true rfl) ?_
  refine v_aload_n dX11_refuse_0 rfl ?_
  refine v_iload_n dX11_refuse_1 rfl ?_
  refine v_put dX11_refuse_2 fl_X11_99 (H0.trans (ent_0 _)) (s_lt hn rfl) (Nat.le_of_ble_eq_true rfl) (fun _ => ⟨rfl, rfl⟩) trivial (fun h1 E2 F3 => ?_)
  refine v_iload_n dX11_refuse_5 rfl ?_
  refine v_bipushI dX11_refuse_6 rfl ?_
  refine v_icmp_ltI (tgt := 18) dX11_refuse_8 (by decide) (by omega) (by omega) (by omega) (by omega) (fun c_4 => ?_) (fun c_4 => ?_)
  · refine v_iload_n dX11_refuse_18 rfl ?_
    refine v_inegI dX11_refuse_19 ?_
    refine v_iconstI dX11_refuse_20 ?_
    refine v_isubI dX11_refuse_21 ?_
    refine v_istore_n dX11_refuse_22 (Nat.le_of_ble_eq_true rfl) ?_
    refine v_iload_n dX11_refuse_23 rfl ?_
    refine v_if_ltI (tgt := 46) dX11_refuse_24 (by decide) (by omega) (by omega) (fun c_5 => ?_) (fun c_5 => ?_)
    · refine v_iload_n dX11_refuse_46 rfl ?_
      exact v_iret dX11_refuse_47 rfl (Nat.zero_le _) (Nat.zero_le _) (by first | exact ⟨(congrArg (fun x => some (Value.int x)) (congrArg iI (by first | rfl | omega | (split <;> first | rfl | omega | (split <;> first | rfl | omega))))), rfl, (by first | exact (show _ = ent 0 (uI g0 13 a) from E2) | (rw [if_pos (show -3 ≤ a by omega)]; exact (show _ = ent 0 (uI g0 13 a) from E2)) | (rw [if_neg (show ¬ -3 ≤ a by omega)]; exact (show _ = ent 0 (uI g0 13 a) from E2))), (by first | exact (show _ = ent 76 g76 from ((F3 76 (by decide)).trans (H76.trans (ent_76 _)))) | (rw [if_pos (show -3 ≤ a by omega)]; exact (show _ = ent 76 g76 from ((F3 76 (by decide)).trans (H76.trans (ent_76 _))))) | (rw [if_neg (show ¬ -3 ≤ a by omega)]; exact (show _ = ent 76 g76 from ((F3 76 (by decide)).trans (H76.trans (ent_76 _)))))), fun j m0 m76 => (F3 j m0)⟩ | omega)
    · refine v_iload_n dX11_refuse_27 rfl ?_
      refine v_aload_n dX11_refuse_28 rfl ?_
      refine v_get dX11_refuse_29 fl_X11_95 E2 rfl (s_lt hn rfl) ?_
      have H6 := ((F3 76 (by decide)).trans (H76.trans (ent_76 _)))
      refine v_alen_aI dX11_refuse_32 H6 (s_lt hn rfl) ?_
      refine v_icmp_geI (tgt := 46) dX11_refuse_33 (by decide) (by omega) (by omega) (by omega) (by omega) (fun c_7 => ?_) (fun c_7 => ?_)
      · refine v_iload_n dX11_refuse_46 rfl ?_
        exact v_iret dX11_refuse_47 rfl (Nat.zero_le _) (Nat.zero_le _) (by first | exact ⟨(congrArg (fun x => some (Value.int x)) (congrArg iI (by first | rfl | omega | (split <;> first | rfl | omega | (split <;> first | rfl | omega))))), rfl, (by first | exact (show _ = ent 0 (uI g0 13 a) from E2) | (rw [if_pos (show -3 ≤ a by omega)]; exact (show _ = ent 0 (uI g0 13 a) from E2)) | (rw [if_neg (show ¬ -3 ≤ a by omega)]; exact (show _ = ent 0 (uI g0 13 a) from E2))), (by first | exact (show _ = ent 76 g76 from H6) | (rw [if_pos (show -3 ≤ a by omega)]; exact (show _ = ent 76 g76 from H6)) | (rw [if_neg (show ¬ -3 ≤ a by omega)]; exact (show _ = ent 76 g76 from H6))), fun j m0 m76 => (F3 j m0)⟩ | omega)
      · refine v_aload_n dX11_refuse_36 rfl ?_
        refine v_get dX11_refuse_37 fl_X11_95 E2 rfl (s_lt hn rfl) ?_
        refine v_iload_n dX11_refuse_40 rfl ?_
        refine v_dup2 dX11_refuse_41 rfl rfl ?_
        refine v_ialdI dX11_refuse_42 H6 (s_lt hn rfl) (by omega) (by omega) (by omega) ?_
        refine v_iconstI dX11_refuse_43 ?_
        refine v_iaddI dX11_refuse_44 ?_
        refine v_iastI dX11_refuse_45 H6 (s_lt hn rfl) (by omega) (by omega) (by omega) (fun h8 E9 F10 => ?_)
        refine v_iload_n dX11_refuse_46 rfl ?_
        exact v_iret dX11_refuse_47 rfl (Nat.zero_le _) (Nat.zero_le _) (by first | exact ⟨(congrArg (fun x => some (Value.int x)) (congrArg iI (by first | rfl | omega | (split <;> first | rfl | omega | (split <;> first | rfl | omega))))), rfl, (by first | exact (show _ = ent 0 (uI g0 13 a) from ((F10 0 (by decide)).trans E2)) | (rw [if_pos (show -3 ≤ a by omega)]; exact (show _ = ent 0 (uI g0 13 a) from ((F10 0 (by decide)).trans E2))) | (rw [if_neg (show ¬ -3 ≤ a by omega)]; exact (show _ = ent 0 (uI g0 13 a) from ((F10 0 (by decide)).trans E2)))), (by first | exact (show _ = ent 76 (uI g76 ((-a) - 2) ((g76 ((-a) - 2)) + 1)) from E9) | (rw [if_pos (show -3 ≤ a by omega)]; exact (show _ = ent 76 (uI g76 ((-a) - 2) ((g76 ((-a) - 2)) + 1)) from E9)) | (rw [if_neg (show ¬ -3 ≤ a by omega)]; exact (show _ = ent 76 (uI g76 ((-a) - 2) ((g76 ((-a) - 2)) + 1)) from E9))), fun j m0 m76 => ((F10 j m76).trans (F3 j m0))⟩ | omega)
  · refine v_iload_n dX11_refuse_11 rfl ?_
    refine v_inegI dX11_refuse_12 ?_
    refine v_iconstI dX11_refuse_13 ?_
    refine v_isubI dX11_refuse_14 ?_
    refine v_goto (tgt := 22) dX11_refuse_15 (by decide) ?_
    refine v_istore_n dX11_refuse_22 (Nat.le_of_ble_eq_true rfl) ?_
    refine v_iload_n dX11_refuse_23 rfl ?_
    refine v_if_ltI (tgt := 46) dX11_refuse_24 (by decide) (by omega) (by omega) (fun c_11 => ?_) (fun c_11 => ?_)
    · refine v_iload_n dX11_refuse_46 rfl ?_
      exact v_iret dX11_refuse_47 rfl (Nat.zero_le _) (Nat.zero_le _) (by first | exact ⟨(congrArg (fun x => some (Value.int x)) (congrArg iI (by first | rfl | omega | (split <;> first | rfl | omega | (split <;> first | rfl | omega))))), rfl, (by first | exact (show _ = ent 0 (uI g0 13 a) from E2) | (rw [if_pos (show -3 ≤ a by omega)]; exact (show _ = ent 0 (uI g0 13 a) from E2)) | (rw [if_neg (show ¬ -3 ≤ a by omega)]; exact (show _ = ent 0 (uI g0 13 a) from E2))), (by first | exact (show _ = ent 76 g76 from ((F3 76 (by decide)).trans (H76.trans (ent_76 _)))) | (rw [if_pos (show -3 ≤ a by omega)]; exact (show _ = ent 76 g76 from ((F3 76 (by decide)).trans (H76.trans (ent_76 _))))) | (rw [if_neg (show ¬ -3 ≤ a by omega)]; exact (show _ = ent 76 g76 from ((F3 76 (by decide)).trans (H76.trans (ent_76 _)))))), fun j m0 m76 => (F3 j m0)⟩ | omega)
    · refine v_iload_n dX11_refuse_27 rfl ?_
      refine v_aload_n dX11_refuse_28 rfl ?_
      refine v_get dX11_refuse_29 fl_X11_95 E2 rfl (s_lt hn rfl) ?_
      have H12 := ((F3 76 (by decide)).trans (H76.trans (ent_76 _)))
      refine v_alen_aI dX11_refuse_32 H12 (s_lt hn rfl) ?_
      refine v_icmp_geI (tgt := 46) dX11_refuse_33 (by decide) (by omega) (by omega) (by omega) (by omega) (fun c_13 => ?_) (fun c_13 => ?_)
      · refine v_iload_n dX11_refuse_46 rfl ?_
        exact v_iret dX11_refuse_47 rfl (Nat.zero_le _) (Nat.zero_le _) (by first | exact ⟨(congrArg (fun x => some (Value.int x)) (congrArg iI (by first | rfl | omega | (split <;> first | rfl | omega | (split <;> first | rfl | omega))))), rfl, (by first | exact (show _ = ent 0 (uI g0 13 a) from E2) | (rw [if_pos (show -3 ≤ a by omega)]; exact (show _ = ent 0 (uI g0 13 a) from E2)) | (rw [if_neg (show ¬ -3 ≤ a by omega)]; exact (show _ = ent 0 (uI g0 13 a) from E2))), (by first | exact (show _ = ent 76 g76 from H12) | (rw [if_pos (show -3 ≤ a by omega)]; exact (show _ = ent 76 g76 from H12)) | (rw [if_neg (show ¬ -3 ≤ a by omega)]; exact (show _ = ent 76 g76 from H12))), fun j m0 m76 => (F3 j m0)⟩ | omega)
      · refine v_aload_n dX11_refuse_36 rfl ?_
        refine v_get dX11_refuse_37 fl_X11_95 E2 rfl (s_lt hn rfl) ?_
        refine v_iload_n dX11_refuse_40 rfl ?_
        refine v_dup2 dX11_refuse_41 rfl rfl ?_
        refine v_ialdI dX11_refuse_42 H12 (s_lt hn rfl) (by omega) (by omega) (by omega) ?_
        refine v_iconstI dX11_refuse_43 ?_
        refine v_iaddI dX11_refuse_44 ?_
        refine v_iastI dX11_refuse_45 H12 (s_lt hn rfl) (by omega) (by omega) (by omega) (fun h14 E15 F16 => ?_)
        refine v_iload_n dX11_refuse_46 rfl ?_
        exact v_iret dX11_refuse_47 rfl (Nat.zero_le _) (Nat.zero_le _) (by first | exact ⟨(congrArg (fun x => some (Value.int x)) (congrArg iI (by first | rfl | omega | (split <;> first | rfl | omega | (split <;> first | rfl | omega))))), rfl, (by first | exact (show _ = ent 0 (uI g0 13 a) from ((F16 0 (by decide)).trans E2)) | (rw [if_pos (show -3 ≤ a by omega)]; exact (show _ = ent 0 (uI g0 13 a) from ((F16 0 (by decide)).trans E2))) | (rw [if_neg (show ¬ -3 ≤ a by omega)]; exact (show _ = ent 0 (uI g0 13 a) from ((F16 0 (by decide)).trans E2)))), (by first | exact (show _ = ent 76 (uI g76 ((-a) - 1) ((g76 ((-a) - 1)) + 1)) from E15) | (rw [if_pos (show -3 ≤ a by omega)]; exact (show _ = ent 76 (uI g76 ((-a) - 1) ((g76 ((-a) - 1)) + 1)) from E15)) | (rw [if_neg (show ¬ -3 ≤ a by omega)]; exact (show _ = ent 76 (uI g76 ((-a) - 1) ((g76 ((-a) - 1)) + 1)) from E15))), fun j m0 m76 => ((F16 j m76).trans (F3 j m0))⟩ | omega)

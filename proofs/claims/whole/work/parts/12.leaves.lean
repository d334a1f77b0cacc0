/-! LEAVES: what the class's small methods answer; they change nothing -/
def qR (r0 : Option Value) (n0 : Nat) (h0 : Nat → sE) : s_P := fun r n h => r = r0 ∧ n = n0 ∧ h = h0
theorem dX11_within_0 : decode cX11_within 0 = .ok (.iload_n 0, 1) := by decide +kernel
theorem dX11_within_1 : decode cX11_within 1 = .ok (.iload_n 1, 1) := by decide +kernel
theorem dX11_within_2 : decode cX11_within 2 = .ok (.if_icmp .lt 12, 3) := by decide +kernel
theorem dX11_within_5 : decode cX11_within 5 = .ok (.iload_n 0, 1) := by decide +kernel
theorem dX11_within_6 : decode cX11_within 6 = .ok (.iload_n 2, 1) := by decide +kernel
theorem dX11_within_7 : decode cX11_within 7 = .ok (.if_icmp .gt 7, 3) := by decide +kernel
theorem dX11_within_10 : decode cX11_within 10 = .ok (.iconst 1, 1) := by decide +kernel
theorem dX11_within_11 : decode cX11_within 11 = .ok (.goto 4, 3) := by decide +kernel
theorem dX11_within_14 : decode cX11_within 14 = .ok (.iconst 0, 1) := by decide +kernel
theorem dX11_within_15 : decode cX11_within 15 = .ok (.ireturn, 1) := by decide +kernel
theorem sp_X11_within {n : Nat} {h : Nat → sE} {a b c : Int} (ra : -2147483648 ≤ a ∧ a ≤ 2147483647) (rb : -2147483648 ≤ b ∧ b ≤ 2147483647) (rc : -2147483648 ≤ c ∧ c ≤ 2147483647) : Sp m_X11_within 0 0 0 [.int (iI a), .int (iI b), .int (iI c)] n h (qR (some (.int (bI (b ≤ a ∧ a ≤ c)))) n h) := by
  refine Sp.ofV (by decide +kernel) (Nat.le_of_ble_eq_true rfl) ?_
  refine v_iload_n dX11_within_0 rfl ?_
  refine v_iload_n dX11_within_1 rfl ?_
  refine v_icmp_ltI (tgt := 14) dX11_within_2 (by decide) (by omega) (by omega) (by omega) (by omega) (fun c_1 => ?_) (fun c_1 => ?_)
  · refine v_iconstI dX11_within_14 ?_
    exact v_z0 dX11_within_15 rfl (Nat.zero_le _) (Nat.zero_le _) ⟨congrArg (fun x => some (Value.int x)) (bI_f (by omega)).symm, rfl, rfl⟩
  · refine v_iload_n dX11_within_5 rfl ?_
    refine v_iload_n dX11_within_6 rfl ?_
    refine v_icmp_gtI (tgt := 14) dX11_within_7 (by decide) (by omega) (by omega) (by omega) (by omega) (fun c_2 => ?_) (fun c_2 => ?_)
    · refine v_iconstI dX11_within_14 ?_
      exact v_z0 dX11_within_15 rfl (Nat.zero_le _) (Nat.zero_le _) ⟨congrArg (fun x => some (Value.int x)) (bI_f (by omega)).symm, rfl, rfl⟩
    · refine v_iconstI dX11_within_10 ?_
      refine v_goto (tgt := 15) dX11_within_11 (by decide) ?_
      exact v_z1 dX11_within_15 rfl (Nat.zero_le _) (Nat.zero_le _) ⟨congrArg (fun x => some (Value.int x)) (bI_t (by omega)).symm, rfl, rfl⟩
theorem dX11_isHour_0 : decode cX11_isHour 0 = .ok (.iload_n 0, 1) := by decide +kernel
theorem dX11_isHour_1 : decode cX11_isHour 1 = .ok (.iconst 0, 1) := by decide +kernel
theorem dX11_isHour_2 : decode cX11_isHour 2 = .ok (.bipush 11, 2) := by decide +kernel
theorem dX11_isHour_4 : decode cX11_isHour 4 = .ok (.invokestatic 115, 3) := by decide +kernel
theorem dX11_isHour_7 : decode cX11_isHour 7 = .ok (.ireturn, 1) := by decide +kernel
theorem sp_X11_isHour {n : Nat} {h : Nat → sE} {a : Int} (ra : -2147483648 ≤ a ∧ a ≤ 2147483647) : Sp m_X11_isHour 1 0 0 [.int (iI a)] n h (qR (some (.int (bI (0 ≤ a ∧ a ≤ 11)))) n h) := by
  refine Sp.ofV (by decide +kernel) (Nat.le_of_ble_eq_true rfl) ?_
  refine v_iload_n dX11_isHour_0 rfl ?_
  refine v_iconstI dX11_isHour_1 ?_
  refine v_bipushI dX11_isHour_2 rfl ?_
  refine v_callS dX11_isHour_4 ml_X11_115 (sp_X11_within (a := a) (b := 0) (c := 11) (by omega) (by omega) (by omega)) rfl rfl (by decide) (Nat.le_of_ble_eq_true rfl) (Nat.zero_le _) (Nat.zero_le _) ⟨Or.inl (fun _ _ _ q => q.2.1), fun r n1 h1 q2 => ?_⟩
  obtain ⟨rfl, rfl, rfl⟩ := q2
  try dsimp only [s_push]
  exact v_bretI dX11_isHour_7 rfl (Nat.zero_le _) (Nat.zero_le _) ⟨congrArg (fun x => some (Value.int x)) (bI_iff (by omega)), rfl, rfl⟩
theorem dX11_isSpan_0 : decode cX11_isSpan 0 = .ok (.iload_n 0, 1) := by decide +kernel
theorem dX11_isSpan_1 : decode cX11_isSpan 1 = .ok (.invokestatic 185, 3) := by decide +kernel
theorem dX11_isSpan_4 : decode cX11_isSpan 4 = .ok (.ifCond .eq 19, 3) := by decide +kernel
theorem dX11_isSpan_7 : decode cX11_isSpan 7 = .ok (.iload_n 1, 1) := by decide +kernel
theorem dX11_isSpan_8 : decode cX11_isSpan 8 = .ok (.invokestatic 185, 3) := by decide +kernel
theorem dX11_isSpan_11 : decode cX11_isSpan 11 = .ok (.ifCond .eq 12, 3) := by decide +kernel
theorem dX11_isSpan_14 : decode cX11_isSpan 14 = .ok (.iload_n 0, 1) := by decide +kernel
theorem dX11_isSpan_15 : decode cX11_isSpan 15 = .ok (.iload_n 1, 1) := by decide +kernel
theorem dX11_isSpan_16 : decode cX11_isSpan 16 = .ok (.if_icmp .gt 7, 3) := by decide +kernel
theorem dX11_isSpan_19 : decode cX11_isSpan 19 = .ok (.iconst 1, 1) := by decide +kernel
theorem dX11_isSpan_20 : decode cX11_isSpan 20 = .ok (.goto 4, 3) := by decide +kernel
theorem dX11_isSpan_23 : decode cX11_isSpan 23 = .ok (.iconst 0, 1) := by decide +kernel
theorem dX11_isSpan_24 : decode cX11_isSpan 24 = .ok (.ireturn, 1) := by decide +kernel
theorem sp_X11_isSpan {n : Nat} {h : Nat → sE} {a b : Int} (ra : -2147483648 ≤ a ∧ a ≤ 2147483647) (rb : -2147483648 ≤ b ∧ b ≤ 2147483647) : Sp m_X11_isSpan 2 0 0 [.int (iI a), .int (iI b)] n h (qR (some (.int (bI (0 ≤ a ∧ a ≤ 11 ∧ 0 ≤ b ∧ b ≤ 11 ∧ a ≤ b)))) n h) := by
  refine Sp.ofV (by decide +kernel) (Nat.le_of_ble_eq_true rfl) ?_
  refine v_iload_n dX11_isSpan_0 rfl ?_
  refine v_callS dX11_isSpan_1 ml_X11_185 (sp_X11_isHour (a := a) (by omega)) rfl rfl (by decide) (Nat.le_of_ble_eq_true rfl) (Nat.zero_le _) (Nat.zero_le _) ⟨Or.inl (fun _ _ _ q => q.2.1), fun r n1 h1 q2 => ?_⟩
  obtain ⟨rfl, rfl, rfl⟩ := q2
  try dsimp only [s_push]
  refine v_ifeqB (tgt := 23) dX11_isSpan_4 (by decide) (fun c_3 => ?_) (fun c_3 => ?_)
  · refine v_iconstI dX11_isSpan_23 ?_
    exact v_z0 dX11_isSpan_24 rfl (Nat.zero_le _) (Nat.zero_le _) ⟨congrArg (fun x => some (Value.int x)) (bI_f (by omega)).symm, rfl, rfl⟩
  · refine v_iload_n dX11_isSpan_7 rfl ?_
    refine v_callS dX11_isSpan_8 ml_X11_185 (sp_X11_isHour (a := b) (by omega)) rfl rfl (by decide) (Nat.le_of_ble_eq_true rfl) (Nat.zero_le _) (Nat.zero_le _) ⟨Or.inl (fun _ _ _ q => q.2.1), fun r n1 h4 q5 => ?_⟩
    obtain ⟨rfl, rfl, rfl⟩ := q5
    try dsimp only [s_push]
    refine v_ifeqB (tgt := 23) dX11_isSpan_11 (by decide) (fun c_6 => ?_) (fun c_6 => ?_)
    · refine v_iconstI dX11_isSpan_23 ?_
      exact v_z0 dX11_isSpan_24 rfl (Nat.zero_le _) (Nat.zero_le _) ⟨congrArg (fun x => some (Value.int x)) (bI_f (by omega)).symm, rfl, rfl⟩
    · refine v_iload_n dX11_isSpan_14 rfl ?_
      refine v_iload_n dX11_isSpan_15 rfl ?_
      refine v_icmp_gtI (tgt := 23) dX11_isSpan_16 (by decide) (by omega) (by omega) (by omega) (by omega) (fun c_7 => ?_) (fun c_7 => ?_)
      · refine v_iconstI dX11_isSpan_23 ?_
        exact v_z0 dX11_isSpan_24 rfl (Nat.zero_le _) (Nat.zero_le _) ⟨congrArg (fun x => some (Value.int x)) (bI_f (by omega)).symm, rfl, rfl⟩
      · refine v_iconstI dX11_isSpan_19 ?_
        refine v_goto (tgt := 24) dX11_isSpan_20 (by decide) ?_
        exact v_z1 dX11_isSpan_24 rfl (Nat.zero_le _) (Nat.zero_le _) ⟨congrArg (fun x => some (Value.int x)) (bI_t (by omega)).symm, rfl, rfl⟩
theorem dX3_isShape_0 : decode cX3_isShape 0 = .ok (.iload_n 0, 1) := by decide +kernel
theorem dX3_isShape_1 : decode cX3_isShape 1 = .ok (.iconst 1, 1) := by decide +kernel
theorem dX3_isShape_2 : decode cX3_isShape 2 = .ok (.iconst 3, 1) := by decide +kernel
theorem dX3_isShape_3 : decode cX3_isShape 3 = .ok (.invokestatic 67, 3) := by decide +kernel
theorem dX3_isShape_6 : decode cX3_isShape 6 = .ok (.ifCond .eq 25, 3) := by decide +kernel
theorem dX3_isShape_9 : decode cX3_isShape 9 = .ok (.iload_n 1, 1) := by decide +kernel
theorem dX3_isShape_10 : decode cX3_isShape 10 = .ok (.iconst 1, 1) := by decide +kernel
theorem dX3_isShape_11 : decode cX3_isShape 11 = .ok (.iconst 3, 1) := by decide +kernel
theorem dX3_isShape_12 : decode cX3_isShape 12 = .ok (.invokestatic 67, 3) := by decide +kernel
theorem dX3_isShape_15 : decode cX3_isShape 15 = .ok (.ifCond .eq 16, 3) := by decide +kernel
theorem dX3_isShape_18 : decode cX3_isShape 18 = .ok (.iload_n 2, 1) := by decide +kernel
theorem dX3_isShape_19 : decode cX3_isShape 19 = .ok (.iconst 0, 1) := by decide +kernel
theorem dX3_isShape_20 : decode cX3_isShape 20 = .ok (.iconst 2, 1) := by decide +kernel
theorem dX3_isShape_21 : decode cX3_isShape 21 = .ok (.invokestatic 67, 3) := by decide +kernel
theorem dX3_isShape_24 : decode cX3_isShape 24 = .ok (.ifCond .eq 7, 3) := by decide +kernel
theorem dX3_isShape_27 : decode cX3_isShape 27 = .ok (.iconst 1, 1) := by decide +kernel
theorem dX3_isShape_28 : decode cX3_isShape 28 = .ok (.goto 4, 3) := by decide +kernel
theorem dX3_isShape_31 : decode cX3_isShape 31 = .ok (.iconst 0, 1) := by decide +kernel
theorem dX3_isShape_32 : decode cX3_isShape 32 = .ok (.ireturn, 1) := by decide +kernel
theorem sp_X3_isShape {n : Nat} {h : Nat → sE} {a b c : Int} (ra : -2147483648 ≤ a ∧ a ≤ 2147483647) (rb : -2147483648 ≤ b ∧ b ≤ 2147483647) (rc : -2147483648 ≤ c ∧ c ≤ 2147483647) : Sp m_X3_isShape 1 0 0 [.int (iI a), .int (iI b), .int (iI c)] n h (qR (some (.int (bI (1 ≤ a ∧ a ≤ 3 ∧ 1 ≤ b ∧ b ≤ 3 ∧ 0 ≤ c ∧ c ≤ 2)))) n h) := by
  refine Sp.ofV (by decide +kernel) (Nat.le_of_ble_eq_true rfl) ?_
  refine v_iload_n dX3_isShape_0 rfl ?_
  refine v_iconstI dX3_isShape_1 ?_
  refine v_iconstI dX3_isShape_2 ?_
  refine v_callS dX3_isShape_3 ml_X3_67 (sp_X11_within (a := a) (b := 1) (c := 3) (by omega) (by omega) (by omega)) rfl rfl (by decide) (Nat.le_of_ble_eq_true rfl) (Nat.zero_le _) (Nat.zero_le _) ⟨Or.inl (fun _ _ _ q => q.2.1), fun r n1 h1 q2 => ?_⟩
  obtain ⟨rfl, rfl, rfl⟩ := q2
  try dsimp only [s_push]
  refine v_ifeqB (tgt := 31) dX3_isShape_6 (by decide) (fun c_3 => ?_) (fun c_3 => ?_)
  · refine v_iconstI dX3_isShape_31 ?_
    exact v_z0 dX3_isShape_32 rfl (Nat.zero_le _) (Nat.zero_le _) ⟨congrArg (fun x => some (Value.int x)) (bI_f (by omega)).symm, rfl, rfl⟩
  · refine v_iload_n dX3_isShape_9 rfl ?_
    refine v_iconstI dX3_isShape_10 ?_
    refine v_iconstI dX3_isShape_11 ?_
    refine v_callS dX3_isShape_12 ml_X3_67 (sp_X11_within (a := b) (b := 1) (c := 3) (by omega) (by omega) (by omega)) rfl rfl (by decide) (Nat.le_of_ble_eq_true rfl) (Nat.zero_le _) (Nat.zero_le _) ⟨Or.inl (fun _ _ _ q => q.2.1), fun r n1 h4 q5 => ?_⟩
    obtain ⟨rfl, rfl, rfl⟩ := q5
    try dsimp only [s_push]
    refine v_ifeqB (tgt := 31) dX3_isShape_15 (by decide) (fun c_6 => ?_) (fun c_6 => ?_)
    · refine v_iconstI dX3_isShape_31 ?_
      exact v_z0 dX3_isShape_32 rfl (Nat.zero_le _) (Nat.zero_le _) ⟨congrArg (fun x => some (Value.int x)) (bI_f (by omega)).symm, rfl, rfl⟩
    · refine v_iload_n dX3_isShape_18 rfl ?_
      refine v_iconstI dX3_isShape_19 ?_
      refine v_iconstI dX3_isShape_20 ?_
      refine v_callS dX3_isShape_21 ml_X3_67 (sp_X11_within (a := c) (b := 0) (c := 2) (by omega) (by omega) (by omega)) rfl rfl (by decide) (Nat.le_of_ble_eq_true rfl) (Nat.zero_le _) (Nat.zero_le _) ⟨Or.inl (fun _ _ _ q => q.2.1), fun r n1 h7 q8 => ?_⟩
      obtain ⟨rfl, rfl, rfl⟩ := q8
      try dsimp only [s_push]
      refine v_ifeqB (tgt := 31) dX3_isShape_24 (by decide) (fun c_9 => ?_) (fun c_9 => ?_)
      · refine v_iconstI dX3_isShape_31 ?_
        exact v_z0 dX3_isShape_32 rfl (Nat.zero_le _) (Nat.zero_le _) ⟨congrArg (fun x => some (Value.int x)) (bI_f (by omega)).symm, rfl, rfl⟩
      · refine v_iconstI dX3_isShape_27 ?_
        refine v_goto (tgt := 32) dX3_isShape_28 (by decide) ?_
        exact v_z1 dX3_isShape_32 rfl (Nat.zero_le _) (Nat.zero_le _) ⟨congrArg (fun x => some (Value.int x)) (bI_t (by omega)).symm, rfl, rfl⟩
theorem dX3_isCloud_0 : decode cX3_isCloud 0 = .ok (.iload_n 1, 1) := by decide +kernel
theorem dX3_isCloud_1 : decode cX3_isCloud 1 = .ok (.ifCond .lt 15, 3) := by decide +kernel
theorem dX3_isCloud_4 : decode cX3_isCloud 4 = .ok (.iload_n 1, 1) := by decide +kernel
theorem dX3_isCloud_5 : decode cX3_isCloud 5 = .ok (.aload_n 0, 1) := by decide +kernel
theorem dX3_isCloud_6 : decode cX3_isCloud 6 = .ok (.getfield 42, 3) := by decide +kernel
theorem dX3_isCloud_9 : decode cX3_isCloud 9 = .ok (.if_icmp .ge 7, 3) := by decide +kernel
theorem dX3_isCloud_12 : decode cX3_isCloud 12 = .ok (.iconst 1, 1) := by decide +kernel
theorem dX3_isCloud_13 : decode cX3_isCloud 13 = .ok (.goto 4, 3) := by decide +kernel
theorem dX3_isCloud_16 : decode cX3_isCloud 16 = .ok (.iconst 0, 1) := by decide +kernel
theorem dX3_isCloud_17 : decode cX3_isCloud 17 = .ok (.ireturn, 1) := by decide +kernel
theorem sp_X3_isCloud {n : Nat} {h : Nat → sE} {a : Int} {X : Nat → Int → Int} (hX : Pic X h) (hn : 115 ≤ n) (ra : -2147483648 ≤ a ∧ a ≤ 2147483647) (r9 : -2147483648 ≤ X 1 9 ∧ X 1 9 ≤ 2147483647) : Sp m_X3_isCloud 0 0 0 [.ref 1, .int (iI a)] n h (qR (some (.int (bI (0 ≤ a ∧ a < X 1 9)))) n h) := by
  refine Sp.ofV (by decide +kernel) (Nat.le_of_ble_eq_true rfl) ?_
  refine v_iload_n dX3_isCloud_0 rfl ?_
  refine v_if_ltI (tgt := 16) dX3_isCloud_1 (by decide) (by omega) (by omega) (fun c_1 => ?_) (fun c_1 => ?_)
  · refine v_iconstI dX3_isCloud_16 ?_
    exact v_z0 dX3_isCloud_17 rfl (Nat.zero_le _) (Nat.zero_le _) ⟨congrArg (fun x => some (Value.int x)) (bI_f (by omega)).symm, rfl, rfl⟩
  · refine v_iload_n dX3_isCloud_4 rfl ?_
    refine v_aload_n dX3_isCloud_5 rfl ?_
    refine v_get dX3_isCloud_6 fl_X3_42 ((hX 1 (by decide)).trans (ent_1 _)) rfl (s_lt hn rfl) ?_
    refine v_icmp_geI (tgt := 16) dX3_isCloud_9 (by decide) (by omega) (by omega) (by omega) (by omega) (fun c_2 => ?_) (fun c_2 => ?_)
    · refine v_iconstI dX3_isCloud_16 ?_
      exact v_z0 dX3_isCloud_17 rfl (Nat.zero_le _) (Nat.zero_le _) ⟨congrArg (fun x => some (Value.int x)) (bI_f (by omega)).symm, rfl, rfl⟩
    · refine v_iconstI dX3_isCloud_12 ?_
      refine v_goto (tgt := 17) dX3_isCloud_13 (by decide) ?_
      exact v_z1 dX3_isCloud_17 rfl (Nat.zero_le _) (Nat.zero_le _) ⟨congrArg (fun x => some (Value.int x)) (bI_t (by omega)).symm, rfl, rfl⟩
theorem dX3_fieldFact_0 : decode cX3_fieldFact 0 = .ok (.iload_n 1, 1) := by decide +kernel
theorem dX3_fieldFact_1 : decode cX3_fieldFact 1 = .ok (.iconst 0, 1) := by decide +kernel
theorem dX3_fieldFact_2 : decode cX3_fieldFact 2 = .ok (.bipush 63, 2) := by decide +kernel
theorem dX3_fieldFact_4 : decode cX3_fieldFact 4 = .ok (.invokestatic 67, 3) := by decide +kernel
theorem dX3_fieldFact_7 : decode cX3_fieldFact 7 = .ok (.ifCond .eq 12, 3) := by decide +kernel
theorem dX3_fieldFact_10 : decode cX3_fieldFact 10 = .ok (.iload_n 2, 1) := by decide +kernel
theorem dX3_fieldFact_11 : decode cX3_fieldFact 11 = .ok (.iconst 0, 1) := by decide +kernel
theorem dX3_fieldFact_12 : decode cX3_fieldFact 12 = .ok (.iconst 2, 1) := by decide +kernel
theorem dX3_fieldFact_13 : decode cX3_fieldFact 13 = .ok (.invokestatic 67, 3) := by decide +kernel
theorem dX3_fieldFact_16 : decode cX3_fieldFact 16 = .ok (.ifCond .ne 5, 3) := by decide +kernel
theorem dX3_fieldFact_19 : decode cX3_fieldFact 19 = .ok (.iconst (-1), 1) := by decide +kernel
theorem dX3_fieldFact_20 : decode cX3_fieldFact 20 = .ok (.ireturn, 1) := by decide +kernel
theorem dX3_fieldFact_21 : decode cX3_fieldFact 21 = .ok (.aload_n 0, 1) := by decide +kernel
theorem dX3_fieldFact_22 : decode cX3_fieldFact 22 = .ok (.getfield 9, 3) := by decide +kernel
theorem dX3_fieldFact_25 : decode cX3_fieldFact 25 = .ok (.iload_n 2, 1) := by decide +kernel
theorem dX3_fieldFact_26 : decode cX3_fieldFact 26 = .ok (.bipush 64, 2) := by decide +kernel
theorem dX3_fieldFact_28 : decode cX3_fieldFact 28 = .ok (.imul, 1) := by decide +kernel
theorem dX3_fieldFact_29 : decode cX3_fieldFact 29 = .ok (.iload_n 1, 1) := by decide +kernel
theorem dX3_fieldFact_30 : decode cX3_fieldFact 30 = .ok (.iadd, 1) := by decide +kernel
theorem dX3_fieldFact_31 : decode cX3_fieldFact 31 = .ok (.iaload, 1) := by decide +kernel
theorem dX3_fieldFact_32 : decode cX3_fieldFact 32 = .ok (.ireturn, 1) := by decide +kernel
theorem sp_X3_fieldFact {n : Nat} {h : Nat → sE} {a b : Int} {X : Nat → Int → Int} (hX : Pic X h) (hn : 115 ≤ n) (ra : -2147483648 ≤ a ∧ a ≤ 2147483647) (rb : -2147483648 ≤ b ∧ b ≤ 2147483647) : Sp m_X3_fieldFact 1 0 0 [.ref 1, .int (iI a), .int (iI b)] n h (qR (some (.int (iI (if 0 ≤ a ∧ a ≤ 63 ∧ 0 ≤ b ∧ b ≤ 2 then X 2 (b * 64 + a) else -1)))) n h) := by
  refine Sp.ofV (by decide +kernel) (Nat.le_of_ble_eq_true rfl) ?_
  refine v_iload_n dX3_fieldFact_0 rfl ?_
  refine v_iconstI dX3_fieldFact_1 ?_
  refine v_bipushI dX3_fieldFact_2 rfl ?_
  refine v_callS dX3_fieldFact_4 ml_X3_67 (sp_X11_within (a := a) (b := 0) (c := 63) (by omega) (by omega) (by omega)) rfl rfl (by decide) (Nat.le_of_ble_eq_true rfl) (Nat.zero_le _) (Nat.zero_le _) ⟨Or.inl (fun _ _ _ q => q.2.1), fun r n1 h1 q2 => ?_⟩
  obtain ⟨rfl, rfl, rfl⟩ := q2
  try dsimp only [s_push]
  refine v_ifeqB (tgt := 19) dX3_fieldFact_7 (by decide) (fun c_3 => ?_) (fun c_3 => ?_)
  · refine v_iconstI dX3_fieldFact_19 ?_
    exact v_iret dX3_fieldFact_20 rfl (Nat.zero_le _) (Nat.zero_le _) ⟨congrArg (fun x => some (Value.int x)) (congrArg iI (by split <;> first | rfl | omega)), rfl, rfl⟩
  · refine v_iload_n dX3_fieldFact_10 rfl ?_
    refine v_iconstI dX3_fieldFact_11 ?_
    refine v_iconstI dX3_fieldFact_12 ?_
    refine v_callS dX3_fieldFact_13 ml_X3_67 (sp_X11_within (a := b) (b := 0) (c := 2) (by omega) (by omega) (by omega)) rfl rfl (by decide) (Nat.le_of_ble_eq_true rfl) (Nat.zero_le _) (Nat.zero_le _) ⟨Or.inl (fun _ _ _ q => q.2.1), fun r n1 h4 q5 => ?_⟩
    obtain ⟨rfl, rfl, rfl⟩ := q5
    try dsimp only [s_push]
    refine v_ifneB (tgt := 21) dX3_fieldFact_16 (by decide) (fun c_6 => ?_) (fun c_6 => ?_)
    · refine v_aload_n dX3_fieldFact_21 rfl ?_
      refine v_get dX3_fieldFact_22 fl_X3_9 ((hX 1 (by decide)).trans (ent_1 _)) rfl (s_lt hn rfl) ?_
      refine v_iload_n dX3_fieldFact_25 rfl ?_
      refine v_bipushI dX3_fieldFact_26 rfl ?_
      refine v_imulI dX3_fieldFact_28 ?_
      refine v_iload_n dX3_fieldFact_29 rfl ?_
      refine v_iaddI dX3_fieldFact_30 ?_
      refine v_ialdI dX3_fieldFact_31 ((hX 2 (by decide)).trans (ent_2 _)) (s_lt hn rfl) (by omega) (by omega) (by omega) ?_
      exact v_iret dX3_fieldFact_32 rfl (Nat.zero_le _) (Nat.zero_le _) ⟨congrArg (fun x => some (Value.int x)) (congrArg iI (by split <;> first | rfl | omega)), rfl, rfl⟩
    · refine v_iconstI dX3_fieldFact_19 ?_
      exact v_iret dX3_fieldFact_20 rfl (Nat.zero_le _) (Nat.zero_le _) ⟨congrArg (fun x => some (Value.int x)) (congrArg iI (by split <;> first | rfl | omega)), rfl, rfl⟩
theorem dX8_xOf_0 : decode cX8_xOf 0 = .ok (.iload_n 0, 1) := by decide +kernel
theorem dX8_xOf_1 : decode cX8_xOf 1 = .ok (.bipush 24, 2) := by decide +kernel
theorem dX8_xOf_3 : decode cX8_xOf 3 = .ok (.irem, 1) := by decide +kernel
theorem dX8_xOf_4 : decode cX8_xOf 4 = .ok (.bipush 8, 2) := by decide +kernel
theorem dX8_xOf_6 : decode cX8_xOf 6 = .ok (.isub, 1) := by decide +kernel
theorem dX8_xOf_7 : decode cX8_xOf 7 = .ok (.ireturn, 1) := by decide +kernel
theorem sp_X8_xOf {n : Nat} {h : Nat → sE} {a : Int} (ra : 0 ≤ a ∧ a ≤ 2147483647) : Sp m_X8_xOf 0 0 0 [.int (iI a)] n h (qR (some (.int (iI (a % 24 - 8)))) n h) := by
  refine Sp.ofV (by decide +kernel) (Nat.le_of_ble_eq_true rfl) ?_
  refine v_iload_n dX8_xOf_0 rfl ?_
  refine v_bipushI dX8_xOf_1 rfl ?_
  refine v_iremI dX8_xOf_3 (by omega) (by omega) (by omega) (by omega) ?_
  refine v_bipushI dX8_xOf_4 rfl ?_
  refine v_isubI dX8_xOf_6 ?_
  exact v_iret dX8_xOf_7 rfl (Nat.zero_le _) (Nat.zero_le _) ⟨rfl, rfl, rfl⟩
theorem dX8_yOf_0 : decode cX8_yOf 0 = .ok (.iload_n 0, 1) := by decide +kernel
theorem dX8_yOf_1 : decode cX8_yOf 1 = .ok (.bipush 24, 2) := by decide +kernel
theorem dX8_yOf_3 : decode cX8_yOf 3 = .ok (.idiv, 1) := by decide +kernel
theorem dX8_yOf_4 : decode cX8_yOf 4 = .ok (.bipush 8, 2) := by decide +kernel
theorem dX8_yOf_6 : decode cX8_yOf 6 = .ok (.isub, 1) := by decide +kernel
theorem dX8_yOf_7 : decode cX8_yOf 7 = .ok (.ireturn, 1) := by decide +kernel
theorem sp_X8_yOf {n : Nat} {h : Nat → sE} {a : Int} (ra : 0 ≤ a ∧ a ≤ 2147483647) : Sp m_X8_yOf 0 0 0 [.int (iI a)] n h (qR (some (.int (iI (a / 24 - 8)))) n h) := by
  refine Sp.ofV (by decide +kernel) (Nat.le_of_ble_eq_true rfl) ?_
  refine v_iload_n dX8_yOf_0 rfl ?_
  refine v_bipushI dX8_yOf_1 rfl ?_
  refine v_idivI dX8_yOf_3 (by omega) (by omega) (by omega) (by omega) ?_
  refine v_bipushI dX8_yOf_4 rfl ?_
  refine v_isubI dX8_yOf_6 ?_
  exact v_iret dX8_yOf_7 rfl (Nat.zero_le _) (Nat.zero_le _) ⟨rfl, rfl, rfl⟩
theorem dX8_spotAt_0 : decode cX8_spotAt 0 = .ok (.iload_n 0, 1) := by decide +kernel
theorem dX8_spotAt_1 : decode cX8_spotAt 1 = .ok (.bipush (-8), 2) := by decide +kernel
theorem dX8_spotAt_3 : decode cX8_spotAt 3 = .ok (.bipush 15, 2) := by decide +kernel
theorem dX8_spotAt_5 : decode cX8_spotAt 5 = .ok (.invokestatic 26, 3) := by decide +kernel
theorem dX8_spotAt_8 : decode cX8_spotAt 8 = .ok (.ifCond .eq 29, 3) := by decide +kernel
theorem dX8_spotAt_11 : decode cX8_spotAt 11 = .ok (.iload_n 1, 1) := by decide +kernel
theorem dX8_spotAt_12 : decode cX8_spotAt 12 = .ok (.bipush (-8), 2) := by decide +kernel
theorem dX8_spotAt_14 : decode cX8_spotAt 14 = .ok (.bipush 15, 2) := by decide +kernel
theorem dX8_spotAt_16 : decode cX8_spotAt 16 = .ok (.invokestatic 26, 3) := by decide +kernel
theorem dX8_spotAt_19 : decode cX8_spotAt 19 = .ok (.ifCond .eq 18, 3) := by decide +kernel
theorem dX8_spotAt_22 : decode cX8_spotAt 22 = .ok (.bipush 24, 2) := by decide +kernel
theorem dX8_spotAt_24 : decode cX8_spotAt 24 = .ok (.iload_n 1, 1) := by decide +kernel
theorem dX8_spotAt_25 : decode cX8_spotAt 25 = .ok (.bipush 8, 2) := by decide +kernel
theorem dX8_spotAt_27 : decode cX8_spotAt 27 = .ok (.iadd, 1) := by decide +kernel
theorem dX8_spotAt_28 : decode cX8_spotAt 28 = .ok (.imul, 1) := by decide +kernel
theorem dX8_spotAt_29 : decode cX8_spotAt 29 = .ok (.iload_n 0, 1) := by decide +kernel
theorem dX8_spotAt_30 : decode cX8_spotAt 30 = .ok (.iadd, 1) := by decide +kernel
theorem dX8_spotAt_31 : decode cX8_spotAt 31 = .ok (.bipush 8, 2) := by decide +kernel
theorem dX8_spotAt_33 : decode cX8_spotAt 33 = .ok (.iadd, 1) := by decide +kernel
theorem dX8_spotAt_34 : decode cX8_spotAt 34 = .ok (.goto 6, 3) := by decide +kernel
theorem dX8_spotAt_37 : decode cX8_spotAt 37 = .ok (.sipush 576, 3) := by decide +kernel
theorem dX8_spotAt_40 : decode cX8_spotAt 40 = .ok (.ireturn, 1) := by decide +kernel
theorem sp_X8_spotAt {n : Nat} {h : Nat → sE} {a b : Int} (ra : -2147483648 ≤ a ∧ a ≤ 2147483647) (rb : -2147483648 ≤ b ∧ b ≤ 2147483647) : Sp m_X8_spotAt 1 0 0 [.int (iI a), .int (iI b)] n h (qR (some (.int (iI (if -8 ≤ a ∧ a ≤ 15 ∧ -8 ≤ b ∧ b ≤ 15 then 24 * (b + 8) + a + 8 else 576)))) n h) := by
  refine Sp.ofV (by decide +kernel) (Nat.le_of_ble_eq_true rfl) ?_
  refine v_iload_n dX8_spotAt_0 rfl ?_
  refine v_bipushI dX8_spotAt_1 rfl ?_
  refine v_bipushI dX8_spotAt_3 rfl ?_
  refine v_callS dX8_spotAt_5 ml_X8_26 (sp_X11_within (a := a) (b := (-8)) (c := 15) (by omega) (by omega) (by omega)) rfl rfl (by decide) (Nat.le_of_ble_eq_true rfl) (Nat.zero_le _) (Nat.zero_le _) ⟨Or.inl (fun _ _ _ q => q.2.1), fun r n1 h1 q2 => ?_⟩
  obtain ⟨rfl, rfl, rfl⟩ := q2
  try dsimp only [s_push]
  refine v_ifeqB (tgt := 37) dX8_spotAt_8 (by decide) (fun c_3 => ?_) (fun c_3 => ?_)
  · refine v_sipushI dX8_spotAt_37 rfl ?_
    exact v_iret dX8_spotAt_40 rfl (Nat.zero_le _) (Nat.zero_le _) ⟨congrArg (fun x => some (Value.int x)) (congrArg iI (by split <;> first | rfl | omega)), rfl, rfl⟩
  · refine v_iload_n dX8_spotAt_11 rfl ?_
    refine v_bipushI dX8_spotAt_12 rfl ?_
    refine v_bipushI dX8_spotAt_14 rfl ?_
    refine v_callS dX8_spotAt_16 ml_X8_26 (sp_X11_within (a := b) (b := (-8)) (c := 15) (by omega) (by omega) (by omega)) rfl rfl (by decide) (Nat.le_of_ble_eq_true rfl) (Nat.zero_le _) (Nat.zero_le _) ⟨Or.inl (fun _ _ _ q => q.2.1), fun r n1 h4 q5 => ?_⟩
    obtain ⟨rfl, rfl, rfl⟩ := q5
    try dsimp only [s_push]
    refine v_ifeqB (tgt := 37) dX8_spotAt_19 (by decide) (fun c_6 => ?_) (fun c_6 => ?_)
    · refine v_sipushI dX8_spotAt_37 rfl ?_
      exact v_iret dX8_spotAt_40 rfl (Nat.zero_le _) (Nat.zero_le _) ⟨congrArg (fun x => some (Value.int x)) (congrArg iI (by split <;> first | rfl | omega)), rfl, rfl⟩
    · refine v_bipushI dX8_spotAt_22 rfl ?_
      refine v_iload_n dX8_spotAt_24 rfl ?_
      refine v_bipushI dX8_spotAt_25 rfl ?_
      refine v_iaddI dX8_spotAt_27 ?_
      refine v_imulI dX8_spotAt_28 ?_
      refine v_iload_n dX8_spotAt_29 rfl ?_
      refine v_iaddI dX8_spotAt_30 ?_
      refine v_bipushI dX8_spotAt_31 rfl ?_
      refine v_iaddI dX8_spotAt_33 ?_
      refine v_goto (tgt := 40) dX8_spotAt_34 (by decide) ?_
      exact v_iret dX8_spotAt_40 rfl (Nat.zero_le _) (Nat.zero_le _) ⟨congrArg (fun x => some (Value.int x)) (congrArg iI (by split <;> first | rfl | omega)), rfl, rfl⟩
theorem dX8_movedBy_0 : decode cX8_movedBy 0 = .ok (.iload_n 0, 1) := by decide +kernel
theorem dX8_movedBy_1 : decode cX8_movedBy 1 = .ok (.bipush 24, 2) := by decide +kernel
theorem dX8_movedBy_3 : decode cX8_movedBy 3 = .ok (.irem, 1) := by decide +kernel
theorem dX8_movedBy_4 : decode cX8_movedBy 4 = .ok (.iload_n 1, 1) := by decide +kernel
theorem dX8_movedBy_5 : decode cX8_movedBy 5 = .ok (.iadd, 1) := by decide +kernel
theorem dX8_movedBy_6 : decode cX8_movedBy 6 = .ok (.istore_n 3, 1) := by decide +kernel
theorem dX8_movedBy_7 : decode cX8_movedBy 7 = .ok (.iload_n 0, 1) := by decide +kernel
theorem dX8_movedBy_8 : decode cX8_movedBy 8 = .ok (.bipush 24, 2) := by decide +kernel
theorem dX8_movedBy_10 : decode cX8_movedBy 10 = .ok (.idiv, 1) := by decide +kernel
theorem dX8_movedBy_11 : decode cX8_movedBy 11 = .ok (.iload_n 2, 1) := by decide +kernel
theorem dX8_movedBy_12 : decode cX8_movedBy 12 = .ok (.iadd, 1) := by decide +kernel
theorem dX8_movedBy_13 : decode cX8_movedBy 13 = .ok (.istore 4, 2) := by decide +kernel
theorem dX8_movedBy_15 : decode cX8_movedBy 15 = .ok (.iload_n 0, 1) := by decide +kernel
theorem dX8_movedBy_16 : decode cX8_movedBy 16 = .ok (.sipush 576, 3) := by decide +kernel
theorem dX8_movedBy_19 : decode cX8_movedBy 19 = .ok (.if_icmp .eq 25, 3) := by decide +kernel
theorem dX8_movedBy_22 : decode cX8_movedBy 22 = .ok (.iload_n 3, 1) := by decide +kernel
theorem dX8_movedBy_23 : decode cX8_movedBy 23 = .ok (.ifCond .lt 21, 3) := by decide +kernel
theorem dX8_movedBy_26 : decode cX8_movedBy 26 = .ok (.iload_n 3, 1) := by decide +kernel
theorem dX8_movedBy_27 : decode cX8_movedBy 27 = .ok (.bipush 24, 2) := by decide +kernel
theorem dX8_movedBy_29 : decode cX8_movedBy 29 = .ok (.if_icmp .ge 15, 3) := by decide +kernel
theorem dX8_movedBy_32 : decode cX8_movedBy 32 = .ok (.iload 4, 2) := by decide +kernel
theorem dX8_movedBy_34 : decode cX8_movedBy 34 = .ok (.ifCond .lt 10, 3) := by decide +kernel
theorem dX8_movedBy_37 : decode cX8_movedBy 37 = .ok (.iload 4, 2) := by decide +kernel
theorem dX8_movedBy_39 : decode cX8_movedBy 39 = .ok (.bipush 24, 2) := by decide +kernel
theorem dX8_movedBy_41 : decode cX8_movedBy 41 = .ok (.if_icmp .lt 7, 3) := by decide +kernel
theorem dX8_movedBy_44 : decode cX8_movedBy 44 = .ok (.sipush 576, 3) := by decide +kernel
theorem dX8_movedBy_47 : decode cX8_movedBy 47 = .ok (.ireturn, 1) := by decide +kernel
theorem dX8_movedBy_48 : decode cX8_movedBy 48 = .ok (.bipush 24, 2) := by decide +kernel
theorem dX8_movedBy_50 : decode cX8_movedBy 50 = .ok (.iload 4, 2) := by decide +kernel
theorem dX8_movedBy_52 : decode cX8_movedBy 52 = .ok (.imul, 1) := by decide +kernel
theorem dX8_movedBy_53 : decode cX8_movedBy 53 = .ok (.iload_n 3, 1) := by decide +kernel
theorem dX8_movedBy_54 : decode cX8_movedBy 54 = .ok (.iadd, 1) := by decide +kernel
theorem dX8_movedBy_55 : decode cX8_movedBy 55 = .ok (.ireturn, 1) := by decide +kernel
theorem sp_X8_movedBy {n : Nat} {h : Nat → sE} {a x y : Int} (ra : 0 ≤ a ∧ a ≤ 576) (rx : -3 ≤ x ∧ x ≤ 3) (ry : -3 ≤ y ∧ y ≤ 3) : Sp m_X8_movedBy 0 0 0 [.int (iI a), .int (iI x), .int (iI y)] n h (qR (some (.int (iI (if a = 576 ∨ a % 24 + x < 0 ∨ a % 24 + x ≥ 24 ∨ a / 24 + y < 0 ∨ a / 24 + y ≥ 24 then 576 else 24 * (a / 24 + y) + (a % 24 + x))))) n h) := by
  refine Sp.ofV (by decide +kernel) (Nat.le_of_ble_eq_true rfl) ?_
  refine v_iload_n dX8_movedBy_0 rfl ?_
  refine v_bipushI dX8_movedBy_1 rfl ?_
  refine v_iremI dX8_movedBy_3 (by omega) (by omega) (by omega) (by omega) ?_
  refine v_iload_n dX8_movedBy_4 rfl ?_
  refine v_iaddI dX8_movedBy_5 ?_
  refine v_istore_n dX8_movedBy_6 (Nat.le_of_ble_eq_true rfl) ?_
  refine v_iload_n dX8_movedBy_7 rfl ?_
  refine v_bipushI dX8_movedBy_8 rfl ?_
  refine v_idivI dX8_movedBy_10 (by omega) (by omega) (by omega) (by omega) ?_
  refine v_iload_n dX8_movedBy_11 rfl ?_
  refine v_iaddI dX8_movedBy_12 ?_
  refine v_istore dX8_movedBy_13 (Nat.le_of_ble_eq_true rfl) ?_
  refine v_iload_n dX8_movedBy_15 rfl ?_
  refine v_sipushI dX8_movedBy_16 rfl ?_
  refine v_icmp_eqI (tgt := 44) dX8_movedBy_19 (by decide) (by omega) (by omega) (by omega) (by omega) (fun c_1 => ?_) (fun c_1 => ?_)
  · refine v_sipushI dX8_movedBy_44 rfl ?_
    exact v_iret dX8_movedBy_47 rfl (Nat.zero_le _) (Nat.zero_le _) ⟨congrArg (fun x => some (Value.int x)) (congrArg iI (by split <;> first | rfl | omega)), rfl, rfl⟩
  · refine v_iload_n dX8_movedBy_22 rfl ?_
    refine v_if_ltI (tgt := 44) dX8_movedBy_23 (by decide) (by omega) (by omega) (fun c_2 => ?_) (fun c_2 => ?_)
    · refine v_sipushI dX8_movedBy_44 rfl ?_
      exact v_iret dX8_movedBy_47 rfl (Nat.zero_le _) (Nat.zero_le _) ⟨congrArg (fun x => some (Value.int x)) (congrArg iI (by split <;> first | rfl | omega)), rfl, rfl⟩
    · refine v_iload_n dX8_movedBy_26 rfl ?_
      refine v_bipushI dX8_movedBy_27 rfl ?_
      refine v_icmp_geI (tgt := 44) dX8_movedBy_29 (by decide) (by omega) (by omega) (by omega) (by omega) (fun c_3 => ?_) (fun c_3 => ?_)
      · refine v_sipushI dX8_movedBy_44 rfl ?_
        exact v_iret dX8_movedBy_47 rfl (Nat.zero_le _) (Nat.zero_le _) ⟨congrArg (fun x => some (Value.int x)) (congrArg iI (by split <;> first | rfl | omega)), rfl, rfl⟩
      · refine v_iload dX8_movedBy_32 rfl ?_
        refine v_if_ltI (tgt := 44) dX8_movedBy_34 (by decide) (by omega) (by omega) (fun c_4 => ?_) (fun c_4 => ?_)
        · refine v_sipushI dX8_movedBy_44 rfl ?_
          exact v_iret dX8_movedBy_47 rfl (Nat.zero_le _) (Nat.zero_le _) ⟨congrArg (fun x => some (Value.int x)) (congrArg iI (by split <;> first | rfl | omega)), rfl, rfl⟩
        · refine v_iload dX8_movedBy_37 rfl ?_
          refine v_bipushI dX8_movedBy_39 rfl ?_
          refine v_icmp_ltI (tgt := 48) dX8_movedBy_41 (by decide) (by omega) (by omega) (by omega) (by omega) (fun c_5 => ?_) (fun c_5 => ?_)
          · refine v_bipushI dX8_movedBy_48 rfl ?_
            refine v_iload dX8_movedBy_50 rfl ?_
            refine v_imulI dX8_movedBy_52 ?_
            refine v_iload_n dX8_movedBy_53 rfl ?_
            refine v_iaddI dX8_movedBy_54 ?_
            exact v_iret dX8_movedBy_55 rfl (Nat.zero_le _) (Nat.zero_le _) ⟨congrArg (fun x => some (Value.int x)) (congrArg iI (by split <;> first | rfl | omega)), rfl, rfl⟩
          · refine v_sipushI dX8_movedBy_44 rfl ?_
            exact v_iret dX8_movedBy_47 rfl (Nat.zero_le _) (Nat.zero_le _) ⟨congrArg (fun x => some (Value.int x)) (congrArg iI (by split <;> first | rfl | omega)), rfl, rfl⟩

/-! FLAG: each outcome a contract of its own -/
theorem dX3_whyNoFlag_0 : decode cX3_whyNoFlag 0 = .ok (.iload_n 1, 1) := by decide +kernel
theorem dX3_whyNoFlag_1 : decode cX3_whyNoFlag 1 = .ok (.iconst 0, 1) := by decide +kernel
theorem dX3_whyNoFlag_2 : decode cX3_whyNoFlag 2 = .ok (.bipush 10, 2) := by decide +kernel
theorem dX3_whyNoFlag_4 : decode cX3_whyNoFlag 4 = .ok (.invokestatic 67, 3) := by decide +kernel
theorem dX3_whyNoFlag_7 : decode cX3_whyNoFlag 7 = .ok (.ifCond .eq 12, 3) := by decide +kernel
theorem dX3_whyNoFlag_10 : decode cX3_whyNoFlag 10 = .ok (.iload_n 3, 1) := by decide +kernel
theorem dX3_whyNoFlag_11 : decode cX3_whyNoFlag 11 = .ok (.iconst 0, 1) := by decide +kernel
theorem dX3_whyNoFlag_12 : decode cX3_whyNoFlag 12 = .ok (.iconst 3, 1) := by decide +kernel
theorem dX3_whyNoFlag_13 : decode cX3_whyNoFlag 13 = .ok (.invokestatic 67, 3) := by decide +kernel
theorem dX3_whyNoFlag_16 : decode cX3_whyNoFlag 16 = .ok (.ifCond .ne 5, 3) := by decide +kernel
theorem dX3_whyNoFlag_19 : decode cX3_whyNoFlag 19 = .ok (.iconst (-1), 1) := by decide +kernel
theorem dX3_whyNoFlag_20 : decode cX3_whyNoFlag 20 = .ok (.ireturn, 1) := by decide +kernel
theorem dX3_whyNoFlag_21 : decode cX3_whyNoFlag 21 = .ok (.aload_n 0, 1) := by decide +kernel
theorem dX3_whyNoFlag_22 : decode cX3_whyNoFlag 22 = .ok (.iload_n 2, 1) := by decide +kernel
theorem dX3_whyNoFlag_23 : decode cX3_whyNoFlag 23 = .ok (.invokevirtual 71, 3) := by decide +kernel
theorem dX3_whyNoFlag_26 : decode cX3_whyNoFlag 26 = .ok (.ifCond .ne 6, 3) := by decide +kernel
theorem dX3_whyNoFlag_29 : decode cX3_whyNoFlag 29 = .ok (.bipush (-2), 2) := by decide +kernel
theorem dX3_whyNoFlag_31 : decode cX3_whyNoFlag 31 = .ok (.ireturn, 1) := by decide +kernel
theorem dX3_whyNoFlag_32 : decode cX3_whyNoFlag 32 = .ok (.aload_n 0, 1) := by decide +kernel
theorem dX3_whyNoFlag_33 : decode cX3_whyNoFlag 33 = .ok (.iload_n 1, 1) := by decide +kernel
theorem dX3_whyNoFlag_34 : decode cX3_whyNoFlag 34 = .ok (.iload_n 2, 1) := by decide +kernel
theorem dX3_whyNoFlag_35 : decode cX3_whyNoFlag 35 = .ok (.invokevirtual 110, 3) := by decide +kernel
theorem dX3_whyNoFlag_38 : decode cX3_whyNoFlag 38 = .ok (.ifCond .eq 6, 3) := by decide +kernel
theorem dX3_whyNoFlag_41 : decode cX3_whyNoFlag 41 = .ok (.bipush (-3), 2) := by decide +kernel
theorem dX3_whyNoFlag_43 : decode cX3_whyNoFlag 43 = .ok (.ireturn, 1) := by decide +kernel
theorem dX3_whyNoFlag_44 : decode cX3_whyNoFlag 44 = .ok (.aload_n 0, 1) := by decide +kernel
theorem dX3_whyNoFlag_45 : decode cX3_whyNoFlag 45 = .ok (.getfield 46, 3) := by decide +kernel
theorem dX3_whyNoFlag_48 : decode cX3_whyNoFlag 48 = .ok (.bipush 24, 2) := by decide +kernel
theorem dX3_whyNoFlag_50 : decode cX3_whyNoFlag 50 = .ok (.if_icmp .lt 8, 3) := by decide +kernel
theorem dX3_whyNoFlag_53 : decode cX3_whyNoFlag 53 = .ok (.bipush (-5), 2) := by decide +kernel
theorem dX3_whyNoFlag_55 : decode cX3_whyNoFlag 55 = .ok (.goto 4, 3) := by decide +kernel
theorem dX3_whyNoFlag_58 : decode cX3_whyNoFlag 58 = .ok (.iconst 0, 1) := by decide +kernel
theorem dX3_whyNoFlag_59 : decode cX3_whyNoFlag 59 = .ok (.ireturn, 1) := by decide +kernel
theorem sp_X3_whyNoFlag_m1 {n : Nat} {h : Nat → sE} {a b c : Int}  {g1 g6 : Int → Int} (hn : 115 ≤ n) (H1 : h 1 = ent 1 g1) (H6 : h 6 = ent 6 g6) (ra : -2147483648 ≤ a ∧ a ≤ 2147483647) (rb : -2147483648 ≤ b ∧ b ≤ 2147483647) (rc : -2147483648 ≤ c ∧ c ≤ 2147483647) (i9 : 0 ≤ g1 9 ∧ g1 9 ≤ 5) (i10 : 0 ≤ g1 10 ∧ g1 10 ≤ 24) (hd : ∀ k : Int, 0 ≤ k → k < g1 10 → 0 ≤ g6 (k * 3) ∧ g6 (k * 3) ≤ 10 ∧ 0 ≤ g6 (k * 3 + 1) ∧ g6 (k * 3 + 1) ≤ 4 ∧ 0 ≤ g6 (k * 3 + 2) ∧ g6 (k * 3 + 2) ≤ 3) (hz : ¬ (0 ≤ a ∧ a ≤ 10 ∧ 0 ≤ c ∧ c ≤ 3)) : Sp m_X3_whyNoFlag 3 0 0 [.ref 1, .int (iI a), .int (iI b), .int (iI c)] n h (qR (some (.int (iI (-1)))) n h) := by
  refine Sp.ofV (by decide +kernel) (Nat.le_of_ble_eq_true rfl) ?_
  refine v_iload_n dX3_whyNoFlag_0 rfl ?_
  refine v_iconstI dX3_whyNoFlag_1 ?_
  refine v_bipushI dX3_whyNoFlag_2 rfl ?_
  refine v_callS dX3_whyNoFlag_4 ml_X3_67 (sp_X11_within (a := a) (b := 0) (c := 10)   (by omega) (by omega) (by omega)) rfl rfl (Nat.le_of_ble_eq_true rfl) (Nat.le_of_ble_eq_true rfl) (Nat.zero_le _) (Nat.zero_le _) ⟨Or.inl (fun _ _ _ q => q.2.1), fun r n1 h1 q2 => ?_⟩
  obtain ⟨rfl, rfl, rfl⟩ := q2
  try dsimp only [s_push]
  refine v_ifeqB (tgt := 19) dX3_whyNoFlag_7 (by decide) (fun c_3 => ?_) (fun c_3 => ?_)
  · refine v_iconstI dX3_whyNoFlag_19 ?_
    exact v_iret dX3_whyNoFlag_20 rfl (Nat.zero_le _) (Nat.zero_le _) (by first | exact ⟨(congrArg (fun x => some (Value.int x)) (congrArg iI (by first | rfl | omega | (split <;> first | rfl | omega | (split <;> first | rfl | omega))))), rfl, rfl⟩ | omega)
  · refine v_iload_n dX3_whyNoFlag_10 rfl ?_
    refine v_iconstI dX3_whyNoFlag_11 ?_
    refine v_iconstI dX3_whyNoFlag_12 ?_
    refine v_callS dX3_whyNoFlag_13 ml_X3_67 (sp_X11_within (a := c) (b := 0) (c := 3)   (by omega) (by omega) (by omega)) rfl rfl (Nat.le_of_ble_eq_true rfl) (Nat.le_of_ble_eq_true rfl) (Nat.zero_le _) (Nat.zero_le _) ⟨Or.inl (fun _ _ _ q => q.2.1), fun r n1 h4 q5 => ?_⟩
    obtain ⟨rfl, rfl, rfl⟩ := q5
    try dsimp only [s_push]
    refine v_ifneB (tgt := 21) dX3_whyNoFlag_16 (by decide) (fun c_6 => ?_) (fun c_6 => ?_)
    · refine v_aload_n dX3_whyNoFlag_21 rfl ?_
      refine v_iload_n dX3_whyNoFlag_22 rfl ?_
      refine v_callV dX3_whyNoFlag_23 ml_X3_71 (sq_X3_isCloud (a := b) (g1 := g1) hn (show _ = ent 1 g1 from (H1.trans (ent_1 _))) (by omega) (by omega)) (H1.trans (ent_1 _)) rfl (s_lt hn rfl) rfl rfl (Nat.le_of_ble_eq_true rfl) (Nat.le_of_ble_eq_true rfl) (Nat.zero_le _) (Nat.zero_le _) ⟨Or.inl (fun _ _ _ q => q.2.1), fun r n1 h7 q8 => ?_⟩
      obtain ⟨rfl, rfl, rfl⟩ := q8
      try dsimp only [s_push]
      refine v_ifneB (tgt := 32) dX3_whyNoFlag_26 (by decide) (fun c_9 => ?_) (fun c_9 => ?_)
      · refine v_aload_n dX3_whyNoFlag_32 rfl ?_
        refine v_iload_n dX3_whyNoFlag_33 rfl ?_
        refine v_iload_n dX3_whyNoFlag_34 rfl ?_
        refine v_callV dX3_whyNoFlag_35 ml_X3_110 (sp_X3_hasFlag (a := a) (b := b) (g1 := g1) (g6 := g6) hn (show _ = ent 1 g1 from (H1.trans (ent_1 _))) (show _ = ent 6 g6 from (H6.trans (ent_6 _))) (by omega) (by omega) i10 hd) (H1.trans (ent_1 _)) rfl (s_lt hn rfl) rfl rfl (Nat.le_of_ble_eq_true rfl) (Nat.le_of_ble_eq_true rfl) (Nat.zero_le _) (Nat.zero_le _) ⟨Or.inl (fun _ _ _ q => q.2.1), fun r n1 h10 q11 => ?_⟩
        obtain ⟨rfl, rfl, rfl⟩ := q11
        try dsimp only [s_push]
        refine v_ifeqB (tgt := 44) dX3_whyNoFlag_38 (by decide) (fun c_12 => ?_) (fun c_12 => ?_)
        · refine v_aload_n dX3_whyNoFlag_44 rfl ?_
          refine v_get dX3_whyNoFlag_45 fl_X3_46 (H1.trans (ent_1 _)) rfl (s_lt hn rfl) ?_
          refine v_bipushI dX3_whyNoFlag_48 rfl ?_
          refine v_icmp_ltI (tgt := 58) dX3_whyNoFlag_50 (by decide) (by omega) (by omega) (by omega) (by omega) (fun c_13 => ?_) (fun c_13 => ?_)
          · refine v_iconstI dX3_whyNoFlag_58 ?_
            exact v_iret dX3_whyNoFlag_59 rfl (Nat.zero_le _) (Nat.zero_le _) (by first | exact ⟨(congrArg (fun x => some (Value.int x)) (congrArg iI (by first | rfl | omega | (split <;> first | rfl | omega | (split <;> first | rfl | omega))))), rfl, rfl⟩ | omega)
          · refine v_bipushI dX3_whyNoFlag_53 rfl ?_
            refine v_goto (tgt := 59) dX3_whyNoFlag_55 (by decide) ?_
            exact v_iret dX3_whyNoFlag_59 rfl (Nat.zero_le _) (Nat.zero_le _) (by first | exact ⟨(congrArg (fun x => some (Value.int x)) (congrArg iI (by first | rfl | omega | (split <;> first | rfl | omega | (split <;> first | rfl | omega))))), rfl, rfl⟩ | omega)
        · refine v_bipushI dX3_whyNoFlag_41 rfl ?_
          exact v_iret dX3_whyNoFlag_43 rfl (Nat.zero_le _) (Nat.zero_le _) (by first | exact ⟨(congrArg (fun x => some (Value.int x)) (congrArg iI (by first | rfl | omega | (split <;> first | rfl | omega | (split <;> first | rfl | omega))))), rfl, rfl⟩ | omega)
      · refine v_bipushI dX3_whyNoFlag_29 rfl ?_
        exact v_iret dX3_whyNoFlag_31 rfl (Nat.zero_le _) (Nat.zero_le _) (by first | exact ⟨(congrArg (fun x => some (Value.int x)) (congrArg iI (by first | rfl | omega | (split <;> first | rfl | omega | (split <;> first | rfl | omega))))), rfl, rfl⟩ | omega)
    · refine v_iconstI dX3_whyNoFlag_19 ?_
      exact v_iret dX3_whyNoFlag_20 rfl (Nat.zero_le _) (Nat.zero_le _) (by first | exact ⟨(congrArg (fun x => some (Value.int x)) (congrArg iI (by first | rfl | omega | (split <;> first | rfl | omega | (split <;> first | rfl | omega))))), rfl, rfl⟩ | omega)
theorem dX12_flag1_0 : decode cX12_flag1 0 = .ok (.iload_n 1, 1) := by decide +kernel
theorem dX12_flag1_1 : decode cX12_flag1 1 = .ok (.i2l, 1) := by decide +kernel
theorem dX12_flag1_2 : decode cX12_flag1 2 = .ok (.lconst 0, 1) := by decide +kernel
theorem dX12_flag1_3 : decode cX12_flag1 3 = .ok (.ldc2_w 227, 3) := by decide +kernel
theorem dX12_flag1_6 : decode cX12_flag1 6 = .ok (.invokestatic 175, 3) := by decide +kernel
theorem dX12_flag1_9 : decode cX12_flag1 9 = .ok (.ifCond .eq 15, 3) := by decide +kernel
theorem dX12_flag1_12 : decode cX12_flag1 12 = .ok (.iload_n 3, 1) := by decide +kernel
theorem dX12_flag1_13 : decode cX12_flag1 13 = .ok (.i2l, 1) := by decide +kernel
theorem dX12_flag1_14 : decode cX12_flag1 14 = .ok (.lconst 0, 1) := by decide +kernel
theorem dX12_flag1_15 : decode cX12_flag1 15 = .ok (.ldc2_w 210, 3) := by decide +kernel
theorem dX12_flag1_18 : decode cX12_flag1 18 = .ok (.invokestatic 175, 3) := by decide +kernel
theorem dX12_flag1_21 : decode cX12_flag1 21 = .ok (.ifCond .ne 5, 3) := by decide +kernel
theorem dX12_flag1_24 : decode cX12_flag1 24 = .ok (.iconst (-1), 1) := by decide +kernel
theorem dX12_flag1_25 : decode cX12_flag1 25 = .ok (.ireturn, 1) := by decide +kernel
theorem dX12_flag1_26 : decode cX12_flag1 26 = .ok (.aload_n 0, 1) := by decide +kernel
theorem dX12_flag1_27 : decode cX12_flag1 27 = .ok (.iload_n 2, 1) := by decide +kernel
theorem dX12_flag1_28 : decode cX12_flag1 28 = .ok (.invokevirtual 219, 3) := by decide +kernel
theorem dX12_flag1_31 : decode cX12_flag1 31 = .ok (.ifCond .ne 6, 3) := by decide +kernel
theorem dX12_flag1_34 : decode cX12_flag1 34 = .ok (.bipush (-2), 2) := by decide +kernel
theorem dX12_flag1_36 : decode cX12_flag1 36 = .ok (.ireturn, 1) := by decide +kernel
theorem dX12_flag1_37 : decode cX12_flag1 37 = .ok (.aload_n 0, 1) := by decide +kernel
theorem dX12_flag1_38 : decode cX12_flag1 38 = .ok (.iload_n 2, 1) := by decide +kernel
theorem dX12_flag1_39 : decode cX12_flag1 39 = .ok (.iload_n 1, 1) := by decide +kernel
theorem dX12_flag1_40 : decode cX12_flag1 40 = .ok (.invokevirtual 229, 3) := by decide +kernel
theorem dX12_flag1_43 : decode cX12_flag1 43 = .ok (.iconst (-1), 1) := by decide +kernel
theorem dX12_flag1_44 : decode cX12_flag1 44 = .ok (.if_icmp .eq 6, 3) := by decide +kernel
theorem dX12_flag1_47 : decode cX12_flag1 47 = .ok (.bipush (-3), 2) := by decide +kernel
theorem dX12_flag1_49 : decode cX12_flag1 49 = .ok (.ireturn, 1) := by decide +kernel
theorem dX12_flag1_50 : decode cX12_flag1 50 = .ok (.aload_n 0, 1) := by decide +kernel
theorem dX12_flag1_51 : decode cX12_flag1 51 = .ok (.getfield 13, 3) := by decide +kernel
theorem dX12_flag1_54 : decode cX12_flag1 54 = .ok (.iconst 1, 1) := by decide +kernel
theorem dX12_flag1_55 : decode cX12_flag1 55 = .ok (.iaload, 1) := by decide +kernel
theorem dX12_flag1_56 : decode cX12_flag1 56 = .ok (.istore 4, 2) := by decide +kernel
theorem dX12_flag1_58 : decode cX12_flag1 58 = .ok (.iload 4, 2) := by decide +kernel
theorem dX12_flag1_60 : decode cX12_flag1 60 = .ok (.bipush 24, 2) := by decide +kernel
theorem dX12_flag1_62 : decode cX12_flag1 62 = .ok (.if_icmp .ne 6, 3) := by decide +kernel
theorem dX12_flag1_65 : decode cX12_flag1 65 = .ok (.bipush (-5), 2) := by decide +kernel
theorem dX12_flag1_67 : decode cX12_flag1 67 = .ok (.ireturn, 1) := by decide +kernel
theorem dX12_flag1_68 : decode cX12_flag1 68 = .ok (.aload_n 0, 1) := by decide +kernel
theorem dX12_flag1_69 : decode cX12_flag1 69 = .ok (.getfield 13, 3) := by decide +kernel
theorem dX12_flag1_72 : decode cX12_flag1 72 = .ok (.sipush 232, 3) := by decide +kernel
theorem dX12_flag1_75 : decode cX12_flag1 75 = .ok (.iconst 3, 1) := by decide +kernel
theorem dX12_flag1_76 : decode cX12_flag1 76 = .ok (.iload 4, 2) := by decide +kernel
theorem dX12_flag1_78 : decode cX12_flag1 78 = .ok (.imul, 1) := by decide +kernel
theorem dX12_flag1_79 : decode cX12_flag1 79 = .ok (.iadd, 1) := by decide +kernel
theorem dX12_flag1_80 : decode cX12_flag1 80 = .ok (.iload_n 1, 1) := by decide +kernel
theorem dX12_flag1_81 : decode cX12_flag1 81 = .ok (.iastore, 1) := by decide +kernel
theorem dX12_flag1_82 : decode cX12_flag1 82 = .ok (.aload_n 0, 1) := by decide +kernel
theorem dX12_flag1_83 : decode cX12_flag1 83 = .ok (.getfield 13, 3) := by decide +kernel
theorem dX12_flag1_86 : decode cX12_flag1 86 = .ok (.sipush 232, 3) := by decide +kernel
theorem dX12_flag1_89 : decode cX12_flag1 89 = .ok (.iconst 3, 1) := by decide +kernel
theorem dX12_flag1_90 : decode cX12_flag1 90 = .ok (.iload 4, 2) := by decide +kernel
theorem dX12_flag1_92 : decode cX12_flag1 92 = .ok (.imul, 1) := by decide +kernel
theorem dX12_flag1_93 : decode cX12_flag1 93 = .ok (.iadd, 1) := by decide +kernel
theorem dX12_flag1_94 : decode cX12_flag1 94 = .ok (.iconst 1, 1) := by decide +kernel
theorem dX12_flag1_95 : decode cX12_flag1 95 = .ok (.iadd, 1) := by decide +kernel
theorem dX12_flag1_96 : decode cX12_flag1 96 = .ok (.iload_n 2, 1) := by decide +kernel
theorem dX12_flag1_97 : decode cX12_flag1 97 = .ok (.iastore, 1) := by decide +kernel
theorem dX12_flag1_98 : decode cX12_flag1 98 = .ok (.aload_n 0, 1) := by decide +kernel
theorem dX12_flag1_99 : decode cX12_flag1 99 = .ok (.getfield 13, 3) := by decide +kernel
theorem dX12_flag1_102 : decode cX12_flag1 102 = .ok (.sipush 232, 3) := by decide +kernel
theorem dX12_flag1_105 : decode cX12_flag1 105 = .ok (.iconst 3, 1) := by decide +kernel
theorem dX12_flag1_106 : decode cX12_flag1 106 = .ok (.iload 4, 2) := by decide +kernel
theorem dX12_flag1_108 : decode cX12_flag1 108 = .ok (.imul, 1) := by decide +kernel
theorem dX12_flag1_109 : decode cX12_flag1 109 = .ok (.iadd, 1) := by decide +kernel
theorem dX12_flag1_110 : decode cX12_flag1 110 = .ok (.iconst 2, 1) := by decide +kernel
theorem dX12_flag1_111 : decode cX12_flag1 111 = .ok (.iadd, 1) := by decide +kernel
theorem dX12_flag1_112 : decode cX12_flag1 112 = .ok (.iload_n 3, 1) := by decide +kernel
theorem dX12_flag1_113 : decode cX12_flag1 113 = .ok (.iastore, 1) := by decide +kernel
theorem dX12_flag1_114 : decode cX12_flag1 114 = .ok (.aload_n 0, 1) := by decide +kernel
theorem dX12_flag1_115 : decode cX12_flag1 115 = .ok (.getfield 13, 3) := by decide +kernel
theorem dX12_flag1_118 : decode cX12_flag1 118 = .ok (.iconst 1, 1) := by decide +kernel
theorem dX12_flag1_119 : decode cX12_flag1 119 = .ok (.dup2, 1) := by decide +kernel
theorem dX12_flag1_120 : decode cX12_flag1 120 = .ok (.iaload, 1) := by decide +kernel
theorem dX12_flag1_121 : decode cX12_flag1 121 = .ok (.iconst 1, 1) := by decide +kernel
theorem dX12_flag1_122 : decode cX12_flag1 122 = .ok (.iadd, 1) := by decide +kernel
theorem dX12_flag1_123 : decode cX12_flag1 123 = .ok (.iastore, 1) := by decide +kernel
theorem dX12_flag1_124 : decode cX12_flag1 124 = .ok (.iload 4, 2) := by decide +kernel
theorem dX12_flag1_126 : decode cX12_flag1 126 = .ok (.iconst 1, 1) := by decide +kernel
theorem dX12_flag1_127 : decode cX12_flag1 127 = .ok (.iadd, 1) := by decide +kernel
theorem dX12_flag1_128 : decode cX12_flag1 128 = .ok (.ireturn, 1) := by decide +kernel
theorem sp_X12_flag1_m1 {n : Nat} {h : Nat → sE} {a b c : Int}  {g77 g79 : Int → Int} (hn : 115 ≤ n) (H77 : h 77 = ent 77 g77) (H79 : h 79 = ent 79 g79) (ra : -2147483648 ≤ a ∧ a ≤ 2147483647) (rb : -2147483648 ≤ b ∧ b ≤ 2147483647) (rc : -2147483648 ≤ c ∧ c ≤ 2147483647) (i9 : 0 ≤ g79 0 ∧ g79 0 ≤ 5) (i10 : 0 ≤ g79 1 ∧ g79 1 ≤ 24) (hd : ∀ k : Int, 0 ≤ k → k < g79 1 → 0 ≤ g79 (232 + k * 3) ∧ g79 (232 + k * 3) ≤ 10 ∧ 0 ≤ g79 (232 + (k * 3 + 1)) ∧ g79 (232 + (k * 3 + 1)) ≤ 4 ∧ 0 ≤ g79 (232 + (k * 3 + 2)) ∧ g79 (232 + (k * 3 + 2)) ≤ 3) (hz : ¬ (0 ≤ a ∧ a ≤ 10 ∧ 0 ≤ c ∧ c ≤ 3)) : Sp m_X12_flag1 2 0 0 [.ref 77, .int (iI a), .int (iI b), .int (iI c)] n h (qR (some (.int (iI (-1)))) n h) := by
  have fr := fOf_r (g := fun j => g79 (232 + j)) (a := a) (b := b) (m := (g79 1).toNat) (fun k k0 k1 => (hd k k0 (by omega)).2.2.2.2)
  refine Sp.ofV (by decide +kernel) (Nat.le_of_ble_eq_true rfl) ?_
  refine v_iload_n dX12_flag1_0 rfl ?_
  refine v_i2lI dX12_flag1_1 (by omega) (by omega) ?_
  refine v_lconstI (w := 0) dX12_flag1_2 rfl ?_
  refine v_ldc2I 10 dX12_flag1_3 k_X12_227 rfl ?_
  refine v_callS dX12_flag1_6 ml_X12_175 (sp_X12_in (v := a) (lo := 0) (hi := 10)   (by omega) (by omega) (by omega)) rfl rfl (Nat.le_of_ble_eq_true rfl) (Nat.le_of_ble_eq_true rfl) (Nat.zero_le _) (Nat.zero_le _) ⟨Or.inl (fun _ _ _ q => q.2.1), fun r n1 h1 q2 => ?_⟩
  obtain ⟨rfl, rfl, rfl⟩ := q2
  try dsimp only [s_push]
  refine v_ifeqB (tgt := 24) dX12_flag1_9 (by decide) (fun c_3 => ?_) (fun c_3 => ?_)
  · refine v_iconstI dX12_flag1_24 ?_
    exact v_iret dX12_flag1_25 rfl (Nat.zero_le _) (Nat.zero_le _) (by first | exact ⟨(congrArg (fun x => some (Value.int x)) (congrArg iI (by first | rfl | omega | (split <;> first | rfl | omega | (split <;> first | rfl | omega))))), rfl, rfl⟩ | omega)
  · refine v_iload_n dX12_flag1_12 rfl ?_
    refine v_i2lI dX12_flag1_13 (by omega) (by omega) ?_
    refine v_lconstI (w := 0) dX12_flag1_14 rfl ?_
    refine v_ldc2I 3 dX12_flag1_15 k_X12_210 rfl ?_
    refine v_callS dX12_flag1_18 ml_X12_175 (sp_X12_in (v := c) (lo := 0) (hi := 3)   (by omega) (by omega) (by omega)) rfl rfl (Nat.le_of_ble_eq_true rfl) (Nat.le_of_ble_eq_true rfl) (Nat.zero_le _) (Nat.zero_le _) ⟨Or.inl (fun _ _ _ q => q.2.1), fun r n1 h4 q5 => ?_⟩
    obtain ⟨rfl, rfl, rfl⟩ := q5
    try dsimp only [s_push]
    refine v_ifneB (tgt := 26) dX12_flag1_21 (by decide) (fun c_6 => ?_) (fun c_6 => ?_)
    · refine v_aload_n dX12_flag1_26 rfl ?_
      refine v_iload_n dX12_flag1_27 rfl ?_
      refine v_callV dX12_flag1_28 ml_X12_219 (sp_X12_isCloud (a := b) (g77 := g77) (g79 := g79) hn (show _ = ent 77 g77 from (H77.trans (ent_77 _))) (show _ = ent 79 g79 from (H79.trans (ent_79 _))) (by omega) (by omega)) (H77.trans (ent_77 _)) rfl (s_lt hn rfl) rfl rfl (Nat.le_of_ble_eq_true rfl) (Nat.le_of_ble_eq_true rfl) (Nat.zero_le _) (Nat.zero_le _) ⟨Or.inl (fun _ _ _ q => q.2.1), fun r n1 h7 q8 => ?_⟩
      obtain ⟨rfl, rfl, rfl⟩ := q8
      try dsimp only [s_push]
      refine v_ifneB (tgt := 37) dX12_flag1_31 (by decide) (fun c_9 => ?_) (fun c_9 => ?_)
      · refine v_aload_n dX12_flag1_37 rfl ?_
        refine v_iload_n dX12_flag1_38 rfl ?_
        refine v_iload_n dX12_flag1_39 rfl ?_
        refine v_callV dX12_flag1_40 ml_X12_229 (sp_X12_flagOf (a := b) (b := a) (g77 := g77) (g79 := g79) hn (show _ = ent 77 g77 from (H77.trans (ent_77 _))) (show _ = ent 79 g79 from (H79.trans (ent_79 _))) (by omega) (by omega) i10 hd) (H77.trans (ent_77 _)) rfl (s_lt hn rfl) rfl rfl (Nat.le_of_ble_eq_true rfl) (Nat.le_of_ble_eq_true rfl) (Nat.zero_le _) (Nat.zero_le _) ⟨Or.inl (fun _ _ _ q => q.2.1), fun r n1 h10 q11 => ?_⟩
        obtain ⟨rfl, rfl, rfl⟩ := q11
        try dsimp only [s_push]
        refine v_iconstI dX12_flag1_43 ?_
        refine v_icmp_eqI (tgt := 50) dX12_flag1_44 (by decide) (by omega) (by omega) (by omega) (by omega) (fun c_12 => ?_) (fun c_12 => ?_)
        · refine v_aload_n dX12_flag1_50 rfl ?_
          refine v_get dX12_flag1_51 fl_X12_13 (H77.trans (ent_77 _)) rfl (s_lt hn rfl) ?_
          refine v_iconstI dX12_flag1_54 ?_
          refine v_ialdI dX12_flag1_55 (H79.trans (ent_79 _)) (s_lt hn rfl) (by omega) (by omega) (by omega) ?_
          refine v_istore dX12_flag1_56 (Nat.le_of_ble_eq_true rfl) ?_
          refine v_iload dX12_flag1_58 rfl ?_
          refine v_bipushI dX12_flag1_60 rfl ?_
          refine v_icmp_neI (tgt := 68) dX12_flag1_62 (by decide) (by omega) (by omega) (by omega) (by omega) (fun c_13 => ?_) (fun c_13 => ?_)
          · refine v_aload_n dX12_flag1_68 rfl ?_
            refine v_get dX12_flag1_69 fl_X12_13 (H77.trans (ent_77 _)) rfl (s_lt hn rfl) ?_
            refine v_sipushI dX12_flag1_72 rfl ?_
            refine v_iconstI dX12_flag1_75 ?_
            refine v_iload dX12_flag1_76 rfl ?_
            refine v_imulI dX12_flag1_78 ?_
            refine v_iaddI dX12_flag1_79 ?_
            refine v_iload_n dX12_flag1_80 rfl ?_
            refine v_iastI dX12_flag1_81 (H79.trans (ent_79 _)) (s_lt hn rfl) (by omega) (by omega) (by omega) (fun h14 E15 F16 => ?_)
            refine v_aload_n dX12_flag1_82 rfl ?_
            have H17 := ((F16 77 (by decide)).trans (H77.trans (ent_77 _)))
            refine v_get dX12_flag1_83 fl_X12_13 H17 rfl (s_lt hn rfl) ?_
            refine v_sipushI dX12_flag1_86 rfl ?_
            refine v_iconstI dX12_flag1_89 ?_
            refine v_iload dX12_flag1_90 rfl ?_
            refine v_imulI dX12_flag1_92 ?_
            refine v_iaddI dX12_flag1_93 ?_
            refine v_iconstI dX12_flag1_94 ?_
            refine v_iaddI dX12_flag1_95 ?_
            refine v_iload_n dX12_flag1_96 rfl ?_
            refine v_iastI dX12_flag1_97 E15 (s_lt hn rfl) (by omega) (by omega) (by omega) (fun h18 E19 F20 => ?_)
            refine v_aload_n dX12_flag1_98 rfl ?_
            have H21 := ((F20 77 (by decide)).trans H17)
            refine v_get dX12_flag1_99 fl_X12_13 H21 rfl (s_lt hn rfl) ?_
            refine v_sipushI dX12_flag1_102 rfl ?_
            refine v_iconstI dX12_flag1_105 ?_
            refine v_iload dX12_flag1_106 rfl ?_
            refine v_imulI dX12_flag1_108 ?_
            refine v_iaddI dX12_flag1_109 ?_
            refine v_iconstI dX12_flag1_110 ?_
            refine v_iaddI dX12_flag1_111 ?_
            refine v_iload_n dX12_flag1_112 rfl ?_
            refine v_iastI dX12_flag1_113 E19 (s_lt hn rfl) (by omega) (by omega) (by omega) (fun h22 E23 F24 => ?_)
            refine v_aload_n dX12_flag1_114 rfl ?_
            have H25 := ((F24 77 (by decide)).trans H21)
            refine v_get dX12_flag1_115 fl_X12_13 H25 rfl (s_lt hn rfl) ?_
            refine v_iconstI dX12_flag1_118 ?_
            refine v_dup2 dX12_flag1_119 rfl rfl ?_
            refine v_ialdI dX12_flag1_120 E23 (s_lt hn rfl) (by omega) (by omega) (by omega) ?_
            rw [uI_ne (show ¬ 1 = ((232 + (3 * (g79 1))) + 2) by omega)]
            rw [uI_ne (show ¬ 1 = ((232 + (3 * (g79 1))) + 1) by omega)]
            rw [uI_ne (show ¬ 1 = (232 + (3 * (g79 1))) by omega)]
            refine v_iconstI dX12_flag1_121 ?_
            refine v_iaddI dX12_flag1_122 ?_
            refine v_iastI dX12_flag1_123 E23 (s_lt hn rfl) (by omega) (by omega) (by omega) (fun h26 E27 F28 => ?_)
            refine v_iload dX12_flag1_124 rfl ?_
            refine v_iconstI dX12_flag1_126 ?_
            refine v_iaddI dX12_flag1_127 ?_
            exact v_iret dX12_flag1_128 rfl (Nat.zero_le _) (Nat.zero_le _) (by first | exact ⟨(congrArg (fun x => some (Value.int x)) (congrArg iI (by first | rfl | omega | (split <;> first | rfl | omega | (split <;> first | rfl | omega))))), rfl, rfl⟩ | omega)
          · refine v_bipushI dX12_flag1_65 rfl ?_
            exact v_iret dX12_flag1_67 rfl (Nat.zero_le _) (Nat.zero_le _) (by first | exact ⟨(congrArg (fun x => some (Value.int x)) (congrArg iI (by first | rfl | omega | (split <;> first | rfl | omega | (split <;> first | rfl | omega))))), rfl, rfl⟩ | omega)
        · refine v_bipushI dX12_flag1_47 rfl ?_
          exact v_iret dX12_flag1_49 rfl (Nat.zero_le _) (Nat.zero_le _) (by first | exact ⟨(congrArg (fun x => some (Value.int x)) (congrArg iI (by first | rfl | omega | (split <;> first | rfl | omega | (split <;> first | rfl | omega))))), rfl, rfl⟩ | omega)
      · refine v_bipushI dX12_flag1_34 rfl ?_
        exact v_iret dX12_flag1_36 rfl (Nat.zero_le _) (Nat.zero_le _) (by first | exact ⟨(congrArg (fun x => some (Value.int x)) (congrArg iI (by first | rfl | omega | (split <;> first | rfl | omega | (split <;> first | rfl | omega))))), rfl, rfl⟩ | omega)
    · refine v_iconstI dX12_flag1_24 ?_
      exact v_iret dX12_flag1_25 rfl (Nat.zero_le _) (Nat.zero_le _) (by first | exact ⟨(congrArg (fun x => some (Value.int x)) (congrArg iI (by first | rfl | omega | (split <;> first | rfl | omega | (split <;> first | rfl | omega))))), rfl, rfl⟩ | omega)
theorem sp_X3_whyNoFlag_m2 {n : Nat} {h : Nat → sE} {a b c : Int}  {g1 g6 : Int → Int} (hn : 115 ≤ n) (H1 : h 1 = ent 1 g1) (H6 : h 6 = ent 6 g6) (ra : -2147483648 ≤ a ∧ a ≤ 2147483647) (rb : -2147483648 ≤ b ∧ b ≤ 2147483647) (rc : -2147483648 ≤ c ∧ c ≤ 2147483647) (i9 : 0 ≤ g1 9 ∧ g1 9 ≤ 5) (i10 : 0 ≤ g1 10 ∧ g1 10 ≤ 24) (hd : ∀ k : Int, 0 ≤ k → k < g1 10 → 0 ≤ g6 (k * 3) ∧ g6 (k * 3) ≤ 10 ∧ 0 ≤ g6 (k * 3 + 1) ∧ g6 (k * 3 + 1) ≤ 4 ∧ 0 ≤ g6 (k * 3 + 2) ∧ g6 (k * 3 + 2) ≤ 3) (hz : (0 ≤ a ∧ a ≤ 10 ∧ 0 ≤ c ∧ c ≤ 3) ∧ ¬ (0 ≤ b ∧ b < g1 9)) : Sp m_X3_whyNoFlag 3 0 0 [.ref 1, .int (iI a), .int (iI b), .int (iI c)] n h (qR (some (.int (iI (-2)))) n h) := by
  refine Sp.ofV (by decide +kernel) (Nat.le_of_ble_eq_true rfl) ?_
  refine v_iload_n dX3_whyNoFlag_0 rfl ?_
  refine v_iconstI dX3_whyNoFlag_1 ?_
  refine v_bipushI dX3_whyNoFlag_2 rfl ?_
  refine v_callS dX3_whyNoFlag_4 ml_X3_67 (sp_X11_within (a := a) (b := 0) (c := 10)   (by omega) (by omega) (by omega)) rfl rfl (Nat.le_of_ble_eq_true rfl) (Nat.le_of_ble_eq_true rfl) (Nat.zero_le _) (Nat.zero_le _) ⟨Or.inl (fun _ _ _ q => q.2.1), fun r n1 h1 q2 => ?_⟩
  obtain ⟨rfl, rfl, rfl⟩ := q2
  try dsimp only [s_push]
  refine v_ifeqB (tgt := 19) dX3_whyNoFlag_7 (by decide) (fun c_3 => ?_) (fun c_3 => ?_)
  · refine v_iconstI dX3_whyNoFlag_19 ?_
    exact v_iret dX3_whyNoFlag_20 rfl (Nat.zero_le _) (Nat.zero_le _) (by first | exact ⟨(congrArg (fun x => some (Value.int x)) (congrArg iI (by first | rfl | omega | (split <;> first | rfl | omega | (split <;> first | rfl | omega))))), rfl, rfl⟩ | omega)
  · refine v_iload_n dX3_whyNoFlag_10 rfl ?_
    refine v_iconstI dX3_whyNoFlag_11 ?_
    refine v_iconstI dX3_whyNoFlag_12 ?_
    refine v_callS dX3_whyNoFlag_13 ml_X3_67 (sp_X11_within (a := c) (b := 0) (c := 3)   (by omega) (by omega) (by omega)) rfl rfl (Nat.le_of_ble_eq_true rfl) (Nat.le_of_ble_eq_true rfl) (Nat.zero_le _) (Nat.zero_le _) ⟨Or.inl (fun _ _ _ q => q.2.1), fun r n1 h4 q5 => ?_⟩
    obtain ⟨rfl, rfl, rfl⟩ := q5
    try dsimp only [s_push]
    refine v_ifneB (tgt := 21) dX3_whyNoFlag_16 (by decide) (fun c_6 => ?_) (fun c_6 => ?_)
    · refine v_aload_n dX3_whyNoFlag_21 rfl ?_
      refine v_iload_n dX3_whyNoFlag_22 rfl ?_
      refine v_callV dX3_whyNoFlag_23 ml_X3_71 (sq_X3_isCloud (a := b) (g1 := g1) hn (show _ = ent 1 g1 from (H1.trans (ent_1 _))) (by omega) (by omega)) (H1.trans (ent_1 _)) rfl (s_lt hn rfl) rfl rfl (Nat.le_of_ble_eq_true rfl) (Nat.le_of_ble_eq_true rfl) (Nat.zero_le _) (Nat.zero_le _) ⟨Or.inl (fun _ _ _ q => q.2.1), fun r n1 h7 q8 => ?_⟩
      obtain ⟨rfl, rfl, rfl⟩ := q8
      try dsimp only [s_push]
      refine v_ifneB (tgt := 32) dX3_whyNoFlag_26 (by decide) (fun c_9 => ?_) (fun c_9 => ?_)
      · refine v_aload_n dX3_whyNoFlag_32 rfl ?_
        refine v_iload_n dX3_whyNoFlag_33 rfl ?_
        refine v_iload_n dX3_whyNoFlag_34 rfl ?_
        refine v_callV dX3_whyNoFlag_35 ml_X3_110 (sp_X3_hasFlag (a := a) (b := b) (g1 := g1) (g6 := g6) hn (show _ = ent 1 g1 from (H1.trans (ent_1 _))) (show _ = ent 6 g6 from (H6.trans (ent_6 _))) (by omega) (by omega) i10 hd) (H1.trans (ent_1 _)) rfl (s_lt hn rfl) rfl rfl (Nat.le_of_ble_eq_true rfl) (Nat.le_of_ble_eq_true rfl) (Nat.zero_le _) (Nat.zero_le _) ⟨Or.inl (fun _ _ _ q => q.2.1), fun r n1 h10 q11 => ?_⟩
        obtain ⟨rfl, rfl, rfl⟩ := q11
        try dsimp only [s_push]
        refine v_ifeqB (tgt := 44) dX3_whyNoFlag_38 (by decide) (fun c_12 => ?_) (fun c_12 => ?_)
        · refine v_aload_n dX3_whyNoFlag_44 rfl ?_
          refine v_get dX3_whyNoFlag_45 fl_X3_46 (H1.trans (ent_1 _)) rfl (s_lt hn rfl) ?_
          refine v_bipushI dX3_whyNoFlag_48 rfl ?_
          refine v_icmp_ltI (tgt := 58) dX3_whyNoFlag_50 (by decide) (by omega) (by omega) (by omega) (by omega) (fun c_13 => ?_) (fun c_13 => ?_)
          · refine v_iconstI dX3_whyNoFlag_58 ?_
            exact v_iret dX3_whyNoFlag_59 rfl (Nat.zero_le _) (Nat.zero_le _) (by first | exact ⟨(congrArg (fun x => some (Value.int x)) (congrArg iI (by first | rfl | omega | (split <;> first | rfl | omega | (split <;> first | rfl | omega))))), rfl, rfl⟩ | omega)
          · refine v_bipushI dX3_whyNoFlag_53 rfl ?_
            refine v_goto (tgt := 59) dX3_whyNoFlag_55 (by decide) ?_
            exact v_iret dX3_whyNoFlag_59 rfl (Nat.zero_le _) (Nat.zero_le _) (by first | exact ⟨(congrArg (fun x => some (Value.int x)) (congrArg iI (by first | rfl | omega | (split <;> first | rfl | omega | (split <;> first | rfl | omega))))), rfl, rfl⟩ | omega)
        · refine v_bipushI dX3_whyNoFlag_41 rfl ?_
          exact v_iret dX3_whyNoFlag_43 rfl (Nat.zero_le _) (Nat.zero_le _) (by first | exact ⟨(congrArg (fun x => some (Value.int x)) (congrArg iI (by first | rfl | omega | (split <;> first | rfl | omega | (split <;> first | rfl | omega))))), rfl, rfl⟩ | omega)
      · refine v_bipushI dX3_whyNoFlag_29 rfl ?_
        exact v_iret dX3_whyNoFlag_31 rfl (Nat.zero_le _) (Nat.zero_le _) (by first | exact ⟨(congrArg (fun x => some (Value.int x)) (congrArg iI (by first | rfl | omega | (split <;> first | rfl | omega | (split <;> first | rfl | omega))))), rfl, rfl⟩ | omega)
    · refine v_iconstI dX3_whyNoFlag_19 ?_
      exact v_iret dX3_whyNoFlag_20 rfl (Nat.zero_le _) (Nat.zero_le _) (by first | exact ⟨(congrArg (fun x => some (Value.int x)) (congrArg iI (by first | rfl | omega | (split <;> first | rfl | omega | (split <;> first | rfl | omega))))), rfl, rfl⟩ | omega)
theorem sp_X12_flag1_m2 {n : Nat} {h : Nat → sE} {a b c : Int}  {g77 g79 : Int → Int} (hn : 115 ≤ n) (H77 : h 77 = ent 77 g77) (H79 : h 79 = ent 79 g79) (ra : -2147483648 ≤ a ∧ a ≤ 2147483647) (rb : -2147483648 ≤ b ∧ b ≤ 2147483647) (rc : -2147483648 ≤ c ∧ c ≤ 2147483647) (i9 : 0 ≤ g79 0 ∧ g79 0 ≤ 5) (i10 : 0 ≤ g79 1 ∧ g79 1 ≤ 24) (hd : ∀ k : Int, 0 ≤ k → k < g79 1 → 0 ≤ g79 (232 + k * 3) ∧ g79 (232 + k * 3) ≤ 10 ∧ 0 ≤ g79 (232 + (k * 3 + 1)) ∧ g79 (232 + (k * 3 + 1)) ≤ 4 ∧ 0 ≤ g79 (232 + (k * 3 + 2)) ∧ g79 (232 + (k * 3 + 2)) ≤ 3) (hz : (0 ≤ a ∧ a ≤ 10 ∧ 0 ≤ c ∧ c ≤ 3) ∧ ¬ (0 ≤ b ∧ b < g79 0)) : Sp m_X12_flag1 2 0 0 [.ref 77, .int (iI a), .int (iI b), .int (iI c)] n h (qR (some (.int (iI (-2)))) n h) := by
  have fr := fOf_r (g := fun j => g79 (232 + j)) (a := a) (b := b) (m := (g79 1).toNat) (fun k k0 k1 => (hd k k0 (by omega)).2.2.2.2)
  refine Sp.ofV (by decide +kernel) (Nat.le_of_ble_eq_true rfl) ?_
  refine v_iload_n dX12_flag1_0 rfl ?_
  refine v_i2lI dX12_flag1_1 (by omega) (by omega) ?_
  refine v_lconstI (w := 0) dX12_flag1_2 rfl ?_
  refine v_ldc2I 10 dX12_flag1_3 k_X12_227 rfl ?_
  refine v_callS dX12_flag1_6 ml_X12_175 (sp_X12_in (v := a) (lo := 0) (hi := 10)   (by omega) (by omega) (by omega)) rfl rfl (Nat.le_of_ble_eq_true rfl) (Nat.le_of_ble_eq_true rfl) (Nat.zero_le _) (Nat.zero_le _) ⟨Or.inl (fun _ _ _ q => q.2.1), fun r n1 h1 q2 => ?_⟩
  obtain ⟨rfl, rfl, rfl⟩ := q2
  try dsimp only [s_push]
  refine v_ifeqB (tgt := 24) dX12_flag1_9 (by decide) (fun c_3 => ?_) (fun c_3 => ?_)
  · refine v_iconstI dX12_flag1_24 ?_
    exact v_iret dX12_flag1_25 rfl (Nat.zero_le _) (Nat.zero_le _) (by first | exact ⟨(congrArg (fun x => some (Value.int x)) (congrArg iI (by first | rfl | omega | (split <;> first | rfl | omega | (split <;> first | rfl | omega))))), rfl, rfl⟩ | omega)
  · refine v_iload_n dX12_flag1_12 rfl ?_
    refine v_i2lI dX12_flag1_13 (by omega) (by omega) ?_
    refine v_lconstI (w := 0) dX12_flag1_14 rfl ?_
    refine v_ldc2I 3 dX12_flag1_15 k_X12_210 rfl ?_
    refine v_callS dX12_flag1_18 ml_X12_175 (sp_X12_in (v := c) (lo := 0) (hi := 3)   (by omega) (by omega) (by omega)) rfl rfl (Nat.le_of_ble_eq_true rfl) (Nat.le_of_ble_eq_true rfl) (Nat.zero_le _) (Nat.zero_le _) ⟨Or.inl (fun _ _ _ q => q.2.1), fun r n1 h4 q5 => ?_⟩
    obtain ⟨rfl, rfl, rfl⟩ := q5
    try dsimp only [s_push]
    refine v_ifneB (tgt := 26) dX12_flag1_21 (by decide) (fun c_6 => ?_) (fun c_6 => ?_)
    · refine v_aload_n dX12_flag1_26 rfl ?_
      refine v_iload_n dX12_flag1_27 rfl ?_
      refine v_callV dX12_flag1_28 ml_X12_219 (sp_X12_isCloud (a := b) (g77 := g77) (g79 := g79) hn (show _ = ent 77 g77 from (H77.trans (ent_77 _))) (show _ = ent 79 g79 from (H79.trans (ent_79 _))) (by omega) (by omega)) (H77.trans (ent_77 _)) rfl (s_lt hn rfl) rfl rfl (Nat.le_of_ble_eq_true rfl) (Nat.le_of_ble_eq_true rfl) (Nat.zero_le _) (Nat.zero_le _) ⟨Or.inl (fun _ _ _ q => q.2.1), fun r n1 h7 q8 => ?_⟩
      obtain ⟨rfl, rfl, rfl⟩ := q8
      try dsimp only [s_push]
      refine v_ifneB (tgt := 37) dX12_flag1_31 (by decide) (fun c_9 => ?_) (fun c_9 => ?_)
      · refine v_aload_n dX12_flag1_37 rfl ?_
        refine v_iload_n dX12_flag1_38 rfl ?_
        refine v_iload_n dX12_flag1_39 rfl ?_
        refine v_callV dX12_flag1_40 ml_X12_229 (sp_X12_flagOf (a := b) (b := a) (g77 := g77) (g79 := g79) hn (show _ = ent 77 g77 from (H77.trans (ent_77 _))) (show _ = ent 79 g79 from (H79.trans (ent_79 _))) (by omega) (by omega) i10 hd) (H77.trans (ent_77 _)) rfl (s_lt hn rfl) rfl rfl (Nat.le_of_ble_eq_true rfl) (Nat.le_of_ble_eq_true rfl) (Nat.zero_le _) (Nat.zero_le _) ⟨Or.inl (fun _ _ _ q => q.2.1), fun r n1 h10 q11 => ?_⟩
        obtain ⟨rfl, rfl, rfl⟩ := q11
        try dsimp only [s_push]
        refine v_iconstI dX12_flag1_43 ?_
        refine v_icmp_eqI (tgt := 50) dX12_flag1_44 (by decide) (by omega) (by omega) (by omega) (by omega) (fun c_12 => ?_) (fun c_12 => ?_)
        · refine v_aload_n dX12_flag1_50 rfl ?_
          refine v_get dX12_flag1_51 fl_X12_13 (H77.trans (ent_77 _)) rfl (s_lt hn rfl) ?_
          refine v_iconstI dX12_flag1_54 ?_
          refine v_ialdI dX12_flag1_55 (H79.trans (ent_79 _)) (s_lt hn rfl) (by omega) (by omega) (by omega) ?_
          refine v_istore dX12_flag1_56 (Nat.le_of_ble_eq_true rfl) ?_
          refine v_iload dX12_flag1_58 rfl ?_
          refine v_bipushI dX12_flag1_60 rfl ?_
          refine v_icmp_neI (tgt := 68) dX12_flag1_62 (by decide) (by omega) (by omega) (by omega) (by omega) (fun c_13 => ?_) (fun c_13 => ?_)
          · refine v_aload_n dX12_flag1_68 rfl ?_
            refine v_get dX12_flag1_69 fl_X12_13 (H77.trans (ent_77 _)) rfl (s_lt hn rfl) ?_
            refine v_sipushI dX12_flag1_72 rfl ?_
            refine v_iconstI dX12_flag1_75 ?_
            refine v_iload dX12_flag1_76 rfl ?_
            refine v_imulI dX12_flag1_78 ?_
            refine v_iaddI dX12_flag1_79 ?_
            refine v_iload_n dX12_flag1_80 rfl ?_
            refine v_iastI dX12_flag1_81 (H79.trans (ent_79 _)) (s_lt hn rfl) (by omega) (by omega) (by omega) (fun h14 E15 F16 => ?_)
            refine v_aload_n dX12_flag1_82 rfl ?_
            have H17 := ((F16 77 (by decide)).trans (H77.trans (ent_77 _)))
            refine v_get dX12_flag1_83 fl_X12_13 H17 rfl (s_lt hn rfl) ?_
            refine v_sipushI dX12_flag1_86 rfl ?_
            refine v_iconstI dX12_flag1_89 ?_
            refine v_iload dX12_flag1_90 rfl ?_
            refine v_imulI dX12_flag1_92 ?_
            refine v_iaddI dX12_flag1_93 ?_
            refine v_iconstI dX12_flag1_94 ?_
            refine v_iaddI dX12_flag1_95 ?_
            refine v_iload_n dX12_flag1_96 rfl ?_
            refine v_iastI dX12_flag1_97 E15 (s_lt hn rfl) (by omega) (by omega) (by omega) (fun h18 E19 F20 => ?_)
            refine v_aload_n dX12_flag1_98 rfl ?_
            have H21 := ((F20 77 (by decide)).trans H17)
            refine v_get dX12_flag1_99 fl_X12_13 H21 rfl (s_lt hn rfl) ?_
            refine v_sipushI dX12_flag1_102 rfl ?_
            refine v_iconstI dX12_flag1_105 ?_
            refine v_iload dX12_flag1_106 rfl ?_
            refine v_imulI dX12_flag1_108 ?_
            refine v_iaddI dX12_flag1_109 ?_
            refine v_iconstI dX12_flag1_110 ?_
            refine v_iaddI dX12_flag1_111 ?_
            refine v_iload_n dX12_flag1_112 rfl ?_
            refine v_iastI dX12_flag1_113 E19 (s_lt hn rfl) (by omega) (by omega) (by omega) (fun h22 E23 F24 => ?_)
            refine v_aload_n dX12_flag1_114 rfl ?_
            have H25 := ((F24 77 (by decide)).trans H21)
            refine v_get dX12_flag1_115 fl_X12_13 H25 rfl (s_lt hn rfl) ?_
            refine v_iconstI dX12_flag1_118 ?_
            refine v_dup2 dX12_flag1_119 rfl rfl ?_
            refine v_ialdI dX12_flag1_120 E23 (s_lt hn rfl) (by omega) (by omega) (by omega) ?_
            rw [uI_ne (show ¬ 1 = ((232 + (3 * (g79 1))) + 2) by omega)]
            rw [uI_ne (show ¬ 1 = ((232 + (3 * (g79 1))) + 1) by omega)]
            rw [uI_ne (show ¬ 1 = (232 + (3 * (g79 1))) by omega)]
            refine v_iconstI dX12_flag1_121 ?_
            refine v_iaddI dX12_flag1_122 ?_
            refine v_iastI dX12_flag1_123 E23 (s_lt hn rfl) (by omega) (by omega) (by omega) (fun h26 E27 F28 => ?_)
            refine v_iload dX12_flag1_124 rfl ?_
            refine v_iconstI dX12_flag1_126 ?_
            refine v_iaddI dX12_flag1_127 ?_
            exact v_iret dX12_flag1_128 rfl (Nat.zero_le _) (Nat.zero_le _) (by first | exact ⟨(congrArg (fun x => some (Value.int x)) (congrArg iI (by first | rfl | omega | (split <;> first | rfl | omega | (split <;> first | rfl | omega))))), rfl, rfl⟩ | omega)
          · refine v_bipushI dX12_flag1_65 rfl ?_
            exact v_iret dX12_flag1_67 rfl (Nat.zero_le _) (Nat.zero_le _) (by first | exact ⟨(congrArg (fun x => some (Value.int x)) (congrArg iI (by first | rfl | omega | (split <;> first | rfl | omega | (split <;> first | rfl | omega))))), rfl, rfl⟩ | omega)
        · refine v_bipushI dX12_flag1_47 rfl ?_
          exact v_iret dX12_flag1_49 rfl (Nat.zero_le _) (Nat.zero_le _) (by first | exact ⟨(congrArg (fun x => some (Value.int x)) (congrArg iI (by first | rfl | omega | (split <;> first | rfl | omega | (split <;> first | rfl | omega))))), rfl, rfl⟩ | omega)
      · refine v_bipushI dX12_flag1_34 rfl ?_
        exact v_iret dX12_flag1_36 rfl (Nat.zero_le _) (Nat.zero_le _) (by first | exact ⟨(congrArg (fun x => some (Value.int x)) (congrArg iI (by first | rfl | omega | (split <;> first | rfl | omega | (split <;> first | rfl | omega))))), rfl, rfl⟩ | omega)
    · refine v_iconstI dX12_flag1_24 ?_
      exact v_iret dX12_flag1_25 rfl (Nat.zero_le _) (Nat.zero_le _) (by first | exact ⟨(congrArg (fun x => some (Value.int x)) (congrArg iI (by first | rfl | omega | (split <;> first | rfl | omega | (split <;> first | rfl | omega))))), rfl, rfl⟩ | omega)
theorem sp_X3_whyNoFlag_m3 {n : Nat} {h : Nat → sE} {a b c : Int}  {g1 g6 : Int → Int} (hn : 115 ≤ n) (H1 : h 1 = ent 1 g1) (H6 : h 6 = ent 6 g6) (ra : -2147483648 ≤ a ∧ a ≤ 2147483647) (rb : -2147483648 ≤ b ∧ b ≤ 2147483647) (rc : -2147483648 ≤ c ∧ c ≤ 2147483647) (i9 : 0 ≤ g1 9 ∧ g1 9 ≤ 5) (i10 : 0 ≤ g1 10 ∧ g1 10 ≤ 24) (hd : ∀ k : Int, 0 ≤ k → k < g1 10 → 0 ≤ g6 (k * 3) ∧ g6 (k * 3) ≤ 10 ∧ 0 ≤ g6 (k * 3 + 1) ∧ g6 (k * 3 + 1) ≤ 4 ∧ 0 ≤ g6 (k * 3 + 2) ∧ g6 (k * 3 + 2) ≤ 3) (hz : (0 ≤ a ∧ a ≤ 10 ∧ 0 ≤ c ∧ c ≤ 3) ∧ 0 ≤ b ∧ b < g1 9 ∧ ¬ fOf g6 a b (g1 10).toNat = -1) : Sp m_X3_whyNoFlag 3 0 0 [.ref 1, .int (iI a), .int (iI b), .int (iI c)] n h (qR (some (.int (iI (-3)))) n h) := by
  refine Sp.ofV (by decide +kernel) (Nat.le_of_ble_eq_true rfl) ?_
  refine v_iload_n dX3_whyNoFlag_0 rfl ?_
  refine v_iconstI dX3_whyNoFlag_1 ?_
  refine v_bipushI dX3_whyNoFlag_2 rfl ?_
  refine v_callS dX3_whyNoFlag_4 ml_X3_67 (sp_X11_within (a := a) (b := 0) (c := 10)   (by omega) (by omega) (by omega)) rfl rfl (Nat.le_of_ble_eq_true rfl) (Nat.le_of_ble_eq_true rfl) (Nat.zero_le _) (Nat.zero_le _) ⟨Or.inl (fun _ _ _ q => q.2.1), fun r n1 h1 q2 => ?_⟩
  obtain ⟨rfl, rfl, rfl⟩ := q2
  try dsimp only [s_push]
  refine v_ifeqB (tgt := 19) dX3_whyNoFlag_7 (by decide) (fun c_3 => ?_) (fun c_3 => ?_)
  · refine v_iconstI dX3_whyNoFlag_19 ?_
    exact v_iret dX3_whyNoFlag_20 rfl (Nat.zero_le _) (Nat.zero_le _) (by first | exact ⟨(congrArg (fun x => some (Value.int x)) (congrArg iI (by first | rfl | omega | (split <;> first | rfl | omega | (split <;> first | rfl | omega))))), rfl, rfl⟩ | omega)
  · refine v_iload_n dX3_whyNoFlag_10 rfl ?_
    refine v_iconstI dX3_whyNoFlag_11 ?_
    refine v_iconstI dX3_whyNoFlag_12 ?_
    refine v_callS dX3_whyNoFlag_13 ml_X3_67 (sp_X11_within (a := c) (b := 0) (c := 3)   (by omega) (by omega) (by omega)) rfl rfl (Nat.le_of_ble_eq_true rfl) (Nat.le_of_ble_eq_true rfl) (Nat.zero_le _) (Nat.zero_le _) ⟨Or.inl (fun _ _ _ q => q.2.1), fun r n1 h4 q5 => ?_⟩
    obtain ⟨rfl, rfl, rfl⟩ := q5
    try dsimp only [s_push]
    refine v_ifneB (tgt := 21) dX3_whyNoFlag_16 (by decide) (fun c_6 => ?_) (fun c_6 => ?_)
    · refine v_aload_n dX3_whyNoFlag_21 rfl ?_
      refine v_iload_n dX3_whyNoFlag_22 rfl ?_
      refine v_callV dX3_whyNoFlag_23 ml_X3_71 (sq_X3_isCloud (a := b) (g1 := g1) hn (show _ = ent 1 g1 from (H1.trans (ent_1 _))) (by omega) (by omega)) (H1.trans (ent_1 _)) rfl (s_lt hn rfl) rfl rfl (Nat.le_of_ble_eq_true rfl) (Nat.le_of_ble_eq_true rfl) (Nat.zero_le _) (Nat.zero_le _) ⟨Or.inl (fun _ _ _ q => q.2.1), fun r n1 h7 q8 => ?_⟩
      obtain ⟨rfl, rfl, rfl⟩ := q8
      try dsimp only [s_push]
      refine v_ifneB (tgt := 32) dX3_whyNoFlag_26 (by decide) (fun c_9 => ?_) (fun c_9 => ?_)
      · refine v_aload_n dX3_whyNoFlag_32 rfl ?_
        refine v_iload_n dX3_whyNoFlag_33 rfl ?_
        refine v_iload_n dX3_whyNoFlag_34 rfl ?_
        refine v_callV dX3_whyNoFlag_35 ml_X3_110 (sp_X3_hasFlag (a := a) (b := b) (g1 := g1) (g6 := g6) hn (show _ = ent 1 g1 from (H1.trans (ent_1 _))) (show _ = ent 6 g6 from (H6.trans (ent_6 _))) (by omega) (by omega) i10 hd) (H1.trans (ent_1 _)) rfl (s_lt hn rfl) rfl rfl (Nat.le_of_ble_eq_true rfl) (Nat.le_of_ble_eq_true rfl) (Nat.zero_le _) (Nat.zero_le _) ⟨Or.inl (fun _ _ _ q => q.2.1), fun r n1 h10 q11 => ?_⟩
        obtain ⟨rfl, rfl, rfl⟩ := q11
        try dsimp only [s_push]
        refine v_ifeqB (tgt := 44) dX3_whyNoFlag_38 (by decide) (fun c_12 => ?_) (fun c_12 => ?_)
        · refine v_aload_n dX3_whyNoFlag_44 rfl ?_
          refine v_get dX3_whyNoFlag_45 fl_X3_46 (H1.trans (ent_1 _)) rfl (s_lt hn rfl) ?_
          refine v_bipushI dX3_whyNoFlag_48 rfl ?_
          refine v_icmp_ltI (tgt := 58) dX3_whyNoFlag_50 (by decide) (by omega) (by omega) (by omega) (by omega) (fun c_13 => ?_) (fun c_13 => ?_)
          · refine v_iconstI dX3_whyNoFlag_58 ?_
            exact v_iret dX3_whyNoFlag_59 rfl (Nat.zero_le _) (Nat.zero_le _) (by first | exact ⟨(congrArg (fun x => some (Value.int x)) (congrArg iI (by first | rfl | omega | (split <;> first | rfl | omega | (split <;> first | rfl | omega))))), rfl, rfl⟩ | omega)
          · refine v_bipushI dX3_whyNoFlag_53 rfl ?_
            refine v_goto (tgt := 59) dX3_whyNoFlag_55 (by decide) ?_
            exact v_iret dX3_whyNoFlag_59 rfl (Nat.zero_le _) (Nat.zero_le _) (by first | exact ⟨(congrArg (fun x => some (Value.int x)) (congrArg iI (by first | rfl | omega | (split <;> first | rfl | omega | (split <;> first | rfl | omega))))), rfl, rfl⟩ | omega)
        · refine v_bipushI dX3_whyNoFlag_41 rfl ?_
          exact v_iret dX3_whyNoFlag_43 rfl (Nat.zero_le _) (Nat.zero_le _) (by first | exact ⟨(congrArg (fun x => some (Value.int x)) (congrArg iI (by first | rfl | omega | (split <;> first | rfl | omega | (split <;> first | rfl | omega))))), rfl, rfl⟩ | omega)
      · refine v_bipushI dX3_whyNoFlag_29 rfl ?_
        exact v_iret dX3_whyNoFlag_31 rfl (Nat.zero_le _) (Nat.zero_le _) (by first | exact ⟨(congrArg (fun x => some (Value.int x)) (congrArg iI (by first | rfl | omega | (split <;> first | rfl | omega | (split <;> first | rfl | omega))))), rfl, rfl⟩ | omega)
    · refine v_iconstI dX3_whyNoFlag_19 ?_
      exact v_iret dX3_whyNoFlag_20 rfl (Nat.zero_le _) (Nat.zero_le _) (by first | exact ⟨(congrArg (fun x => some (Value.int x)) (congrArg iI (by first | rfl | omega | (split <;> first | rfl | omega | (split <;> first | rfl | omega))))), rfl, rfl⟩ | omega)
theorem sp_X12_flag1_m3 {n : Nat} {h : Nat → sE} {a b c : Int}  {g77 g79 : Int → Int} (hn : 115 ≤ n) (H77 : h 77 = ent 77 g77) (H79 : h 79 = ent 79 g79) (ra : -2147483648 ≤ a ∧ a ≤ 2147483647) (rb : -2147483648 ≤ b ∧ b ≤ 2147483647) (rc : -2147483648 ≤ c ∧ c ≤ 2147483647) (i9 : 0 ≤ g79 0 ∧ g79 0 ≤ 5) (i10 : 0 ≤ g79 1 ∧ g79 1 ≤ 24) (hd : ∀ k : Int, 0 ≤ k → k < g79 1 → 0 ≤ g79 (232 + k * 3) ∧ g79 (232 + k * 3) ≤ 10 ∧ 0 ≤ g79 (232 + (k * 3 + 1)) ∧ g79 (232 + (k * 3 + 1)) ≤ 4 ∧ 0 ≤ g79 (232 + (k * 3 + 2)) ∧ g79 (232 + (k * 3 + 2)) ≤ 3) (hz : (0 ≤ a ∧ a ≤ 10 ∧ 0 ≤ c ∧ c ≤ 3) ∧ 0 ≤ b ∧ b < g79 0 ∧ ¬ fOf (fun j => g79 (232 + j)) a b (g79 1).toNat = -1) : Sp m_X12_flag1 2 0 0 [.ref 77, .int (iI a), .int (iI b), .int (iI c)] n h (qR (some (.int (iI (-3)))) n h) := by
  have fr := fOf_r (g := fun j => g79 (232 + j)) (a := a) (b := b) (m := (g79 1).toNat) (fun k k0 k1 => (hd k k0 (by omega)).2.2.2.2)
  refine Sp.ofV (by decide +kernel) (Nat.le_of_ble_eq_true rfl) ?_
  refine v_iload_n dX12_flag1_0 rfl ?_
  refine v_i2lI dX12_flag1_1 (by omega) (by omega) ?_
  refine v_lconstI (w := 0) dX12_flag1_2 rfl ?_
  refine v_ldc2I 10 dX12_flag1_3 k_X12_227 rfl ?_
  refine v_callS dX12_flag1_6 ml_X12_175 (sp_X12_in (v := a) (lo := 0) (hi := 10)   (by omega) (by omega) (by omega)) rfl rfl (Nat.le_of_ble_eq_true rfl) (Nat.le_of_ble_eq_true rfl) (Nat.zero_le _) (Nat.zero_le _) ⟨Or.inl (fun _ _ _ q => q.2.1), fun r n1 h1 q2 => ?_⟩
  obtain ⟨rfl, rfl, rfl⟩ := q2
  try dsimp only [s_push]
  refine v_ifeqB (tgt := 24) dX12_flag1_9 (by decide) (fun c_3 => ?_) (fun c_3 => ?_)
  · refine v_iconstI dX12_flag1_24 ?_
    exact v_iret dX12_flag1_25 rfl (Nat.zero_le _) (Nat.zero_le _) (by first | exact ⟨(congrArg (fun x => some (Value.int x)) (congrArg iI (by first | rfl | omega | (split <;> first | rfl | omega | (split <;> first | rfl | omega))))), rfl, rfl⟩ | omega)
  · refine v_iload_n dX12_flag1_12 rfl ?_
    refine v_i2lI dX12_flag1_13 (by omega) (by omega) ?_
    refine v_lconstI (w := 0) dX12_flag1_14 rfl ?_
    refine v_ldc2I 3 dX12_flag1_15 k_X12_210 rfl ?_
    refine v_callS dX12_flag1_18 ml_X12_175 (sp_X12_in (v := c) (lo := 0) (hi := 3)   (by omega) (by omega) (by omega)) rfl rfl (Nat.le_of_ble_eq_true rfl) (Nat.le_of_ble_eq_true rfl) (Nat.zero_le _) (Nat.zero_le _) ⟨Or.inl (fun _ _ _ q => q.2.1), fun r n1 h4 q5 => ?_⟩
    obtain ⟨rfl, rfl, rfl⟩ := q5
    try dsimp only [s_push]
    refine v_ifneB (tgt := 26) dX12_flag1_21 (by decide) (fun c_6 => ?_) (fun c_6 => ?_)
    · refine v_aload_n dX12_flag1_26 rfl ?_
      refine v_iload_n dX12_flag1_27 rfl ?_
      refine v_callV dX12_flag1_28 ml_X12_219 (sp_X12_isCloud (a := b) (g77 := g77) (g79 := g79) hn (show _ = ent 77 g77 from (H77.trans (ent_77 _))) (show _ = ent 79 g79 from (H79.trans (ent_79 _))) (by omega) (by omega)) (H77.trans (ent_77 _)) rfl (s_lt hn rfl) rfl rfl (Nat.le_of_ble_eq_true rfl) (Nat.le_of_ble_eq_true rfl) (Nat.zero_le _) (Nat.zero_le _) ⟨Or.inl (fun _ _ _ q => q.2.1), fun r n1 h7 q8 => ?_⟩
      obtain ⟨rfl, rfl, rfl⟩ := q8
      try dsimp only [s_push]
      refine v_ifneB (tgt := 37) dX12_flag1_31 (by decide) (fun c_9 => ?_) (fun c_9 => ?_)
      · refine v_aload_n dX12_flag1_37 rfl ?_
        refine v_iload_n dX12_flag1_38 rfl ?_
        refine v_iload_n dX12_flag1_39 rfl ?_
        refine v_callV dX12_flag1_40 ml_X12_229 (sp_X12_flagOf (a := b) (b := a) (g77 := g77) (g79 := g79) hn (show _ = ent 77 g77 from (H77.trans (ent_77 _))) (show _ = ent 79 g79 from (H79.trans (ent_79 _))) (by omega) (by omega) i10 hd) (H77.trans (ent_77 _)) rfl (s_lt hn rfl) rfl rfl (Nat.le_of_ble_eq_true rfl) (Nat.le_of_ble_eq_true rfl) (Nat.zero_le _) (Nat.zero_le _) ⟨Or.inl (fun _ _ _ q => q.2.1), fun r n1 h10 q11 => ?_⟩
        obtain ⟨rfl, rfl, rfl⟩ := q11
        try dsimp only [s_push]
        refine v_iconstI dX12_flag1_43 ?_
        refine v_icmp_eqI (tgt := 50) dX12_flag1_44 (by decide) (by omega) (by omega) (by omega) (by omega) (fun c_12 => ?_) (fun c_12 => ?_)
        · refine v_aload_n dX12_flag1_50 rfl ?_
          refine v_get dX12_flag1_51 fl_X12_13 (H77.trans (ent_77 _)) rfl (s_lt hn rfl) ?_
          refine v_iconstI dX12_flag1_54 ?_
          refine v_ialdI dX12_flag1_55 (H79.trans (ent_79 _)) (s_lt hn rfl) (by omega) (by omega) (by omega) ?_
          refine v_istore dX12_flag1_56 (Nat.le_of_ble_eq_true rfl) ?_
          refine v_iload dX12_flag1_58 rfl ?_
          refine v_bipushI dX12_flag1_60 rfl ?_
          refine v_icmp_neI (tgt := 68) dX12_flag1_62 (by decide) (by omega) (by omega) (by omega) (by omega) (fun c_13 => ?_) (fun c_13 => ?_)
          · refine v_aload_n dX12_flag1_68 rfl ?_
            refine v_get dX12_flag1_69 fl_X12_13 (H77.trans (ent_77 _)) rfl (s_lt hn rfl) ?_
            refine v_sipushI dX12_flag1_72 rfl ?_
            refine v_iconstI dX12_flag1_75 ?_
            refine v_iload dX12_flag1_76 rfl ?_
            refine v_imulI dX12_flag1_78 ?_
            refine v_iaddI dX12_flag1_79 ?_
            refine v_iload_n dX12_flag1_80 rfl ?_
            refine v_iastI dX12_flag1_81 (H79.trans (ent_79 _)) (s_lt hn rfl) (by omega) (by omega) (by omega) (fun h14 E15 F16 => ?_)
            refine v_aload_n dX12_flag1_82 rfl ?_
            have H17 := ((F16 77 (by decide)).trans (H77.trans (ent_77 _)))
            refine v_get dX12_flag1_83 fl_X12_13 H17 rfl (s_lt hn rfl) ?_
            refine v_sipushI dX12_flag1_86 rfl ?_
            refine v_iconstI dX12_flag1_89 ?_
            refine v_iload dX12_flag1_90 rfl ?_
            refine v_imulI dX12_flag1_92 ?_
            refine v_iaddI dX12_flag1_93 ?_
            refine v_iconstI dX12_flag1_94 ?_
            refine v_iaddI dX12_flag1_95 ?_
            refine v_iload_n dX12_flag1_96 rfl ?_
            refine v_iastI dX12_flag1_97 E15 (s_lt hn rfl) (by omega) (by omega) (by omega) (fun h18 E19 F20 => ?_)
            refine v_aload_n dX12_flag1_98 rfl ?_
            have H21 := ((F20 77 (by decide)).trans H17)
            refine v_get dX12_flag1_99 fl_X12_13 H21 rfl (s_lt hn rfl) ?_
            refine v_sipushI dX12_flag1_102 rfl ?_
            refine v_iconstI dX12_flag1_105 ?_
            refine v_iload dX12_flag1_106 rfl ?_
            refine v_imulI dX12_flag1_108 ?_
            refine v_iaddI dX12_flag1_109 ?_
            refine v_iconstI dX12_flag1_110 ?_
            refine v_iaddI dX12_flag1_111 ?_
            refine v_iload_n dX12_flag1_112 rfl ?_
            refine v_iastI dX12_flag1_113 E19 (s_lt hn rfl) (by omega) (by omega) (by omega) (fun h22 E23 F24 => ?_)
            refine v_aload_n dX12_flag1_114 rfl ?_
            have H25 := ((F24 77 (by decide)).trans H21)
            refine v_get dX12_flag1_115 fl_X12_13 H25 rfl (s_lt hn rfl) ?_
            refine v_iconstI dX12_flag1_118 ?_
            refine v_dup2 dX12_flag1_119 rfl rfl ?_
            refine v_ialdI dX12_flag1_120 E23 (s_lt hn rfl) (by omega) (by omega) (by omega) ?_
            rw [uI_ne (show ¬ 1 = ((232 + (3 * (g79 1))) + 2) by omega)]
            rw [uI_ne (show ¬ 1 = ((232 + (3 * (g79 1))) + 1) by omega)]
            rw [uI_ne (show ¬ 1 = (232 + (3 * (g79 1))) by omega)]
            refine v_iconstI dX12_flag1_121 ?_
            refine v_iaddI dX12_flag1_122 ?_
            refine v_iastI dX12_flag1_123 E23 (s_lt hn rfl) (by omega) (by omega) (by omega) (fun h26 E27 F28 => ?_)
            refine v_iload dX12_flag1_124 rfl ?_
            refine v_iconstI dX12_flag1_126 ?_
            refine v_iaddI dX12_flag1_127 ?_
            exact v_iret dX12_flag1_128 rfl (Nat.zero_le _) (Nat.zero_le _) (by first | exact ⟨(congrArg (fun x => some (Value.int x)) (congrArg iI (by first | rfl | omega | (split <;> first | rfl | omega | (split <;> first | rfl | omega))))), rfl, rfl⟩ | omega)
          · refine v_bipushI dX12_flag1_65 rfl ?_
            exact v_iret dX12_flag1_67 rfl (Nat.zero_le _) (Nat.zero_le _) (by first | exact ⟨(congrArg (fun x => some (Value.int x)) (congrArg iI (by first | rfl | omega | (split <;> first | rfl | omega | (split <;> first | rfl | omega))))), rfl, rfl⟩ | omega)
        · refine v_bipushI dX12_flag1_47 rfl ?_
          exact v_iret dX12_flag1_49 rfl (Nat.zero_le _) (Nat.zero_le _) (by first | exact ⟨(congrArg (fun x => some (Value.int x)) (congrArg iI (by first | rfl | omega | (split <;> first | rfl | omega | (split <;> first | rfl | omega))))), rfl, rfl⟩ | omega)
      · refine v_bipushI dX12_flag1_34 rfl ?_
        exact v_iret dX12_flag1_36 rfl (Nat.zero_le _) (Nat.zero_le _) (by first | exact ⟨(congrArg (fun x => some (Value.int x)) (congrArg iI (by first | rfl | omega | (split <;> first | rfl | omega | (split <;> first | rfl | omega))))), rfl, rfl⟩ | omega)
    · refine v_iconstI dX12_flag1_24 ?_
      exact v_iret dX12_flag1_25 rfl (Nat.zero_le _) (Nat.zero_le _) (by first | exact ⟨(congrArg (fun x => some (Value.int x)) (congrArg iI (by first | rfl | omega | (split <;> first | rfl | omega | (split <;> first | rfl | omega))))), rfl, rfl⟩ | omega)
theorem sp_X3_whyNoFlag_m5 {n : Nat} {h : Nat → sE} {a b c : Int}  {g1 g6 : Int → Int} (hn : 115 ≤ n) (H1 : h 1 = ent 1 g1) (H6 : h 6 = ent 6 g6) (ra : -2147483648 ≤ a ∧ a ≤ 2147483647) (rb : -2147483648 ≤ b ∧ b ≤ 2147483647) (rc : -2147483648 ≤ c ∧ c ≤ 2147483647) (i9 : 0 ≤ g1 9 ∧ g1 9 ≤ 5) (i10 : 0 ≤ g1 10 ∧ g1 10 ≤ 24) (hd : ∀ k : Int, 0 ≤ k → k < g1 10 → 0 ≤ g6 (k * 3) ∧ g6 (k * 3) ≤ 10 ∧ 0 ≤ g6 (k * 3 + 1) ∧ g6 (k * 3 + 1) ≤ 4 ∧ 0 ≤ g6 (k * 3 + 2) ∧ g6 (k * 3 + 2) ≤ 3) (hz : (0 ≤ a ∧ a ≤ 10 ∧ 0 ≤ c ∧ c ≤ 3) ∧ 0 ≤ b ∧ b < g1 9 ∧ fOf g6 a b (g1 10).toNat = -1 ∧ ¬ g1 10 < 24) : Sp m_X3_whyNoFlag 3 0 0 [.ref 1, .int (iI a), .int (iI b), .int (iI c)] n h (qR (some (.int (iI (-5)))) n h) := by
  refine Sp.ofV (by decide +kernel) (Nat.le_of_ble_eq_true rfl) ?_
  refine v_iload_n dX3_whyNoFlag_0 rfl ?_
  refine v_iconstI dX3_whyNoFlag_1 ?_
  refine v_bipushI dX3_whyNoFlag_2 rfl ?_
  refine v_callS dX3_whyNoFlag_4 ml_X3_67 (sp_X11_within (a := a) (b := 0) (c := 10)   (by omega) (by omega) (by omega)) rfl rfl (Nat.le_of_ble_eq_true rfl) (Nat.le_of_ble_eq_true rfl) (Nat.zero_le _) (Nat.zero_le _) ⟨Or.inl (fun _ _ _ q => q.2.1), fun r n1 h1 q2 => ?_⟩
  obtain ⟨rfl, rfl, rfl⟩ := q2
  try dsimp only [s_push]
  refine v_ifeqB (tgt := 19) dX3_whyNoFlag_7 (by decide) (fun c_3 => ?_) (fun c_3 => ?_)
  · refine v_iconstI dX3_whyNoFlag_19 ?_
    exact v_iret dX3_whyNoFlag_20 rfl (Nat.zero_le _) (Nat.zero_le _) (by first | exact ⟨(congrArg (fun x => some (Value.int x)) (congrArg iI (by first | rfl | omega | (split <;> first | rfl | omega | (split <;> first | rfl | omega))))), rfl, rfl⟩ | omega)
  · refine v_iload_n dX3_whyNoFlag_10 rfl ?_
    refine v_iconstI dX3_whyNoFlag_11 ?_
    refine v_iconstI dX3_whyNoFlag_12 ?_
    refine v_callS dX3_whyNoFlag_13 ml_X3_67 (sp_X11_within (a := c) (b := 0) (c := 3)   (by omega) (by omega) (by omega)) rfl rfl (Nat.le_of_ble_eq_true rfl) (Nat.le_of_ble_eq_true rfl) (Nat.zero_le _) (Nat.zero_le _) ⟨Or.inl (fun _ _ _ q => q.2.1), fun r n1 h4 q5 => ?_⟩
    obtain ⟨rfl, rfl, rfl⟩ := q5
    try dsimp only [s_push]
    refine v_ifneB (tgt := 21) dX3_whyNoFlag_16 (by decide) (fun c_6 => ?_) (fun c_6 => ?_)
    · refine v_aload_n dX3_whyNoFlag_21 rfl ?_
      refine v_iload_n dX3_whyNoFlag_22 rfl ?_
      refine v_callV dX3_whyNoFlag_23 ml_X3_71 (sq_X3_isCloud (a := b) (g1 := g1) hn (show _ = ent 1 g1 from (H1.trans (ent_1 _))) (by omega) (by omega)) (H1.trans (ent_1 _)) rfl (s_lt hn rfl) rfl rfl (Nat.le_of_ble_eq_true rfl) (Nat.le_of_ble_eq_true rfl) (Nat.zero_le _) (Nat.zero_le _) ⟨Or.inl (fun _ _ _ q => q.2.1), fun r n1 h7 q8 => ?_⟩
      obtain ⟨rfl, rfl, rfl⟩ := q8
      try dsimp only [s_push]
      refine v_ifneB (tgt := 32) dX3_whyNoFlag_26 (by decide) (fun c_9 => ?_) (fun c_9 => ?_)
      · refine v_aload_n dX3_whyNoFlag_32 rfl ?_
        refine v_iload_n dX3_whyNoFlag_33 rfl ?_
        refine v_iload_n dX3_whyNoFlag_34 rfl ?_
        refine v_callV dX3_whyNoFlag_35 ml_X3_110 (sp_X3_hasFlag (a := a) (b := b) (g1 := g1) (g6 := g6) hn (show _ = ent 1 g1 from (H1.trans (ent_1 _))) (show _ = ent 6 g6 from (H6.trans (ent_6 _))) (by omega) (by omega) i10 hd) (H1.trans (ent_1 _)) rfl (s_lt hn rfl) rfl rfl (Nat.le_of_ble_eq_true rfl) (Nat.le_of_ble_eq_true rfl) (Nat.zero_le _) (Nat.zero_le _) ⟨Or.inl (fun _ _ _ q => q.2.1), fun r n1 h10 q11 => ?_⟩
        obtain ⟨rfl, rfl, rfl⟩ := q11
        try dsimp only [s_push]
        refine v_ifeqB (tgt := 44) dX3_whyNoFlag_38 (by decide) (fun c_12 => ?_) (fun c_12 => ?_)
        · refine v_aload_n dX3_whyNoFlag_44 rfl ?_
          refine v_get dX3_whyNoFlag_45 fl_X3_46 (H1.trans (ent_1 _)) rfl (s_lt hn rfl) ?_
          refine v_bipushI dX3_whyNoFlag_48 rfl ?_
          refine v_icmp_ltI (tgt := 58) dX3_whyNoFlag_50 (by decide) (by omega) (by omega) (by omega) (by omega) (fun c_13 => ?_) (fun c_13 => ?_)
          · refine v_iconstI dX3_whyNoFlag_58 ?_
            exact v_iret dX3_whyNoFlag_59 rfl (Nat.zero_le _) (Nat.zero_le _) (by first | exact ⟨(congrArg (fun x => some (Value.int x)) (congrArg iI (by first | rfl | omega | (split <;> first | rfl | omega | (split <;> first | rfl | omega))))), rfl, rfl⟩ | omega)
          · refine v_bipushI dX3_whyNoFlag_53 rfl ?_
            refine v_goto (tgt := 59) dX3_whyNoFlag_55 (by decide) ?_
            exact v_iret dX3_whyNoFlag_59 rfl (Nat.zero_le _) (Nat.zero_le _) (by first | exact ⟨(congrArg (fun x => some (Value.int x)) (congrArg iI (by first | rfl | omega | (split <;> first | rfl | omega | (split <;> first | rfl | omega))))), rfl, rfl⟩ | omega)
        · refine v_bipushI dX3_whyNoFlag_41 rfl ?_
          exact v_iret dX3_whyNoFlag_43 rfl (Nat.zero_le _) (Nat.zero_le _) (by first | exact ⟨(congrArg (fun x => some (Value.int x)) (congrArg iI (by first | rfl | omega | (split <;> first | rfl | omega | (split <;> first | rfl | omega))))), rfl, rfl⟩ | omega)
      · refine v_bipushI dX3_whyNoFlag_29 rfl ?_
        exact v_iret dX3_whyNoFlag_31 rfl (Nat.zero_le _) (Nat.zero_le _) (by first | exact ⟨(congrArg (fun x => some (Value.int x)) (congrArg iI (by first | rfl | omega | (split <;> first | rfl | omega | (split <;> first | rfl | omega))))), rfl, rfl⟩ | omega)
    · refine v_iconstI dX3_whyNoFlag_19 ?_
      exact v_iret dX3_whyNoFlag_20 rfl (Nat.zero_le _) (Nat.zero_le _) (by first | exact ⟨(congrArg (fun x => some (Value.int x)) (congrArg iI (by first | rfl | omega | (split <;> first | rfl | omega | (split <;> first | rfl | omega))))), rfl, rfl⟩ | omega)
theorem sp_X12_flag1_m5 {n : Nat} {h : Nat → sE} {a b c : Int}  {g77 g79 : Int → Int} (hn : 115 ≤ n) (H77 : h 77 = ent 77 g77) (H79 : h 79 = ent 79 g79) (ra : -2147483648 ≤ a ∧ a ≤ 2147483647) (rb : -2147483648 ≤ b ∧ b ≤ 2147483647) (rc : -2147483648 ≤ c ∧ c ≤ 2147483647) (i9 : 0 ≤ g79 0 ∧ g79 0 ≤ 5) (i10 : 0 ≤ g79 1 ∧ g79 1 ≤ 24) (hd : ∀ k : Int, 0 ≤ k → k < g79 1 → 0 ≤ g79 (232 + k * 3) ∧ g79 (232 + k * 3) ≤ 10 ∧ 0 ≤ g79 (232 + (k * 3 + 1)) ∧ g79 (232 + (k * 3 + 1)) ≤ 4 ∧ 0 ≤ g79 (232 + (k * 3 + 2)) ∧ g79 (232 + (k * 3 + 2)) ≤ 3) (hz : (0 ≤ a ∧ a ≤ 10 ∧ 0 ≤ c ∧ c ≤ 3) ∧ 0 ≤ b ∧ b < g79 0 ∧ fOf (fun j => g79 (232 + j)) a b (g79 1).toNat = -1 ∧ ¬ g79 1 < 24) : Sp m_X12_flag1 2 0 0 [.ref 77, .int (iI a), .int (iI b), .int (iI c)] n h (qR (some (.int (iI (-5)))) n h) := by
  have fr := fOf_r (g := fun j => g79 (232 + j)) (a := a) (b := b) (m := (g79 1).toNat) (fun k k0 k1 => (hd k k0 (by omega)).2.2.2.2)
  refine Sp.ofV (by decide +kernel) (Nat.le_of_ble_eq_true rfl) ?_
  refine v_iload_n dX12_flag1_0 rfl ?_
  refine v_i2lI dX12_flag1_1 (by omega) (by omega) ?_
  refine v_lconstI (w := 0) dX12_flag1_2 rfl ?_
  refine v_ldc2I 10 dX12_flag1_3 k_X12_227 rfl ?_
  refine v_callS dX12_flag1_6 ml_X12_175 (sp_X12_in (v := a) (lo := 0) (hi := 10)   (by omega) (by omega) (by omega)) rfl rfl (Nat.le_of_ble_eq_true rfl) (Nat.le_of_ble_eq_true rfl) (Nat.zero_le _) (Nat.zero_le _) ⟨Or.inl (fun _ _ _ q => q.2.1), fun r n1 h1 q2 => ?_⟩
  obtain ⟨rfl, rfl, rfl⟩ := q2
  try dsimp only [s_push]
  refine v_ifeqB (tgt := 24) dX12_flag1_9 (by decide) (fun c_3 => ?_) (fun c_3 => ?_)
  · refine v_iconstI dX12_flag1_24 ?_
    exact v_iret dX12_flag1_25 rfl (Nat.zero_le _) (Nat.zero_le _) (by first | exact ⟨(congrArg (fun x => some (Value.int x)) (congrArg iI (by first | rfl | omega | (split <;> first | rfl | omega | (split <;> first | rfl | omega))))), rfl, rfl⟩ | omega)
  · refine v_iload_n dX12_flag1_12 rfl ?_
    refine v_i2lI dX12_flag1_13 (by omega) (by omega) ?_
    refine v_lconstI (w := 0) dX12_flag1_14 rfl ?_
    refine v_ldc2I 3 dX12_flag1_15 k_X12_210 rfl ?_
    refine v_callS dX12_flag1_18 ml_X12_175 (sp_X12_in (v := c) (lo := 0) (hi := 3)   (by omega) (by omega) (by omega)) rfl rfl (Nat.le_of_ble_eq_true rfl) (Nat.le_of_ble_eq_true rfl) (Nat.zero_le _) (Nat.zero_le _) ⟨Or.inl (fun _ _ _ q => q.2.1), fun r n1 h4 q5 => ?_⟩
    obtain ⟨rfl, rfl, rfl⟩ := q5
    try dsimp only [s_push]
    refine v_ifneB (tgt := 26) dX12_flag1_21 (by decide) (fun c_6 => ?_) (fun c_6 => ?_)
    · refine v_aload_n dX12_flag1_26 rfl ?_
      refine v_iload_n dX12_flag1_27 rfl ?_
      refine v_callV dX12_flag1_28 ml_X12_219 (sp_X12_isCloud (a := b) (g77 := g77) (g79 := g79) hn (show _ = ent 77 g77 from (H77.trans (ent_77 _))) (show _ = ent 79 g79 from (H79.trans (ent_79 _))) (by omega) (by omega)) (H77.trans (ent_77 _)) rfl (s_lt hn rfl) rfl rfl (Nat.le_of_ble_eq_true rfl) (Nat.le_of_ble_eq_true rfl) (Nat.zero_le _) (Nat.zero_le _) ⟨Or.inl (fun _ _ _ q => q.2.1), fun r n1 h7 q8 => ?_⟩
      obtain ⟨rfl, rfl, rfl⟩ := q8
      try dsimp only [s_push]
      refine v_ifneB (tgt := 37) dX12_flag1_31 (by decide) (fun c_9 => ?_) (fun c_9 => ?_)
      · refine v_aload_n dX12_flag1_37 rfl ?_
        refine v_iload_n dX12_flag1_38 rfl ?_
        refine v_iload_n dX12_flag1_39 rfl ?_
        refine v_callV dX12_flag1_40 ml_X12_229 (sp_X12_flagOf (a := b) (b := a) (g77 := g77) (g79 := g79) hn (show _ = ent 77 g77 from (H77.trans (ent_77 _))) (show _ = ent 79 g79 from (H79.trans (ent_79 _))) (by omega) (by omega) i10 hd) (H77.trans (ent_77 _)) rfl (s_lt hn rfl) rfl rfl (Nat.le_of_ble_eq_true rfl) (Nat.le_of_ble_eq_true rfl) (Nat.zero_le _) (Nat.zero_le _) ⟨Or.inl (fun _ _ _ q => q.2.1), fun r n1 h10 q11 => ?_⟩
        obtain ⟨rfl, rfl, rfl⟩ := q11
        try dsimp only [s_push]
        refine v_iconstI dX12_flag1_43 ?_
        refine v_icmp_eqI (tgt := 50) dX12_flag1_44 (by decide) (by omega) (by omega) (by omega) (by omega) (fun c_12 => ?_) (fun c_12 => ?_)
        · refine v_aload_n dX12_flag1_50 rfl ?_
          refine v_get dX12_flag1_51 fl_X12_13 (H77.trans (ent_77 _)) rfl (s_lt hn rfl) ?_
          refine v_iconstI dX12_flag1_54 ?_
          refine v_ialdI dX12_flag1_55 (H79.trans (ent_79 _)) (s_lt hn rfl) (by omega) (by omega) (by omega) ?_
          refine v_istore dX12_flag1_56 (Nat.le_of_ble_eq_true rfl) ?_
          refine v_iload dX12_flag1_58 rfl ?_
          refine v_bipushI dX12_flag1_60 rfl ?_
          refine v_icmp_neI (tgt := 68) dX12_flag1_62 (by decide) (by omega) (by omega) (by omega) (by omega) (fun c_13 => ?_) (fun c_13 => ?_)
          · refine v_aload_n dX12_flag1_68 rfl ?_
            refine v_get dX12_flag1_69 fl_X12_13 (H77.trans (ent_77 _)) rfl (s_lt hn rfl) ?_
            refine v_sipushI dX12_flag1_72 rfl ?_
            refine v_iconstI dX12_flag1_75 ?_
            refine v_iload dX12_flag1_76 rfl ?_
            refine v_imulI dX12_flag1_78 ?_
            refine v_iaddI dX12_flag1_79 ?_
            refine v_iload_n dX12_flag1_80 rfl ?_
            refine v_iastI dX12_flag1_81 (H79.trans (ent_79 _)) (s_lt hn rfl) (by omega) (by omega) (by omega) (fun h14 E15 F16 => ?_)
            refine v_aload_n dX12_flag1_82 rfl ?_
            have H17 := ((F16 77 (by decide)).trans (H77.trans (ent_77 _)))
            refine v_get dX12_flag1_83 fl_X12_13 H17 rfl (s_lt hn rfl) ?_
            refine v_sipushI dX12_flag1_86 rfl ?_
            refine v_iconstI dX12_flag1_89 ?_
            refine v_iload dX12_flag1_90 rfl ?_
            refine v_imulI dX12_flag1_92 ?_
            refine v_iaddI dX12_flag1_93 ?_
            refine v_iconstI dX12_flag1_94 ?_
            refine v_iaddI dX12_flag1_95 ?_
            refine v_iload_n dX12_flag1_96 rfl ?_
            refine v_iastI dX12_flag1_97 E15 (s_lt hn rfl) (by omega) (by omega) (by omega) (fun h18 E19 F20 => ?_)
            refine v_aload_n dX12_flag1_98 rfl ?_
            have H21 := ((F20 77 (by decide)).trans H17)
            refine v_get dX12_flag1_99 fl_X12_13 H21 rfl (s_lt hn rfl) ?_
            refine v_sipushI dX12_flag1_102 rfl ?_
            refine v_iconstI dX12_flag1_105 ?_
            refine v_iload dX12_flag1_106 rfl ?_
            refine v_imulI dX12_flag1_108 ?_
            refine v_iaddI dX12_flag1_109 ?_
            refine v_iconstI dX12_flag1_110 ?_
            refine v_iaddI dX12_flag1_111 ?_
            refine v_iload_n dX12_flag1_112 rfl ?_
            refine v_iastI dX12_flag1_113 E19 (s_lt hn rfl) (by omega) (by omega) (by omega) (fun h22 E23 F24 => ?_)
            refine v_aload_n dX12_flag1_114 rfl ?_
            have H25 := ((F24 77 (by decide)).trans H21)
            refine v_get dX12_flag1_115 fl_X12_13 H25 rfl (s_lt hn rfl) ?_
            refine v_iconstI dX12_flag1_118 ?_
            refine v_dup2 dX12_flag1_119 rfl rfl ?_
            refine v_ialdI dX12_flag1_120 E23 (s_lt hn rfl) (by omega) (by omega) (by omega) ?_
            rw [uI_ne (show ¬ 1 = ((232 + (3 * (g79 1))) + 2) by omega)]
            rw [uI_ne (show ¬ 1 = ((232 + (3 * (g79 1))) + 1) by omega)]
            rw [uI_ne (show ¬ 1 = (232 + (3 * (g79 1))) by omega)]
            refine v_iconstI dX12_flag1_121 ?_
            refine v_iaddI dX12_flag1_122 ?_
            refine v_iastI dX12_flag1_123 E23 (s_lt hn rfl) (by omega) (by omega) (by omega) (fun h26 E27 F28 => ?_)
            refine v_iload dX12_flag1_124 rfl ?_
            refine v_iconstI dX12_flag1_126 ?_
            refine v_iaddI dX12_flag1_127 ?_
            exact v_iret dX12_flag1_128 rfl (Nat.zero_le _) (Nat.zero_le _) (by first | exact ⟨(congrArg (fun x => some (Value.int x)) (congrArg iI (by first | rfl | omega | (split <;> first | rfl | omega | (split <;> first | rfl | omega))))), rfl, rfl⟩ | omega)
          · refine v_bipushI dX12_flag1_65 rfl ?_
            exact v_iret dX12_flag1_67 rfl (Nat.zero_le _) (Nat.zero_le _) (by first | exact ⟨(congrArg (fun x => some (Value.int x)) (congrArg iI (by first | rfl | omega | (split <;> first | rfl | omega | (split <;> first | rfl | omega))))), rfl, rfl⟩ | omega)
        · refine v_bipushI dX12_flag1_47 rfl ?_
          exact v_iret dX12_flag1_49 rfl (Nat.zero_le _) (Nat.zero_le _) (by first | exact ⟨(congrArg (fun x => some (Value.int x)) (congrArg iI (by first | rfl | omega | (split <;> first | rfl | omega | (split <;> first | rfl | omega))))), rfl, rfl⟩ | omega)
      · refine v_bipushI dX12_flag1_34 rfl ?_
        exact v_iret dX12_flag1_36 rfl (Nat.zero_le _) (Nat.zero_le _) (by first | exact ⟨(congrArg (fun x => some (Value.int x)) (congrArg iI (by first | rfl | omega | (split <;> first | rfl | omega | (split <;> first | rfl | omega))))), rfl, rfl⟩ | omega)
    · refine v_iconstI dX12_flag1_24 ?_
      exact v_iret dX12_flag1_25 rfl (Nat.zero_le _) (Nat.zero_le _) (by first | exact ⟨(congrArg (fun x => some (Value.int x)) (congrArg iI (by first | rfl | omega | (split <;> first | rfl | omega | (split <;> first | rfl | omega))))), rfl, rfl⟩ | omega)
theorem sp_X3_whyNoFlag_0 {n : Nat} {h : Nat → sE} {a b c : Int}  {g1 g6 : Int → Int} (hn : 115 ≤ n) (H1 : h 1 = ent 1 g1) (H6 : h 6 = ent 6 g6) (ra : -2147483648 ≤ a ∧ a ≤ 2147483647) (rb : -2147483648 ≤ b ∧ b ≤ 2147483647) (rc : -2147483648 ≤ c ∧ c ≤ 2147483647) (i9 : 0 ≤ g1 9 ∧ g1 9 ≤ 5) (i10 : 0 ≤ g1 10 ∧ g1 10 ≤ 24) (hd : ∀ k : Int, 0 ≤ k → k < g1 10 → 0 ≤ g6 (k * 3) ∧ g6 (k * 3) ≤ 10 ∧ 0 ≤ g6 (k * 3 + 1) ∧ g6 (k * 3 + 1) ≤ 4 ∧ 0 ≤ g6 (k * 3 + 2) ∧ g6 (k * 3 + 2) ≤ 3) (hz : (0 ≤ a ∧ a ≤ 10 ∧ 0 ≤ c ∧ c ≤ 3) ∧ 0 ≤ b ∧ b < g1 9 ∧ fOf g6 a b (g1 10).toNat = -1 ∧ g1 10 < 24) : Sp m_X3_whyNoFlag 3 0 0 [.ref 1, .int (iI a), .int (iI b), .int (iI c)] n h (qR (some (.int (iI (0)))) n h) := by
  refine Sp.ofV (by decide +kernel) (Nat.le_of_ble_eq_true rfl) ?_
  refine v_iload_n dX3_whyNoFlag_0 rfl ?_
  refine v_iconstI dX3_whyNoFlag_1 ?_
  refine v_bipushI dX3_whyNoFlag_2 rfl ?_
  refine v_callS dX3_whyNoFlag_4 ml_X3_67 (sp_X11_within (a := a) (b := 0) (c := 10)   (by omega) (by omega) (by omega)) rfl rfl (Nat.le_of_ble_eq_true rfl) (Nat.le_of_ble_eq_true rfl) (Nat.zero_le _) (Nat.zero_le _) ⟨Or.inl (fun _ _ _ q => q.2.1), fun r n1 h1 q2 => ?_⟩
  obtain ⟨rfl, rfl, rfl⟩ := q2
  try dsimp only [s_push]
  refine v_ifeqB (tgt := 19) dX3_whyNoFlag_7 (by decide) (fun c_3 => ?_) (fun c_3 => ?_)
  · refine v_iconstI dX3_whyNoFlag_19 ?_
    exact v_iret dX3_whyNoFlag_20 rfl (Nat.zero_le _) (Nat.zero_le _) (by first | exact ⟨(congrArg (fun x => some (Value.int x)) (congrArg iI (by first | rfl | omega | (split <;> first | rfl | omega | (split <;> first | rfl | omega))))), rfl, rfl⟩ | omega)
  · refine v_iload_n dX3_whyNoFlag_10 rfl ?_
    refine v_iconstI dX3_whyNoFlag_11 ?_
    refine v_iconstI dX3_whyNoFlag_12 ?_
    refine v_callS dX3_whyNoFlag_13 ml_X3_67 (sp_X11_within (a := c) (b := 0) (c := 3)   (by omega) (by omega) (by omega)) rfl rfl (Nat.le_of_ble_eq_true rfl) (Nat.le_of_ble_eq_true rfl) (Nat.zero_le _) (Nat.zero_le _) ⟨Or.inl (fun _ _ _ q => q.2.1), fun r n1 h4 q5 => ?_⟩
    obtain ⟨rfl, rfl, rfl⟩ := q5
    try dsimp only [s_push]
    refine v_ifneB (tgt := 21) dX3_whyNoFlag_16 (by decide) (fun c_6 => ?_) (fun c_6 => ?_)
    · refine v_aload_n dX3_whyNoFlag_21 rfl ?_
      refine v_iload_n dX3_whyNoFlag_22 rfl ?_
      refine v_callV dX3_whyNoFlag_23 ml_X3_71 (sq_X3_isCloud (a := b) (g1 := g1) hn (show _ = ent 1 g1 from (H1.trans (ent_1 _))) (by omega) (by omega)) (H1.trans (ent_1 _)) rfl (s_lt hn rfl) rfl rfl (Nat.le_of_ble_eq_true rfl) (Nat.le_of_ble_eq_true rfl) (Nat.zero_le _) (Nat.zero_le _) ⟨Or.inl (fun _ _ _ q => q.2.1), fun r n1 h7 q8 => ?_⟩
      obtain ⟨rfl, rfl, rfl⟩ := q8
      try dsimp only [s_push]
      refine v_ifneB (tgt := 32) dX3_whyNoFlag_26 (by decide) (fun c_9 => ?_) (fun c_9 => ?_)
      · refine v_aload_n dX3_whyNoFlag_32 rfl ?_
        refine v_iload_n dX3_whyNoFlag_33 rfl ?_
        refine v_iload_n dX3_whyNoFlag_34 rfl ?_
        refine v_callV dX3_whyNoFlag_35 ml_X3_110 (sp_X3_hasFlag (a := a) (b := b) (g1 := g1) (g6 := g6) hn (show _ = ent 1 g1 from (H1.trans (ent_1 _))) (show _ = ent 6 g6 from (H6.trans (ent_6 _))) (by omega) (by omega) i10 hd) (H1.trans (ent_1 _)) rfl (s_lt hn rfl) rfl rfl (Nat.le_of_ble_eq_true rfl) (Nat.le_of_ble_eq_true rfl) (Nat.zero_le _) (Nat.zero_le _) ⟨Or.inl (fun _ _ _ q => q.2.1), fun r n1 h10 q11 => ?_⟩
        obtain ⟨rfl, rfl, rfl⟩ := q11
        try dsimp only [s_push]
        refine v_ifeqB (tgt := 44) dX3_whyNoFlag_38 (by decide) (fun c_12 => ?_) (fun c_12 => ?_)
        · refine v_aload_n dX3_whyNoFlag_44 rfl ?_
          refine v_get dX3_whyNoFlag_45 fl_X3_46 (H1.trans (ent_1 _)) rfl (s_lt hn rfl) ?_
          refine v_bipushI dX3_whyNoFlag_48 rfl ?_
          refine v_icmp_ltI (tgt := 58) dX3_whyNoFlag_50 (by decide) (by omega) (by omega) (by omega) (by omega) (fun c_13 => ?_) (fun c_13 => ?_)
          · refine v_iconstI dX3_whyNoFlag_58 ?_
            exact v_iret dX3_whyNoFlag_59 rfl (Nat.zero_le _) (Nat.zero_le _) (by first | exact ⟨(congrArg (fun x => some (Value.int x)) (congrArg iI (by first | rfl | omega | (split <;> first | rfl | omega | (split <;> first | rfl | omega))))), rfl, rfl⟩ | omega)
          · refine v_bipushI dX3_whyNoFlag_53 rfl ?_
            refine v_goto (tgt := 59) dX3_whyNoFlag_55 (by decide) ?_
            exact v_iret dX3_whyNoFlag_59 rfl (Nat.zero_le _) (Nat.zero_le _) (by first | exact ⟨(congrArg (fun x => some (Value.int x)) (congrArg iI (by first | rfl | omega | (split <;> first | rfl | omega | (split <;> first | rfl | omega))))), rfl, rfl⟩ | omega)
        · refine v_bipushI dX3_whyNoFlag_41 rfl ?_
          exact v_iret dX3_whyNoFlag_43 rfl (Nat.zero_le _) (Nat.zero_le _) (by first | exact ⟨(congrArg (fun x => some (Value.int x)) (congrArg iI (by first | rfl | omega | (split <;> first | rfl | omega | (split <;> first | rfl | omega))))), rfl, rfl⟩ | omega)
      · refine v_bipushI dX3_whyNoFlag_29 rfl ?_
        exact v_iret dX3_whyNoFlag_31 rfl (Nat.zero_le _) (Nat.zero_le _) (by first | exact ⟨(congrArg (fun x => some (Value.int x)) (congrArg iI (by first | rfl | omega | (split <;> first | rfl | omega | (split <;> first | rfl | omega))))), rfl, rfl⟩ | omega)
    · refine v_iconstI dX3_whyNoFlag_19 ?_
      exact v_iret dX3_whyNoFlag_20 rfl (Nat.zero_le _) (Nat.zero_le _) (by first | exact ⟨(congrArg (fun x => some (Value.int x)) (congrArg iI (by first | rfl | omega | (split <;> first | rfl | omega | (split <;> first | rfl | omega))))), rfl, rfl⟩ | omega)
theorem sp_X12_flag1_0 {n : Nat} {h : Nat → sE} {a b c : Int}  {g77 g79 : Int → Int} (hn : 115 ≤ n) (H77 : h 77 = ent 77 g77) (H79 : h 79 = ent 79 g79) (ra : -2147483648 ≤ a ∧ a ≤ 2147483647) (rb : -2147483648 ≤ b ∧ b ≤ 2147483647) (rc : -2147483648 ≤ c ∧ c ≤ 2147483647) (i9 : 0 ≤ g79 0 ∧ g79 0 ≤ 5) (i10 : 0 ≤ g79 1 ∧ g79 1 ≤ 24) (hd : ∀ k : Int, 0 ≤ k → k < g79 1 → 0 ≤ g79 (232 + k * 3) ∧ g79 (232 + k * 3) ≤ 10 ∧ 0 ≤ g79 (232 + (k * 3 + 1)) ∧ g79 (232 + (k * 3 + 1)) ≤ 4 ∧ 0 ≤ g79 (232 + (k * 3 + 2)) ∧ g79 (232 + (k * 3 + 2)) ≤ 3) (hz : (0 ≤ a ∧ a ≤ 10 ∧ 0 ≤ c ∧ c ≤ 3) ∧ 0 ≤ b ∧ b < g79 0 ∧ fOf (fun j => g79 (232 + j)) a b (g79 1).toNat = -1 ∧ g79 1 < 24) : Sp m_X12_flag1 2 0 0 [.ref 77, .int (iI a), .int (iI b), .int (iI c)] n h (fun r n' h' => r = some (.int (iI (g79 1 + 1))) ∧ n' = n ∧ h' 79 = ent 79 (uI (uI (uI (uI (g79) (232 + 3 * g79 1) a) (232 + 3 * g79 1 + 1) b) (232 + 3 * g79 1 + 2) c) 1 (g79 1 + 1)) ∧ ∀ j, j ≠ 79 → h' j = h j) := by
  have fr := fOf_r (g := fun j => g79 (232 + j)) (a := a) (b := b) (m := (g79 1).toNat) (fun k k0 k1 => (hd k k0 (by omega)).2.2.2.2)
  refine Sp.ofV (by decide +kernel) (Nat.le_of_ble_eq_true rfl) ?_
  refine v_iload_n dX12_flag1_0 rfl ?_
  refine v_i2lI dX12_flag1_1 (by omega) (by omega) ?_
  refine v_lconstI (w := 0) dX12_flag1_2 rfl ?_
  refine v_ldc2I 10 dX12_flag1_3 k_X12_227 rfl ?_
  refine v_callS dX12_flag1_6 ml_X12_175 (sp_X12_in (v := a) (lo := 0) (hi := 10)   (by omega) (by omega) (by omega)) rfl rfl (Nat.le_of_ble_eq_true rfl) (Nat.le_of_ble_eq_true rfl) (Nat.zero_le _) (Nat.zero_le _) ⟨Or.inl (fun _ _ _ q => q.2.1), fun r n1 h1 q2 => ?_⟩
  obtain ⟨rfl, rfl, rfl⟩ := q2
  try dsimp only [s_push]
  refine v_ifeqB (tgt := 24) dX12_flag1_9 (by decide) (fun c_3 => ?_) (fun c_3 => ?_)
  · refine v_iconstI dX12_flag1_24 ?_
    exact v_iret dX12_flag1_25 rfl (Nat.zero_le _) (Nat.zero_le _) (by first | exact ⟨(congrArg (fun x => some (Value.int x)) (congrArg iI (by first | rfl | omega | (split <;> first | rfl | omega | (split <;> first | rfl | omega))))), rfl, (by first | exact (show _ = ent 79 g79 from (H79.trans (ent_79 _))) | (rw [if_pos (by omega)]; exact (show _ = ent 79 g79 from (H79.trans (ent_79 _)))) | (rw [if_neg (by omega)]; exact (show _ = ent 79 g79 from (H79.trans (ent_79 _))))), fun j m79 => rfl⟩ | omega)
  · refine v_iload_n dX12_flag1_12 rfl ?_
    refine v_i2lI dX12_flag1_13 (by omega) (by omega) ?_
    refine v_lconstI (w := 0) dX12_flag1_14 rfl ?_
    refine v_ldc2I 3 dX12_flag1_15 k_X12_210 rfl ?_
    refine v_callS dX12_flag1_18 ml_X12_175 (sp_X12_in (v := c) (lo := 0) (hi := 3)   (by omega) (by omega) (by omega)) rfl rfl (Nat.le_of_ble_eq_true rfl) (Nat.le_of_ble_eq_true rfl) (Nat.zero_le _) (Nat.zero_le _) ⟨Or.inl (fun _ _ _ q => q.2.1), fun r n1 h4 q5 => ?_⟩
    obtain ⟨rfl, rfl, rfl⟩ := q5
    try dsimp only [s_push]
    refine v_ifneB (tgt := 26) dX12_flag1_21 (by decide) (fun c_6 => ?_) (fun c_6 => ?_)
    · refine v_aload_n dX12_flag1_26 rfl ?_
      refine v_iload_n dX12_flag1_27 rfl ?_
      refine v_callV dX12_flag1_28 ml_X12_219 (sp_X12_isCloud (a := b) (g77 := g77) (g79 := g79) hn (show _ = ent 77 g77 from (H77.trans (ent_77 _))) (show _ = ent 79 g79 from (H79.trans (ent_79 _))) (by omega) (by omega)) (H77.trans (ent_77 _)) rfl (s_lt hn rfl) rfl rfl (Nat.le_of_ble_eq_true rfl) (Nat.le_of_ble_eq_true rfl) (Nat.zero_le _) (Nat.zero_le _) ⟨Or.inl (fun _ _ _ q => q.2.1), fun r n1 h7 q8 => ?_⟩
      obtain ⟨rfl, rfl, rfl⟩ := q8
      try dsimp only [s_push]
      refine v_ifneB (tgt := 37) dX12_flag1_31 (by decide) (fun c_9 => ?_) (fun c_9 => ?_)
      · refine v_aload_n dX12_flag1_37 rfl ?_
        refine v_iload_n dX12_flag1_38 rfl ?_
        refine v_iload_n dX12_flag1_39 rfl ?_
        refine v_callV dX12_flag1_40 ml_X12_229 (sp_X12_flagOf (a := b) (b := a) (g77 := g77) (g79 := g79) hn (show _ = ent 77 g77 from (H77.trans (ent_77 _))) (show _ = ent 79 g79 from (H79.trans (ent_79 _))) (by omega) (by omega) i10 hd) (H77.trans (ent_77 _)) rfl (s_lt hn rfl) rfl rfl (Nat.le_of_ble_eq_true rfl) (Nat.le_of_ble_eq_true rfl) (Nat.zero_le _) (Nat.zero_le _) ⟨Or.inl (fun _ _ _ q => q.2.1), fun r n1 h10 q11 => ?_⟩
        obtain ⟨rfl, rfl, rfl⟩ := q11
        try dsimp only [s_push]
        refine v_iconstI dX12_flag1_43 ?_
        refine v_icmp_eqI (tgt := 50) dX12_flag1_44 (by decide) (by omega) (by omega) (by omega) (by omega) (fun c_12 => ?_) (fun c_12 => ?_)
        · refine v_aload_n dX12_flag1_50 rfl ?_
          refine v_get dX12_flag1_51 fl_X12_13 (H77.trans (ent_77 _)) rfl (s_lt hn rfl) ?_
          refine v_iconstI dX12_flag1_54 ?_
          refine v_ialdI dX12_flag1_55 (H79.trans (ent_79 _)) (s_lt hn rfl) (by omega) (by omega) (by omega) ?_
          refine v_istore dX12_flag1_56 (Nat.le_of_ble_eq_true rfl) ?_
          refine v_iload dX12_flag1_58 rfl ?_
          refine v_bipushI dX12_flag1_60 rfl ?_
          refine v_icmp_neI (tgt := 68) dX12_flag1_62 (by decide) (by omega) (by omega) (by omega) (by omega) (fun c_13 => ?_) (fun c_13 => ?_)
          · refine v_aload_n dX12_flag1_68 rfl ?_
            refine v_get dX12_flag1_69 fl_X12_13 (H77.trans (ent_77 _)) rfl (s_lt hn rfl) ?_
            refine v_sipushI dX12_flag1_72 rfl ?_
            refine v_iconstI dX12_flag1_75 ?_
            refine v_iload dX12_flag1_76 rfl ?_
            refine v_imulI dX12_flag1_78 ?_
            refine v_iaddI dX12_flag1_79 ?_
            refine v_iload_n dX12_flag1_80 rfl ?_
            refine v_iastI dX12_flag1_81 (H79.trans (ent_79 _)) (s_lt hn rfl) (by omega) (by omega) (by omega) (fun h14 E15 F16 => ?_)
            refine v_aload_n dX12_flag1_82 rfl ?_
            have H17 := ((F16 77 (by decide)).trans (H77.trans (ent_77 _)))
            refine v_get dX12_flag1_83 fl_X12_13 H17 rfl (s_lt hn rfl) ?_
            refine v_sipushI dX12_flag1_86 rfl ?_
            refine v_iconstI dX12_flag1_89 ?_
            refine v_iload dX12_flag1_90 rfl ?_
            refine v_imulI dX12_flag1_92 ?_
            refine v_iaddI dX12_flag1_93 ?_
            refine v_iconstI dX12_flag1_94 ?_
            refine v_iaddI dX12_flag1_95 ?_
            refine v_iload_n dX12_flag1_96 rfl ?_
            refine v_iastI dX12_flag1_97 E15 (s_lt hn rfl) (by omega) (by omega) (by omega) (fun h18 E19 F20 => ?_)
            refine v_aload_n dX12_flag1_98 rfl ?_
            have H21 := ((F20 77 (by decide)).trans H17)
            refine v_get dX12_flag1_99 fl_X12_13 H21 rfl (s_lt hn rfl) ?_
            refine v_sipushI dX12_flag1_102 rfl ?_
            refine v_iconstI dX12_flag1_105 ?_
            refine v_iload dX12_flag1_106 rfl ?_
            refine v_imulI dX12_flag1_108 ?_
            refine v_iaddI dX12_flag1_109 ?_
            refine v_iconstI dX12_flag1_110 ?_
            refine v_iaddI dX12_flag1_111 ?_
            refine v_iload_n dX12_flag1_112 rfl ?_
            refine v_iastI dX12_flag1_113 E19 (s_lt hn rfl) (by omega) (by omega) (by omega) (fun h22 E23 F24 => ?_)
            refine v_aload_n dX12_flag1_114 rfl ?_
            have H25 := ((F24 77 (by decide)).trans H21)
            refine v_get dX12_flag1_115 fl_X12_13 H25 rfl (s_lt hn rfl) ?_
            refine v_iconstI dX12_flag1_118 ?_
            refine v_dup2 dX12_flag1_119 rfl rfl ?_
            refine v_ialdI dX12_flag1_120 E23 (s_lt hn rfl) (by omega) (by omega) (by omega) ?_
            rw [uI_ne (show ¬ 1 = ((232 + (3 * (g79 1))) + 2) by omega)]
            rw [uI_ne (show ¬ 1 = ((232 + (3 * (g79 1))) + 1) by omega)]
            rw [uI_ne (show ¬ 1 = (232 + (3 * (g79 1))) by omega)]
            refine v_iconstI dX12_flag1_121 ?_
            refine v_iaddI dX12_flag1_122 ?_
            refine v_iastI dX12_flag1_123 E23 (s_lt hn rfl) (by omega) (by omega) (by omega) (fun h26 E27 F28 => ?_)
            refine v_iload dX12_flag1_124 rfl ?_
            refine v_iconstI dX12_flag1_126 ?_
            refine v_iaddI dX12_flag1_127 ?_
            exact v_iret dX12_flag1_128 rfl (Nat.zero_le _) (Nat.zero_le _) (by first | exact ⟨(congrArg (fun x => some (Value.int x)) (congrArg iI (by first | rfl | omega | (split <;> first | rfl | omega | (split <;> first | rfl | omega))))), rfl, (by first | exact (show _ = ent 79 (uI (uI (uI (uI g79 (232 + (3 * (g79 1))) a) ((232 + (3 * (g79 1))) + 1) b) ((232 + (3 * (g79 1))) + 2) c) 1 ((g79 1) + 1)) from E27) | (rw [if_pos (by omega)]; exact (show _ = ent 79 (uI (uI (uI (uI g79 (232 + (3 * (g79 1))) a) ((232 + (3 * (g79 1))) + 1) b) ((232 + (3 * (g79 1))) + 2) c) 1 ((g79 1) + 1)) from E27)) | (rw [if_neg (by omega)]; exact (show _ = ent 79 (uI (uI (uI (uI g79 (232 + (3 * (g79 1))) a) ((232 + (3 * (g79 1))) + 1) b) ((232 + (3 * (g79 1))) + 2) c) 1 ((g79 1) + 1)) from E27))), fun j m79 => ((F28 j m79).trans ((F24 j m79).trans ((F20 j m79).trans (F16 j m79))))⟩ | omega)
          · refine v_bipushI dX12_flag1_65 rfl ?_
            exact v_iret dX12_flag1_67 rfl (Nat.zero_le _) (Nat.zero_le _) (by first | exact ⟨(congrArg (fun x => some (Value.int x)) (congrArg iI (by first | rfl | omega | (split <;> first | rfl | omega | (split <;> first | rfl | omega))))), rfl, (by first | exact (show _ = ent 79 g79 from (H79.trans (ent_79 _))) | (rw [if_pos (by omega)]; exact (show _ = ent 79 g79 from (H79.trans (ent_79 _)))) | (rw [if_neg (by omega)]; exact (show _ = ent 79 g79 from (H79.trans (ent_79 _))))), fun j m79 => rfl⟩ | omega)
        · refine v_bipushI dX12_flag1_47 rfl ?_
          exact v_iret dX12_flag1_49 rfl (Nat.zero_le _) (Nat.zero_le _) (by first | exact ⟨(congrArg (fun x => some (Value.int x)) (congrArg iI (by first | rfl | omega | (split <;> first | rfl | omega | (split <;> first | rfl | omega))))), rfl, (by first | exact (show _ = ent 79 g79 from (H79.trans (ent_79 _))) | (rw [if_pos (by omega)]; exact (show _ = ent 79 g79 from (H79.trans (ent_79 _)))) | (rw [if_neg (by omega)]; exact (show _ = ent 79 g79 from (H79.trans (ent_79 _))))), fun j m79 => rfl⟩ | omega)
      · refine v_bipushI dX12_flag1_34 rfl ?_
        exact v_iret dX12_flag1_36 rfl (Nat.zero_le _) (Nat.zero_le _) (by first | exact ⟨(congrArg (fun x => some (Value.int x)) (congrArg iI (by first | rfl | omega | (split <;> first | rfl | omega | (split <;> first | rfl | omega))))), rfl, (by first | exact (show _ = ent 79 g79 from (H79.trans (ent_79 _))) | (rw [if_pos (by omega)]; exact (show _ = ent 79 g79 from (H79.trans (ent_79 _)))) | (rw [if_neg (by omega)]; exact (show _ = ent 79 g79 from (H79.trans (ent_79 _))))), fun j m79 => rfl⟩ | omega)
    · refine v_iconstI dX12_flag1_24 ?_
      exact v_iret dX12_flag1_25 rfl (Nat.zero_le _) (Nat.zero_le _) (by first | exact ⟨(congrArg (fun x => some (Value.int x)) (congrArg iI (by first | rfl | omega | (split <;> first | rfl | omega | (split <;> first | rfl | omega))))), rfl, (by first | exact (show _ = ent 79 g79 from (H79.trans (ent_79 _))) | (rw [if_pos (by omega)]; exact (show _ = ent 79 g79 from (H79.trans (ent_79 _)))) | (rw [if_neg (by omega)]; exact (show _ = ent 79 g79 from (H79.trans (ent_79 _))))), fun j m79 => rfl⟩ | omega)
theorem dX11_flag_0 : decode cX11_flag 0 = .ok (.aload_n 0, 1) := by decide +kernel
theorem dX11_flag_1 : decode cX11_flag 1 = .ok (.getfield 12, 3) := by decide +kernel
theorem dX11_flag_4 : decode cX11_flag 4 = .ok (.iload_n 1, 1) := by decide +kernel
theorem dX11_flag_5 : decode cX11_flag 5 = .ok (.iload_n 2, 1) := by decide +kernel
theorem dX11_flag_6 : decode cX11_flag 6 = .ok (.iload_n 3, 1) := by decide +kernel
theorem dX11_flag_7 : decode cX11_flag 7 = .ok (.invokevirtual 157, 3) := by decide +kernel
theorem dX11_flag_10 : decode cX11_flag 10 = .ok (.istore 4, 2) := by decide +kernel
theorem dX11_flag_12 : decode cX11_flag 12 = .ok (.iload 4, 2) := by decide +kernel
theorem dX11_flag_14 : decode cX11_flag 14 = .ok (.ifCond .eq 10, 3) := by decide +kernel
theorem dX11_flag_17 : decode cX11_flag 17 = .ok (.aload_n 0, 1) := by decide +kernel
theorem dX11_flag_18 : decode cX11_flag 18 = .ok (.iload 4, 2) := by decide +kernel
theorem dX11_flag_20 : decode cX11_flag 20 = .ok (.invokevirtual 123, 3) := by decide +kernel
theorem dX11_flag_23 : decode cX11_flag 23 = .ok (.ireturn, 1) := by decide +kernel
theorem dX11_flag_24 : decode cX11_flag 24 = .ok (.aload_n 0, 1) := by decide +kernel
theorem dX11_flag_25 : decode cX11_flag 25 = .ok (.getfield 12, 3) := by decide +kernel
theorem dX11_flag_28 : decode cX11_flag 28 = .ok (.iload_n 1, 1) := by decide +kernel
theorem dX11_flag_29 : decode cX11_flag 29 = .ok (.iload_n 2, 1) := by decide +kernel
theorem dX11_flag_30 : decode cX11_flag 30 = .ok (.iload_n 3, 1) := by decide +kernel
theorem dX11_flag_31 : decode cX11_flag 31 = .ok (.invokevirtual 161, 3) := by decide +kernel
theorem dX11_flag_34 : decode cX11_flag 34 = .ok (.aload_n 0, 1) := by decide +kernel
theorem dX11_flag_35 : decode cX11_flag 35 = .ok (.aload_n 0, 1) := by decide +kernel
theorem dX11_flag_36 : decode cX11_flag 36 = .ok (.getfield 12, 3) := by decide +kernel
theorem dX11_flag_39 : decode cX11_flag 39 = .ok (.getfield 164, 3) := by decide +kernel
theorem dX11_flag_42 : decode cX11_flag 42 = .ok (.invokevirtual 135, 3) := by decide +kernel
theorem dX11_flag_45 : decode cX11_flag 45 = .ok (.ireturn, 1) := by decide +kernel
theorem sp_X11_flag_m1 {n : Nat} {h : Nat → sE} {a b c : Int}  {g0 g1 g6 g76 : Int → Int} (hn : 115 ≤ n) (H0 : h 0 = ent 0 g0) (H1 : h 1 = ent 1 g1) (H6 : h 6 = ent 6 g6) (H76 : h 76 = ent 76 g76) (ra : -2147483648 ≤ a ∧ a ≤ 2147483647) (rb : -2147483648 ≤ b ∧ b ≤ 2147483647) (rc : -2147483648 ≤ c ∧ c ≤ 2147483647) (i9 : 0 ≤ g1 9 ∧ g1 9 ≤ 5) (i10 : 0 ≤ g1 10 ∧ g1 10 ≤ 24) (hd : ∀ k : Int, 0 ≤ k → k < g1 10 → 0 ≤ g6 (k * 3) ∧ g6 (k * 3) ≤ 10 ∧ 0 ≤ g6 (k * 3 + 1) ∧ g6 (k * 3 + 1) ≤ 4 ∧ 0 ≤ g6 (k * 3 + 2) ∧ g6 (k * 3 + 2) ≤ 3) (hz : ¬ (0 ≤ a ∧ a ≤ 10 ∧ 0 ≤ c ∧ c ≤ 3)) : Sp m_X11_flag 4 0 0 [.ref 0, .int (iI a), .int (iI b), .int (iI c)] n h (fun r n' h' => r = some (.int (iI (-1))) ∧ n' = n ∧ h' 0 = ent 0 ((uI g0 13 ((-1)))) ∧ h' 76 = ent 76 (uI (g76) 0 (g76 0 + 1)) ∧ ∀ j, j ≠ 0 → j ≠ 76 → h' j = h j) := by
  refine Sp.ofV (by decide +kernel) (Nat.le_of_ble_eq_true rfl) ?_
  refine v_aload_n dX11_flag_0 rfl ?_
  refine v_get dX11_flag_1 fl_X11_12 (H0.trans (ent_0 _)) rfl (s_lt hn rfl) ?_
  refine v_iload_n dX11_flag_4 rfl ?_
  refine v_iload_n dX11_flag_5 rfl ?_
  refine v_iload_n dX11_flag_6 rfl ?_
  refine v_callV dX11_flag_7 ml_X11_157 (sp_X3_whyNoFlag_m1 (a := a) (b := b) (c := c) (g1 := g1) (g6 := g6) hn (show _ = ent 1 g1 from (H1.trans (ent_1 _))) (show _ = ent 6 g6 from (H6.trans (ent_6 _))) (by omega) (by omega) (by omega) i9 i10 hd hz) (H1.trans (ent_1 _)) rfl (s_lt hn rfl) rfl rfl (Nat.le_of_ble_eq_true rfl) (Nat.le_of_ble_eq_true rfl) (Nat.zero_le _) (Nat.zero_le _) ⟨Or.inl (fun _ _ _ q => q.2.1), fun r n1 h1 q2 => ?_⟩
  obtain ⟨rfl, rfl, rfl⟩ := q2
  try dsimp only [s_push]
  refine v_istore dX11_flag_10 (Nat.le_of_ble_eq_true rfl) ?_
  refine v_iload dX11_flag_12 rfl ?_
  refine v_if_eqI (tgt := 24) dX11_flag_14 (by decide) (by decide) (by decide) (fun c => absurd c (by decide)) (fun _ => ?_)
  refine v_aload_n dX11_flag_17 rfl ?_
  refine v_iload dX11_flag_18 rfl ?_
  refine v_callV dX11_flag_20 ml_X11_123 (sp_X11_refuse_1  (g0 := g0) (g76 := g76) hn (show _ = ent 0 g0 from (H0.trans (ent_0 _))) (show _ = ent 76 g76 from (H76.trans (ent_76 _)))) (H0.trans (ent_0 _)) rfl (s_lt hn rfl) rfl rfl (Nat.le_of_ble_eq_true rfl) (Nat.le_of_ble_eq_true rfl) (Nat.zero_le _) (Nat.zero_le _) ⟨Or.inl (fun _ _ _ q => q.2.1), fun r n1 h3 q4 => ?_⟩
  obtain ⟨rfl, rfl, E5, E6, F7⟩ := q4
  dsimp only [s_push]
  have E8 : _ = (.inr (11, [.ref 1, .ref 11, .ref 32, .ref 33, .ref 40, .ref 44, .ref 49, .ref 52, .ref 58, .ref 60, .ref 68, .ref 70, .ref 76, .int (iI ((-1))), .int (iI (g0 14)), .int (iI (g0 15)), .int (iI (g0 16)), .int (iI (g0 17))]) : sE) := E5
  exact v_iret dX11_flag_23 rfl (Nat.zero_le _) (Nat.zero_le _) (by first | exact ⟨(congrArg (fun x => some (Value.int x)) (congrArg iI (by first | rfl | omega | (split <;> first | rfl | omega | (split <;> first | rfl | omega))))), rfl, (by first | exact (show _ = ent 0 ((uI g0 13 ((-1)))) from E8) | (rw [if_pos (by omega)]; exact (show _ = ent 0 ((uI g0 13 ((-1)))) from E8)) | (rw [if_neg (by omega)]; exact (show _ = ent 0 ((uI g0 13 ((-1)))) from E8))), (by first | exact (show _ = ent 76 (uI (g76) 0 (g76 0 + 1)) from (E6.trans (ent_76 _))) | (rw [if_pos (by omega)]; exact (show _ = ent 76 (uI (g76) 0 (g76 0 + 1)) from (E6.trans (ent_76 _)))) | (rw [if_neg (by omega)]; exact (show _ = ent 76 (uI (g76) 0 (g76 0 + 1)) from (E6.trans (ent_76 _))))), fun j m0 m76 => (F7 j m0 m76)⟩ | omega)
theorem dX12_flag_0 : decode cX12_flag 0 = .ok (.aload_n 0, 1) := by decide +kernel
theorem dX12_flag_1 : decode cX12_flag 1 = .ok (.iconst 0, 1) := by decide +kernel
theorem dX12_flag_2 : decode cX12_flag 2 = .ok (.putfield 169, 3) := by decide +kernel
theorem dX12_flag_5 : decode cX12_flag 5 = .ok (.aload_n 0, 1) := by decide +kernel
theorem dX12_flag_6 : decode cX12_flag 6 = .ok (.aload_n 0, 1) := by decide +kernel
theorem dX12_flag_7 : decode cX12_flag 7 = .ok (.iload_n 1, 1) := by decide +kernel
theorem dX12_flag_8 : decode cX12_flag 8 = .ok (.iload_n 2, 1) := by decide +kernel
theorem dX12_flag_9 : decode cX12_flag 9 = .ok (.iload_n 3, 1) := by decide +kernel
theorem dX12_flag_10 : decode cX12_flag 10 = .ok (.invokevirtual 232, 3) := by decide +kernel
theorem dX12_flag_13 : decode cX12_flag 13 = .ok (.invokevirtual 179, 3) := by decide +kernel
theorem dX12_flag_16 : decode cX12_flag 16 = .ok (.ireturn, 1) := by decide +kernel
theorem sp_X12_flag_m1 {n : Nat} {h : Nat → sE} {a b c : Int}  {g77 g78 g79 : Int → Int} (hn : 115 ≤ n) (H77 : h 77 = ent 77 g77) (H78 : h 78 = ent 78 g78) (H79 : h 79 = ent 79 g79) (ra : -2147483648 ≤ a ∧ a ≤ 2147483647) (rb : -2147483648 ≤ b ∧ b ≤ 2147483647) (rc : -2147483648 ≤ c ∧ c ≤ 2147483647) (i9 : 0 ≤ g79 0 ∧ g79 0 ≤ 5) (i10 : 0 ≤ g79 1 ∧ g79 1 ≤ 24) (hd : ∀ k : Int, 0 ≤ k → k < g79 1 → 0 ≤ g79 (232 + k * 3) ∧ g79 (232 + k * 3) ≤ 10 ∧ 0 ≤ g79 (232 + (k * 3 + 1)) ∧ g79 (232 + (k * 3 + 1)) ≤ 4 ∧ 0 ≤ g79 (232 + (k * 3 + 2)) ∧ g79 (232 + (k * 3 + 2)) ≤ 3) (hz : ¬ (0 ≤ a ∧ a ≤ 10 ∧ 0 ≤ c ∧ c ≤ 3)) : Sp m_X12_flag 3 0 0 [.ref 77, .int (iI a), .int (iI b), .int (iI c)] n h (fun r n' h' => r = some (.int (iI (-1))) ∧ n' = n ∧ h' 78 = ent 78 (uI (g78) 1 (g78 1 + 1)) ∧ h' 77 = ent 77 ((uI (uI g77 0 0) 1 ((-1)))) ∧ ∀ j, j ≠ 78 → j ≠ 77 → h' j = h j) := by
  refine Sp.ofV (by decide +kernel) (Nat.le_of_ble_eq_true rfl) ?_
  refine v_aload_n dX12_flag_0 rfl ?_
  refine v_iconstI dX12_flag_1 ?_
  refine v_put dX12_flag_2 fl_X12_169 (H77.trans (ent_77 _)) (s_lt hn rfl) (Nat.le_of_ble_eq_true rfl) (fun _ => ⟨rfl, rfl⟩) trivial (fun h1 E2 F3 => ?_)
  refine v_aload_n dX12_flag_5 rfl ?_
  refine v_aload_n dX12_flag_6 rfl ?_
  refine v_iload_n dX12_flag_7 rfl ?_
  refine v_iload_n dX12_flag_8 rfl ?_
  refine v_iload_n dX12_flag_9 rfl ?_
  have H4 := ((F3 79 (by decide)).trans (H79.trans (ent_79 _)))
  refine v_callV dX12_flag_10 ml_X12_232 (sp_X12_flag1_m1 (a := a) (b := b) (c := c) (g77 := (uI g77 0 0)) (g79 := g79) hn (show _ = ent 77 (uI g77 0 0) from E2) (show _ = ent 79 g79 from H4) (by omega) (by omega) (by omega) i9 i10 hd hz) E2 rfl (s_lt hn rfl) rfl rfl (Nat.le_of_ble_eq_true rfl) (Nat.le_of_ble_eq_true rfl) (Nat.zero_le _) (Nat.zero_le _) ⟨Or.inl (fun _ _ _ q => q.2.1), fun r n1 h5 q6 => ?_⟩
  obtain ⟨rfl, rfl, rfl⟩ := q6
  try dsimp only [s_push]
  have H7 := ((F3 78 (by decide)).trans (H78.trans (ent_78 _)))
  refine v_callV dX12_flag_13 ml_X12_179 (sp_X12_tell_1  (g77 := (uI g77 0 0)) (g78 := g78) hn (show _ = ent 77 (uI g77 0 0) from E2) (show _ = ent 78 g78 from H7)) E2 rfl (s_lt hn rfl) rfl rfl (Nat.le_of_ble_eq_true rfl) (Nat.le_of_ble_eq_true rfl) (Nat.zero_le _) (Nat.zero_le _) ⟨Or.inl (fun _ _ _ q => q.2.1), fun r n1 h8 q9 => ?_⟩
  obtain ⟨rfl, rfl, E10, E11, F12⟩ := q9
  dsimp only [s_push]
  have E13 : _ = (.inr (12, [.int (iI 0), .int (iI ((-1))), .ref 78, .ref 79, .ref 80, .ref 81, .int (iI (g77 6)), .ref 82, .int (iI (g77 8)), .int (iI (g77 9)), .int (iI (g77 10)), .int (iI (g77 11)), .long (jJ (g77 12)), .int (iI (g77 13)), .int (iI (g77 14)), .int (iI (g77 15)), .int (iI (g77 16)), .ref 83, .int (iI (g77 18)), .ref 84, .ref 85, .int (iI (g77 21)), .ref 86, .ref 87, .int (iI (g77 24)), .int (iI (g77 25)), .ref 88, .ref 89, .ref 90, .int (iI (g77 29)), .ref 91, .ref 92, .ref 93, .int (iI (g77 33)), .long (jJ (g77 34)), .long (jJ (g77 35)), .ref 94, .ref 95, .ref 96, .ref 97, .ref 98, .ref 99, .ref 100, .ref 101, .ref 102, .ref 103, .ref 104, .ref 105, .ref 106, .ref 107, .int (iI (g77 50)), .ref 108, .ref 109, .ref 110, .ref 111, .ref 112, .ref 113, .int (iI (g77 57)), .int (iI (g77 58)), .int (iI (g77 59)), .int (iI (g77 60)), .long (jJ (g77 61)), .ref 114, .int (iI (g77 63))]) : sE) := E10
  exact v_iret dX12_flag_16 rfl (Nat.zero_le _) (Nat.zero_le _) (by first | exact ⟨(congrArg (fun x => some (Value.int x)) (congrArg iI (by first | rfl | omega | (split <;> first | rfl | omega | (split <;> first | rfl | omega))))), rfl, (by first | exact (show _ = ent 78 (uI (g78) 1 (g78 1 + 1)) from (E11.trans (ent_78 _))) | (rw [if_pos (by omega)]; exact (show _ = ent 78 (uI (g78) 1 (g78 1 + 1)) from (E11.trans (ent_78 _)))) | (rw [if_neg (by omega)]; exact (show _ = ent 78 (uI (g78) 1 (g78 1 + 1)) from (E11.trans (ent_78 _))))), (by first | exact (show _ = ent 77 ((uI (uI g77 0 0) 1 ((-1)))) from E13) | (rw [if_pos (by omega)]; exact (show _ = ent 77 ((uI (uI g77 0 0) 1 ((-1)))) from E13)) | (rw [if_neg (by omega)]; exact (show _ = ent 77 ((uI (uI g77 0 0) 1 ((-1)))) from E13))), fun j m78 m77 => ((F12 j m77 m78).trans (F3 j m77))⟩ | omega)
theorem sp_X11_flag_m2 {n : Nat} {h : Nat → sE} {a b c : Int}  {g0 g1 g6 g76 : Int → Int} (hn : 115 ≤ n) (H0 : h 0 = ent 0 g0) (H1 : h 1 = ent 1 g1) (H6 : h 6 = ent 6 g6) (H76 : h 76 = ent 76 g76) (ra : -2147483648 ≤ a ∧ a ≤ 2147483647) (rb : -2147483648 ≤ b ∧ b ≤ 2147483647) (rc : -2147483648 ≤ c ∧ c ≤ 2147483647) (i9 : 0 ≤ g1 9 ∧ g1 9 ≤ 5) (i10 : 0 ≤ g1 10 ∧ g1 10 ≤ 24) (hd : ∀ k : Int, 0 ≤ k → k < g1 10 → 0 ≤ g6 (k * 3) ∧ g6 (k * 3) ≤ 10 ∧ 0 ≤ g6 (k * 3 + 1) ∧ g6 (k * 3 + 1) ≤ 4 ∧ 0 ≤ g6 (k * 3 + 2) ∧ g6 (k * 3 + 2) ≤ 3) (hz : (0 ≤ a ∧ a ≤ 10 ∧ 0 ≤ c ∧ c ≤ 3) ∧ ¬ (0 ≤ b ∧ b < g1 9)) : Sp m_X11_flag 4 0 0 [.ref 0, .int (iI a), .int (iI b), .int (iI c)] n h (fun r n' h' => r = some (.int (iI (-2))) ∧ n' = n ∧ h' 0 = ent 0 ((uI g0 13 ((-2)))) ∧ h' 76 = ent 76 (uI (g76) 1 (g76 1 + 1)) ∧ ∀ j, j ≠ 0 → j ≠ 76 → h' j = h j) := by
  refine Sp.ofV (by decide +kernel) (Nat.le_of_ble_eq_true rfl) ?_
  refine v_aload_n dX11_flag_0 rfl ?_
  refine v_get dX11_flag_1 fl_X11_12 (H0.trans (ent_0 _)) rfl (s_lt hn rfl) ?_
  refine v_iload_n dX11_flag_4 rfl ?_
  refine v_iload_n dX11_flag_5 rfl ?_
  refine v_iload_n dX11_flag_6 rfl ?_
  refine v_callV dX11_flag_7 ml_X11_157 (sp_X3_whyNoFlag_m2 (a := a) (b := b) (c := c) (g1 := g1) (g6 := g6) hn (show _ = ent 1 g1 from (H1.trans (ent_1 _))) (show _ = ent 6 g6 from (H6.trans (ent_6 _))) (by omega) (by omega) (by omega) i9 i10 hd hz) (H1.trans (ent_1 _)) rfl (s_lt hn rfl) rfl rfl (Nat.le_of_ble_eq_true rfl) (Nat.le_of_ble_eq_true rfl) (Nat.zero_le _) (Nat.zero_le _) ⟨Or.inl (fun _ _ _ q => q.2.1), fun r n1 h1 q2 => ?_⟩
  obtain ⟨rfl, rfl, rfl⟩ := q2
  try dsimp only [s_push]
  refine v_istore dX11_flag_10 (Nat.le_of_ble_eq_true rfl) ?_
  refine v_iload dX11_flag_12 rfl ?_
  refine v_if_eqI (tgt := 24) dX11_flag_14 (by decide) (by decide) (by decide) (fun c => absurd c (by decide)) (fun _ => ?_)
  refine v_aload_n dX11_flag_17 rfl ?_
  refine v_iload dX11_flag_18 rfl ?_
  refine v_callV dX11_flag_20 ml_X11_123 (sp_X11_refuse_2  (g0 := g0) (g76 := g76) hn (show _ = ent 0 g0 from (H0.trans (ent_0 _))) (show _ = ent 76 g76 from (H76.trans (ent_76 _)))) (H0.trans (ent_0 _)) rfl (s_lt hn rfl) rfl rfl (Nat.le_of_ble_eq_true rfl) (Nat.le_of_ble_eq_true rfl) (Nat.zero_le _) (Nat.zero_le _) ⟨Or.inl (fun _ _ _ q => q.2.1), fun r n1 h3 q4 => ?_⟩
  obtain ⟨rfl, rfl, E5, E6, F7⟩ := q4
  dsimp only [s_push]
  have E8 : _ = (.inr (11, [.ref 1, .ref 11, .ref 32, .ref 33, .ref 40, .ref 44, .ref 49, .ref 52, .ref 58, .ref 60, .ref 68, .ref 70, .ref 76, .int (iI ((-2))), .int (iI (g0 14)), .int (iI (g0 15)), .int (iI (g0 16)), .int (iI (g0 17))]) : sE) := E5
  exact v_iret dX11_flag_23 rfl (Nat.zero_le _) (Nat.zero_le _) (by first | exact ⟨(congrArg (fun x => some (Value.int x)) (congrArg iI (by first | rfl | omega | (split <;> first | rfl | omega | (split <;> first | rfl | omega))))), rfl, (by first | exact (show _ = ent 0 ((uI g0 13 ((-2)))) from E8) | (rw [if_pos (by omega)]; exact (show _ = ent 0 ((uI g0 13 ((-2)))) from E8)) | (rw [if_neg (by omega)]; exact (show _ = ent 0 ((uI g0 13 ((-2)))) from E8))), (by first | exact (show _ = ent 76 (uI (g76) 1 (g76 1 + 1)) from (E6.trans (ent_76 _))) | (rw [if_pos (by omega)]; exact (show _ = ent 76 (uI (g76) 1 (g76 1 + 1)) from (E6.trans (ent_76 _)))) | (rw [if_neg (by omega)]; exact (show _ = ent 76 (uI (g76) 1 (g76 1 + 1)) from (E6.trans (ent_76 _))))), fun j m0 m76 => (F7 j m0 m76)⟩ | omega)
theorem sp_X12_flag_m2 {n : Nat} {h : Nat → sE} {a b c : Int}  {g77 g78 g79 : Int → Int} (hn : 115 ≤ n) (H77 : h 77 = ent 77 g77) (H78 : h 78 = ent 78 g78) (H79 : h 79 = ent 79 g79) (ra : -2147483648 ≤ a ∧ a ≤ 2147483647) (rb : -2147483648 ≤ b ∧ b ≤ 2147483647) (rc : -2147483648 ≤ c ∧ c ≤ 2147483647) (i9 : 0 ≤ g79 0 ∧ g79 0 ≤ 5) (i10 : 0 ≤ g79 1 ∧ g79 1 ≤ 24) (hd : ∀ k : Int, 0 ≤ k → k < g79 1 → 0 ≤ g79 (232 + k * 3) ∧ g79 (232 + k * 3) ≤ 10 ∧ 0 ≤ g79 (232 + (k * 3 + 1)) ∧ g79 (232 + (k * 3 + 1)) ≤ 4 ∧ 0 ≤ g79 (232 + (k * 3 + 2)) ∧ g79 (232 + (k * 3 + 2)) ≤ 3) (hz : (0 ≤ a ∧ a ≤ 10 ∧ 0 ≤ c ∧ c ≤ 3) ∧ ¬ (0 ≤ b ∧ b < g79 0)) : Sp m_X12_flag 3 0 0 [.ref 77, .int (iI a), .int (iI b), .int (iI c)] n h (fun r n' h' => r = some (.int (iI (-2))) ∧ n' = n ∧ h' 78 = ent 78 (uI (g78) 2 (g78 2 + 1)) ∧ h' 77 = ent 77 ((uI (uI g77 0 0) 1 ((-2)))) ∧ ∀ j, j ≠ 78 → j ≠ 77 → h' j = h j) := by
  refine Sp.ofV (by decide +kernel) (Nat.le_of_ble_eq_true rfl) ?_
  refine v_aload_n dX12_flag_0 rfl ?_
  refine v_iconstI dX12_flag_1 ?_
  refine v_put dX12_flag_2 fl_X12_169 (H77.trans (ent_77 _)) (s_lt hn rfl) (Nat.le_of_ble_eq_true rfl) (fun _ => ⟨rfl, rfl⟩) trivial (fun h1 E2 F3 => ?_)
  refine v_aload_n dX12_flag_5 rfl ?_
  refine v_aload_n dX12_flag_6 rfl ?_
  refine v_iload_n dX12_flag_7 rfl ?_
  refine v_iload_n dX12_flag_8 rfl ?_
  refine v_iload_n dX12_flag_9 rfl ?_
  have H4 := ((F3 79 (by decide)).trans (H79.trans (ent_79 _)))
  refine v_callV dX12_flag_10 ml_X12_232 (sp_X12_flag1_m2 (a := a) (b := b) (c := c) (g77 := (uI g77 0 0)) (g79 := g79) hn (show _ = ent 77 (uI g77 0 0) from E2) (show _ = ent 79 g79 from H4) (by omega) (by omega) (by omega) i9 i10 hd hz) E2 rfl (s_lt hn rfl) rfl rfl (Nat.le_of_ble_eq_true rfl) (Nat.le_of_ble_eq_true rfl) (Nat.zero_le _) (Nat.zero_le _) ⟨Or.inl (fun _ _ _ q => q.2.1), fun r n1 h5 q6 => ?_⟩
  obtain ⟨rfl, rfl, rfl⟩ := q6
  try dsimp only [s_push]
  have H7 := ((F3 78 (by decide)).trans (H78.trans (ent_78 _)))
  refine v_callV dX12_flag_13 ml_X12_179 (sp_X12_tell_2  (g77 := (uI g77 0 0)) (g78 := g78) hn (show _ = ent 77 (uI g77 0 0) from E2) (show _ = ent 78 g78 from H7)) E2 rfl (s_lt hn rfl) rfl rfl (Nat.le_of_ble_eq_true rfl) (Nat.le_of_ble_eq_true rfl) (Nat.zero_le _) (Nat.zero_le _) ⟨Or.inl (fun _ _ _ q => q.2.1), fun r n1 h8 q9 => ?_⟩
  obtain ⟨rfl, rfl, E10, E11, F12⟩ := q9
  dsimp only [s_push]
  have E13 : _ = (.inr (12, [.int (iI 0), .int (iI ((-2))), .ref 78, .ref 79, .ref 80, .ref 81, .int (iI (g77 6)), .ref 82, .int (iI (g77 8)), .int (iI (g77 9)), .int (iI (g77 10)), .int (iI (g77 11)), .long (jJ (g77 12)), .int (iI (g77 13)), .int (iI (g77 14)), .int (iI (g77 15)), .int (iI (g77 16)), .ref 83, .int (iI (g77 18)), .ref 84, .ref 85, .int (iI (g77 21)), .ref 86, .ref 87, .int (iI (g77 24)), .int (iI (g77 25)), .ref 88, .ref 89, .ref 90, .int (iI (g77 29)), .ref 91, .ref 92, .ref 93, .int (iI (g77 33)), .long (jJ (g77 34)), .long (jJ (g77 35)), .ref 94, .ref 95, .ref 96, .ref 97, .ref 98, .ref 99, .ref 100, .ref 101, .ref 102, .ref 103, .ref 104, .ref 105, .ref 106, .ref 107, .int (iI (g77 50)), .ref 108, .ref 109, .ref 110, .ref 111, .ref 112, .ref 113, .int (iI (g77 57)), .int (iI (g77 58)), .int (iI (g77 59)), .int (iI (g77 60)), .long (jJ (g77 61)), .ref 114, .int (iI (g77 63))]) : sE) := E10
  exact v_iret dX12_flag_16 rfl (Nat.zero_le _) (Nat.zero_le _) (by first | exact ⟨(congrArg (fun x => some (Value.int x)) (congrArg iI (by first | rfl | omega | (split <;> first | rfl | omega | (split <;> first | rfl | omega))))), rfl, (by first | exact (show _ = ent 78 (uI (g78) 2 (g78 2 + 1)) from (E11.trans (ent_78 _))) | (rw [if_pos (by omega)]; exact (show _ = ent 78 (uI (g78) 2 (g78 2 + 1)) from (E11.trans (ent_78 _)))) | (rw [if_neg (by omega)]; exact (show _ = ent 78 (uI (g78) 2 (g78 2 + 1)) from (E11.trans (ent_78 _))))), (by first | exact (show _ = ent 77 ((uI (uI g77 0 0) 1 ((-2)))) from E13) | (rw [if_pos (by omega)]; exact (show _ = ent 77 ((uI (uI g77 0 0) 1 ((-2)))) from E13)) | (rw [if_neg (by omega)]; exact (show _ = ent 77 ((uI (uI g77 0 0) 1 ((-2)))) from E13))), fun j m78 m77 => ((F12 j m77 m78).trans (F3 j m77))⟩ | omega)
theorem sp_X11_flag_m3 {n : Nat} {h : Nat → sE} {a b c : Int}  {g0 g1 g6 g76 : Int → Int} (hn : 115 ≤ n) (H0 : h 0 = ent 0 g0) (H1 : h 1 = ent 1 g1) (H6 : h 6 = ent 6 g6) (H76 : h 76 = ent 76 g76) (ra : -2147483648 ≤ a ∧ a ≤ 2147483647) (rb : -2147483648 ≤ b ∧ b ≤ 2147483647) (rc : -2147483648 ≤ c ∧ c ≤ 2147483647) (i9 : 0 ≤ g1 9 ∧ g1 9 ≤ 5) (i10 : 0 ≤ g1 10 ∧ g1 10 ≤ 24) (hd : ∀ k : Int, 0 ≤ k → k < g1 10 → 0 ≤ g6 (k * 3) ∧ g6 (k * 3) ≤ 10 ∧ 0 ≤ g6 (k * 3 + 1) ∧ g6 (k * 3 + 1) ≤ 4 ∧ 0 ≤ g6 (k * 3 + 2) ∧ g6 (k * 3 + 2) ≤ 3) (hz : (0 ≤ a ∧ a ≤ 10 ∧ 0 ≤ c ∧ c ≤ 3) ∧ 0 ≤ b ∧ b < g1 9 ∧ ¬ fOf g6 a b (g1 10).toNat = -1) : Sp m_X11_flag 4 0 0 [.ref 0, .int (iI a), .int (iI b), .int (iI c)] n h (fun r n' h' => r = some (.int (iI (-3))) ∧ n' = n ∧ h' 0 = ent 0 ((uI g0 13 ((-3)))) ∧ h' 76 = ent 76 (uI (g76) 2 (g76 2 + 1)) ∧ ∀ j, j ≠ 0 → j ≠ 76 → h' j = h j) := by
  refine Sp.ofV (by decide +kernel) (Nat.le_of_ble_eq_true rfl) ?_
  refine v_aload_n dX11_flag_0 rfl ?_
  refine v_get dX11_flag_1 fl_X11_12 (H0.trans (ent_0 _)) rfl (s_lt hn rfl) ?_
  refine v_iload_n dX11_flag_4 rfl ?_
  refine v_iload_n dX11_flag_5 rfl ?_
  refine v_iload_n dX11_flag_6 rfl ?_
  refine v_callV dX11_flag_7 ml_X11_157 (sp_X3_whyNoFlag_m3 (a := a) (b := b) (c := c) (g1 := g1) (g6 := g6) hn (show _ = ent 1 g1 from (H1.trans (ent_1 _))) (show _ = ent 6 g6 from (H6.trans (ent_6 _))) (by omega) (by omega) (by omega) i9 i10 hd hz) (H1.trans (ent_1 _)) rfl (s_lt hn rfl) rfl rfl (Nat.le_of_ble_eq_true rfl) (Nat.le_of_ble_eq_true rfl) (Nat.zero_le _) (Nat.zero_le _) ⟨Or.inl (fun _ _ _ q => q.2.1), fun r n1 h1 q2 => ?_⟩
  obtain ⟨rfl, rfl, rfl⟩ := q2
  try dsimp only [s_push]
  refine v_istore dX11_flag_10 (Nat.le_of_ble_eq_true rfl) ?_
  refine v_iload dX11_flag_12 rfl ?_
  refine v_if_eqI (tgt := 24) dX11_flag_14 (by decide) (by decide) (by decide) (fun c => absurd c (by decide)) (fun _ => ?_)
  refine v_aload_n dX11_flag_17 rfl ?_
  refine v_iload dX11_flag_18 rfl ?_
  refine v_callV dX11_flag_20 ml_X11_123 (sp_X11_refuse_3  (g0 := g0) (g76 := g76) hn (show _ = ent 0 g0 from (H0.trans (ent_0 _))) (show _ = ent 76 g76 from (H76.trans (ent_76 _)))) (H0.trans (ent_0 _)) rfl (s_lt hn rfl) rfl rfl (Nat.le_of_ble_eq_true rfl) (Nat.le_of_ble_eq_true rfl) (Nat.zero_le _) (Nat.zero_le _) ⟨Or.inl (fun _ _ _ q => q.2.1), fun r n1 h3 q4 => ?_⟩
  obtain ⟨rfl, rfl, E5, E6, F7⟩ := q4
  dsimp only [s_push]
  have E8 : _ = (.inr (11, [.ref 1, .ref 11, .ref 32, .ref 33, .ref 40, .ref 44, .ref 49, .ref 52, .ref 58, .ref 60, .ref 68, .ref 70, .ref 76, .int (iI ((-3))), .int (iI (g0 14)), .int (iI (g0 15)), .int (iI (g0 16)), .int (iI (g0 17))]) : sE) := E5
  exact v_iret dX11_flag_23 rfl (Nat.zero_le _) (Nat.zero_le _) (by first | exact ⟨(congrArg (fun x => some (Value.int x)) (congrArg iI (by first | rfl | omega | (split <;> first | rfl | omega | (split <;> first | rfl | omega))))), rfl, (by first | exact (show _ = ent 0 ((uI g0 13 ((-3)))) from E8) | (rw [if_pos (by omega)]; exact (show _ = ent 0 ((uI g0 13 ((-3)))) from E8)) | (rw [if_neg (by omega)]; exact (show _ = ent 0 ((uI g0 13 ((-3)))) from E8))), (by first | exact (show _ = ent 76 (uI (g76) 2 (g76 2 + 1)) from (E6.trans (ent_76 _))) | (rw [if_pos (by omega)]; exact (show _ = ent 76 (uI (g76) 2 (g76 2 + 1)) from (E6.trans (ent_76 _)))) | (rw [if_neg (by omega)]; exact (show _ = ent 76 (uI (g76) 2 (g76 2 + 1)) from (E6.trans (ent_76 _))))), fun j m0 m76 => (F7 j m0 m76)⟩ | omega)
theorem sp_X12_flag_m3 {n : Nat} {h : Nat → sE} {a b c : Int}  {g77 g78 g79 : Int → Int} (hn : 115 ≤ n) (H77 : h 77 = ent 77 g77) (H78 : h 78 = ent 78 g78) (H79 : h 79 = ent 79 g79) (ra : -2147483648 ≤ a ∧ a ≤ 2147483647) (rb : -2147483648 ≤ b ∧ b ≤ 2147483647) (rc : -2147483648 ≤ c ∧ c ≤ 2147483647) (i9 : 0 ≤ g79 0 ∧ g79 0 ≤ 5) (i10 : 0 ≤ g79 1 ∧ g79 1 ≤ 24) (hd : ∀ k : Int, 0 ≤ k → k < g79 1 → 0 ≤ g79 (232 + k * 3) ∧ g79 (232 + k * 3) ≤ 10 ∧ 0 ≤ g79 (232 + (k * 3 + 1)) ∧ g79 (232 + (k * 3 + 1)) ≤ 4 ∧ 0 ≤ g79 (232 + (k * 3 + 2)) ∧ g79 (232 + (k * 3 + 2)) ≤ 3) (hz : (0 ≤ a ∧ a ≤ 10 ∧ 0 ≤ c ∧ c ≤ 3) ∧ 0 ≤ b ∧ b < g79 0 ∧ ¬ fOf (fun j => g79 (232 + j)) a b (g79 1).toNat = -1) : Sp m_X12_flag 3 0 0 [.ref 77, .int (iI a), .int (iI b), .int (iI c)] n h (fun r n' h' => r = some (.int (iI (-3))) ∧ n' = n ∧ h' 78 = ent 78 (uI (g78) 3 (g78 3 + 1)) ∧ h' 77 = ent 77 ((uI (uI g77 0 0) 1 ((-3)))) ∧ ∀ j, j ≠ 78 → j ≠ 77 → h' j = h j) := by
  refine Sp.ofV (by decide +kernel) (Nat.le_of_ble_eq_true rfl) ?_
  refine v_aload_n dX12_flag_0 rfl ?_
  refine v_iconstI dX12_flag_1 ?_
  refine v_put dX12_flag_2 fl_X12_169 (H77.trans (ent_77 _)) (s_lt hn rfl) (Nat.le_of_ble_eq_true rfl) (fun _ => ⟨rfl, rfl⟩) trivial (fun h1 E2 F3 => ?_)
  refine v_aload_n dX12_flag_5 rfl ?_
  refine v_aload_n dX12_flag_6 rfl ?_
  refine v_iload_n dX12_flag_7 rfl ?_
  refine v_iload_n dX12_flag_8 rfl ?_
  refine v_iload_n dX12_flag_9 rfl ?_
  have H4 := ((F3 79 (by decide)).trans (H79.trans (ent_79 _)))
  refine v_callV dX12_flag_10 ml_X12_232 (sp_X12_flag1_m3 (a := a) (b := b) (c := c) (g77 := (uI g77 0 0)) (g79 := g79) hn (show _ = ent 77 (uI g77 0 0) from E2) (show _ = ent 79 g79 from H4) (by omega) (by omega) (by omega) i9 i10 hd hz) E2 rfl (s_lt hn rfl) rfl rfl (Nat.le_of_ble_eq_true rfl) (Nat.le_of_ble_eq_true rfl) (Nat.zero_le _) (Nat.zero_le _) ⟨Or.inl (fun _ _ _ q => q.2.1), fun r n1 h5 q6 => ?_⟩
  obtain ⟨rfl, rfl, rfl⟩ := q6
  try dsimp only [s_push]
  have H7 := ((F3 78 (by decide)).trans (H78.trans (ent_78 _)))
  refine v_callV dX12_flag_13 ml_X12_179 (sp_X12_tell_3  (g77 := (uI g77 0 0)) (g78 := g78) hn (show _ = ent 77 (uI g77 0 0) from E2) (show _ = ent 78 g78 from H7)) E2 rfl (s_lt hn rfl) rfl rfl (Nat.le_of_ble_eq_true rfl) (Nat.le_of_ble_eq_true rfl) (Nat.zero_le _) (Nat.zero_le _) ⟨Or.inl (fun _ _ _ q => q.2.1), fun r n1 h8 q9 => ?_⟩
  obtain ⟨rfl, rfl, E10, E11, F12⟩ := q9
  dsimp only [s_push]
  have E13 : _ = (.inr (12, [.int (iI 0), .int (iI ((-3))), .ref 78, .ref 79, .ref 80, .ref 81, .int (iI (g77 6)), .ref 82, .int (iI (g77 8)), .int (iI (g77 9)), .int (iI (g77 10)), .int (iI (g77 11)), .long (jJ (g77 12)), .int (iI (g77 13)), .int (iI (g77 14)), .int (iI (g77 15)), .int (iI (g77 16)), .ref 83, .int (iI (g77 18)), .ref 84, .ref 85, .int (iI (g77 21)), .ref 86, .ref 87, .int (iI (g77 24)), .int (iI (g77 25)), .ref 88, .ref 89, .ref 90, .int (iI (g77 29)), .ref 91, .ref 92, .ref 93, .int (iI (g77 33)), .long (jJ (g77 34)), .long (jJ (g77 35)), .ref 94, .ref 95, .ref 96, .ref 97, .ref 98, .ref 99, .ref 100, .ref 101, .ref 102, .ref 103, .ref 104, .ref 105, .ref 106, .ref 107, .int (iI (g77 50)), .ref 108, .ref 109, .ref 110, .ref 111, .ref 112, .ref 113, .int (iI (g77 57)), .int (iI (g77 58)), .int (iI (g77 59)), .int (iI (g77 60)), .long (jJ (g77 61)), .ref 114, .int (iI (g77 63))]) : sE) := E10
  exact v_iret dX12_flag_16 rfl (Nat.zero_le _) (Nat.zero_le _) (by first | exact ⟨(congrArg (fun x => some (Value.int x)) (congrArg iI (by first | rfl | omega | (split <;> first | rfl | omega | (split <;> first | rfl | omega))))), rfl, (by first | exact (show _ = ent 78 (uI (g78) 3 (g78 3 + 1)) from (E11.trans (ent_78 _))) | (rw [if_pos (by omega)]; exact (show _ = ent 78 (uI (g78) 3 (g78 3 + 1)) from (E11.trans (ent_78 _)))) | (rw [if_neg (by omega)]; exact (show _ = ent 78 (uI (g78) 3 (g78 3 + 1)) from (E11.trans (ent_78 _))))), (by first | exact (show _ = ent 77 ((uI (uI g77 0 0) 1 ((-3)))) from E13) | (rw [if_pos (by omega)]; exact (show _ = ent 77 ((uI (uI g77 0 0) 1 ((-3)))) from E13)) | (rw [if_neg (by omega)]; exact (show _ = ent 77 ((uI (uI g77 0 0) 1 ((-3)))) from E13))), fun j m78 m77 => ((F12 j m77 m78).trans (F3 j m77))⟩ | omega)
theorem sp_X11_flag_m5 {n : Nat} {h : Nat → sE} {a b c : Int}  {g0 g1 g6 g76 : Int → Int} (hn : 115 ≤ n) (H0 : h 0 = ent 0 g0) (H1 : h 1 = ent 1 g1) (H6 : h 6 = ent 6 g6) (H76 : h 76 = ent 76 g76) (ra : -2147483648 ≤ a ∧ a ≤ 2147483647) (rb : -2147483648 ≤ b ∧ b ≤ 2147483647) (rc : -2147483648 ≤ c ∧ c ≤ 2147483647) (i9 : 0 ≤ g1 9 ∧ g1 9 ≤ 5) (i10 : 0 ≤ g1 10 ∧ g1 10 ≤ 24) (hd : ∀ k : Int, 0 ≤ k → k < g1 10 → 0 ≤ g6 (k * 3) ∧ g6 (k * 3) ≤ 10 ∧ 0 ≤ g6 (k * 3 + 1) ∧ g6 (k * 3 + 1) ≤ 4 ∧ 0 ≤ g6 (k * 3 + 2) ∧ g6 (k * 3 + 2) ≤ 3) (hz : (0 ≤ a ∧ a ≤ 10 ∧ 0 ≤ c ∧ c ≤ 3) ∧ 0 ≤ b ∧ b < g1 9 ∧ fOf g6 a b (g1 10).toNat = -1 ∧ ¬ g1 10 < 24) : Sp m_X11_flag 4 0 0 [.ref 0, .int (iI a), .int (iI b), .int (iI c)] n h (fun r n' h' => r = some (.int (iI (-5))) ∧ n' = n ∧ h' 0 = ent 0 ((uI g0 13 ((-5)))) ∧ h' 76 = ent 76 (uI (g76) 3 (g76 3 + 1)) ∧ ∀ j, j ≠ 0 → j ≠ 76 → h' j = h j) := by
  refine Sp.ofV (by decide +kernel) (Nat.le_of_ble_eq_true rfl) ?_
  refine v_aload_n dX11_flag_0 rfl ?_
  refine v_get dX11_flag_1 fl_X11_12 (H0.trans (ent_0 _)) rfl (s_lt hn rfl) ?_
  refine v_iload_n dX11_flag_4 rfl ?_
  refine v_iload_n dX11_flag_5 rfl ?_
  refine v_iload_n dX11_flag_6 rfl ?_
  refine v_callV dX11_flag_7 ml_X11_157 (sp_X3_whyNoFlag_m5 (a := a) (b := b) (c := c) (g1 := g1) (g6 := g6) hn (show _ = ent 1 g1 from (H1.trans (ent_1 _))) (show _ = ent 6 g6 from (H6.trans (ent_6 _))) (by omega) (by omega) (by omega) i9 i10 hd hz) (H1.trans (ent_1 _)) rfl (s_lt hn rfl) rfl rfl (Nat.le_of_ble_eq_true rfl) (Nat.le_of_ble_eq_true rfl) (Nat.zero_le _) (Nat.zero_le _) ⟨Or.inl (fun _ _ _ q => q.2.1), fun r n1 h1 q2 => ?_⟩
  obtain ⟨rfl, rfl, rfl⟩ := q2
  try dsimp only [s_push]
  refine v_istore dX11_flag_10 (Nat.le_of_ble_eq_true rfl) ?_
  refine v_iload dX11_flag_12 rfl ?_
  refine v_if_eqI (tgt := 24) dX11_flag_14 (by decide) (by decide) (by decide) (fun c => absurd c (by decide)) (fun _ => ?_)
  refine v_aload_n dX11_flag_17 rfl ?_
  refine v_iload dX11_flag_18 rfl ?_
  refine v_callV dX11_flag_20 ml_X11_123 (sp_X11_refuse_5  (g0 := g0) (g76 := g76) hn (show _ = ent 0 g0 from (H0.trans (ent_0 _))) (show _ = ent 76 g76 from (H76.trans (ent_76 _)))) (H0.trans (ent_0 _)) rfl (s_lt hn rfl) rfl rfl (Nat.le_of_ble_eq_true rfl) (Nat.le_of_ble_eq_true rfl) (Nat.zero_le _) (Nat.zero_le _) ⟨Or.inl (fun _ _ _ q => q.2.1), fun r n1 h3 q4 => ?_⟩
  obtain ⟨rfl, rfl, E5, E6, F7⟩ := q4
  dsimp only [s_push]
  have E8 : _ = (.inr (11, [.ref 1, .ref 11, .ref 32, .ref 33, .ref 40, .ref 44, .ref 49, .ref 52, .ref 58, .ref 60, .ref 68, .ref 70, .ref 76, .int (iI ((-5))), .int (iI (g0 14)), .int (iI (g0 15)), .int (iI (g0 16)), .int (iI (g0 17))]) : sE) := E5
  exact v_iret dX11_flag_23 rfl (Nat.zero_le _) (Nat.zero_le _) (by first | exact ⟨(congrArg (fun x => some (Value.int x)) (congrArg iI (by first | rfl | omega | (split <;> first | rfl | omega | (split <;> first | rfl | omega))))), rfl, (by first | exact (show _ = ent 0 ((uI g0 13 ((-5)))) from E8) | (rw [if_pos (by omega)]; exact (show _ = ent 0 ((uI g0 13 ((-5)))) from E8)) | (rw [if_neg (by omega)]; exact (show _ = ent 0 ((uI g0 13 ((-5)))) from E8))), (by first | exact (show _ = ent 76 (uI (g76) 3 (g76 3 + 1)) from (E6.trans (ent_76 _))) | (rw [if_pos (by omega)]; exact (show _ = ent 76 (uI (g76) 3 (g76 3 + 1)) from (E6.trans (ent_76 _)))) | (rw [if_neg (by omega)]; exact (show _ = ent 76 (uI (g76) 3 (g76 3 + 1)) from (E6.trans (ent_76 _))))), fun j m0 m76 => (F7 j m0 m76)⟩ | omega)
theorem sp_X12_flag_m5 {n : Nat} {h : Nat → sE} {a b c : Int}  {g77 g78 g79 : Int → Int} (hn : 115 ≤ n) (H77 : h 77 = ent 77 g77) (H78 : h 78 = ent 78 g78) (H79 : h 79 = ent 79 g79) (ra : -2147483648 ≤ a ∧ a ≤ 2147483647) (rb : -2147483648 ≤ b ∧ b ≤ 2147483647) (rc : -2147483648 ≤ c ∧ c ≤ 2147483647) (i9 : 0 ≤ g79 0 ∧ g79 0 ≤ 5) (i10 : 0 ≤ g79 1 ∧ g79 1 ≤ 24) (hd : ∀ k : Int, 0 ≤ k → k < g79 1 → 0 ≤ g79 (232 + k * 3) ∧ g79 (232 + k * 3) ≤ 10 ∧ 0 ≤ g79 (232 + (k * 3 + 1)) ∧ g79 (232 + (k * 3 + 1)) ≤ 4 ∧ 0 ≤ g79 (232 + (k * 3 + 2)) ∧ g79 (232 + (k * 3 + 2)) ≤ 3) (hz : (0 ≤ a ∧ a ≤ 10 ∧ 0 ≤ c ∧ c ≤ 3) ∧ 0 ≤ b ∧ b < g79 0 ∧ fOf (fun j => g79 (232 + j)) a b (g79 1).toNat = -1 ∧ ¬ g79 1 < 24) : Sp m_X12_flag 3 0 0 [.ref 77, .int (iI a), .int (iI b), .int (iI c)] n h (fun r n' h' => r = some (.int (iI (-5))) ∧ n' = n ∧ h' 78 = ent 78 (uI (g78) 5 (g78 5 + 1)) ∧ h' 77 = ent 77 ((uI (uI g77 0 0) 1 ((-5)))) ∧ ∀ j, j ≠ 78 → j ≠ 77 → h' j = h j) := by
  refine Sp.ofV (by decide +kernel) (Nat.le_of_ble_eq_true rfl) ?_
  refine v_aload_n dX12_flag_0 rfl ?_
  refine v_iconstI dX12_flag_1 ?_
  refine v_put dX12_flag_2 fl_X12_169 (H77.trans (ent_77 _)) (s_lt hn rfl) (Nat.le_of_ble_eq_true rfl) (fun _ => ⟨rfl, rfl⟩) trivial (fun h1 E2 F3 => ?_)
  refine v_aload_n dX12_flag_5 rfl ?_
  refine v_aload_n dX12_flag_6 rfl ?_
  refine v_iload_n dX12_flag_7 rfl ?_
  refine v_iload_n dX12_flag_8 rfl ?_
  refine v_iload_n dX12_flag_9 rfl ?_
  have H4 := ((F3 79 (by decide)).trans (H79.trans (ent_79 _)))
  refine v_callV dX12_flag_10 ml_X12_232 (sp_X12_flag1_m5 (a := a) (b := b) (c := c) (g77 := (uI g77 0 0)) (g79 := g79) hn (show _ = ent 77 (uI g77 0 0) from E2) (show _ = ent 79 g79 from H4) (by omega) (by omega) (by omega) i9 i10 hd hz) E2 rfl (s_lt hn rfl) rfl rfl (Nat.le_of_ble_eq_true rfl) (Nat.le_of_ble_eq_true rfl) (Nat.zero_le _) (Nat.zero_le _) ⟨Or.inl (fun _ _ _ q => q.2.1), fun r n1 h5 q6 => ?_⟩
  obtain ⟨rfl, rfl, rfl⟩ := q6
  try dsimp only [s_push]
  have H7 := ((F3 78 (by decide)).trans (H78.trans (ent_78 _)))
  refine v_callV dX12_flag_13 ml_X12_179 (sp_X12_tell_5  (g77 := (uI g77 0 0)) (g78 := g78) hn (show _ = ent 77 (uI g77 0 0) from E2) (show _ = ent 78 g78 from H7)) E2 rfl (s_lt hn rfl) rfl rfl (Nat.le_of_ble_eq_true rfl) (Nat.le_of_ble_eq_true rfl) (Nat.zero_le _) (Nat.zero_le _) ⟨Or.inl (fun _ _ _ q => q.2.1), fun r n1 h8 q9 => ?_⟩
  obtain ⟨rfl, rfl, E10, E11, F12⟩ := q9
  dsimp only [s_push]
  have E13 : _ = (.inr (12, [.int (iI 0), .int (iI ((-5))), .ref 78, .ref 79, .ref 80, .ref 81, .int (iI (g77 6)), .ref 82, .int (iI (g77 8)), .int (iI (g77 9)), .int (iI (g77 10)), .int (iI (g77 11)), .long (jJ (g77 12)), .int (iI (g77 13)), .int (iI (g77 14)), .int (iI (g77 15)), .int (iI (g77 16)), .ref 83, .int (iI (g77 18)), .ref 84, .ref 85, .int (iI (g77 21)), .ref 86, .ref 87, .int (iI (g77 24)), .int (iI (g77 25)), .ref 88, .ref 89, .ref 90, .int (iI (g77 29)), .ref 91, .ref 92, .ref 93, .int (iI (g77 33)), .long (jJ (g77 34)), .long (jJ (g77 35)), .ref 94, .ref 95, .ref 96, .ref 97, .ref 98, .ref 99, .ref 100, .ref 101, .ref 102, .ref 103, .ref 104, .ref 105, .ref 106, .ref 107, .int (iI (g77 50)), .ref 108, .ref 109, .ref 110, .ref 111, .ref 112, .ref 113, .int (iI (g77 57)), .int (iI (g77 58)), .int (iI (g77 59)), .int (iI (g77 60)), .long (jJ (g77 61)), .ref 114, .int (iI (g77 63))]) : sE) := E10
  exact v_iret dX12_flag_16 rfl (Nat.zero_le _) (Nat.zero_le _) (by first | exact ⟨(congrArg (fun x => some (Value.int x)) (congrArg iI (by first | rfl | omega | (split <;> first | rfl | omega | (split <;> first | rfl | omega))))), rfl, (by first | exact (show _ = ent 78 (uI (g78) 5 (g78 5 + 1)) from (E11.trans (ent_78 _))) | (rw [if_pos (by omega)]; exact (show _ = ent 78 (uI (g78) 5 (g78 5 + 1)) from (E11.trans (ent_78 _)))) | (rw [if_neg (by omega)]; exact (show _ = ent 78 (uI (g78) 5 (g78 5 + 1)) from (E11.trans (ent_78 _))))), (by first | exact (show _ = ent 77 ((uI (uI g77 0 0) 1 ((-5)))) from E13) | (rw [if_pos (by omega)]; exact (show _ = ent 77 ((uI (uI g77 0 0) 1 ((-5)))) from E13)) | (rw [if_neg (by omega)]; exact (show _ = ent 77 ((uI (uI g77 0 0) 1 ((-5)))) from E13))), fun j m78 m77 => ((F12 j m77 m78).trans (F3 j m77))⟩ | omega)
theorem sp_X11_flag_0 {n : Nat} {h : Nat → sE} {a b c : Int}  {g0 g1 g6 g76 : Int → Int} (hn : 115 ≤ n) (H0 : h 0 = ent 0 g0) (H1 : h 1 = ent 1 g1) (H6 : h 6 = ent 6 g6) (H76 : h 76 = ent 76 g76) (ra : -2147483648 ≤ a ∧ a ≤ 2147483647) (rb : -2147483648 ≤ b ∧ b ≤ 2147483647) (rc : -2147483648 ≤ c ∧ c ≤ 2147483647) (i9 : 0 ≤ g1 9 ∧ g1 9 ≤ 5) (i10 : 0 ≤ g1 10 ∧ g1 10 ≤ 24) (hd : ∀ k : Int, 0 ≤ k → k < g1 10 → 0 ≤ g6 (k * 3) ∧ g6 (k * 3) ≤ 10 ∧ 0 ≤ g6 (k * 3 + 1) ∧ g6 (k * 3 + 1) ≤ 4 ∧ 0 ≤ g6 (k * 3 + 2) ∧ g6 (k * 3 + 2) ≤ 3) (hz : (0 ≤ a ∧ a ≤ 10 ∧ 0 ≤ c ∧ c ≤ 3) ∧ 0 ≤ b ∧ b < g1 9 ∧ fOf g6 a b (g1 10).toNat = -1 ∧ g1 10 < 24) : Sp m_X11_flag 4 0 0 [.ref 0, .int (iI a), .int (iI b), .int (iI c)] n h (fun r n' h' => r = some (.int (iI (g1 10 + 1))) ∧ n' = n ∧ h' 6 = ent 6 (uI (uI (uI (g6) (g1 10 * 3 + 0) a) (g1 10 * 3 + 1) b) (g1 10 * 3 + 2) c) ∧ h' 1 = ent 1 ((uI g1 10 (g1 10 + 1))) ∧ h' 0 = ent 0 ((uI g0 13 0)) ∧ ∀ j, j ≠ 6 → j ≠ 1 → j ≠ 0 → h' j = h j) := by
  refine Sp.ofV (by decide +kernel) (Nat.le_of_ble_eq_true rfl) ?_
  refine v_aload_n dX11_flag_0 rfl ?_
  refine v_get dX11_flag_1 fl_X11_12 (H0.trans (ent_0 _)) rfl (s_lt hn rfl) ?_
  refine v_iload_n dX11_flag_4 rfl ?_
  refine v_iload_n dX11_flag_5 rfl ?_
  refine v_iload_n dX11_flag_6 rfl ?_
  refine v_callV dX11_flag_7 ml_X11_157 (sp_X3_whyNoFlag_0 (a := a) (b := b) (c := c) (g1 := g1) (g6 := g6) hn (show _ = ent 1 g1 from (H1.trans (ent_1 _))) (show _ = ent 6 g6 from (H6.trans (ent_6 _))) (by omega) (by omega) (by omega) i9 i10 hd hz) (H1.trans (ent_1 _)) rfl (s_lt hn rfl) rfl rfl (Nat.le_of_ble_eq_true rfl) (Nat.le_of_ble_eq_true rfl) (Nat.zero_le _) (Nat.zero_le _) ⟨Or.inl (fun _ _ _ q => q.2.1), fun r n1 h1 q2 => ?_⟩
  obtain ⟨rfl, rfl, rfl⟩ := q2
  try dsimp only [s_push]
  refine v_istore dX11_flag_10 (Nat.le_of_ble_eq_true rfl) ?_
  refine v_iload dX11_flag_12 rfl ?_
  refine v_if_eqI (tgt := 24) dX11_flag_14 (by decide) (by decide) (by decide) (fun _ => ?_) (fun c => absurd c (by decide))
  refine v_aload_n dX11_flag_24 rfl ?_
  refine v_get dX11_flag_25 fl_X11_12 (H0.trans (ent_0 _)) rfl (s_lt hn rfl) ?_
  refine v_iload_n dX11_flag_28 rfl ?_
  refine v_iload_n dX11_flag_29 rfl ?_
  refine v_iload_n dX11_flag_30 rfl ?_
  refine v_callV dX11_flag_31 ml_X11_161 (sp_X3_addFlag (a := a) (b := b) (c := c) (g1 := g1) (g6 := g6) hn (show _ = ent 1 g1 from (H1.trans (ent_1 _))) (show _ = ent 6 g6 from (H6.trans (ent_6 _))) (by omega)) (H1.trans (ent_1 _)) rfl (s_lt hn rfl) rfl rfl (Nat.le_of_ble_eq_true rfl) (Nat.le_of_ble_eq_true rfl) (Nat.zero_le _) (Nat.zero_le _) ⟨Or.inl (fun _ _ _ q => q.2.1), fun r n1 h3 q4 => ?_⟩
  obtain ⟨rfl, rfl, E5, E6, F7⟩ := q4
  dsimp only [s_push]
  have E8 : _ = (.inr (3, [.ref 2, .ref 3, .ref 4, .ref 5, .ref 6, .ref 7, .ref 8, .ref 9, .ref 10, .int (iI (g1 9)), .int (iI (g1 10 + 1)), .int (iI (g1 11)), .int (iI (g1 12)), .int (iI (g1 13)), .int (iI (g1 14))]) : sE) := E6
  refine v_aload_n dX11_flag_34 rfl ?_
  refine v_aload_n dX11_flag_35 rfl ?_
  have H9 := ((F7 0 (by decide) (by decide)).trans (H0.trans (ent_0 _)))
  refine v_get dX11_flag_36 fl_X11_12 H9 rfl (s_lt hn rfl) ?_
  refine v_get dX11_flag_39 fl_X11_164 E8 rfl (s_lt hn rfl) ?_
  refine v_callV dX11_flag_42 ml_X11_135 (sp_X11_grant (a := (g1 10 + 1)) (g0 := g0) hn (show _ = ent 0 g0 from H9)) H9 rfl (s_lt hn rfl) rfl rfl (Nat.le_of_ble_eq_true rfl) (Nat.le_of_ble_eq_true rfl) (Nat.zero_le _) (Nat.zero_le _) ⟨Or.inl (fun _ _ _ q => q.2.1), fun r n1 h10 q11 => ?_⟩
  obtain ⟨rfl, rfl, E12, F13⟩ := q11
  dsimp only [s_push]
  have E14 : _ = (.inr (11, [.ref 1, .ref 11, .ref 32, .ref 33, .ref 40, .ref 44, .ref 49, .ref 52, .ref 58, .ref 60, .ref 68, .ref 70, .ref 76, .int (iI (0)), .int (iI (g0 14)), .int (iI (g0 15)), .int (iI (g0 16)), .int (iI (g0 17))]) : sE) := E12
  exact v_iret dX11_flag_45 rfl (Nat.zero_le _) (Nat.zero_le _) (by first | exact ⟨(congrArg (fun x => some (Value.int x)) (congrArg iI (by first | rfl | omega | (split <;> first | rfl | omega | (split <;> first | rfl | omega))))), rfl, (by first | exact (show _ = ent 6 (uI (uI (uI (g6) (g1 10 * 3 + 0) a) (g1 10 * 3 + 1) b) (g1 10 * 3 + 2) c) from ((F13 6 (by decide)).trans (E5.trans (ent_6 _)))) | (rw [if_pos (by omega)]; exact (show _ = ent 6 (uI (uI (uI (g6) (g1 10 * 3 + 0) a) (g1 10 * 3 + 1) b) (g1 10 * 3 + 2) c) from ((F13 6 (by decide)).trans (E5.trans (ent_6 _))))) | (rw [if_neg (by omega)]; exact (show _ = ent 6 (uI (uI (uI (g6) (g1 10 * 3 + 0) a) (g1 10 * 3 + 1) b) (g1 10 * 3 + 2) c) from ((F13 6 (by decide)).trans (E5.trans (ent_6 _)))))), (by first | exact (show _ = ent 1 ((uI g1 10 (g1 10 + 1))) from ((F13 1 (by decide)).trans E8)) | (rw [if_pos (by omega)]; exact (show _ = ent 1 ((uI g1 10 (g1 10 + 1))) from ((F13 1 (by decide)).trans E8))) | (rw [if_neg (by omega)]; exact (show _ = ent 1 ((uI g1 10 (g1 10 + 1))) from ((F13 1 (by decide)).trans E8)))), (by first | exact (show _ = ent 0 ((uI g0 13 0)) from E14) | (rw [if_pos (by omega)]; exact (show _ = ent 0 ((uI g0 13 0)) from E14)) | (rw [if_neg (by omega)]; exact (show _ = ent 0 ((uI g0 13 0)) from E14))), fun j m6 m1 m0 => ((F13 j m0).trans (F7 j m6 m1))⟩ | omega)
theorem sp_X12_flag_0 {n : Nat} {h : Nat → sE} {a b c : Int}  {g77 g78 g79 : Int → Int} (hn : 115 ≤ n) (H77 : h 77 = ent 77 g77) (H78 : h 78 = ent 78 g78) (H79 : h 79 = ent 79 g79) (ra : -2147483648 ≤ a ∧ a ≤ 2147483647) (rb : -2147483648 ≤ b ∧ b ≤ 2147483647) (rc : -2147483648 ≤ c ∧ c ≤ 2147483647) (i9 : 0 ≤ g79 0 ∧ g79 0 ≤ 5) (i10 : 0 ≤ g79 1 ∧ g79 1 ≤ 24) (hd : ∀ k : Int, 0 ≤ k → k < g79 1 → 0 ≤ g79 (232 + k * 3) ∧ g79 (232 + k * 3) ≤ 10 ∧ 0 ≤ g79 (232 + (k * 3 + 1)) ∧ g79 (232 + (k * 3 + 1)) ≤ 4 ∧ 0 ≤ g79 (232 + (k * 3 + 2)) ∧ g79 (232 + (k * 3 + 2)) ≤ 3) (hz : (0 ≤ a ∧ a ≤ 10 ∧ 0 ≤ c ∧ c ≤ 3) ∧ 0 ≤ b ∧ b < g79 0 ∧ fOf (fun j => g79 (232 + j)) a b (g79 1).toNat = -1 ∧ g79 1 < 24) : Sp m_X12_flag 3 0 0 [.ref 77, .int (iI a), .int (iI b), .int (iI c)] n h (fun r n' h' => r = some (.int (iI (g79 1 + 1))) ∧ n' = n ∧ h' 79 = ent 79 (uI (uI (uI (uI (g79) (232 + 3 * g79 1) a) (232 + 3 * g79 1 + 1) b) (232 + 3 * g79 1 + 2) c) 1 (g79 1 + 1)) ∧ h' 77 = ent 77 ((uI (uI g77 0 0) 1 0)) ∧ ∀ j, j ≠ 79 → j ≠ 77 → h' j = h j) := by
  refine Sp.ofV (by decide +kernel) (Nat.le_of_ble_eq_true rfl) ?_
  refine v_aload_n dX12_flag_0 rfl ?_
  refine v_iconstI dX12_flag_1 ?_
  refine v_put dX12_flag_2 fl_X12_169 (H77.trans (ent_77 _)) (s_lt hn rfl) (Nat.le_of_ble_eq_true rfl) (fun _ => ⟨rfl, rfl⟩) trivial (fun h1 E2 F3 => ?_)
  refine v_aload_n dX12_flag_5 rfl ?_
  refine v_aload_n dX12_flag_6 rfl ?_
  refine v_iload_n dX12_flag_7 rfl ?_
  refine v_iload_n dX12_flag_8 rfl ?_
  refine v_iload_n dX12_flag_9 rfl ?_
  have H4 := ((F3 79 (by decide)).trans (H79.trans (ent_79 _)))
  refine v_callV dX12_flag_10 ml_X12_232 (sp_X12_flag1_0 (a := a) (b := b) (c := c) (g77 := (uI g77 0 0)) (g79 := g79) hn (show _ = ent 77 (uI g77 0 0) from E2) (show _ = ent 79 g79 from H4) (by omega) (by omega) (by omega) i9 i10 hd hz) E2 rfl (s_lt hn rfl) rfl rfl (Nat.le_of_ble_eq_true rfl) (Nat.le_of_ble_eq_true rfl) (Nat.zero_le _) (Nat.zero_le _) ⟨Or.inl (fun _ _ _ q => q.2.1), fun r n1 h5 q6 => ?_⟩
  obtain ⟨rfl, rfl, E7, F8⟩ := q6
  dsimp only [s_push]
  have H9 := ((F8 77 (by decide)).trans E2)
  refine v_callV dX12_flag_13 ml_X12_179 (sp_X12_tell_p (a := (g79 1 + 1)) (g77 := (uI g77 0 0)) hn (show _ = ent 77 (uI g77 0 0) from H9) (by omega)) H9 rfl (s_lt hn rfl) rfl rfl (Nat.le_of_ble_eq_true rfl) (Nat.le_of_ble_eq_true rfl) (Nat.zero_le _) (Nat.zero_le _) ⟨Or.inl (fun _ _ _ q => q.2.1), fun r n1 h10 q11 => ?_⟩
  obtain ⟨rfl, rfl, E12, F13⟩ := q11
  dsimp only [s_push]
  have E14 : _ = (.inr (12, [.int (iI 0), .int (iI (0)), .ref 78, .ref 79, .ref 80, .ref 81, .int (iI (g77 6)), .ref 82, .int (iI (g77 8)), .int (iI (g77 9)), .int (iI (g77 10)), .int (iI (g77 11)), .long (jJ (g77 12)), .int (iI (g77 13)), .int (iI (g77 14)), .int (iI (g77 15)), .int (iI (g77 16)), .ref 83, .int (iI (g77 18)), .ref 84, .ref 85, .int (iI (g77 21)), .ref 86, .ref 87, .int (iI (g77 24)), .int (iI (g77 25)), .ref 88, .ref 89, .ref 90, .int (iI (g77 29)), .ref 91, .ref 92, .ref 93, .int (iI (g77 33)), .long (jJ (g77 34)), .long (jJ (g77 35)), .ref 94, .ref 95, .ref 96, .ref 97, .ref 98, .ref 99, .ref 100, .ref 101, .ref 102, .ref 103, .ref 104, .ref 105, .ref 106, .ref 107, .int (iI (g77 50)), .ref 108, .ref 109, .ref 110, .ref 111, .ref 112, .ref 113, .int (iI (g77 57)), .int (iI (g77 58)), .int (iI (g77 59)), .int (iI (g77 60)), .long (jJ (g77 61)), .ref 114, .int (iI (g77 63))]) : sE) := E12
  exact v_iret dX12_flag_16 rfl (Nat.zero_le _) (Nat.zero_le _) (by first | exact ⟨(congrArg (fun x => some (Value.int x)) (congrArg iI (by first | rfl | omega | (split <;> first | rfl | omega | (split <;> first | rfl | omega))))), rfl, (by first | exact (show _ = ent 79 (uI (uI (uI (uI (g79) (232 + 3 * g79 1) a) (232 + 3 * g79 1 + 1) b) (232 + 3 * g79 1 + 2) c) 1 (g79 1 + 1)) from ((F13 79 (by decide)).trans (E7.trans (ent_79 _)))) | (rw [if_pos (by omega)]; exact (show _ = ent 79 (uI (uI (uI (uI (g79) (232 + 3 * g79 1) a) (232 + 3 * g79 1 + 1) b) (232 + 3 * g79 1 + 2) c) 1 (g79 1 + 1)) from ((F13 79 (by decide)).trans (E7.trans (ent_79 _))))) | (rw [if_neg (by omega)]; exact (show _ = ent 79 (uI (uI (uI (uI (g79) (232 + 3 * g79 1) a) (232 + 3 * g79 1 + 1) b) (232 + 3 * g79 1 + 2) c) 1 (g79 1 + 1)) from ((F13 79 (by decide)).trans (E7.trans (ent_79 _)))))), (by first | exact (show _ = ent 77 ((uI (uI g77 0 0) 1 0)) from E14) | (rw [if_pos (by omega)]; exact (show _ = ent 77 ((uI (uI g77 0 0) 1 0)) from E14)) | (rw [if_neg (by omega)]; exact (show _ = ent 77 ((uI (uI g77 0 0) 1 0)) from E14))), fun j m79 m77 => ((F13 j m77).trans ((F8 j m79).trans (F3 j m77)))⟩ | omega)

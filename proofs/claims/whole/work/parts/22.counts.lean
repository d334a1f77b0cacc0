/-! COUNT, DRAWN: contracts -/
theorem dX11_count_0 : decode cX11_count 0 = .ok (.iload_n 1, 1) := by decide +kernel
theorem dX11_count_1 : decode cX11_count 1 = .ok (.bipush 6, 2) := by decide +kernel
theorem dX11_count_3 : decode cX11_count 3 = .ok (.bipush 10, 2) := by decide +kernel
theorem dX11_count_5 : decode cX11_count 5 = .ok (.invokestatic 115, 3) := by decide +kernel
theorem dX11_count_8 : decode cX11_count 8 = .ok (.ifCond .eq 13, 3) := by decide +kernel
theorem dX11_count_11 : decode cX11_count 11 = .ok (.aload_n 0, 1) := by decide +kernel
theorem dX11_count_12 : decode cX11_count 12 = .ok (.getfield 95, 3) := by decide +kernel
theorem dX11_count_15 : decode cX11_count 15 = .ok (.iload_n 1, 1) := by decide +kernel
theorem dX11_count_16 : decode cX11_count 16 = .ok (.bipush 6, 2) := by decide +kernel
theorem dX11_count_18 : decode cX11_count 18 = .ok (.isub, 1) := by decide +kernel
theorem dX11_count_19 : decode cX11_count 19 = .ok (.iaload, 1) := by decide +kernel
theorem dX11_count_20 : decode cX11_count 20 = .ok (.ireturn, 1) := by decide +kernel
theorem dX11_count_21 : decode cX11_count 21 = .ok (.iload_n 1, 1) := by decide +kernel
theorem dX11_count_22 : decode cX11_count 22 = .ok (.bipush 12, 2) := by decide +kernel
theorem dX11_count_24 : decode cX11_count 24 = .ok (.bipush 14, 2) := by decide +kernel
theorem dX11_count_26 : decode cX11_count 26 = .ok (.invokestatic 115, 3) := by decide +kernel
theorem dX11_count_29 : decode cX11_count 29 = .ok (.ifCond .eq 16, 3) := by decide +kernel
theorem dX11_count_32 : decode cX11_count 32 = .ok (.aload_n 0, 1) := by decide +kernel
theorem dX11_count_33 : decode cX11_count 33 = .ok (.getfield 12, 3) := by decide +kernel
theorem dX11_count_36 : decode cX11_count 36 = .ok (.getfield 182, 3) := by decide +kernel
theorem dX11_count_39 : decode cX11_count 39 = .ok (.iload_n 1, 1) := by decide +kernel
theorem dX11_count_40 : decode cX11_count 40 = .ok (.bipush 12, 2) := by decide +kernel
theorem dX11_count_42 : decode cX11_count 42 = .ok (.isub, 1) := by decide +kernel
theorem dX11_count_43 : decode cX11_count 43 = .ok (.iaload, 1) := by decide +kernel
theorem dX11_count_44 : decode cX11_count 44 = .ok (.ireturn, 1) := by decide +kernel
theorem dX11_count_45 : decode cX11_count 45 = .ok (.iload_n 1, 1) := by decide +kernel
theorem dX11_count_46 : decode cX11_count 46 = .ok (.tableswitch 118 0 11 #[62, 70, 78, 86, 94, 102, 118, 118, 118, 118, 118, 110], 62) := by decide +kernel
theorem dX11_count_108 : decode cX11_count 108 = .ok (.aload_n 0, 1) := by decide +kernel
theorem dX11_count_109 : decode cX11_count 109 = .ok (.getfield 12, 3) := by decide +kernel
theorem dX11_count_112 : decode cX11_count 112 = .ok (.getfield 147, 3) := by decide +kernel
theorem dX11_count_115 : decode cX11_count 115 = .ok (.ireturn, 1) := by decide +kernel
theorem dX11_count_116 : decode cX11_count 116 = .ok (.aload_n 0, 1) := by decide +kernel
theorem dX11_count_117 : decode cX11_count 117 = .ok (.getfield 12, 3) := by decide +kernel
theorem dX11_count_120 : decode cX11_count 120 = .ok (.getfield 164, 3) := by decide +kernel
theorem dX11_count_123 : decode cX11_count 123 = .ok (.ireturn, 1) := by decide +kernel
theorem dX11_count_124 : decode cX11_count 124 = .ok (.aload_n 0, 1) := by decide +kernel
theorem dX11_count_125 : decode cX11_count 125 = .ok (.getfield 12, 3) := by decide +kernel
theorem dX11_count_128 : decode cX11_count 128 = .ok (.getfield 173, 3) := by decide +kernel
theorem dX11_count_131 : decode cX11_count 131 = .ok (.ireturn, 1) := by decide +kernel
theorem dX11_count_132 : decode cX11_count 132 = .ok (.aload_n 0, 1) := by decide +kernel
theorem dX11_count_133 : decode cX11_count 133 = .ok (.getfield 12, 3) := by decide +kernel
theorem dX11_count_136 : decode cX11_count 136 = .ok (.getfield 189, 3) := by decide +kernel
theorem dX11_count_139 : decode cX11_count 139 = .ok (.ireturn, 1) := by decide +kernel
theorem dX11_count_140 : decode cX11_count 140 = .ok (.aload_n 0, 1) := by decide +kernel
theorem dX11_count_141 : decode cX11_count 141 = .ok (.getfield 12, 3) := by decide +kernel
theorem dX11_count_144 : decode cX11_count 144 = .ok (.getfield 198, 3) := by decide +kernel
theorem dX11_count_147 : decode cX11_count 147 = .ok (.ireturn, 1) := by decide +kernel
theorem dX11_count_148 : decode cX11_count 148 = .ok (.aload_n 0, 1) := by decide +kernel
theorem dX11_count_149 : decode cX11_count 149 = .ok (.getfield 27, 3) := by decide +kernel
theorem dX11_count_152 : decode cX11_count 152 = .ok (.getfield 201, 3) := by decide +kernel
theorem dX11_count_155 : decode cX11_count 155 = .ok (.ireturn, 1) := by decide +kernel
theorem dX11_count_156 : decode cX11_count 156 = .ok (.aload_n 0, 1) := by decide +kernel
theorem dX11_count_157 : decode cX11_count 157 = .ok (.getfield 12, 3) := by decide +kernel
theorem dX11_count_160 : decode cX11_count 160 = .ok (.getfield 204, 3) := by decide +kernel
theorem dX11_count_163 : decode cX11_count 163 = .ok (.ireturn, 1) := by decide +kernel
theorem dX11_count_164 : decode cX11_count 164 = .ok (.iconst (-1), 1) := by decide +kernel
theorem dX11_count_165 : decode cX11_count 165 = .ok (.ireturn, 1) := by decide +kernel
theorem sp_X11_count {n : Nat} {h : Nat → sE} {a : Int}  {g0 g1 g9 g33 g76 : Int → Int} (hn : 115 ≤ n) (H0 : h 0 = ent 0 g0) (H1 : h 1 = ent 1 g1) (H9 : h 9 = ent 9 g9) (H33 : h 33 = ent 33 g33) (H76 : h 76 = ent 76 g76) (ra : -2147483648 ≤ a ∧ a ≤ 2147483647) : Sp m_X11_count 3 0 0 [.ref 0, .int (iI a)] n h (qR (some (.int (iI (if a = 0 then g1 9 else if a = 1 then g1 10 else if a = 2 then g1 11 else if a = 3 then g1 12 else if a = 4 then g1 13 else if a = 5 then g33 4 else if a = 6 then g76 0 else if a = 7 then g76 1 else if a = 8 then g76 2 else if a = 9 then g76 3 else if a = 10 then g76 4 else if a = 11 then g1 14 else if 12 ≤ a ∧ a ≤ 14 then g9 (a - 12) else -1)))) n h) := by
  refine Sp.ofV (by decide +kernel) (Nat.le_of_ble_eq_true rfl) ?_
  refine v_iload_n dX11_count_0 rfl ?_
  refine v_bipushI dX11_count_1 rfl ?_
  refine v_bipushI dX11_count_3 rfl ?_
  refine v_callS dX11_count_5 ml_X11_115 (sp_X11_within (a := a) (b := 6) (c := 10)   (by omega) (by omega) (by omega)) rfl rfl (Nat.le_of_ble_eq_true rfl) (Nat.le_of_ble_eq_true rfl) (Nat.zero_le _) (Nat.zero_le _) ⟨Or.inl (fun _ _ _ q => q.2.1), fun r n1 h1 q2 => ?_⟩
  obtain ⟨rfl, rfl, rfl⟩ := q2
  try dsimp only [s_push]
  refine v_ifeqB (tgt := 21) dX11_count_8 (by decide) (fun c_3 => ?_) (fun c_3 => ?_)
  · refine v_iload_n dX11_count_21 rfl ?_
    refine v_bipushI dX11_count_22 rfl ?_
    refine v_bipushI dX11_count_24 rfl ?_
    refine v_callS dX11_count_26 ml_X11_115 (sp_X11_within (a := a) (b := 12) (c := 14)   (by omega) (by omega) (by omega)) rfl rfl (Nat.le_of_ble_eq_true rfl) (Nat.le_of_ble_eq_true rfl) (Nat.zero_le _) (Nat.zero_le _) ⟨Or.inl (fun _ _ _ q => q.2.1), fun r n1 h4 q5 => ?_⟩
    obtain ⟨rfl, rfl, rfl⟩ := q5
    try dsimp only [s_push]
    refine v_ifeqB (tgt := 45) dX11_count_29 (by decide) (fun c_6 => ?_) (fun c_6 => ?_)
    · refine v_iload_n dX11_count_45 rfl ?_
      by_cases c_7 : a = 0
      · refine v_tabInI (tgt := 108) 0 dX11_count_46 c_7 (by decide) (by decide) (by decide) (by decide) rfl (by decide) ?_
        refine v_aload_n dX11_count_108 rfl ?_
        refine v_get dX11_count_109 fl_X11_12 (H0.trans (ent_0 _)) rfl (s_lt hn rfl) ?_
        refine v_get dX11_count_112 fl_X11_147 (H1.trans (ent_1 _)) rfl (s_lt hn rfl) ?_
        exact v_iret dX11_count_115 rfl (Nat.zero_le _) (Nat.zero_le _) (by first | exact ⟨(congrArg (fun x => some (Value.int x)) (congrArg iI (by first | rfl | (rcases (show a = 6 ∨ a = 7 ∨ a = 8 ∨ a = 9 ∨ a = 10 by omega) with rfl | rfl | rfl | rfl | rfl <;> rfl) | (rcases (show a = 12 ∨ a = 13 ∨ a = 14 by omega) with rfl | rfl | rfl <;> rfl) | (subst_vars; rfl) | (repeat rw [if_neg (by omega)])))), rfl, rfl⟩ | omega)
      by_cases c_8 : a = 1
      · refine v_tabInI (tgt := 116) 1 dX11_count_46 c_8 (by decide) (by decide) (by decide) (by decide) rfl (by decide) ?_
        refine v_aload_n dX11_count_116 rfl ?_
        refine v_get dX11_count_117 fl_X11_12 (H0.trans (ent_0 _)) rfl (s_lt hn rfl) ?_
        refine v_get dX11_count_120 fl_X11_164 (H1.trans (ent_1 _)) rfl (s_lt hn rfl) ?_
        exact v_iret dX11_count_123 rfl (Nat.zero_le _) (Nat.zero_le _) (by first | exact ⟨(congrArg (fun x => some (Value.int x)) (congrArg iI (by first | rfl | (rcases (show a = 6 ∨ a = 7 ∨ a = 8 ∨ a = 9 ∨ a = 10 by omega) with rfl | rfl | rfl | rfl | rfl <;> rfl) | (rcases (show a = 12 ∨ a = 13 ∨ a = 14 by omega) with rfl | rfl | rfl <;> rfl) | (subst_vars; rfl) | (repeat rw [if_neg (by omega)])))), rfl, rfl⟩ | omega)
      by_cases c_9 : a = 2
      · refine v_tabInI (tgt := 124) 2 dX11_count_46 c_9 (by decide) (by decide) (by decide) (by decide) rfl (by decide) ?_
        refine v_aload_n dX11_count_124 rfl ?_
        refine v_get dX11_count_125 fl_X11_12 (H0.trans (ent_0 _)) rfl (s_lt hn rfl) ?_
        refine v_get dX11_count_128 fl_X11_173 (H1.trans (ent_1 _)) rfl (s_lt hn rfl) ?_
        exact v_iret dX11_count_131 rfl (Nat.zero_le _) (Nat.zero_le _) (by first | exact ⟨(congrArg (fun x => some (Value.int x)) (congrArg iI (by first | rfl | (rcases (show a = 6 ∨ a = 7 ∨ a = 8 ∨ a = 9 ∨ a = 10 by omega) with rfl | rfl | rfl | rfl | rfl <;> rfl) | (rcases (show a = 12 ∨ a = 13 ∨ a = 14 by omega) with rfl | rfl | rfl <;> rfl) | (subst_vars; rfl) | (repeat rw [if_neg (by omega)])))), rfl, rfl⟩ | omega)
      by_cases c_10 : a = 3
      · refine v_tabInI (tgt := 132) 3 dX11_count_46 c_10 (by decide) (by decide) (by decide) (by decide) rfl (by decide) ?_
        refine v_aload_n dX11_count_132 rfl ?_
        refine v_get dX11_count_133 fl_X11_12 (H0.trans (ent_0 _)) rfl (s_lt hn rfl) ?_
        refine v_get dX11_count_136 fl_X11_189 (H1.trans (ent_1 _)) rfl (s_lt hn rfl) ?_
        exact v_iret dX11_count_139 rfl (Nat.zero_le _) (Nat.zero_le _) (by first | exact ⟨(congrArg (fun x => some (Value.int x)) (congrArg iI (by first | rfl | (rcases (show a = 6 ∨ a = 7 ∨ a = 8 ∨ a = 9 ∨ a = 10 by omega) with rfl | rfl | rfl | rfl | rfl <;> rfl) | (rcases (show a = 12 ∨ a = 13 ∨ a = 14 by omega) with rfl | rfl | rfl <;> rfl) | (subst_vars; rfl) | (repeat rw [if_neg (by omega)])))), rfl, rfl⟩ | omega)
      by_cases c_11 : a = 4
      · refine v_tabInI (tgt := 140) 4 dX11_count_46 c_11 (by decide) (by decide) (by decide) (by decide) rfl (by decide) ?_
        refine v_aload_n dX11_count_140 rfl ?_
        refine v_get dX11_count_141 fl_X11_12 (H0.trans (ent_0 _)) rfl (s_lt hn rfl) ?_
        refine v_get dX11_count_144 fl_X11_198 (H1.trans (ent_1 _)) rfl (s_lt hn rfl) ?_
        exact v_iret dX11_count_147 rfl (Nat.zero_le _) (Nat.zero_le _) (by first | exact ⟨(congrArg (fun x => some (Value.int x)) (congrArg iI (by first | rfl | (rcases (show a = 6 ∨ a = 7 ∨ a = 8 ∨ a = 9 ∨ a = 10 by omega) with rfl | rfl | rfl | rfl | rfl <;> rfl) | (rcases (show a = 12 ∨ a = 13 ∨ a = 14 by omega) with rfl | rfl | rfl <;> rfl) | (subst_vars; rfl) | (repeat rw [if_neg (by omega)])))), rfl, rfl⟩ | omega)
      by_cases c_12 : a = 5
      · refine v_tabInI (tgt := 148) 5 dX11_count_46 c_12 (by decide) (by decide) (by decide) (by decide) rfl (by decide) ?_
        refine v_aload_n dX11_count_148 rfl ?_
        refine v_get dX11_count_149 fl_X11_27 (H0.trans (ent_0 _)) rfl (s_lt hn rfl) ?_
        refine v_get dX11_count_152 fl_X11_201 (H33.trans (ent_33 _)) rfl (s_lt hn rfl) ?_
        exact v_iret dX11_count_155 rfl (Nat.zero_le _) (Nat.zero_le _) (by first | exact ⟨(congrArg (fun x => some (Value.int x)) (congrArg iI (by first | rfl | (rcases (show a = 6 ∨ a = 7 ∨ a = 8 ∨ a = 9 ∨ a = 10 by omega) with rfl | rfl | rfl | rfl | rfl <;> rfl) | (rcases (show a = 12 ∨ a = 13 ∨ a = 14 by omega) with rfl | rfl | rfl <;> rfl) | (subst_vars; rfl) | (repeat rw [if_neg (by omega)])))), rfl, rfl⟩ | omega)
      by_cases c_13 : a = 6
      · refine v_tabInI (tgt := 164) 6 dX11_count_46 c_13 (by decide) (by decide) (by decide) (by decide) rfl (by decide) ?_
        refine v_iconstI dX11_count_164 ?_
        exact v_iret dX11_count_165 rfl (Nat.zero_le _) (Nat.zero_le _) (by first | exact ⟨(congrArg (fun x => some (Value.int x)) (congrArg iI (by first | rfl | (rcases (show a = 6 ∨ a = 7 ∨ a = 8 ∨ a = 9 ∨ a = 10 by omega) with rfl | rfl | rfl | rfl | rfl <;> rfl) | (rcases (show a = 12 ∨ a = 13 ∨ a = 14 by omega) with rfl | rfl | rfl <;> rfl) | (subst_vars; rfl) | (repeat rw [if_neg (by omega)])))), rfl, rfl⟩ | omega)
      by_cases c_14 : a = 7
      · refine v_tabInI (tgt := 164) 7 dX11_count_46 c_14 (by decide) (by decide) (by decide) (by decide) rfl (by decide) ?_
        refine v_iconstI dX11_count_164 ?_
        exact v_iret dX11_count_165 rfl (Nat.zero_le _) (Nat.zero_le _) (by first | exact ⟨(congrArg (fun x => some (Value.int x)) (congrArg iI (by first | rfl | (rcases (show a = 6 ∨ a = 7 ∨ a = 8 ∨ a = 9 ∨ a = 10 by omega) with rfl | rfl | rfl | rfl | rfl <;> rfl) | (rcases (show a = 12 ∨ a = 13 ∨ a = 14 by omega) with rfl | rfl | rfl <;> rfl) | (subst_vars; rfl) | (repeat rw [if_neg (by omega)])))), rfl, rfl⟩ | omega)
      by_cases c_15 : a = 8
      · refine v_tabInI (tgt := 164) 8 dX11_count_46 c_15 (by decide) (by decide) (by decide) (by decide) rfl (by decide) ?_
        refine v_iconstI dX11_count_164 ?_
        exact v_iret dX11_count_165 rfl (Nat.zero_le _) (Nat.zero_le _) (by first | exact ⟨(congrArg (fun x => some (Value.int x)) (congrArg iI (by first | rfl | (rcases (show a = 6 ∨ a = 7 ∨ a = 8 ∨ a = 9 ∨ a = 10 by omega) with rfl | rfl | rfl | rfl | rfl <;> rfl) | (rcases (show a = 12 ∨ a = 13 ∨ a = 14 by omega) with rfl | rfl | rfl <;> rfl) | (subst_vars; rfl) | (repeat rw [if_neg (by omega)])))), rfl, rfl⟩ | omega)
      by_cases c_16 : a = 9
      · refine v_tabInI (tgt := 164) 9 dX11_count_46 c_16 (by decide) (by decide) (by decide) (by decide) rfl (by decide) ?_
        refine v_iconstI dX11_count_164 ?_
        exact v_iret dX11_count_165 rfl (Nat.zero_le _) (Nat.zero_le _) (by first | exact ⟨(congrArg (fun x => some (Value.int x)) (congrArg iI (by first | rfl | (rcases (show a = 6 ∨ a = 7 ∨ a = 8 ∨ a = 9 ∨ a = 10 by omega) with rfl | rfl | rfl | rfl | rfl <;> rfl) | (rcases (show a = 12 ∨ a = 13 ∨ a = 14 by omega) with rfl | rfl | rfl <;> rfl) | (subst_vars; rfl) | (repeat rw [if_neg (by omega)])))), rfl, rfl⟩ | omega)
      by_cases c_17 : a = 10
      · refine v_tabInI (tgt := 164) 10 dX11_count_46 c_17 (by decide) (by decide) (by decide) (by decide) rfl (by decide) ?_
        refine v_iconstI dX11_count_164 ?_
        exact v_iret dX11_count_165 rfl (Nat.zero_le _) (Nat.zero_le _) (by first | exact ⟨(congrArg (fun x => some (Value.int x)) (congrArg iI (by first | rfl | (rcases (show a = 6 ∨ a = 7 ∨ a = 8 ∨ a = 9 ∨ a = 10 by omega) with rfl | rfl | rfl | rfl | rfl <;> rfl) | (rcases (show a = 12 ∨ a = 13 ∨ a = 14 by omega) with rfl | rfl | rfl <;> rfl) | (subst_vars; rfl) | (repeat rw [if_neg (by omega)])))), rfl, rfl⟩ | omega)
      by_cases c_18 : a = 11
      · refine v_tabInI (tgt := 156) 11 dX11_count_46 c_18 (by decide) (by decide) (by decide) (by decide) rfl (by decide) ?_
        refine v_aload_n dX11_count_156 rfl ?_
        refine v_get dX11_count_157 fl_X11_12 (H0.trans (ent_0 _)) rfl (s_lt hn rfl) ?_
        refine v_get dX11_count_160 fl_X11_204 (H1.trans (ent_1 _)) rfl (s_lt hn rfl) ?_
        exact v_iret dX11_count_163 rfl (Nat.zero_le _) (Nat.zero_le _) (by first | exact ⟨(congrArg (fun x => some (Value.int x)) (congrArg iI (by first | rfl | (rcases (show a = 6 ∨ a = 7 ∨ a = 8 ∨ a = 9 ∨ a = 10 by omega) with rfl | rfl | rfl | rfl | rfl <;> rfl) | (rcases (show a = 12 ∨ a = 13 ∨ a = 14 by omega) with rfl | rfl | rfl <;> rfl) | (subst_vars; rfl) | (repeat rw [if_neg (by omega)])))), rfl, rfl⟩ | omega)
      refine v_tabOutI (tgt := 164) dX11_count_46 (by omega) (by omega) (by omega) (by decide) ?_
      refine v_iconstI dX11_count_164 ?_
      exact v_iret dX11_count_165 rfl (Nat.zero_le _) (Nat.zero_le _) (by first | exact ⟨(congrArg (fun x => some (Value.int x)) (congrArg iI (by first | rfl | (rcases (show a = 6 ∨ a = 7 ∨ a = 8 ∨ a = 9 ∨ a = 10 by omega) with rfl | rfl | rfl | rfl | rfl <;> rfl) | (rcases (show a = 12 ∨ a = 13 ∨ a = 14 by omega) with rfl | rfl | rfl <;> rfl) | (subst_vars; rfl) | (repeat rw [if_neg (by omega)])))), rfl, rfl⟩ | omega)
    · refine v_aload_n dX11_count_32 rfl ?_
      refine v_get dX11_count_33 fl_X11_12 (H0.trans (ent_0 _)) rfl (s_lt hn rfl) ?_
      refine v_get dX11_count_36 fl_X11_182 (H1.trans (ent_1 _)) rfl (s_lt hn rfl) ?_
      refine v_iload_n dX11_count_39 rfl ?_
      refine v_bipushI dX11_count_40 rfl ?_
      refine v_isubI dX11_count_42 ?_
      refine v_ialdI dX11_count_43 (H9.trans (ent_9 _)) (s_lt hn rfl) (by omega) (by omega) (by omega) ?_
      exact v_iret dX11_count_44 rfl (Nat.zero_le _) (Nat.zero_le _) (by first | exact ⟨(congrArg (fun x => some (Value.int x)) (congrArg iI (by first | rfl | (rcases (show a = 6 ∨ a = 7 ∨ a = 8 ∨ a = 9 ∨ a = 10 by omega) with rfl | rfl | rfl | rfl | rfl <;> rfl) | (rcases (show a = 12 ∨ a = 13 ∨ a = 14 by omega) with rfl | rfl | rfl <;> rfl) | (subst_vars; rfl) | (repeat rw [if_neg (by omega)])))), rfl, rfl⟩ | omega)
  · refine v_aload_n dX11_count_11 rfl ?_
    refine v_get dX11_count_12 fl_X11_95 (H0.trans (ent_0 _)) rfl (s_lt hn rfl) ?_
    refine v_iload_n dX11_count_15 rfl ?_
    refine v_bipushI dX11_count_16 rfl ?_
    refine v_isubI dX11_count_18 ?_
    refine v_ialdI dX11_count_19 (H76.trans (ent_76 _)) (s_lt hn rfl) (by omega) (by omega) (by omega) ?_
    exact v_iret dX11_count_20 rfl (Nat.zero_le _) (Nat.zero_le _) (by first | exact ⟨(congrArg (fun x => some (Value.int x)) (congrArg iI (by first | rfl | (rcases (show a = 6 ∨ a = 7 ∨ a = 8 ∨ a = 9 ∨ a = 10 by omega) with rfl | rfl | rfl | rfl | rfl <;> rfl) | (rcases (show a = 12 ∨ a = 13 ∨ a = 14 by omega) with rfl | rfl | rfl <;> rfl) | (subst_vars; rfl) | (repeat rw [if_neg (by omega)])))), rfl, rfl⟩ | omega)
theorem dX12_count_0 : decode cX12_count 0 = .ok (.aload_n 0, 1) := by decide +kernel
theorem dX12_count_1 : decode cX12_count 1 = .ok (.iconst 0, 1) := by decide +kernel
theorem dX12_count_2 : decode cX12_count 2 = .ok (.putfield 169, 3) := by decide +kernel
theorem dX12_count_5 : decode cX12_count 5 = .ok (.iload_n 1, 1) := by decide +kernel
theorem dX12_count_6 : decode cX12_count 6 = .ok (.tableswitch 145 0 11 #[62, 69, 76, 83, 90, 97, 102, 109, 116, 123, 130, 138], 62) := by decide +kernel
theorem dX12_count_68 : decode cX12_count 68 = .ok (.aload_n 0, 1) := by decide +kernel
theorem dX12_count_69 : decode cX12_count 69 = .ok (.getfield 13, 3) := by decide +kernel
theorem dX12_count_72 : decode cX12_count 72 = .ok (.iconst 0, 1) := by decide +kernel
theorem dX12_count_73 : decode cX12_count 73 = .ok (.iaload, 1) := by decide +kernel
theorem dX12_count_74 : decode cX12_count 74 = .ok (.ireturn, 1) := by decide +kernel
theorem dX12_count_75 : decode cX12_count 75 = .ok (.aload_n 0, 1) := by decide +kernel
theorem dX12_count_76 : decode cX12_count 76 = .ok (.getfield 13, 3) := by decide +kernel
theorem dX12_count_79 : decode cX12_count 79 = .ok (.iconst 1, 1) := by decide +kernel
theorem dX12_count_80 : decode cX12_count 80 = .ok (.iaload, 1) := by decide +kernel
theorem dX12_count_81 : decode cX12_count 81 = .ok (.ireturn, 1) := by decide +kernel
theorem dX12_count_82 : decode cX12_count 82 = .ok (.aload_n 0, 1) := by decide +kernel
theorem dX12_count_83 : decode cX12_count 83 = .ok (.getfield 13, 3) := by decide +kernel
theorem dX12_count_86 : decode cX12_count 86 = .ok (.iconst 2, 1) := by decide +kernel
theorem dX12_count_87 : decode cX12_count 87 = .ok (.iaload, 1) := by decide +kernel
theorem dX12_count_88 : decode cX12_count 88 = .ok (.ireturn, 1) := by decide +kernel
theorem dX12_count_89 : decode cX12_count 89 = .ok (.aload_n 0, 1) := by decide +kernel
theorem dX12_count_90 : decode cX12_count 90 = .ok (.getfield 13, 3) := by decide +kernel
theorem dX12_count_93 : decode cX12_count 93 = .ok (.iconst 3, 1) := by decide +kernel
theorem dX12_count_94 : decode cX12_count 94 = .ok (.iaload, 1) := by decide +kernel
theorem dX12_count_95 : decode cX12_count 95 = .ok (.ireturn, 1) := by decide +kernel
theorem dX12_count_96 : decode cX12_count 96 = .ok (.aload_n 0, 1) := by decide +kernel
theorem dX12_count_97 : decode cX12_count 97 = .ok (.getfield 13, 3) := by decide +kernel
theorem dX12_count_100 : decode cX12_count 100 = .ok (.iconst 4, 1) := by decide +kernel
theorem dX12_count_101 : decode cX12_count 101 = .ok (.iaload, 1) := by decide +kernel
theorem dX12_count_102 : decode cX12_count 102 = .ok (.ireturn, 1) := by decide +kernel
theorem dX12_count_103 : decode cX12_count 103 = .ok (.aload_n 0, 1) := by decide +kernel
theorem dX12_count_104 : decode cX12_count 104 = .ok (.getfield 241, 3) := by decide +kernel
theorem dX12_count_107 : decode cX12_count 107 = .ok (.ireturn, 1) := by decide +kernel
theorem dX12_count_108 : decode cX12_count 108 = .ok (.aload_n 0, 1) := by decide +kernel
theorem dX12_count_109 : decode cX12_count 109 = .ok (.getfield 7, 3) := by decide +kernel
theorem dX12_count_112 : decode cX12_count 112 = .ok (.iconst 1, 1) := by decide +kernel
theorem dX12_count_113 : decode cX12_count 113 = .ok (.iaload, 1) := by decide +kernel
theorem dX12_count_114 : decode cX12_count 114 = .ok (.ireturn, 1) := by decide +kernel
theorem dX12_count_115 : decode cX12_count 115 = .ok (.aload_n 0, 1) := by decide +kernel
theorem dX12_count_116 : decode cX12_count 116 = .ok (.getfield 7, 3) := by decide +kernel
theorem dX12_count_119 : decode cX12_count 119 = .ok (.iconst 2, 1) := by decide +kernel
theorem dX12_count_120 : decode cX12_count 120 = .ok (.iaload, 1) := by decide +kernel
theorem dX12_count_121 : decode cX12_count 121 = .ok (.ireturn, 1) := by decide +kernel
theorem dX12_count_122 : decode cX12_count 122 = .ok (.aload_n 0, 1) := by decide +kernel
theorem dX12_count_123 : decode cX12_count 123 = .ok (.getfield 7, 3) := by decide +kernel
theorem dX12_count_126 : decode cX12_count 126 = .ok (.iconst 3, 1) := by decide +kernel
theorem dX12_count_127 : decode cX12_count 127 = .ok (.iaload, 1) := by decide +kernel
theorem dX12_count_128 : decode cX12_count 128 = .ok (.ireturn, 1) := by decide +kernel
theorem dX12_count_129 : decode cX12_count 129 = .ok (.aload_n 0, 1) := by decide +kernel
theorem dX12_count_130 : decode cX12_count 130 = .ok (.getfield 7, 3) := by decide +kernel
theorem dX12_count_133 : decode cX12_count 133 = .ok (.iconst 5, 1) := by decide +kernel
theorem dX12_count_134 : decode cX12_count 134 = .ok (.iaload, 1) := by decide +kernel
theorem dX12_count_135 : decode cX12_count 135 = .ok (.ireturn, 1) := by decide +kernel
theorem dX12_count_136 : decode cX12_count 136 = .ok (.aload_n 0, 1) := by decide +kernel
theorem dX12_count_137 : decode cX12_count 137 = .ok (.getfield 7, 3) := by decide +kernel
theorem dX12_count_140 : decode cX12_count 140 = .ok (.bipush 6, 2) := by decide +kernel
theorem dX12_count_142 : decode cX12_count 142 = .ok (.iaload, 1) := by decide +kernel
theorem dX12_count_143 : decode cX12_count 143 = .ok (.ireturn, 1) := by decide +kernel
theorem dX12_count_144 : decode cX12_count 144 = .ok (.aload_n 0, 1) := by decide +kernel
theorem dX12_count_145 : decode cX12_count 145 = .ok (.getfield 13, 3) := by decide +kernel
theorem dX12_count_148 : decode cX12_count 148 = .ok (.iconst 5, 1) := by decide +kernel
theorem dX12_count_149 : decode cX12_count 149 = .ok (.iaload, 1) := by decide +kernel
theorem dX12_count_150 : decode cX12_count 150 = .ok (.ireturn, 1) := by decide +kernel
theorem dX12_count_151 : decode cX12_count 151 = .ok (.iload_n 1, 1) := by decide +kernel
theorem dX12_count_152 : decode cX12_count 152 = .ok (.i2l, 1) := by decide +kernel
theorem dX12_count_153 : decode cX12_count 153 = .ok (.ldc2_w 496, 3) := by decide +kernel
theorem dX12_count_156 : decode cX12_count 156 = .ok (.ldc2_w 638, 3) := by decide +kernel
theorem dX12_count_159 : decode cX12_count 159 = .ok (.invokestatic 175, 3) := by decide +kernel
theorem dX12_count_162 : decode cX12_count 162 = .ok (.ifCond .eq 18, 3) := by decide +kernel
theorem dX12_count_165 : decode cX12_count 165 = .ok (.aload_n 0, 1) := by decide +kernel
theorem dX12_count_166 : decode cX12_count 166 = .ok (.getfield 13, 3) := by decide +kernel
theorem dX12_count_169 : decode cX12_count 169 = .ok (.bipush 6, 2) := by decide +kernel
theorem dX12_count_171 : decode cX12_count 171 = .ok (.iload_n 1, 1) := by decide +kernel
theorem dX12_count_172 : decode cX12_count 172 = .ok (.iadd, 1) := by decide +kernel
theorem dX12_count_173 : decode cX12_count 173 = .ok (.bipush 12, 2) := by decide +kernel
theorem dX12_count_175 : decode cX12_count 175 = .ok (.isub, 1) := by decide +kernel
theorem dX12_count_176 : decode cX12_count 176 = .ok (.iaload, 1) := by decide +kernel
theorem dX12_count_177 : decode cX12_count 177 = .ok (.goto 4, 3) := by decide +kernel
theorem dX12_count_180 : decode cX12_count 180 = .ok (.iconst (-1), 1) := by decide +kernel
theorem dX12_count_181 : decode cX12_count 181 = .ok (.ireturn, 1) := by decide +kernel
theorem sp_X12_count {n : Nat} {h : Nat → sE} {a : Int}  {g77 g78 g79 : Int → Int} (hn : 115 ≤ n) (H77 : h 77 = ent 77 g77) (H78 : h 78 = ent 78 g78) (H79 : h 79 = ent 79 g79) (ra : -2147483648 ≤ a ∧ a ≤ 2147483647) : Sp m_X12_count 3 0 0 [.ref 77, .int (iI a)] n h (fun r n' h' => r = some (.int (iI (if a = 0 then g79 0 else if a = 1 then g79 1 else if a = 2 then g79 2 else if a = 3 then g79 3 else if a = 4 then g79 4 else if a = 5 then g77 8 else if a = 6 then g78 1 else if a = 7 then g78 2 else if a = 8 then g78 3 else if a = 9 then g78 5 else if a = 10 then g78 6 else if a = 11 then g79 5 else if 12 ≤ a ∧ a ≤ 14 then g79 (6 + a - 12) else -1))) ∧ n' = n ∧ h' 77 = ent 77 ((uI g77 0 0)) ∧ ∀ j, j ≠ 77 → h' j = h j) := by
  refine Sp.ofV (by decide +kernel) (Nat.le_of_ble_eq_true rfl) ?_
  refine v_aload_n dX12_count_0 rfl ?_
  refine v_iconstI dX12_count_1 ?_
  refine v_put dX12_count_2 fl_X12_169 (H77.trans (ent_77 _)) (s_lt hn rfl) (Nat.le_of_ble_eq_true rfl) (fun _ => ⟨rfl, rfl⟩) trivial (fun h1 E2 F3 => ?_)
  refine v_iload_n dX12_count_5 rfl ?_
  by_cases c_4 : a = 0
  · refine v_tabInI (tgt := 68) 0 dX12_count_6 c_4 (by decide) (by decide) (by decide) (by decide) rfl (by decide) ?_
    refine v_aload_n dX12_count_68 rfl ?_
    refine v_get dX12_count_69 fl_X12_13 E2 rfl (s_lt hn rfl) ?_
    refine v_iconstI dX12_count_72 ?_
    have H5 := ((F3 79 (by decide)).trans (H79.trans (ent_79 _)))
    refine v_ialdI dX12_count_73 H5 (s_lt hn rfl) (by omega) (by omega) (by omega) ?_
    exact v_iret dX12_count_74 rfl (Nat.zero_le _) (Nat.zero_le _) (by first | exact ⟨(congrArg (fun x => some (Value.int x)) (congrArg iI (by first | rfl | (subst_vars; rfl) | (rw [if_neg (by omega), if_neg (by omega), if_neg (by omega), if_neg (by omega), if_neg (by omega), if_neg (by omega), if_neg (by omega), if_neg (by omega), if_neg (by omega), if_neg (by omega), if_neg (by omega), if_neg (by omega)]; first | rw [if_pos (by omega)] | rw [if_neg (by omega)])))), rfl, (by first | exact (show _ = ent 77 (uI g77 0 0) from E2) | (rw [if_pos (by omega)]; exact (show _ = ent 77 (uI g77 0 0) from E2)) | (rw [if_neg (by omega)]; exact (show _ = ent 77 (uI g77 0 0) from E2))), fun j m77 => (F3 j m77)⟩ | omega)
  by_cases c_6 : a = 1
  · refine v_tabInI (tgt := 75) 1 dX12_count_6 c_6 (by decide) (by decide) (by decide) (by decide) rfl (by decide) ?_
    refine v_aload_n dX12_count_75 rfl ?_
    refine v_get dX12_count_76 fl_X12_13 E2 rfl (s_lt hn rfl) ?_
    refine v_iconstI dX12_count_79 ?_
    have H7 := ((F3 79 (by decide)).trans (H79.trans (ent_79 _)))
    refine v_ialdI dX12_count_80 H7 (s_lt hn rfl) (by omega) (by omega) (by omega) ?_
    exact v_iret dX12_count_81 rfl (Nat.zero_le _) (Nat.zero_le _) (by first | exact ⟨(congrArg (fun x => some (Value.int x)) (congrArg iI (by first | rfl | (subst_vars; rfl) | (rw [if_neg (by omega), if_neg (by omega), if_neg (by omega), if_neg (by omega), if_neg (by omega), if_neg (by omega), if_neg (by omega), if_neg (by omega), if_neg (by omega), if_neg (by omega), if_neg (by omega), if_neg (by omega)]; first | rw [if_pos (by omega)] | rw [if_neg (by omega)])))), rfl, (by first | exact (show _ = ent 77 (uI g77 0 0) from E2) | (rw [if_pos (by omega)]; exact (show _ = ent 77 (uI g77 0 0) from E2)) | (rw [if_neg (by omega)]; exact (show _ = ent 77 (uI g77 0 0) from E2))), fun j m77 => (F3 j m77)⟩ | omega)
  by_cases c_8 : a = 2
  · refine v_tabInI (tgt := 82) 2 dX12_count_6 c_8 (by decide) (by decide) (by decide) (by decide) rfl (by decide) ?_
    refine v_aload_n dX12_count_82 rfl ?_
    refine v_get dX12_count_83 fl_X12_13 E2 rfl (s_lt hn rfl) ?_
    refine v_iconstI dX12_count_86 ?_
    have H9 := ((F3 79 (by decide)).trans (H79.trans (ent_79 _)))
    refine v_ialdI dX12_count_87 H9 (s_lt hn rfl) (by omega) (by omega) (by omega) ?_
    exact v_iret dX12_count_88 rfl (Nat.zero_le _) (Nat.zero_le _) (by first | exact ⟨(congrArg (fun x => some (Value.int x)) (congrArg iI (by first | rfl | (subst_vars; rfl) | (rw [if_neg (by omega), if_neg (by omega), if_neg (by omega), if_neg (by omega), if_neg (by omega), if_neg (by omega), if_neg (by omega), if_neg (by omega), if_neg (by omega), if_neg (by omega), if_neg (by omega), if_neg (by omega)]; first | rw [if_pos (by omega)] | rw [if_neg (by omega)])))), rfl, (by first | exact (show _ = ent 77 (uI g77 0 0) from E2) | (rw [if_pos (by omega)]; exact (show _ = ent 77 (uI g77 0 0) from E2)) | (rw [if_neg (by omega)]; exact (show _ = ent 77 (uI g77 0 0) from E2))), fun j m77 => (F3 j m77)⟩ | omega)
  by_cases c_10 : a = 3
  · refine v_tabInI (tgt := 89) 3 dX12_count_6 c_10 (by decide) (by decide) (by decide) (by decide) rfl (by decide) ?_
    refine v_aload_n dX12_count_89 rfl ?_
    refine v_get dX12_count_90 fl_X12_13 E2 rfl (s_lt hn rfl) ?_
    refine v_iconstI dX12_count_93 ?_
    have H11 := ((F3 79 (by decide)).trans (H79.trans (ent_79 _)))
    refine v_ialdI dX12_count_94 H11 (s_lt hn rfl) (by omega) (by omega) (by omega) ?_
    exact v_iret dX12_count_95 rfl (Nat.zero_le _) (Nat.zero_le _) (by first | exact ⟨(congrArg (fun x => some (Value.int x)) (congrArg iI (by first | rfl | (subst_vars; rfl) | (rw [if_neg (by omega), if_neg (by omega), if_neg (by omega), if_neg (by omega), if_neg (by omega), if_neg (by omega), if_neg (by omega), if_neg (by omega), if_neg (by omega), if_neg (by omega), if_neg (by omega), if_neg (by omega)]; first | rw [if_pos (by omega)] | rw [if_neg (by omega)])))), rfl, (by first | exact (show _ = ent 77 (uI g77 0 0) from E2) | (rw [if_pos (by omega)]; exact (show _ = ent 77 (uI g77 0 0) from E2)) | (rw [if_neg (by omega)]; exact (show _ = ent 77 (uI g77 0 0) from E2))), fun j m77 => (F3 j m77)⟩ | omega)
  by_cases c_12 : a = 4
  · refine v_tabInI (tgt := 96) 4 dX12_count_6 c_12 (by decide) (by decide) (by decide) (by decide) rfl (by decide) ?_
    refine v_aload_n dX12_count_96 rfl ?_
    refine v_get dX12_count_97 fl_X12_13 E2 rfl (s_lt hn rfl) ?_
    refine v_iconstI dX12_count_100 ?_
    have H13 := ((F3 79 (by decide)).trans (H79.trans (ent_79 _)))
    refine v_ialdI dX12_count_101 H13 (s_lt hn rfl) (by omega) (by omega) (by omega) ?_
    exact v_iret dX12_count_102 rfl (Nat.zero_le _) (Nat.zero_le _) (by first | exact ⟨(congrArg (fun x => some (Value.int x)) (congrArg iI (by first | rfl | (subst_vars; rfl) | (rw [if_neg (by omega), if_neg (by omega), if_neg (by omega), if_neg (by omega), if_neg (by omega), if_neg (by omega), if_neg (by omega), if_neg (by omega), if_neg (by omega), if_neg (by omega), if_neg (by omega), if_neg (by omega)]; first | rw [if_pos (by omega)] | rw [if_neg (by omega)])))), rfl, (by first | exact (show _ = ent 77 (uI g77 0 0) from E2) | (rw [if_pos (by omega)]; exact (show _ = ent 77 (uI g77 0 0) from E2)) | (rw [if_neg (by omega)]; exact (show _ = ent 77 (uI g77 0 0) from E2))), fun j m77 => (F3 j m77)⟩ | omega)
  by_cases c_14 : a = 5
  · refine v_tabInI (tgt := 103) 5 dX12_count_6 c_14 (by decide) (by decide) (by decide) (by decide) rfl (by decide) ?_
    refine v_aload_n dX12_count_103 rfl ?_
    refine v_get dX12_count_104 fl_X12_241 E2 rfl (s_lt hn rfl) ?_
    exact v_iret dX12_count_107 rfl (Nat.zero_le _) (Nat.zero_le _) (by first | exact ⟨(congrArg (fun x => some (Value.int x)) (congrArg iI (by first | rfl | (subst_vars; rfl) | (rw [if_neg (by omega), if_neg (by omega), if_neg (by omega), if_neg (by omega), if_neg (by omega), if_neg (by omega), if_neg (by omega), if_neg (by omega), if_neg (by omega), if_neg (by omega), if_neg (by omega), if_neg (by omega)]; first | rw [if_pos (by omega)] | rw [if_neg (by omega)])))), rfl, (by first | exact (show _ = ent 77 (uI g77 0 0) from E2) | (rw [if_pos (by omega)]; exact (show _ = ent 77 (uI g77 0 0) from E2)) | (rw [if_neg (by omega)]; exact (show _ = ent 77 (uI g77 0 0) from E2))), fun j m77 => (F3 j m77)⟩ | omega)
  by_cases c_15 : a = 6
  · refine v_tabInI (tgt := 108) 6 dX12_count_6 c_15 (by decide) (by decide) (by decide) (by decide) rfl (by decide) ?_
    refine v_aload_n dX12_count_108 rfl ?_
    refine v_get dX12_count_109 fl_X12_7 E2 rfl (s_lt hn rfl) ?_
    refine v_iconstI dX12_count_112 ?_
    have H16 := ((F3 78 (by decide)).trans (H78.trans (ent_78 _)))
    refine v_ialdI dX12_count_113 H16 (s_lt hn rfl) (by omega) (by omega) (by omega) ?_
    exact v_iret dX12_count_114 rfl (Nat.zero_le _) (Nat.zero_le _) (by first | exact ⟨(congrArg (fun x => some (Value.int x)) (congrArg iI (by first | rfl | (subst_vars; rfl) | (rw [if_neg (by omega), if_neg (by omega), if_neg (by omega), if_neg (by omega), if_neg (by omega), if_neg (by omega), if_neg (by omega), if_neg (by omega), if_neg (by omega), if_neg (by omega), if_neg (by omega), if_neg (by omega)]; first | rw [if_pos (by omega)] | rw [if_neg (by omega)])))), rfl, (by first | exact (show _ = ent 77 (uI g77 0 0) from E2) | (rw [if_pos (by omega)]; exact (show _ = ent 77 (uI g77 0 0) from E2)) | (rw [if_neg (by omega)]; exact (show _ = ent 77 (uI g77 0 0) from E2))), fun j m77 => (F3 j m77)⟩ | omega)
  by_cases c_17 : a = 7
  · refine v_tabInI (tgt := 115) 7 dX12_count_6 c_17 (by decide) (by decide) (by decide) (by decide) rfl (by decide) ?_
    refine v_aload_n dX12_count_115 rfl ?_
    refine v_get dX12_count_116 fl_X12_7 E2 rfl (s_lt hn rfl) ?_
    refine v_iconstI dX12_count_119 ?_
    have H18 := ((F3 78 (by decide)).trans (H78.trans (ent_78 _)))
    refine v_ialdI dX12_count_120 H18 (s_lt hn rfl) (by omega) (by omega) (by omega) ?_
    exact v_iret dX12_count_121 rfl (Nat.zero_le _) (Nat.zero_le _) (by first | exact ⟨(congrArg (fun x => some (Value.int x)) (congrArg iI (by first | rfl | (subst_vars; rfl) | (rw [if_neg (by omega), if_neg (by omega), if_neg (by omega), if_neg (by omega), if_neg (by omega), if_neg (by omega), if_neg (by omega), if_neg (by omega), if_neg (by omega), if_neg (by omega), if_neg (by omega), if_neg (by omega)]; first | rw [if_pos (by omega)] | rw [if_neg (by omega)])))), rfl, (by first | exact (show _ = ent 77 (uI g77 0 0) from E2) | (rw [if_pos (by omega)]; exact (show _ = ent 77 (uI g77 0 0) from E2)) | (rw [if_neg (by omega)]; exact (show _ = ent 77 (uI g77 0 0) from E2))), fun j m77 => (F3 j m77)⟩ | omega)
  by_cases c_19 : a = 8
  · refine v_tabInI (tgt := 122) 8 dX12_count_6 c_19 (by decide) (by decide) (by decide) (by decide) rfl (by decide) ?_
    refine v_aload_n dX12_count_122 rfl ?_
    refine v_get dX12_count_123 fl_X12_7 E2 rfl (s_lt hn rfl) ?_
    refine v_iconstI dX12_count_126 ?_
    have H20 := ((F3 78 (by decide)).trans (H78.trans (ent_78 _)))
    refine v_ialdI dX12_count_127 H20 (s_lt hn rfl) (by omega) (by omega) (by omega) ?_
    exact v_iret dX12_count_128 rfl (Nat.zero_le _) (Nat.zero_le _) (by first | exact ⟨(congrArg (fun x => some (Value.int x)) (congrArg iI (by first | rfl | (subst_vars; rfl) | (rw [if_neg (by omega), if_neg (by omega), if_neg (by omega), if_neg (by omega), if_neg (by omega), if_neg (by omega), if_neg (by omega), if_neg (by omega), if_neg (by omega), if_neg (by omega), if_neg (by omega), if_neg (by omega)]; first | rw [if_pos (by omega)] | rw [if_neg (by omega)])))), rfl, (by first | exact (show _ = ent 77 (uI g77 0 0) from E2) | (rw [if_pos (by omega)]; exact (show _ = ent 77 (uI g77 0 0) from E2)) | (rw [if_neg (by omega)]; exact (show _ = ent 77 (uI g77 0 0) from E2))), fun j m77 => (F3 j m77)⟩ | omega)
  by_cases c_21 : a = 9
  · refine v_tabInI (tgt := 129) 9 dX12_count_6 c_21 (by decide) (by decide) (by decide) (by decide) rfl (by decide) ?_
    refine v_aload_n dX12_count_129 rfl ?_
    refine v_get dX12_count_130 fl_X12_7 E2 rfl (s_lt hn rfl) ?_
    refine v_iconstI dX12_count_133 ?_
    have H22 := ((F3 78 (by decide)).trans (H78.trans (ent_78 _)))
    refine v_ialdI dX12_count_134 H22 (s_lt hn rfl) (by omega) (by omega) (by omega) ?_
    exact v_iret dX12_count_135 rfl (Nat.zero_le _) (Nat.zero_le _) (by first | exact ⟨(congrArg (fun x => some (Value.int x)) (congrArg iI (by first | rfl | (subst_vars; rfl) | (rw [if_neg (by omega), if_neg (by omega), if_neg (by omega), if_neg (by omega), if_neg (by omega), if_neg (by omega), if_neg (by omega), if_neg (by omega), if_neg (by omega), if_neg (by omega), if_neg (by omega), if_neg (by omega)]; first | rw [if_pos (by omega)] | rw [if_neg (by omega)])))), rfl, (by first | exact (show _ = ent 77 (uI g77 0 0) from E2) | (rw [if_pos (by omega)]; exact (show _ = ent 77 (uI g77 0 0) from E2)) | (rw [if_neg (by omega)]; exact (show _ = ent 77 (uI g77 0 0) from E2))), fun j m77 => (F3 j m77)⟩ | omega)
  by_cases c_23 : a = 10
  · refine v_tabInI (tgt := 136) 10 dX12_count_6 c_23 (by decide) (by decide) (by decide) (by decide) rfl (by decide) ?_
    refine v_aload_n dX12_count_136 rfl ?_
    refine v_get dX12_count_137 fl_X12_7 E2 rfl (s_lt hn rfl) ?_
    refine v_bipushI dX12_count_140 rfl ?_
    have H24 := ((F3 78 (by decide)).trans (H78.trans (ent_78 _)))
    refine v_ialdI dX12_count_142 H24 (s_lt hn rfl) (by omega) (by omega) (by omega) ?_
    exact v_iret dX12_count_143 rfl (Nat.zero_le _) (Nat.zero_le _) (by first | exact ⟨(congrArg (fun x => some (Value.int x)) (congrArg iI (by first | rfl | (subst_vars; rfl) | (rw [if_neg (by omega), if_neg (by omega), if_neg (by omega), if_neg (by omega), if_neg (by omega), if_neg (by omega), if_neg (by omega), if_neg (by omega), if_neg (by omega), if_neg (by omega), if_neg (by omega), if_neg (by omega)]; first | rw [if_pos (by omega)] | rw [if_neg (by omega)])))), rfl, (by first | exact (show _ = ent 77 (uI g77 0 0) from E2) | (rw [if_pos (by omega)]; exact (show _ = ent 77 (uI g77 0 0) from E2)) | (rw [if_neg (by omega)]; exact (show _ = ent 77 (uI g77 0 0) from E2))), fun j m77 => (F3 j m77)⟩ | omega)
  by_cases c_25 : a = 11
  · refine v_tabInI (tgt := 144) 11 dX12_count_6 c_25 (by decide) (by decide) (by decide) (by decide) rfl (by decide) ?_
    refine v_aload_n dX12_count_144 rfl ?_
    refine v_get dX12_count_145 fl_X12_13 E2 rfl (s_lt hn rfl) ?_
    refine v_iconstI dX12_count_148 ?_
    have H26 := ((F3 79 (by decide)).trans (H79.trans (ent_79 _)))
    refine v_ialdI dX12_count_149 H26 (s_lt hn rfl) (by omega) (by omega) (by omega) ?_
    exact v_iret dX12_count_150 rfl (Nat.zero_le _) (Nat.zero_le _) (by first | exact ⟨(congrArg (fun x => some (Value.int x)) (congrArg iI (by first | rfl | (subst_vars; rfl) | (rw [if_neg (by omega), if_neg (by omega), if_neg (by omega), if_neg (by omega), if_neg (by omega), if_neg (by omega), if_neg (by omega), if_neg (by omega), if_neg (by omega), if_neg (by omega), if_neg (by omega), if_neg (by omega)]; first | rw [if_pos (by omega)] | rw [if_neg (by omega)])))), rfl, (by first | exact (show _ = ent 77 (uI g77 0 0) from E2) | (rw [if_pos (by omega)]; exact (show _ = ent 77 (uI g77 0 0) from E2)) | (rw [if_neg (by omega)]; exact (show _ = ent 77 (uI g77 0 0) from E2))), fun j m77 => (F3 j m77)⟩ | omega)
  refine v_tabOutI (tgt := 151) dX12_count_6 (by omega) (by omega) (by omega) (by decide) ?_
  refine v_iload_n dX12_count_151 rfl ?_
  refine v_i2lI dX12_count_152 (by omega) (by omega) ?_
  refine v_ldc2I 12 dX12_count_153 k_X12_496 rfl ?_
  refine v_ldc2I 14 dX12_count_156 k_X12_638 rfl ?_
  refine v_callS dX12_count_159 ml_X12_175 (sp_X12_in (v := a) (lo := 12) (hi := 14)   (by omega) (by omega) (by omega)) rfl rfl (Nat.le_of_ble_eq_true rfl) (Nat.le_of_ble_eq_true rfl) (Nat.zero_le _) (Nat.zero_le _) ⟨Or.inl (fun _ _ _ q => q.2.1), fun r n1 h27 q28 => ?_⟩
  obtain ⟨rfl, rfl, rfl⟩ := q28
  try dsimp only [s_push]
  refine v_ifeqB (tgt := 180) dX12_count_162 (by decide) (fun c_29 => ?_) (fun c_29 => ?_)
  · refine v_iconstI dX12_count_180 ?_
    exact v_iret dX12_count_181 rfl (Nat.zero_le _) (Nat.zero_le _) (by first | exact ⟨(congrArg (fun x => some (Value.int x)) (congrArg iI (by first | rfl | (subst_vars; rfl) | (rw [if_neg (by omega), if_neg (by omega), if_neg (by omega), if_neg (by omega), if_neg (by omega), if_neg (by omega), if_neg (by omega), if_neg (by omega), if_neg (by omega), if_neg (by omega), if_neg (by omega), if_neg (by omega)]; first | rw [if_pos (by omega)] | rw [if_neg (by omega)])))), rfl, (by first | exact (show _ = ent 77 (uI g77 0 0) from E2) | (rw [if_pos (by omega)]; exact (show _ = ent 77 (uI g77 0 0) from E2)) | (rw [if_neg (by omega)]; exact (show _ = ent 77 (uI g77 0 0) from E2))), fun j m77 => (F3 j m77)⟩ | omega)
  · refine v_aload_n dX12_count_165 rfl ?_
    refine v_get dX12_count_166 fl_X12_13 E2 rfl (s_lt hn rfl) ?_
    refine v_bipushI dX12_count_169 rfl ?_
    refine v_iload_n dX12_count_171 rfl ?_
    refine v_iaddI dX12_count_172 ?_
    refine v_bipushI dX12_count_173 rfl ?_
    refine v_isubI dX12_count_175 ?_
    have H30 := ((F3 79 (by decide)).trans (H79.trans (ent_79 _)))
    refine v_ialdI dX12_count_176 H30 (s_lt hn rfl) (by omega) (by omega) (by omega) ?_
    refine v_goto (tgt := 181) dX12_count_177 (by decide) ?_
    exact v_iret dX12_count_181 rfl (Nat.zero_le _) (Nat.zero_le _) (by first | exact ⟨(congrArg (fun x => some (Value.int x)) (congrArg iI (by first | rfl | (subst_vars; rfl) | (rw [if_neg (by omega), if_neg (by omega), if_neg (by omega), if_neg (by omega), if_neg (by omega), if_neg (by omega), if_neg (by omega), if_neg (by omega), if_neg (by omega), if_neg (by omega), if_neg (by omega), if_neg (by omega)]; first | rw [if_pos (by omega)] | rw [if_neg (by omega)])))), rfl, (by first | exact (show _ = ent 77 (uI g77 0 0) from E2) | (rw [if_pos (by omega)]; exact (show _ = ent 77 (uI g77 0 0) from E2)) | (rw [if_neg (by omega)]; exact (show _ = ent 77 (uI g77 0 0) from E2))), fun j m77 => (F3 j m77)⟩ | omega)
theorem dX9_daysOf_0 : decode cX9_daysOf 0 = .ok (.aload_n 0, 1) := by decide +kernel
theorem dX9_daysOf_1 : decode cX9_daysOf 1 = .ok (.getfield 20, 3) := by decide +kernel
theorem dX9_daysOf_4 : decode cX9_daysOf 4 = .ok (.ifCond .eq 22, 3) := by decide +kernel
theorem dX9_daysOf_7 : decode cX9_daysOf 7 = .ok (.iload_n 1, 1) := by decide +kernel
theorem dX9_daysOf_8 : decode cX9_daysOf 8 = .ok (.iconst 0, 1) := by decide +kernel
theorem dX9_daysOf_9 : decode cX9_daysOf 9 = .ok (.bipush 63, 2) := by decide +kernel
theorem dX9_daysOf_11 : decode cX9_daysOf 11 = .ok (.invokestatic 73, 3) := by decide +kernel
theorem dX9_daysOf_14 : decode cX9_daysOf 14 = .ok (.ifCond .eq 12, 3) := by decide +kernel
theorem dX9_daysOf_17 : decode cX9_daysOf 17 = .ok (.aload_n 0, 1) := by decide +kernel
theorem dX9_daysOf_18 : decode cX9_daysOf 18 = .ok (.getfield 17, 3) := by decide +kernel
theorem dX9_daysOf_21 : decode cX9_daysOf 21 = .ok (.iload_n 1, 1) := by decide +kernel
theorem dX9_daysOf_22 : decode cX9_daysOf 22 = .ok (.iaload, 1) := by decide +kernel
theorem dX9_daysOf_23 : decode cX9_daysOf 23 = .ok (.goto 4, 3) := by decide +kernel
theorem dX9_daysOf_26 : decode cX9_daysOf 26 = .ok (.iconst (-1), 1) := by decide +kernel
theorem dX9_daysOf_27 : decode cX9_daysOf 27 = .ok (.ireturn, 1) := by decide +kernel
theorem sp_X9_daysOf {n : Nat} {h : Nat → sE} {a : Int}  {g52 g54 : Int → Int} (hn : 115 ≤ n) (H52 : h 52 = ent 52 g52) (H54 : h 54 = ent 54 g54) (ra : -2147483648 ≤ a ∧ a ≤ 2147483647) (i5 : 0 ≤ g52 5 ∧ g52 5 ≤ 1) : Sp m_X9_daysOf 3 0 0 [.ref 52, .int (iI a)] n h (qR (some (.int (iI (if g52 5 = 1 ∧ 0 ≤ a ∧ a ≤ 63 then g54 a else -1)))) n h) := by
  refine Sp.ofV (by decide +kernel) (Nat.le_of_ble_eq_true rfl) ?_
  refine v_aload_n dX9_daysOf_0 rfl ?_
  refine v_get dX9_daysOf_1 fl_X9_20 (H52.trans (ent_52 _)) rfl (s_lt hn rfl) ?_
  refine v_if_eqI (tgt := 26) dX9_daysOf_4 (by decide) (by omega) (by omega) (fun c_1 => ?_) (fun c_1 => ?_)
  · refine v_iconstI dX9_daysOf_26 ?_
    exact v_iret dX9_daysOf_27 rfl (Nat.zero_le _) (Nat.zero_le _) (by first | exact ⟨(congrArg (fun x => some (Value.int x)) (congrArg iI (by first | rfl | omega | (split <;> first | rfl | omega | (split <;> first | rfl | omega))))), rfl, rfl⟩ | omega)
  · refine v_iload_n dX9_daysOf_7 rfl ?_
    refine v_iconstI dX9_daysOf_8 ?_
    refine v_bipushI dX9_daysOf_9 rfl ?_
    refine v_callS dX9_daysOf_11 ml_X9_73 (sp_X11_within (a := a) (b := 0) (c := 63)   (by omega) (by omega) (by omega)) rfl rfl (Nat.le_of_ble_eq_true rfl) (Nat.le_of_ble_eq_true rfl) (Nat.zero_le _) (Nat.zero_le _) ⟨Or.inl (fun _ _ _ q => q.2.1), fun r n1 h2 q3 => ?_⟩
    obtain ⟨rfl, rfl, rfl⟩ := q3
    try dsimp only [s_push]
    refine v_ifeqB (tgt := 26) dX9_daysOf_14 (by decide) (fun c_4 => ?_) (fun c_4 => ?_)
    · refine v_iconstI dX9_daysOf_26 ?_
      exact v_iret dX9_daysOf_27 rfl (Nat.zero_le _) (Nat.zero_le _) (by first | exact ⟨(congrArg (fun x => some (Value.int x)) (congrArg iI (by first | rfl | omega | (split <;> first | rfl | omega | (split <;> first | rfl | omega))))), rfl, rfl⟩ | omega)
    · refine v_aload_n dX9_daysOf_17 rfl ?_
      refine v_get dX9_daysOf_18 fl_X9_17 (H52.trans (ent_52 _)) rfl (s_lt hn rfl) ?_
      refine v_iload_n dX9_daysOf_21 rfl ?_
      refine v_ialdI dX9_daysOf_22 (H54.trans (ent_54 _)) (s_lt hn rfl) (by omega) (by omega) (by omega) ?_
      refine v_goto (tgt := 27) dX9_daysOf_23 (by decide) ?_
      exact v_iret dX9_daysOf_27 rfl (Nat.zero_le _) (Nat.zero_le _) (by first | exact ⟨(congrArg (fun x => some (Value.int x)) (congrArg iI (by first | rfl | omega | (split <;> first | rfl | omega | (split <;> first | rfl | omega))))), rfl, rfl⟩ | omega)
theorem dX11_drawn_0 : decode cX11_drawn 0 = .ok (.aload_n 0, 1) := by decide +kernel
theorem dX11_drawn_1 : decode cX11_drawn 1 = .ok (.getfield 59, 3) := by decide +kernel
theorem dX11_drawn_4 : decode cX11_drawn 4 = .ok (.iload_n 1, 1) := by decide +kernel
theorem dX11_drawn_5 : decode cX11_drawn 5 = .ok (.invokevirtual 344, 3) := by decide +kernel
theorem dX11_drawn_8 : decode cX11_drawn 8 = .ok (.ireturn, 1) := by decide +kernel
theorem sp_X11_drawn {n : Nat} {h : Nat → sE} {a : Int}  {g0 g52 g54 : Int → Int} (hn : 115 ≤ n) (H0 : h 0 = ent 0 g0) (H52 : h 52 = ent 52 g52) (H54 : h 54 = ent 54 g54) (ra : -2147483648 ≤ a ∧ a ≤ 2147483647) (i5 : 0 ≤ g52 5 ∧ g52 5 ≤ 1) : Sp m_X11_drawn 4 0 0 [.ref 0, .int (iI a)] n h (qR (some (.int (iI (if g52 5 = 1 ∧ 0 ≤ a ∧ a ≤ 63 then g54 a else -1)))) n h) := by
  refine Sp.ofV (by decide +kernel) (Nat.le_of_ble_eq_true rfl) ?_
  refine v_aload_n dX11_drawn_0 rfl ?_
  refine v_get dX11_drawn_1 fl_X11_59 (H0.trans (ent_0 _)) rfl (s_lt hn rfl) ?_
  refine v_iload_n dX11_drawn_4 rfl ?_
  refine v_callV dX11_drawn_5 ml_X11_344 (sp_X9_daysOf (a := a) (g52 := g52) (g54 := g54) hn (show _ = ent 52 g52 from (H52.trans (ent_52 _))) (show _ = ent 54 g54 from (H54.trans (ent_54 _))) (by omega) (by omega)) (H52.trans (ent_52 _)) rfl (s_lt hn rfl) rfl rfl (Nat.le_of_ble_eq_true rfl) (Nat.le_of_ble_eq_true rfl) (Nat.zero_le _) (Nat.zero_le _) ⟨Or.inl (fun _ _ _ q => q.2.1), fun r n1 h1 q2 => ?_⟩
  obtain ⟨rfl, rfl, rfl⟩ := q2
  try dsimp only [s_push]
  exact v_iret dX11_drawn_8 rfl (Nat.zero_le _) (Nat.zero_le _) (by first | exact ⟨(congrArg (fun x => some (Value.int x)) (congrArg iI (by first | rfl | omega | (split <;> first | rfl | omega | (split <;> first | rfl | omega))))), rfl, rfl⟩ | omega)
theorem dX12_drawn_0 : decode cX12_drawn 0 = .ok (.aload_n 0, 1) := by decide +kernel
theorem dX12_drawn_1 : decode cX12_drawn 1 = .ok (.iconst 0, 1) := by decide +kernel
theorem dX12_drawn_2 : decode cX12_drawn 2 = .ok (.putfield 169, 3) := by decide +kernel
theorem dX12_drawn_5 : decode cX12_drawn 5 = .ok (.aload_n 0, 1) := by decide +kernel
theorem dX12_drawn_6 : decode cX12_drawn 6 = .ok (.getfield 632, 3) := by decide +kernel
theorem dX12_drawn_9 : decode cX12_drawn 9 = .ok (.ifCond .eq 19, 3) := by decide +kernel
theorem dX12_drawn_12 : decode cX12_drawn 12 = .ok (.iload_n 1, 1) := by decide +kernel
theorem dX12_drawn_13 : decode cX12_drawn 13 = .ok (.invokestatic 195, 3) := by decide +kernel
theorem dX12_drawn_16 : decode cX12_drawn 16 = .ok (.ifCond .eq 12, 3) := by decide +kernel
theorem dX12_drawn_19 : decode cX12_drawn 19 = .ok (.aload_n 0, 1) := by decide +kernel
theorem dX12_drawn_20 : decode cX12_drawn 20 = .ok (.getfield 166, 3) := by decide +kernel
theorem dX12_drawn_23 : decode cX12_drawn 23 = .ok (.iload_n 1, 1) := by decide +kernel
theorem dX12_drawn_24 : decode cX12_drawn 24 = .ok (.iaload, 1) := by decide +kernel
theorem dX12_drawn_25 : decode cX12_drawn 25 = .ok (.goto 4, 3) := by decide +kernel
theorem dX12_drawn_28 : decode cX12_drawn 28 = .ok (.iconst (-1), 1) := by decide +kernel
theorem dX12_drawn_29 : decode cX12_drawn 29 = .ok (.ireturn, 1) := by decide +kernel
theorem sp_X12_drawn {n : Nat} {h : Nat → sE} {a : Int}  {g77 g114 : Int → Int} (hn : 115 ≤ n) (H77 : h 77 = ent 77 g77) (H114 : h 114 = ent 114 g114) (ra : -2147483648 ≤ a ∧ a ≤ 2147483647) (i5 : 0 ≤ g77 63 ∧ g77 63 ≤ 1) : Sp m_X12_drawn 3 0 0 [.ref 77, .int (iI a)] n h (fun r n' h' => r = some (.int (iI (if g77 63 = 1 ∧ 0 ≤ a ∧ a ≤ 63 then g114 a else -1))) ∧ n' = n ∧ h' 77 = ent 77 ((uI g77 0 0)) ∧ ∀ j, j ≠ 77 → h' j = h j) := by
  refine Sp.ofV (by decide +kernel) (Nat.le_of_ble_eq_true rfl) ?_
  refine v_aload_n dX12_drawn_0 rfl ?_
  refine v_iconstI dX12_drawn_1 ?_
  refine v_put dX12_drawn_2 fl_X12_169 (H77.trans (ent_77 _)) (s_lt hn rfl) (Nat.le_of_ble_eq_true rfl) (fun _ => ⟨rfl, rfl⟩) trivial (fun h1 E2 F3 => ?_)
  refine v_aload_n dX12_drawn_5 rfl ?_
  refine v_get dX12_drawn_6 fl_X12_632 E2 rfl (s_lt hn rfl) ?_
  refine v_if_eqI (tgt := 28) dX12_drawn_9 (by decide) (by omega) (by omega) (fun c_4 => ?_) (fun c_4 => ?_)
  · refine v_iconstI dX12_drawn_28 ?_
    exact v_iret dX12_drawn_29 rfl (Nat.zero_le _) (Nat.zero_le _) (by first | exact ⟨(congrArg (fun x => some (Value.int x)) (congrArg iI (by first | rfl | omega | (split <;> first | rfl | omega | (split <;> first | rfl | omega))))), rfl, (by first | exact (show _ = ent 77 (uI g77 0 0) from E2) | (rw [if_pos (by omega)]; exact (show _ = ent 77 (uI g77 0 0) from E2)) | (rw [if_neg (by omega)]; exact (show _ = ent 77 (uI g77 0 0) from E2))), fun j m77 => (F3 j m77)⟩ | omega)
  · refine v_iload_n dX12_drawn_12 rfl ?_
    refine v_callS dX12_drawn_13 ml_X12_195 (sp_X12_isField (a := a)   (by omega)) rfl rfl (Nat.le_of_ble_eq_true rfl) (Nat.le_of_ble_eq_true rfl) (Nat.zero_le _) (Nat.zero_le _) ⟨Or.inl (fun _ _ _ q => q.2.1), fun r n1 h5 q6 => ?_⟩
    obtain ⟨rfl, rfl, rfl⟩ := q6
    try dsimp only [s_push]
    refine v_ifeqB (tgt := 28) dX12_drawn_16 (by decide) (fun c_7 => ?_) (fun c_7 => ?_)
    · refine v_iconstI dX12_drawn_28 ?_
      exact v_iret dX12_drawn_29 rfl (Nat.zero_le _) (Nat.zero_le _) (by first | exact ⟨(congrArg (fun x => some (Value.int x)) (congrArg iI (by first | rfl | omega | (split <;> first | rfl | omega | (split <;> first | rfl | omega))))), rfl, (by first | exact (show _ = ent 77 (uI g77 0 0) from E2) | (rw [if_pos (by omega)]; exact (show _ = ent 77 (uI g77 0 0) from E2)) | (rw [if_neg (by omega)]; exact (show _ = ent 77 (uI g77 0 0) from E2))), fun j m77 => (F3 j m77)⟩ | omega)
    · refine v_aload_n dX12_drawn_19 rfl ?_
      refine v_get dX12_drawn_20 fl_X12_166 E2 rfl (s_lt hn rfl) ?_
      refine v_iload_n dX12_drawn_23 rfl ?_
      have H8 := ((F3 114 (by decide)).trans (H114.trans (ent_114 _)))
      refine v_ialdI dX12_drawn_24 H8 (s_lt hn rfl) (by omega) (by omega) (by omega) ?_
      refine v_goto (tgt := 29) dX12_drawn_25 (by decide) ?_
      exact v_iret dX12_drawn_29 rfl (Nat.zero_le _) (Nat.zero_le _) (by first | exact ⟨(congrArg (fun x => some (Value.int x)) (congrArg iI (by first | rfl | omega | (split <;> first | rfl | omega | (split <;> first | rfl | omega))))), rfl, (by first | exact (show _ = ent 77 (uI g77 0 0) from E2) | (rw [if_pos (by omega)]; exact (show _ = ent 77 (uI g77 0 0) from E2)) | (rw [if_neg (by omega)]; exact (show _ = ent 77 (uI g77 0 0) from E2))), fun j m77 => (F3 j m77)⟩ | omega)

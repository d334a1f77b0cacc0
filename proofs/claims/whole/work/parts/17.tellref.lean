/-! CALLS THAT TELL: the reference's, by the cells that they change -/
theorem sp_X12_tell_1 {n : Nat} {h : Nat → sE}   {g77 g78 : Int → Int} (hn : 115 ≤ n) (H77 : h 77 = ent 77 g77) (H78 : h 78 = ent 78 g78)  : Sp m_X12_tell 0 0 0 [.ref 77, .int (iI (-1))] n h (fun r n' h' => r = some (.int (iI ((-1)))) ∧ n' = n ∧ h' 77 = ent 77 ((uI g77 1 ((-1)))) ∧ h' 78 = ent 78 (uI (g78) 1 (g78 1 + 1)) ∧ ∀ j, j ≠ 77 → j ≠ 78 → h' j = h j) := by
  refine Sp.ofV (by decide +kernel) (Nat.le_of_ble_eq_true rfl) ?_
  refine v_aload_n dX12_tell_0 rfl ?_
  refine v_iload_n dX12_tell_1 rfl ?_
  refine v_if_geI (tgt := 9) dX12_tell_2 (by decide) (by decide) (by decide) (fun c => absurd c (by decide)) (fun _ => ?_)
  refine v_iload_n dX12_tell_5 rfl ?_
  refine v_goto (tgt := 10) dX12_tell_6 (by decide) ?_
  refine v_put dX12_tell_10 fl_X12_172 (H77.trans (ent_77 _)) (s_lt hn rfl) (Nat.le_of_ble_eq_true rfl) (fun _ => ⟨rfl, rfl⟩) trivial (fun h1 E2 F3 => ?_)
  refine v_iload_n dX12_tell_13 rfl ?_
  refine v_if_geI (tgt := 28) dX12_tell_14 (by decide) (by decide) (by decide) (fun c => absurd c (by decide)) (fun _ => ?_)
  refine v_aload_n dX12_tell_17 rfl ?_
  refine v_get dX12_tell_18 fl_X12_7 E2 rfl (s_lt hn rfl) ?_
  refine v_iload_n dX12_tell_21 rfl ?_
  refine v_inegI dX12_tell_22 ?_
  refine v_dup2 dX12_tell_23 rfl rfl ?_
  have H4 := ((F3 78 (by decide)).trans (H78.trans (ent_78 _)))
  refine v_ialdI dX12_tell_24 H4 (s_lt hn rfl) (by omega) (by omega) (by omega) ?_
  refine v_iconstI dX12_tell_25 ?_
  refine v_iaddI dX12_tell_26 ?_
  refine v_iastI dX12_tell_27 H4 (s_lt hn rfl) (by omega) (by omega) (by omega) (fun h5 E6 F7 => ?_)
  refine v_iload_n dX12_tell_28 rfl ?_
  exact v_iret dX12_tell_29 rfl (Nat.zero_le _) (Nat.zero_le _) (by first | exact ⟨(congrArg (fun x => some (Value.int x)) (congrArg iI (by first | rfl | omega | (split <;> first | rfl | omega | (split <;> first | rfl | omega))))), rfl, (by first | exact (show _ = ent 77 (uI g77 1 (-1)) from ((F7 77 (by decide)).trans E2)) | (rw [if_pos (by omega)]; exact (show _ = ent 77 (uI g77 1 (-1)) from ((F7 77 (by decide)).trans E2))) | (rw [if_neg (by omega)]; exact (show _ = ent 77 (uI g77 1 (-1)) from ((F7 77 (by decide)).trans E2)))), (by first | exact (show _ = ent 78 (uI g78 (-(-1)) ((g78 (-(-1))) + 1)) from E6) | (rw [if_pos (by omega)]; exact (show _ = ent 78 (uI g78 (-(-1)) ((g78 (-(-1))) + 1)) from E6)) | (rw [if_neg (by omega)]; exact (show _ = ent 78 (uI g78 (-(-1)) ((g78 (-(-1))) + 1)) from E6))), fun j m77 m78 => ((F7 j m78).trans (F3 j m77))⟩ | omega)
theorem sp_X12_tell_2 {n : Nat} {h : Nat → sE}   {g77 g78 : Int → Int} (hn : 115 ≤ n) (H77 : h 77 = ent 77 g77) (H78 : h 78 = ent 78 g78)  : Sp m_X12_tell 0 0 0 [.ref 77, .int (iI (-2))] n h (fun r n' h' => r = some (.int (iI ((-2)))) ∧ n' = n ∧ h' 77 = ent 77 ((uI g77 1 ((-2)))) ∧ h' 78 = ent 78 (uI (g78) 2 (g78 2 + 1)) ∧ ∀ j, j ≠ 77 → j ≠ 78 → h' j = h j) := by
  refine Sp.ofV (by decide +kernel) (Nat.le_of_ble_eq_true rfl) ?_
  refine v_aload_n dX12_tell_0 rfl ?_
  refine v_iload_n dX12_tell_1 rfl ?_
  refine v_if_geI (tgt := 9) dX12_tell_2 (by decide) (by decide) (by decide) (fun c => absurd c (by decide)) (fun _ => ?_)
  refine v_iload_n dX12_tell_5 rfl ?_
  refine v_goto (tgt := 10) dX12_tell_6 (by decide) ?_
  refine v_put dX12_tell_10 fl_X12_172 (H77.trans (ent_77 _)) (s_lt hn rfl) (Nat.le_of_ble_eq_true rfl) (fun _ => ⟨rfl, rfl⟩) trivial (fun h1 E2 F3 => ?_)
  refine v_iload_n dX12_tell_13 rfl ?_
  refine v_if_geI (tgt := 28) dX12_tell_14 (by decide) (by decide) (by decide) (fun c => absurd c (by decide)) (fun _ => ?_)
  refine v_aload_n dX12_tell_17 rfl ?_
  refine v_get dX12_tell_18 fl_X12_7 E2 rfl (s_lt hn rfl) ?_
  refine v_iload_n dX12_tell_21 rfl ?_
  refine v_inegI dX12_tell_22 ?_
  refine v_dup2 dX12_tell_23 rfl rfl ?_
  have H4 := ((F3 78 (by decide)).trans (H78.trans (ent_78 _)))
  refine v_ialdI dX12_tell_24 H4 (s_lt hn rfl) (by omega) (by omega) (by omega) ?_
  refine v_iconstI dX12_tell_25 ?_
  refine v_iaddI dX12_tell_26 ?_
  refine v_iastI dX12_tell_27 H4 (s_lt hn rfl) (by omega) (by omega) (by omega) (fun h5 E6 F7 => ?_)
  refine v_iload_n dX12_tell_28 rfl ?_
  exact v_iret dX12_tell_29 rfl (Nat.zero_le _) (Nat.zero_le _) (by first | exact ⟨(congrArg (fun x => some (Value.int x)) (congrArg iI (by first | rfl | omega | (split <;> first | rfl | omega | (split <;> first | rfl | omega))))), rfl, (by first | exact (show _ = ent 77 (uI g77 1 (-2)) from ((F7 77 (by decide)).trans E2)) | (rw [if_pos (by omega)]; exact (show _ = ent 77 (uI g77 1 (-2)) from ((F7 77 (by decide)).trans E2))) | (rw [if_neg (by omega)]; exact (show _ = ent 77 (uI g77 1 (-2)) from ((F7 77 (by decide)).trans E2)))), (by first | exact (show _ = ent 78 (uI g78 (-(-2)) ((g78 (-(-2))) + 1)) from E6) | (rw [if_pos (by omega)]; exact (show _ = ent 78 (uI g78 (-(-2)) ((g78 (-(-2))) + 1)) from E6)) | (rw [if_neg (by omega)]; exact (show _ = ent 78 (uI g78 (-(-2)) ((g78 (-(-2))) + 1)) from E6))), fun j m77 m78 => ((F7 j m78).trans (F3 j m77))⟩ | omega)
theorem sp_X12_tell_3 {n : Nat} {h : Nat → sE}   {g77 g78 : Int → Int} (hn : 115 ≤ n) (H77 : h 77 = ent 77 g77) (H78 : h 78 = ent 78 g78)  : Sp m_X12_tell 0 0 0 [.ref 77, .int (iI (-3))] n h (fun r n' h' => r = some (.int (iI ((-3)))) ∧ n' = n ∧ h' 77 = ent 77 ((uI g77 1 ((-3)))) ∧ h' 78 = ent 78 (uI (g78) 3 (g78 3 + 1)) ∧ ∀ j, j ≠ 77 → j ≠ 78 → h' j = h j) := by
  refine Sp.ofV (by decide +kernel) (Nat.le_of_ble_eq_true rfl) ?_
  refine v_aload_n dX12_tell_0 rfl ?_
  refine v_iload_n dX12_tell_1 rfl ?_
  refine v_if_geI (tgt := 9) dX12_tell_2 (by decide) (by decide) (by decide) (fun c => absurd c (by decide)) (fun _ => ?_)
  refine v_iload_n dX12_tell_5 rfl ?_
  refine v_goto (tgt := 10) dX12_tell_6 (by decide) ?_
  refine v_put dX12_tell_10 fl_X12_172 (H77.trans (ent_77 _)) (s_lt hn rfl) (Nat.le_of_ble_eq_true rfl) (fun _ => ⟨rfl, rfl⟩) trivial (fun h1 E2 F3 => ?_)
  refine v_iload_n dX12_tell_13 rfl ?_
  refine v_if_geI (tgt := 28) dX12_tell_14 (by decide) (by decide) (by decide) (fun c => absurd c (by decide)) (fun _ => ?_)
  refine v_aload_n dX12_tell_17 rfl ?_
  refine v_get dX12_tell_18 fl_X12_7 E2 rfl (s_lt hn rfl) ?_
  refine v_iload_n dX12_tell_21 rfl ?_
  refine v_inegI dX12_tell_22 ?_
  refine v_dup2 dX12_tell_23 rfl rfl ?_
  have H4 := ((F3 78 (by decide)).trans (H78.trans (ent_78 _)))
  refine v_ialdI dX12_tell_24 H4 (s_lt hn rfl) (by omega) (by omega) (by omega) ?_
  refine v_iconstI dX12_tell_25 ?_
  refine v_iaddI dX12_tell_26 ?_
  refine v_iastI dX12_tell_27 H4 (s_lt hn rfl) (by omega) (by omega) (by omega) (fun h5 E6 F7 => ?_)
  refine v_iload_n dX12_tell_28 rfl ?_
  exact v_iret dX12_tell_29 rfl (Nat.zero_le _) (Nat.zero_le _) (by first | exact ⟨(congrArg (fun x => some (Value.int x)) (congrArg iI (by first | rfl | omega | (split <;> first | rfl | omega | (split <;> first | rfl | omega))))), rfl, (by first | exact (show _ = ent 77 (uI g77 1 (-3)) from ((F7 77 (by decide)).trans E2)) | (rw [if_pos (by omega)]; exact (show _ = ent 77 (uI g77 1 (-3)) from ((F7 77 (by decide)).trans E2))) | (rw [if_neg (by omega)]; exact (show _ = ent 77 (uI g77 1 (-3)) from ((F7 77 (by decide)).trans E2)))), (by first | exact (show _ = ent 78 (uI g78 (-(-3)) ((g78 (-(-3))) + 1)) from E6) | (rw [if_pos (by omega)]; exact (show _ = ent 78 (uI g78 (-(-3)) ((g78 (-(-3))) + 1)) from E6)) | (rw [if_neg (by omega)]; exact (show _ = ent 78 (uI g78 (-(-3)) ((g78 (-(-3))) + 1)) from E6))), fun j m77 m78 => ((F7 j m78).trans (F3 j m77))⟩ | omega)
theorem sp_X12_tell_5 {n : Nat} {h : Nat → sE}   {g77 g78 : Int → Int} (hn : 115 ≤ n) (H77 : h 77 = ent 77 g77) (H78 : h 78 = ent 78 g78)  : Sp m_X12_tell 0 0 0 [.ref 77, .int (iI (-5))] n h (fun r n' h' => r = some (.int (iI ((-5)))) ∧ n' = n ∧ h' 77 = ent 77 ((uI g77 1 ((-5)))) ∧ h' 78 = ent 78 (uI (g78) 5 (g78 5 + 1)) ∧ ∀ j, j ≠ 77 → j ≠ 78 → h' j = h j) := by
  refine Sp.ofV (by decide +kernel) (Nat.le_of_ble_eq_true rfl) ?_
  refine v_aload_n dX12_tell_0 rfl ?_
  refine v_iload_n dX12_tell_1 rfl ?_
  refine v_if_geI (tgt := 9) dX12_tell_2 (by decide) (by decide) (by decide) (fun c => absurd c (by decide)) (fun _ => ?_)
  refine v_iload_n dX12_tell_5 rfl ?_
  refine v_goto (tgt := 10) dX12_tell_6 (by decide) ?_
  refine v_put dX12_tell_10 fl_X12_172 (H77.trans (ent_77 _)) (s_lt hn rfl) (Nat.le_of_ble_eq_true rfl) (fun _ => ⟨rfl, rfl⟩) trivial (fun h1 E2 F3 => ?_)
  refine v_iload_n dX12_tell_13 rfl ?_
  refine v_if_geI (tgt := 28) dX12_tell_14 (by decide) (by decide) (by decide) (fun c => absurd c (by decide)) (fun _ => ?_)
  refine v_aload_n dX12_tell_17 rfl ?_
  refine v_get dX12_tell_18 fl_X12_7 E2 rfl (s_lt hn rfl) ?_
  refine v_iload_n dX12_tell_21 rfl ?_
  refine v_inegI dX12_tell_22 ?_
  refine v_dup2 dX12_tell_23 rfl rfl ?_
  have H4 := ((F3 78 (by decide)).trans (H78.trans (ent_78 _)))
  refine v_ialdI dX12_tell_24 H4 (s_lt hn rfl) (by omega) (by omega) (by omega) ?_
  refine v_iconstI dX12_tell_25 ?_
  refine v_iaddI dX12_tell_26 ?_
  refine v_iastI dX12_tell_27 H4 (s_lt hn rfl) (by omega) (by omega) (by omega) (fun h5 E6 F7 => ?_)
  refine v_iload_n dX12_tell_28 rfl ?_
  exact v_iret dX12_tell_29 rfl (Nat.zero_le _) (Nat.zero_le _) (by first | exact ⟨(congrArg (fun x => some (Value.int x)) (congrArg iI (by first | rfl | omega | (split <;> first | rfl | omega | (split <;> first | rfl | omega))))), rfl, (by first | exact (show _ = ent 77 (uI g77 1 (-5)) from ((F7 77 (by decide)).trans E2)) | (rw [if_pos (by omega)]; exact (show _ = ent 77 (uI g77 1 (-5)) from ((F7 77 (by decide)).trans E2))) | (rw [if_neg (by omega)]; exact (show _ = ent 77 (uI g77 1 (-5)) from ((F7 77 (by decide)).trans E2)))), (by first | exact (show _ = ent 78 (uI g78 (-(-5)) ((g78 (-(-5))) + 1)) from E6) | (rw [if_pos (by omega)]; exact (show _ = ent 78 (uI g78 (-(-5)) ((g78 (-(-5))) + 1)) from E6)) | (rw [if_neg (by omega)]; exact (show _ = ent 78 (uI g78 (-(-5)) ((g78 (-(-5))) + 1)) from E6))), fun j m77 m78 => ((F7 j m78).trans (F3 j m77))⟩ | omega)
theorem sp_X12_tell_6 {n : Nat} {h : Nat → sE}   {g77 g78 : Int → Int} (hn : 115 ≤ n) (H77 : h 77 = ent 77 g77) (H78 : h 78 = ent 78 g78)  : Sp m_X12_tell 0 0 0 [.ref 77, .int (iI (-6))] n h (fun r n' h' => r = some (.int (iI ((-6)))) ∧ n' = n ∧ h' 77 = ent 77 ((uI g77 1 ((-6)))) ∧ h' 78 = ent 78 (uI (g78) 6 (g78 6 + 1)) ∧ ∀ j, j ≠ 77 → j ≠ 78 → h' j = h j) := by
  refine Sp.ofV (by decide +kernel) (Nat.le_of_ble_eq_true rfl) ?_
  refine v_aload_n dX12_tell_0 rfl ?_
  refine v_iload_n dX12_tell_1 rfl ?_
  refine v_if_geI (tgt := 9) dX12_tell_2 (by decide) (by decide) (by decide) (fun c => absurd c (by decide)) (fun _ => ?_)
  refine v_iload_n dX12_tell_5 rfl ?_
  refine v_goto (tgt := 10) dX12_tell_6 (by decide) ?_
  refine v_put dX12_tell_10 fl_X12_172 (H77.trans (ent_77 _)) (s_lt hn rfl) (Nat.le_of_ble_eq_true rfl) (fun _ => ⟨rfl, rfl⟩) trivial (fun h1 E2 F3 => ?_)
  refine v_iload_n dX12_tell_13 rfl ?_
  refine v_if_geI (tgt := 28) dX12_tell_14 (by decide) (by decide) (by decide) (fun c => absurd c (by decide)) (fun _ => ?_)
  refine v_aload_n dX12_tell_17 rfl ?_
  refine v_get dX12_tell_18 fl_X12_7 E2 rfl (s_lt hn rfl) ?_
  refine v_iload_n dX12_tell_21 rfl ?_
  refine v_inegI dX12_tell_22 ?_
  refine v_dup2 dX12_tell_23 rfl rfl ?_
  have H4 := ((F3 78 (by decide)).trans (H78.trans (ent_78 _)))
  refine v_ialdI dX12_tell_24 H4 (s_lt hn rfl) (by omega) (by omega) (by omega) ?_
  refine v_iconstI dX12_tell_25 ?_
  refine v_iaddI dX12_tell_26 ?_
  refine v_iastI dX12_tell_27 H4 (s_lt hn rfl) (by omega) (by omega) (by omega) (fun h5 E6 F7 => ?_)
  refine v_iload_n dX12_tell_28 rfl ?_
  exact v_iret dX12_tell_29 rfl (Nat.zero_le _) (Nat.zero_le _) (by first | exact ⟨(congrArg (fun x => some (Value.int x)) (congrArg iI (by first | rfl | omega | (split <;> first | rfl | omega | (split <;> first | rfl | omega))))), rfl, (by first | exact (show _ = ent 77 (uI g77 1 (-6)) from ((F7 77 (by decide)).trans E2)) | (rw [if_pos (by omega)]; exact (show _ = ent 77 (uI g77 1 (-6)) from ((F7 77 (by decide)).trans E2))) | (rw [if_neg (by omega)]; exact (show _ = ent 77 (uI g77 1 (-6)) from ((F7 77 (by decide)).trans E2)))), (by first | exact (show _ = ent 78 (uI g78 (-(-6)) ((g78 (-(-6))) + 1)) from E6) | (rw [if_pos (by omega)]; exact (show _ = ent 78 (uI g78 (-(-6)) ((g78 (-(-6))) + 1)) from E6)) | (rw [if_neg (by omega)]; exact (show _ = ent 78 (uI g78 (-(-6)) ((g78 (-(-6))) + 1)) from E6))), fun j m77 m78 => ((F7 j m78).trans (F3 j m77))⟩ | omega)
theorem sp_X12_tell_p {n : Nat} {h : Nat → sE} {a : Int}  {g77 : Int → Int} (hn : 115 ≤ n) (H77 : h 77 = ent 77 g77) (ra : 0 ≤ a ∧ a ≤ 2147483647) : Sp m_X12_tell 0 0 0 [.ref 77, .int (iI a)] n h (fun r n' h' => r = some (.int (iI (a))) ∧ n' = n ∧ h' 77 = ent 77 ((uI g77 1 0)) ∧ ∀ j, j ≠ 77 → h' j = h j) := by
  refine Sp.ofV (by decide +kernel) (Nat.le_of_ble_eq_true rfl) ?_
  refine v_aload_n dX12_tell_0 rfl ?_
  refine v_iload_n dX12_tell_1 rfl ?_
  refine v_if_geI (tgt := 9) dX12_tell_2 (by decide) (by omega) (by omega) (fun c_1 => ?_) (fun c => absurd c (by omega))
  refine v_iconstI dX12_tell_9 ?_
  refine v_put dX12_tell_10 fl_X12_172 (H77.trans (ent_77 _)) (s_lt hn rfl) (Nat.le_of_ble_eq_true rfl) (fun _ => ⟨rfl, rfl⟩) trivial (fun h2 E3 F4 => ?_)
  refine v_iload_n dX12_tell_13 rfl ?_
  refine v_if_geI (tgt := 28) dX12_tell_14 (by decide) (by omega) (by omega) (fun c_5 => ?_) (fun c => absurd c (by omega))
  refine v_iload_n dX12_tell_28 rfl ?_
  exact v_iret dX12_tell_29 rfl (Nat.zero_le _) (Nat.zero_le _) (by first | exact ⟨(congrArg (fun x => some (Value.int x)) (congrArg iI (by first | rfl | omega | (split <;> first | rfl | omega | (split <;> first | rfl | omega))))), rfl, (by first | exact (show _ = ent 77 (uI g77 1 0) from E3) | (rw [if_pos (by omega)]; exact (show _ = ent 77 (uI g77 1 0) from E3)) | (rw [if_neg (by omega)]; exact (show _ = ent 77 (uI g77 1 0) from E3))), fun j m77 => (F4 j m77)⟩ | omega)
theorem dX12_put_0 : decode cX12_put 0 = .ok (.aload_n 0, 1) := by decide +kernel
theorem dX12_put_1 : decode cX12_put 1 = .ok (.iconst 0, 1) := by decide +kernel
theorem dX12_put_2 : decode cX12_put 2 = .ok (.putfield 169, 3) := by decide +kernel
theorem dX12_put_5 : decode cX12_put 5 = .ok (.iload_n 2, 1) := by decide +kernel
theorem dX12_put_6 : decode cX12_put 6 = .ok (.ifCond .ne 15, 3) := by decide +kernel
theorem dX12_put_9 : decode cX12_put 9 = .ok (.iload_n 3, 1) := by decide +kernel
theorem dX12_put_10 : decode cX12_put 10 = .ok (.i2l, 1) := by decide +kernel
theorem dX12_put_11 : decode cX12_put 11 = .ok (.lconst 0, 1) := by decide +kernel
theorem dX12_put_12 : decode cX12_put 12 = .ok (.ldc2_w 191, 3) := by decide +kernel
theorem dX12_put_15 : decode cX12_put 15 = .ok (.invokestatic 175, 3) := by decide +kernel
theorem dX12_put_18 : decode cX12_put 18 = .ok (.goto 40, 3) := by decide +kernel
theorem dX12_put_21 : decode cX12_put 21 = .ok (.iload_n 2, 1) := by decide +kernel
theorem dX12_put_22 : decode cX12_put 22 = .ok (.iconst 1, 1) := by decide +kernel
theorem dX12_put_23 : decode cX12_put 23 = .ok (.if_icmp .ne 15, 3) := by decide +kernel
theorem dX12_put_26 : decode cX12_put 26 = .ok (.iload_n 3, 1) := by decide +kernel
theorem dX12_put_27 : decode cX12_put 27 = .ok (.i2l, 1) := by decide +kernel
theorem dX12_put_28 : decode cX12_put 28 = .ok (.lconst 1, 1) := by decide +kernel
theorem dX12_put_29 : decode cX12_put 29 = .ok (.ldc2_w 193, 3) := by decide +kernel
theorem dX12_put_32 : decode cX12_put 32 = .ok (.invokestatic 175, 3) := by decide +kernel
theorem dX12_put_35 : decode cX12_put 35 = .ok (.goto 23, 3) := by decide +kernel
theorem dX12_put_38 : decode cX12_put 38 = .ok (.iload_n 2, 1) := by decide +kernel
theorem dX12_put_39 : decode cX12_put 39 = .ok (.iconst 2, 1) := by decide +kernel
theorem dX12_put_40 : decode cX12_put 40 = .ok (.if_icmp .ne 17, 3) := by decide +kernel
theorem dX12_put_43 : decode cX12_put 43 = .ok (.iload_n 3, 1) := by decide +kernel
theorem dX12_put_44 : decode cX12_put 44 = .ok (.i2l, 1) := by decide +kernel
theorem dX12_put_45 : decode cX12_put 45 = .ok (.lconst 0, 1) := by decide +kernel
theorem dX12_put_46 : decode cX12_put 46 = .ok (.lconst 1, 1) := by decide +kernel
theorem dX12_put_47 : decode cX12_put 47 = .ok (.invokestatic 175, 3) := by decide +kernel
theorem dX12_put_50 : decode cX12_put 50 = .ok (.ifCond .eq 7, 3) := by decide +kernel
theorem dX12_put_53 : decode cX12_put 53 = .ok (.iconst 1, 1) := by decide +kernel
theorem dX12_put_54 : decode cX12_put 54 = .ok (.goto 4, 3) := by decide +kernel
theorem dX12_put_57 : decode cX12_put 57 = .ok (.iconst 0, 1) := by decide +kernel
theorem dX12_put_58 : decode cX12_put 58 = .ok (.istore 4, 2) := by decide +kernel
theorem dX12_put_60 : decode cX12_put 60 = .ok (.iload_n 1, 1) := by decide +kernel
theorem dX12_put_61 : decode cX12_put 61 = .ok (.invokestatic 195, 3) := by decide +kernel
theorem dX12_put_64 : decode cX12_put 64 = .ok (.ifCond .eq 24, 3) := by decide +kernel
theorem dX12_put_67 : decode cX12_put 67 = .ok (.iload 4, 2) := by decide +kernel
theorem dX12_put_69 : decode cX12_put 69 = .ok (.ifCond .eq 19, 3) := by decide +kernel
theorem dX12_put_72 : decode cX12_put 72 = .ok (.aload_n 0, 1) := by decide +kernel
theorem dX12_put_73 : decode cX12_put 73 = .ok (.bipush 40, 2) := by decide +kernel
theorem dX12_put_75 : decode cX12_put 75 = .ok (.iconst 3, 1) := by decide +kernel
theorem dX12_put_76 : decode cX12_put 76 = .ok (.iload_n 1, 1) := by decide +kernel
theorem dX12_put_77 : decode cX12_put 77 = .ok (.imul, 1) := by decide +kernel
theorem dX12_put_78 : decode cX12_put 78 = .ok (.iadd, 1) := by decide +kernel
theorem dX12_put_79 : decode cX12_put 79 = .ok (.iload_n 2, 1) := by decide +kernel
theorem dX12_put_80 : decode cX12_put 80 = .ok (.iadd, 1) := by decide +kernel
theorem dX12_put_81 : decode cX12_put 81 = .ok (.iload_n 3, 1) := by decide +kernel
theorem dX12_put_82 : decode cX12_put 82 = .ok (.invokevirtual 199, 3) := by decide +kernel
theorem dX12_put_85 : decode cX12_put 85 = .ok (.goto 8, 3) := by decide +kernel
theorem dX12_put_88 : decode cX12_put 88 = .ok (.aload_n 0, 1) := by decide +kernel
theorem dX12_put_89 : decode cX12_put 89 = .ok (.iconst (-1), 1) := by decide +kernel
theorem dX12_put_90 : decode cX12_put 90 = .ok (.invokevirtual 179, 3) := by decide +kernel
theorem dX12_put_93 : decode cX12_put 93 = .ok (.ireturn, 1) := by decide +kernel
theorem sp_X12_put {n : Nat} {h : Nat → sE} {a b v : Int}  {g77 g79 g78 : Int → Int} (hn : 115 ≤ n) (H77 : h 77 = ent 77 g77) (H79 : h 79 = ent 79 g79) (H78 : h 78 = ent 78 g78) (ra : -2147483648 ≤ a ∧ a ≤ 2147483647) (rb : -2147483648 ≤ b ∧ b ≤ 2147483647) (rv : -2147483648 ≤ v ∧ v ≤ 2147483647) : Sp m_X12_put 3 0 0 [.ref 77, .int (iI a), .int (iI b), .int (iI v)] n h (fun r n' h' => r = some (.int (iI (if 0 ≤ a ∧ a ≤ 63 ∧ ((b = 0 ∧ 0 ≤ v ∧ v ≤ 99) ∨ (b = 1 ∧ 1 ≤ v ∧ v ≤ 999) ∨ (b = 2 ∧ 0 ≤ v ∧ v ≤ 1)) then g79 (40 + 3 * a + b) else -1))) ∧ n' = n ∧ h' 79 = ent 79 (if 0 ≤ a ∧ a ≤ 63 ∧ ((b = 0 ∧ 0 ≤ v ∧ v ≤ 99) ∨ (b = 1 ∧ 1 ≤ v ∧ v ≤ 999) ∨ (b = 2 ∧ 0 ≤ v ∧ v ≤ 1)) then uI (g79) (40 + 3 * a + b) v else g79) ∧ h' 78 = ent 78 (if 0 ≤ a ∧ a ≤ 63 ∧ ((b = 0 ∧ 0 ≤ v ∧ v ≤ 99) ∨ (b = 1 ∧ 1 ≤ v ∧ v ≤ 999) ∨ (b = 2 ∧ 0 ≤ v ∧ v ≤ 1)) then g78 else uI (g78) 1 (g78 1 + 1)) ∧ h' 77 = ent 77 ((uI (uI g77 0 0) 1 (if 0 ≤ a ∧ a ≤ 63 ∧ ((b = 0 ∧ 0 ≤ v ∧ v ≤ 99) ∨ (b = 1 ∧ 1 ≤ v ∧ v ≤ 999) ∨ (b = 2 ∧ 0 ≤ v ∧ v ≤ 1)) then 0 else -1))) ∧ ∀ j, j ≠ 79 → j ≠ 78 → j ≠ 77 → h' j = h j) := by
  refine Sp.ofV (by decide +kernel) (Nat.le_of_ble_eq_true rfl) ?_
  refine v_aload_n dX12_put_0 rfl ?_
  refine v_iconstI dX12_put_1 ?_
  refine v_put dX12_put_2 fl_X12_169 (H77.trans (ent_77 _)) (s_lt hn rfl) (Nat.le_of_ble_eq_true rfl) (fun _ => ⟨rfl, rfl⟩) trivial (fun h1 E2 F3 => ?_)
  refine v_iload_n dX12_put_5 rfl ?_
  refine v_if_neI (tgt := 21) dX12_put_6 (by decide) (by omega) (by omega) (fun c_4 => ?_) (fun c_4 => ?_)
  · refine v_iload_n dX12_put_21 rfl ?_
    refine v_iconstI dX12_put_22 ?_
    refine v_icmp_neI (tgt := 38) dX12_put_23 (by decide) (by omega) (by omega) (by omega) (by omega) (fun c_5 => ?_) (fun c_5 => ?_)
    · refine v_iload_n dX12_put_38 rfl ?_
      refine v_iconstI dX12_put_39 ?_
      refine v_icmp_neI (tgt := 57) dX12_put_40 (by decide) (by omega) (by omega) (by omega) (by omega) (fun c_6 => ?_) (fun c_6 => ?_)
      · refine v_iconstI dX12_put_57 ?_
        refine v_istore dX12_put_58 (Nat.le_of_ble_eq_true rfl) ?_
        refine v_iload_n dX12_put_60 rfl ?_
        refine v_callS dX12_put_61 ml_X12_195 (sp_X12_isField (a := a)   (by omega)) rfl rfl (Nat.le_of_ble_eq_true rfl) (Nat.le_of_ble_eq_true rfl) (Nat.zero_le _) (Nat.zero_le _) ⟨Or.inl (fun _ _ _ q => q.2.1), fun r n1 h7 q8 => ?_⟩
        obtain ⟨rfl, rfl, rfl⟩ := q8
        try dsimp only [s_push]
        refine v_ifeqB (tgt := 88) dX12_put_64 (by decide) (fun c_9 => ?_) (fun c_9 => ?_)
        · refine v_aload_n dX12_put_88 rfl ?_
          refine v_iconstI dX12_put_89 ?_
          have H10 := ((F3 78 (by decide)).trans (H78.trans (ent_78 _)))
          refine v_callV dX12_put_90 ml_X12_179 (sp_X12_tell_1  (g77 := (uI g77 0 0)) (g78 := g78) hn (show _ = ent 77 (uI g77 0 0) from E2) (show _ = ent 78 g78 from H10)) E2 rfl (s_lt hn rfl) rfl rfl (Nat.le_of_ble_eq_true rfl) (Nat.le_of_ble_eq_true rfl) (Nat.zero_le _) (Nat.zero_le _) ⟨Or.inl (fun _ _ _ q => q.2.1), fun r n1 h11 q12 => ?_⟩
          obtain ⟨rfl, rfl, E13, E14, F15⟩ := q12
          dsimp only [s_push]
          have E16 : _ = (.inr (12, [.int (iI 0), .int (iI ((-1))), .ref 78, .ref 79, .ref 80, .ref 81, .int (iI (g77 6)), .ref 82, .int (iI (g77 8)), .int (iI (g77 9)), .int (iI (g77 10)), .int (iI (g77 11)), .long (jJ (g77 12)), .int (iI (g77 13)), .int (iI (g77 14)), .int (iI (g77 15)), .int (iI (g77 16)), .ref 83, .int (iI (g77 18)), .ref 84, .ref 85, .int (iI (g77 21)), .ref 86, .ref 87, .int (iI (g77 24)), .int (iI (g77 25)), .ref 88, .ref 89, .ref 90, .int (iI (g77 29)), .ref 91, .ref 92, .ref 93, .int (iI (g77 33)), .long (jJ (g77 34)), .long (jJ (g77 35)), .ref 94, .ref 95, .ref 96, .ref 97, .ref 98, .ref 99, .ref 100, .ref 101, .ref 102, .ref 103, .ref 104, .ref 105, .ref 106, .ref 107, .int (iI (g77 50)), .ref 108, .ref 109, .ref 110, .ref 111, .ref 112, .ref 113, .int (iI (g77 57)), .int (iI (g77 58)), .int (iI (g77 59)), .int (iI (g77 60)), .long (jJ (g77 61)), .ref 114, .int (iI (g77 63))]) : sE) := E13
          exact v_iret dX12_put_93 rfl (Nat.zero_le _) (Nat.zero_le _) (by first | exact ⟨(congrArg (fun x => some (Value.int x)) (congrArg iI (by first | rfl | omega | (split <;> first | rfl | omega | (split <;> first | rfl | omega))))), rfl, (by first | exact (show _ = ent 79 g79 from ((F15 79 (by decide) (by decide)).trans ((F3 79 (by decide)).trans (H79.trans (ent_79 _))))) | (rw [if_pos (show 0 ≤ a ∧ a ≤ 63 ∧ ((b = 0 ∧ 0 ≤ v ∧ v ≤ 99) ∨ (b = 1 ∧ 1 ≤ v ∧ v ≤ 999) ∨ (b = 2 ∧ 0 ≤ v ∧ v ≤ 1)) by omega)]; exact (show _ = ent 79 g79 from ((F15 79 (by decide) (by decide)).trans ((F3 79 (by decide)).trans (H79.trans (ent_79 _)))))) | (rw [if_neg (show ¬ (0 ≤ a ∧ a ≤ 63 ∧ ((b = 0 ∧ 0 ≤ v ∧ v ≤ 99) ∨ (b = 1 ∧ 1 ≤ v ∧ v ≤ 999) ∨ (b = 2 ∧ 0 ≤ v ∧ v ≤ 1))) by omega)]; exact (show _ = ent 79 g79 from ((F15 79 (by decide) (by decide)).trans ((F3 79 (by decide)).trans (H79.trans (ent_79 _))))))), (by first | exact (show _ = ent 78 (uI (g78) 1 (g78 1 + 1)) from (E14.trans (ent_78 _))) | (rw [if_pos (show 0 ≤ a ∧ a ≤ 63 ∧ ((b = 0 ∧ 0 ≤ v ∧ v ≤ 99) ∨ (b = 1 ∧ 1 ≤ v ∧ v ≤ 999) ∨ (b = 2 ∧ 0 ≤ v ∧ v ≤ 1)) by omega)]; exact (show _ = ent 78 (uI (g78) 1 (g78 1 + 1)) from (E14.trans (ent_78 _)))) | (rw [if_neg (show ¬ (0 ≤ a ∧ a ≤ 63 ∧ ((b = 0 ∧ 0 ≤ v ∧ v ≤ 99) ∨ (b = 1 ∧ 1 ≤ v ∧ v ≤ 999) ∨ (b = 2 ∧ 0 ≤ v ∧ v ≤ 1))) by omega)]; exact (show _ = ent 78 (uI (g78) 1 (g78 1 + 1)) from (E14.trans (ent_78 _))))), (by first | exact (show _ = ent 77 ((uI (uI g77 0 0) 1 ((-1)))) from E16) | (rw [if_pos (show 0 ≤ a ∧ a ≤ 63 ∧ ((b = 0 ∧ 0 ≤ v ∧ v ≤ 99) ∨ (b = 1 ∧ 1 ≤ v ∧ v ≤ 999) ∨ (b = 2 ∧ 0 ≤ v ∧ v ≤ 1)) by omega)]; exact (show _ = ent 77 ((uI (uI g77 0 0) 1 ((-1)))) from E16)) | (rw [if_neg (show ¬ (0 ≤ a ∧ a ≤ 63 ∧ ((b = 0 ∧ 0 ≤ v ∧ v ≤ 99) ∨ (b = 1 ∧ 1 ≤ v ∧ v ≤ 999) ∨ (b = 2 ∧ 0 ≤ v ∧ v ≤ 1))) by omega)]; exact (show _ = ent 77 ((uI (uI g77 0 0) 1 ((-1)))) from E16))), fun j m79 m78 m77 => ((F15 j m77 m78).trans (F3 j m77))⟩ | omega)
        · refine v_iload dX12_put_67 rfl ?_
          refine v_if_eqI (tgt := 88) dX12_put_69 (by decide) (by decide) (by decide) (fun _ => ?_) (fun c => absurd c (by decide))
          refine v_aload_n dX12_put_88 rfl ?_
          refine v_iconstI dX12_put_89 ?_
          have H17 := ((F3 78 (by decide)).trans (H78.trans (ent_78 _)))
          refine v_callV dX12_put_90 ml_X12_179 (sp_X12_tell_1  (g77 := (uI g77 0 0)) (g78 := g78) hn (show _ = ent 77 (uI g77 0 0) from E2) (show _ = ent 78 g78 from H17)) E2 rfl (s_lt hn rfl) rfl rfl (Nat.le_of_ble_eq_true rfl) (Nat.le_of_ble_eq_true rfl) (Nat.zero_le _) (Nat.zero_le _) ⟨Or.inl (fun _ _ _ q => q.2.1), fun r n1 h18 q19 => ?_⟩
          obtain ⟨rfl, rfl, E20, E21, F22⟩ := q19
          dsimp only [s_push]
          have E23 : _ = (.inr (12, [.int (iI 0), .int (iI ((-1))), .ref 78, .ref 79, .ref 80, .ref 81, .int (iI (g77 6)), .ref 82, .int (iI (g77 8)), .int (iI (g77 9)), .int (iI (g77 10)), .int (iI (g77 11)), .long (jJ (g77 12)), .int (iI (g77 13)), .int (iI (g77 14)), .int (iI (g77 15)), .int (iI (g77 16)), .ref 83, .int (iI (g77 18)), .ref 84, .ref 85, .int (iI (g77 21)), .ref 86, .ref 87, .int (iI (g77 24)), .int (iI (g77 25)), .ref 88, .ref 89, .ref 90, .int (iI (g77 29)), .ref 91, .ref 92, .ref 93, .int (iI (g77 33)), .long (jJ (g77 34)), .long (jJ (g77 35)), .ref 94, .ref 95, .ref 96, .ref 97, .ref 98, .ref 99, .ref 100, .ref 101, .ref 102, .ref 103, .ref 104, .ref 105, .ref 106, .ref 107, .int (iI (g77 50)), .ref 108, .ref 109, .ref 110, .ref 111, .ref 112, .ref 113, .int (iI (g77 57)), .int (iI (g77 58)), .int (iI (g77 59)), .int (iI (g77 60)), .long (jJ (g77 61)), .ref 114, .int (iI (g77 63))]) : sE) := E20
          exact v_iret dX12_put_93 rfl (Nat.zero_le _) (Nat.zero_le _) (by first | exact ⟨(congrArg (fun x => some (Value.int x)) (congrArg iI (by first | rfl | omega | (split <;> first | rfl | omega | (split <;> first | rfl | omega))))), rfl, (by first | exact (show _ = ent 79 g79 from ((F22 79 (by decide) (by decide)).trans ((F3 79 (by decide)).trans (H79.trans (ent_79 _))))) | (rw [if_pos (show 0 ≤ a ∧ a ≤ 63 ∧ ((b = 0 ∧ 0 ≤ v ∧ v ≤ 99) ∨ (b = 1 ∧ 1 ≤ v ∧ v ≤ 999) ∨ (b = 2 ∧ 0 ≤ v ∧ v ≤ 1)) by omega)]; exact (show _ = ent 79 g79 from ((F22 79 (by decide) (by decide)).trans ((F3 79 (by decide)).trans (H79.trans (ent_79 _)))))) | (rw [if_neg (show ¬ (0 ≤ a ∧ a ≤ 63 ∧ ((b = 0 ∧ 0 ≤ v ∧ v ≤ 99) ∨ (b = 1 ∧ 1 ≤ v ∧ v ≤ 999) ∨ (b = 2 ∧ 0 ≤ v ∧ v ≤ 1))) by omega)]; exact (show _ = ent 79 g79 from ((F22 79 (by decide) (by decide)).trans ((F3 79 (by decide)).trans (H79.trans (ent_79 _))))))), (by first | exact (show _ = ent 78 (uI (g78) 1 (g78 1 + 1)) from (E21.trans (ent_78 _))) | (rw [if_pos (show 0 ≤ a ∧ a ≤ 63 ∧ ((b = 0 ∧ 0 ≤ v ∧ v ≤ 99) ∨ (b = 1 ∧ 1 ≤ v ∧ v ≤ 999) ∨ (b = 2 ∧ 0 ≤ v ∧ v ≤ 1)) by omega)]; exact (show _ = ent 78 (uI (g78) 1 (g78 1 + 1)) from (E21.trans (ent_78 _)))) | (rw [if_neg (show ¬ (0 ≤ a ∧ a ≤ 63 ∧ ((b = 0 ∧ 0 ≤ v ∧ v ≤ 99) ∨ (b = 1 ∧ 1 ≤ v ∧ v ≤ 999) ∨ (b = 2 ∧ 0 ≤ v ∧ v ≤ 1))) by omega)]; exact (show _ = ent 78 (uI (g78) 1 (g78 1 + 1)) from (E21.trans (ent_78 _))))), (by first | exact (show _ = ent 77 ((uI (uI g77 0 0) 1 ((-1)))) from E23) | (rw [if_pos (show 0 ≤ a ∧ a ≤ 63 ∧ ((b = 0 ∧ 0 ≤ v ∧ v ≤ 99) ∨ (b = 1 ∧ 1 ≤ v ∧ v ≤ 999) ∨ (b = 2 ∧ 0 ≤ v ∧ v ≤ 1)) by omega)]; exact (show _ = ent 77 ((uI (uI g77 0 0) 1 ((-1)))) from E23)) | (rw [if_neg (show ¬ (0 ≤ a ∧ a ≤ 63 ∧ ((b = 0 ∧ 0 ≤ v ∧ v ≤ 99) ∨ (b = 1 ∧ 1 ≤ v ∧ v ≤ 999) ∨ (b = 2 ∧ 0 ≤ v ∧ v ≤ 1))) by omega)]; exact (show _ = ent 77 ((uI (uI g77 0 0) 1 ((-1)))) from E23))), fun j m79 m78 m77 => ((F22 j m77 m78).trans (F3 j m77))⟩ | omega)
      · refine v_iload_n dX12_put_43 rfl ?_
        refine v_i2lI dX12_put_44 (by omega) (by omega) ?_
        refine v_lconstI (w := 0) dX12_put_45 rfl ?_
        refine v_lconstI (w := 1) dX12_put_46 rfl ?_
        refine v_callS dX12_put_47 ml_X12_175 (sp_X12_in (v := v) (lo := 0) (hi := 1)   (by omega) (by omega) (by omega)) rfl rfl (Nat.le_of_ble_eq_true rfl) (Nat.le_of_ble_eq_true rfl) (Nat.zero_le _) (Nat.zero_le _) ⟨Or.inl (fun _ _ _ q => q.2.1), fun r n1 h24 q25 => ?_⟩
        obtain ⟨rfl, rfl, rfl⟩ := q25
        try dsimp only [s_push]
        refine v_ifeqB (tgt := 57) dX12_put_50 (by decide) (fun c_26 => ?_) (fun c_26 => ?_)
        · refine v_iconstI dX12_put_57 ?_
          refine v_istore dX12_put_58 (Nat.le_of_ble_eq_true rfl) ?_
          refine v_iload_n dX12_put_60 rfl ?_
          refine v_callS dX12_put_61 ml_X12_195 (sp_X12_isField (a := a)   (by omega)) rfl rfl (Nat.le_of_ble_eq_true rfl) (Nat.le_of_ble_eq_true rfl) (Nat.zero_le _) (Nat.zero_le _) ⟨Or.inl (fun _ _ _ q => q.2.1), fun r n1 h27 q28 => ?_⟩
          obtain ⟨rfl, rfl, rfl⟩ := q28
          try dsimp only [s_push]
          refine v_ifeqB (tgt := 88) dX12_put_64 (by decide) (fun c_29 => ?_) (fun c_29 => ?_)
          · refine v_aload_n dX12_put_88 rfl ?_
            refine v_iconstI dX12_put_89 ?_
            have H30 := ((F3 78 (by decide)).trans (H78.trans (ent_78 _)))
            refine v_callV dX12_put_90 ml_X12_179 (sp_X12_tell_1  (g77 := (uI g77 0 0)) (g78 := g78) hn (show _ = ent 77 (uI g77 0 0) from E2) (show _ = ent 78 g78 from H30)) E2 rfl (s_lt hn rfl) rfl rfl (Nat.le_of_ble_eq_true rfl) (Nat.le_of_ble_eq_true rfl) (Nat.zero_le _) (Nat.zero_le _) ⟨Or.inl (fun _ _ _ q => q.2.1), fun r n1 h31 q32 => ?_⟩
            obtain ⟨rfl, rfl, E33, E34, F35⟩ := q32
            dsimp only [s_push]
            have E36 : _ = (.inr (12, [.int (iI 0), .int (iI ((-1))), .ref 78, .ref 79, .ref 80, .ref 81, .int (iI (g77 6)), .ref 82, .int (iI (g77 8)), .int (iI (g77 9)), .int (iI (g77 10)), .int (iI (g77 11)), .long (jJ (g77 12)), .int (iI (g77 13)), .int (iI (g77 14)), .int (iI (g77 15)), .int (iI (g77 16)), .ref 83, .int (iI (g77 18)), .ref 84, .ref 85, .int (iI (g77 21)), .ref 86, .ref 87, .int (iI (g77 24)), .int (iI (g77 25)), .ref 88, .ref 89, .ref 90, .int (iI (g77 29)), .ref 91, .ref 92, .ref 93, .int (iI (g77 33)), .long (jJ (g77 34)), .long (jJ (g77 35)), .ref 94, .ref 95, .ref 96, .ref 97, .ref 98, .ref 99, .ref 100, .ref 101, .ref 102, .ref 103, .ref 104, .ref 105, .ref 106, .ref 107, .int (iI (g77 50)), .ref 108, .ref 109, .ref 110, .ref 111, .ref 112, .ref 113, .int (iI (g77 57)), .int (iI (g77 58)), .int (iI (g77 59)), .int (iI (g77 60)), .long (jJ (g77 61)), .ref 114, .int (iI (g77 63))]) : sE) := E33
            exact v_iret dX12_put_93 rfl (Nat.zero_le _) (Nat.zero_le _) (by first | exact ⟨(congrArg (fun x => some (Value.int x)) (congrArg iI (by first | rfl | omega | (split <;> first | rfl | omega | (split <;> first | rfl | omega))))), rfl, (by first | exact (show _ = ent 79 g79 from ((F35 79 (by decide) (by decide)).trans ((F3 79 (by decide)).trans (H79.trans (ent_79 _))))) | (rw [if_pos (show 0 ≤ a ∧ a ≤ 63 ∧ ((b = 0 ∧ 0 ≤ v ∧ v ≤ 99) ∨ (b = 1 ∧ 1 ≤ v ∧ v ≤ 999) ∨ (b = 2 ∧ 0 ≤ v ∧ v ≤ 1)) by omega)]; exact (show _ = ent 79 g79 from ((F35 79 (by decide) (by decide)).trans ((F3 79 (by decide)).trans (H79.trans (ent_79 _)))))) | (rw [if_neg (show ¬ (0 ≤ a ∧ a ≤ 63 ∧ ((b = 0 ∧ 0 ≤ v ∧ v ≤ 99) ∨ (b = 1 ∧ 1 ≤ v ∧ v ≤ 999) ∨ (b = 2 ∧ 0 ≤ v ∧ v ≤ 1))) by omega)]; exact (show _ = ent 79 g79 from ((F35 79 (by decide) (by decide)).trans ((F3 79 (by decide)).trans (H79.trans (ent_79 _))))))), (by first | exact (show _ = ent 78 (uI (g78) 1 (g78 1 + 1)) from (E34.trans (ent_78 _))) | (rw [if_pos (show 0 ≤ a ∧ a ≤ 63 ∧ ((b = 0 ∧ 0 ≤ v ∧ v ≤ 99) ∨ (b = 1 ∧ 1 ≤ v ∧ v ≤ 999) ∨ (b = 2 ∧ 0 ≤ v ∧ v ≤ 1)) by omega)]; exact (show _ = ent 78 (uI (g78) 1 (g78 1 + 1)) from (E34.trans (ent_78 _)))) | (rw [if_neg (show ¬ (0 ≤ a ∧ a ≤ 63 ∧ ((b = 0 ∧ 0 ≤ v ∧ v ≤ 99) ∨ (b = 1 ∧ 1 ≤ v ∧ v ≤ 999) ∨ (b = 2 ∧ 0 ≤ v ∧ v ≤ 1))) by omega)]; exact (show _ = ent 78 (uI (g78) 1 (g78 1 + 1)) from (E34.trans (ent_78 _))))), (by first | exact (show _ = ent 77 ((uI (uI g77 0 0) 1 ((-1)))) from E36) | (rw [if_pos (show 0 ≤ a ∧ a ≤ 63 ∧ ((b = 0 ∧ 0 ≤ v ∧ v ≤ 99) ∨ (b = 1 ∧ 1 ≤ v ∧ v ≤ 999) ∨ (b = 2 ∧ 0 ≤ v ∧ v ≤ 1)) by omega)]; exact (show _ = ent 77 ((uI (uI g77 0 0) 1 ((-1)))) from E36)) | (rw [if_neg (show ¬ (0 ≤ a ∧ a ≤ 63 ∧ ((b = 0 ∧ 0 ≤ v ∧ v ≤ 99) ∨ (b = 1 ∧ 1 ≤ v ∧ v ≤ 999) ∨ (b = 2 ∧ 0 ≤ v ∧ v ≤ 1))) by omega)]; exact (show _ = ent 77 ((uI (uI g77 0 0) 1 ((-1)))) from E36))), fun j m79 m78 m77 => ((F35 j m77 m78).trans (F3 j m77))⟩ | omega)
          · refine v_iload dX12_put_67 rfl ?_
            refine v_if_eqI (tgt := 88) dX12_put_69 (by decide) (by decide) (by decide) (fun _ => ?_) (fun c => absurd c (by decide))
            refine v_aload_n dX12_put_88 rfl ?_
            refine v_iconstI dX12_put_89 ?_
            have H37 := ((F3 78 (by decide)).trans (H78.trans (ent_78 _)))
            refine v_callV dX12_put_90 ml_X12_179 (sp_X12_tell_1  (g77 := (uI g77 0 0)) (g78 := g78) hn (show _ = ent 77 (uI g77 0 0) from E2) (show _ = ent 78 g78 from H37)) E2 rfl (s_lt hn rfl) rfl rfl (Nat.le_of_ble_eq_true rfl) (Nat.le_of_ble_eq_true rfl) (Nat.zero_le _) (Nat.zero_le _) ⟨Or.inl (fun _ _ _ q => q.2.1), fun r n1 h38 q39 => ?_⟩
            obtain ⟨rfl, rfl, E40, E41, F42⟩ := q39
            dsimp only [s_push]
            have E43 : _ = (.inr (12, [.int (iI 0), .int (iI ((-1))), .ref 78, .ref 79, .ref 80, .ref 81, .int (iI (g77 6)), .ref 82, .int (iI (g77 8)), .int (iI (g77 9)), .int (iI (g77 10)), .int (iI (g77 11)), .long (jJ (g77 12)), .int (iI (g77 13)), .int (iI (g77 14)), .int (iI (g77 15)), .int (iI (g77 16)), .ref 83, .int (iI (g77 18)), .ref 84, .ref 85, .int (iI (g77 21)), .ref 86, .ref 87, .int (iI (g77 24)), .int (iI (g77 25)), .ref 88, .ref 89, .ref 90, .int (iI (g77 29)), .ref 91, .ref 92, .ref 93, .int (iI (g77 33)), .long (jJ (g77 34)), .long (jJ (g77 35)), .ref 94, .ref 95, .ref 96, .ref 97, .ref 98, .ref 99, .ref 100, .ref 101, .ref 102, .ref 103, .ref 104, .ref 105, .ref 106, .ref 107, .int (iI (g77 50)), .ref 108, .ref 109, .ref 110, .ref 111, .ref 112, .ref 113, .int (iI (g77 57)), .int (iI (g77 58)), .int (iI (g77 59)), .int (iI (g77 60)), .long (jJ (g77 61)), .ref 114, .int (iI (g77 63))]) : sE) := E40
            exact v_iret dX12_put_93 rfl (Nat.zero_le _) (Nat.zero_le _) (by first | exact ⟨(congrArg (fun x => some (Value.int x)) (congrArg iI (by first | rfl | omega | (split <;> first | rfl | omega | (split <;> first | rfl | omega))))), rfl, (by first | exact (show _ = ent 79 g79 from ((F42 79 (by decide) (by decide)).trans ((F3 79 (by decide)).trans (H79.trans (ent_79 _))))) | (rw [if_pos (show 0 ≤ a ∧ a ≤ 63 ∧ ((b = 0 ∧ 0 ≤ v ∧ v ≤ 99) ∨ (b = 1 ∧ 1 ≤ v ∧ v ≤ 999) ∨ (b = 2 ∧ 0 ≤ v ∧ v ≤ 1)) by omega)]; exact (show _ = ent 79 g79 from ((F42 79 (by decide) (by decide)).trans ((F3 79 (by decide)).trans (H79.trans (ent_79 _)))))) | (rw [if_neg (show ¬ (0 ≤ a ∧ a ≤ 63 ∧ ((b = 0 ∧ 0 ≤ v ∧ v ≤ 99) ∨ (b = 1 ∧ 1 ≤ v ∧ v ≤ 999) ∨ (b = 2 ∧ 0 ≤ v ∧ v ≤ 1))) by omega)]; exact (show _ = ent 79 g79 from ((F42 79 (by decide) (by decide)).trans ((F3 79 (by decide)).trans (H79.trans (ent_79 _))))))), (by first | exact (show _ = ent 78 (uI (g78) 1 (g78 1 + 1)) from (E41.trans (ent_78 _))) | (rw [if_pos (show 0 ≤ a ∧ a ≤ 63 ∧ ((b = 0 ∧ 0 ≤ v ∧ v ≤ 99) ∨ (b = 1 ∧ 1 ≤ v ∧ v ≤ 999) ∨ (b = 2 ∧ 0 ≤ v ∧ v ≤ 1)) by omega)]; exact (show _ = ent 78 (uI (g78) 1 (g78 1 + 1)) from (E41.trans (ent_78 _)))) | (rw [if_neg (show ¬ (0 ≤ a ∧ a ≤ 63 ∧ ((b = 0 ∧ 0 ≤ v ∧ v ≤ 99) ∨ (b = 1 ∧ 1 ≤ v ∧ v ≤ 999) ∨ (b = 2 ∧ 0 ≤ v ∧ v ≤ 1))) by omega)]; exact (show _ = ent 78 (uI (g78) 1 (g78 1 + 1)) from (E41.trans (ent_78 _))))), (by first | exact (show _ = ent 77 ((uI (uI g77 0 0) 1 ((-1)))) from E43) | (rw [if_pos (show 0 ≤ a ∧ a ≤ 63 ∧ ((b = 0 ∧ 0 ≤ v ∧ v ≤ 99) ∨ (b = 1 ∧ 1 ≤ v ∧ v ≤ 999) ∨ (b = 2 ∧ 0 ≤ v ∧ v ≤ 1)) by omega)]; exact (show _ = ent 77 ((uI (uI g77 0 0) 1 ((-1)))) from E43)) | (rw [if_neg (show ¬ (0 ≤ a ∧ a ≤ 63 ∧ ((b = 0 ∧ 0 ≤ v ∧ v ≤ 99) ∨ (b = 1 ∧ 1 ≤ v ∧ v ≤ 999) ∨ (b = 2 ∧ 0 ≤ v ∧ v ≤ 1))) by omega)]; exact (show _ = ent 77 ((uI (uI g77 0 0) 1 ((-1)))) from E43))), fun j m79 m78 m77 => ((F42 j m77 m78).trans (F3 j m77))⟩ | omega)
        · refine v_iconstI dX12_put_53 ?_
          refine v_goto (tgt := 58) dX12_put_54 (by decide) ?_
          refine v_istore dX12_put_58 (Nat.le_of_ble_eq_true rfl) ?_
          refine v_iload_n dX12_put_60 rfl ?_
          refine v_callS dX12_put_61 ml_X12_195 (sp_X12_isField (a := a)   (by omega)) rfl rfl (Nat.le_of_ble_eq_true rfl) (Nat.le_of_ble_eq_true rfl) (Nat.zero_le _) (Nat.zero_le _) ⟨Or.inl (fun _ _ _ q => q.2.1), fun r n1 h44 q45 => ?_⟩
          obtain ⟨rfl, rfl, rfl⟩ := q45
          try dsimp only [s_push]
          refine v_ifeqB (tgt := 88) dX12_put_64 (by decide) (fun c_46 => ?_) (fun c_46 => ?_)
          · refine v_aload_n dX12_put_88 rfl ?_
            refine v_iconstI dX12_put_89 ?_
            have H47 := ((F3 78 (by decide)).trans (H78.trans (ent_78 _)))
            refine v_callV dX12_put_90 ml_X12_179 (sp_X12_tell_1  (g77 := (uI g77 0 0)) (g78 := g78) hn (show _ = ent 77 (uI g77 0 0) from E2) (show _ = ent 78 g78 from H47)) E2 rfl (s_lt hn rfl) rfl rfl (Nat.le_of_ble_eq_true rfl) (Nat.le_of_ble_eq_true rfl) (Nat.zero_le _) (Nat.zero_le _) ⟨Or.inl (fun _ _ _ q => q.2.1), fun r n1 h48 q49 => ?_⟩
            obtain ⟨rfl, rfl, E50, E51, F52⟩ := q49
            dsimp only [s_push]
            have E53 : _ = (.inr (12, [.int (iI 0), .int (iI ((-1))), .ref 78, .ref 79, .ref 80, .ref 81, .int (iI (g77 6)), .ref 82, .int (iI (g77 8)), .int (iI (g77 9)), .int (iI (g77 10)), .int (iI (g77 11)), .long (jJ (g77 12)), .int (iI (g77 13)), .int (iI (g77 14)), .int (iI (g77 15)), .int (iI (g77 16)), .ref 83, .int (iI (g77 18)), .ref 84, .ref 85, .int (iI (g77 21)), .ref 86, .ref 87, .int (iI (g77 24)), .int (iI (g77 25)), .ref 88, .ref 89, .ref 90, .int (iI (g77 29)), .ref 91, .ref 92, .ref 93, .int (iI (g77 33)), .long (jJ (g77 34)), .long (jJ (g77 35)), .ref 94, .ref 95, .ref 96, .ref 97, .ref 98, .ref 99, .ref 100, .ref 101, .ref 102, .ref 103, .ref 104, .ref 105, .ref 106, .ref 107, .int (iI (g77 50)), .ref 108, .ref 109, .ref 110, .ref 111, .ref 112, .ref 113, .int (iI (g77 57)), .int (iI (g77 58)), .int (iI (g77 59)), .int (iI (g77 60)), .long (jJ (g77 61)), .ref 114, .int (iI (g77 63))]) : sE) := E50
            exact v_iret dX12_put_93 rfl (Nat.zero_le _) (Nat.zero_le _) (by first | exact ⟨(congrArg (fun x => some (Value.int x)) (congrArg iI (by first | rfl | omega | (split <;> first | rfl | omega | (split <;> first | rfl | omega))))), rfl, (by first | exact (show _ = ent 79 g79 from ((F52 79 (by decide) (by decide)).trans ((F3 79 (by decide)).trans (H79.trans (ent_79 _))))) | (rw [if_pos (show 0 ≤ a ∧ a ≤ 63 ∧ ((b = 0 ∧ 0 ≤ v ∧ v ≤ 99) ∨ (b = 1 ∧ 1 ≤ v ∧ v ≤ 999) ∨ (b = 2 ∧ 0 ≤ v ∧ v ≤ 1)) by omega)]; exact (show _ = ent 79 g79 from ((F52 79 (by decide) (by decide)).trans ((F3 79 (by decide)).trans (H79.trans (ent_79 _)))))) | (rw [if_neg (show ¬ (0 ≤ a ∧ a ≤ 63 ∧ ((b = 0 ∧ 0 ≤ v ∧ v ≤ 99) ∨ (b = 1 ∧ 1 ≤ v ∧ v ≤ 999) ∨ (b = 2 ∧ 0 ≤ v ∧ v ≤ 1))) by omega)]; exact (show _ = ent 79 g79 from ((F52 79 (by decide) (by decide)).trans ((F3 79 (by decide)).trans (H79.trans (ent_79 _))))))), (by first | exact (show _ = ent 78 (uI (g78) 1 (g78 1 + 1)) from (E51.trans (ent_78 _))) | (rw [if_pos (show 0 ≤ a ∧ a ≤ 63 ∧ ((b = 0 ∧ 0 ≤ v ∧ v ≤ 99) ∨ (b = 1 ∧ 1 ≤ v ∧ v ≤ 999) ∨ (b = 2 ∧ 0 ≤ v ∧ v ≤ 1)) by omega)]; exact (show _ = ent 78 (uI (g78) 1 (g78 1 + 1)) from (E51.trans (ent_78 _)))) | (rw [if_neg (show ¬ (0 ≤ a ∧ a ≤ 63 ∧ ((b = 0 ∧ 0 ≤ v ∧ v ≤ 99) ∨ (b = 1 ∧ 1 ≤ v ∧ v ≤ 999) ∨ (b = 2 ∧ 0 ≤ v ∧ v ≤ 1))) by omega)]; exact (show _ = ent 78 (uI (g78) 1 (g78 1 + 1)) from (E51.trans (ent_78 _))))), (by first | exact (show _ = ent 77 ((uI (uI g77 0 0) 1 ((-1)))) from E53) | (rw [if_pos (show 0 ≤ a ∧ a ≤ 63 ∧ ((b = 0 ∧ 0 ≤ v ∧ v ≤ 99) ∨ (b = 1 ∧ 1 ≤ v ∧ v ≤ 999) ∨ (b = 2 ∧ 0 ≤ v ∧ v ≤ 1)) by omega)]; exact (show _ = ent 77 ((uI (uI g77 0 0) 1 ((-1)))) from E53)) | (rw [if_neg (show ¬ (0 ≤ a ∧ a ≤ 63 ∧ ((b = 0 ∧ 0 ≤ v ∧ v ≤ 99) ∨ (b = 1 ∧ 1 ≤ v ∧ v ≤ 999) ∨ (b = 2 ∧ 0 ≤ v ∧ v ≤ 1))) by omega)]; exact (show _ = ent 77 ((uI (uI g77 0 0) 1 ((-1)))) from E53))), fun j m79 m78 m77 => ((F52 j m77 m78).trans (F3 j m77))⟩ | omega)
          · refine v_iload dX12_put_67 rfl ?_
            refine v_if_eqI (tgt := 88) dX12_put_69 (by decide) (by decide) (by decide) (fun c => absurd c (by decide)) (fun _ => ?_)
            refine v_aload_n dX12_put_72 rfl ?_
            refine v_bipushI dX12_put_73 rfl ?_
            refine v_iconstI dX12_put_75 ?_
            refine v_iload_n dX12_put_76 rfl ?_
            refine v_imulI dX12_put_77 ?_
            refine v_iaddI dX12_put_78 ?_
            refine v_iload_n dX12_put_79 rfl ?_
            refine v_iaddI dX12_put_80 ?_
            refine v_iload_n dX12_put_81 rfl ?_
            have H54 := ((F3 79 (by decide)).trans (H79.trans (ent_79 _)))
            refine v_callV dX12_put_82 ml_X12_199 (sp_X12_change (a := ((40 + (3 * a)) + b)) (b := v) (g77 := (uI g77 0 0)) (g79 := g79) hn (show _ = ent 77 (uI g77 0 0) from E2) (show _ = ent 79 g79 from H54) (by omega)) E2 rfl (s_lt hn rfl) rfl rfl (Nat.le_of_ble_eq_true rfl) (Nat.le_of_ble_eq_true rfl) (Nat.zero_le _) (Nat.zero_le _) ⟨Or.inl (fun _ _ _ q => q.2.1), fun r n1 h55 q56 => ?_⟩
            obtain ⟨rfl, rfl, E57, E58, F59⟩ := q56
            dsimp only [s_push]
            have E60 : _ = (.inr (12, [.int (iI 0), .int (iI (0)), .ref 78, .ref 79, .ref 80, .ref 81, .int (iI (g77 6)), .ref 82, .int (iI (g77 8)), .int (iI (g77 9)), .int (iI (g77 10)), .int (iI (g77 11)), .long (jJ (g77 12)), .int (iI (g77 13)), .int (iI (g77 14)), .int (iI (g77 15)), .int (iI (g77 16)), .ref 83, .int (iI (g77 18)), .ref 84, .ref 85, .int (iI (g77 21)), .ref 86, .ref 87, .int (iI (g77 24)), .int (iI (g77 25)), .ref 88, .ref 89, .ref 90, .int (iI (g77 29)), .ref 91, .ref 92, .ref 93, .int (iI (g77 33)), .long (jJ (g77 34)), .long (jJ (g77 35)), .ref 94, .ref 95, .ref 96, .ref 97, .ref 98, .ref 99, .ref 100, .ref 101, .ref 102, .ref 103, .ref 104, .ref 105, .ref 106, .ref 107, .int (iI (g77 50)), .ref 108, .ref 109, .ref 110, .ref 111, .ref 112, .ref 113, .int (iI (g77 57)), .int (iI (g77 58)), .int (iI (g77 59)), .int (iI (g77 60)), .long (jJ (g77 61)), .ref 114, .int (iI (g77 63))]) : sE) := E58
            refine v_goto (tgt := 93) dX12_put_85 (by decide) ?_
            exact v_iret dX12_put_93 rfl (Nat.zero_le _) (Nat.zero_le _) (by first | exact ⟨(congrArg (fun x => some (Value.int x)) (congrArg iI (by first | rfl | omega | (split <;> first | rfl | omega | (split <;> first | rfl | omega))))), rfl, (by first | exact (show _ = ent 79 (uI (g79) ((40 + (3 * a)) + b) v) from (E57.trans (ent_79 _))) | (rw [if_pos (show 0 ≤ a ∧ a ≤ 63 ∧ ((b = 0 ∧ 0 ≤ v ∧ v ≤ 99) ∨ (b = 1 ∧ 1 ≤ v ∧ v ≤ 999) ∨ (b = 2 ∧ 0 ≤ v ∧ v ≤ 1)) by omega)]; exact (show _ = ent 79 (uI (g79) ((40 + (3 * a)) + b) v) from (E57.trans (ent_79 _)))) | (rw [if_neg (show ¬ (0 ≤ a ∧ a ≤ 63 ∧ ((b = 0 ∧ 0 ≤ v ∧ v ≤ 99) ∨ (b = 1 ∧ 1 ≤ v ∧ v ≤ 999) ∨ (b = 2 ∧ 0 ≤ v ∧ v ≤ 1))) by omega)]; exact (show _ = ent 79 (uI (g79) ((40 + (3 * a)) + b) v) from (E57.trans (ent_79 _))))), (by first | exact (show _ = ent 78 g78 from ((F59 78 (by decide) (by decide)).trans ((F3 78 (by decide)).trans (H78.trans (ent_78 _))))) | (rw [if_pos (show 0 ≤ a ∧ a ≤ 63 ∧ ((b = 0 ∧ 0 ≤ v ∧ v ≤ 99) ∨ (b = 1 ∧ 1 ≤ v ∧ v ≤ 999) ∨ (b = 2 ∧ 0 ≤ v ∧ v ≤ 1)) by omega)]; exact (show _ = ent 78 g78 from ((F59 78 (by decide) (by decide)).trans ((F3 78 (by decide)).trans (H78.trans (ent_78 _)))))) | (rw [if_neg (show ¬ (0 ≤ a ∧ a ≤ 63 ∧ ((b = 0 ∧ 0 ≤ v ∧ v ≤ 99) ∨ (b = 1 ∧ 1 ≤ v ∧ v ≤ 999) ∨ (b = 2 ∧ 0 ≤ v ∧ v ≤ 1))) by omega)]; exact (show _ = ent 78 g78 from ((F59 78 (by decide) (by decide)).trans ((F3 78 (by decide)).trans (H78.trans (ent_78 _))))))), (by first | exact (show _ = ent 77 ((uI (uI g77 0 0) 1 0)) from E60) | (rw [if_pos (show 0 ≤ a ∧ a ≤ 63 ∧ ((b = 0 ∧ 0 ≤ v ∧ v ≤ 99) ∨ (b = 1 ∧ 1 ≤ v ∧ v ≤ 999) ∨ (b = 2 ∧ 0 ≤ v ∧ v ≤ 1)) by omega)]; exact (show _ = ent 77 ((uI (uI g77 0 0) 1 0)) from E60)) | (rw [if_neg (show ¬ (0 ≤ a ∧ a ≤ 63 ∧ ((b = 0 ∧ 0 ≤ v ∧ v ≤ 99) ∨ (b = 1 ∧ 1 ≤ v ∧ v ≤ 999) ∨ (b = 2 ∧ 0 ≤ v ∧ v ≤ 1))) by omega)]; exact (show _ = ent 77 ((uI (uI g77 0 0) 1 0)) from E60))), fun j m79 m78 m77 => ((F59 j m79 m77).trans (F3 j m77))⟩ | omega)
    · refine v_iload_n dX12_put_26 rfl ?_
      refine v_i2lI dX12_put_27 (by omega) (by omega) ?_
      refine v_lconstI (w := 1) dX12_put_28 rfl ?_
      refine v_ldc2I 999 dX12_put_29 k_X12_193 rfl ?_
      refine v_callS dX12_put_32 ml_X12_175 (sp_X12_in (v := v) (lo := 1) (hi := 999)   (by omega) (by omega) (by omega)) rfl rfl (Nat.le_of_ble_eq_true rfl) (Nat.le_of_ble_eq_true rfl) (Nat.zero_le _) (Nat.zero_le _) ⟨Or.inl (fun _ _ _ q => q.2.1), fun r n1 h61 q62 => ?_⟩
      obtain ⟨rfl, rfl, rfl⟩ := q62
      try dsimp only [s_push]
      refine v_goto (tgt := 58) dX12_put_35 (by decide) ?_
      refine v_istore dX12_put_58 (Nat.le_of_ble_eq_true rfl) ?_
      refine v_iload_n dX12_put_60 rfl ?_
      refine v_callS dX12_put_61 ml_X12_195 (sp_X12_isField (a := a)   (by omega)) rfl rfl (Nat.le_of_ble_eq_true rfl) (Nat.le_of_ble_eq_true rfl) (Nat.zero_le _) (Nat.zero_le _) ⟨Or.inl (fun _ _ _ q => q.2.1), fun r n1 h63 q64 => ?_⟩
      obtain ⟨rfl, rfl, rfl⟩ := q64
      try dsimp only [s_push]
      refine v_ifeqB (tgt := 88) dX12_put_64 (by decide) (fun c_65 => ?_) (fun c_65 => ?_)
      · refine v_aload_n dX12_put_88 rfl ?_
        refine v_iconstI dX12_put_89 ?_
        have H66 := ((F3 78 (by decide)).trans (H78.trans (ent_78 _)))
        refine v_callV dX12_put_90 ml_X12_179 (sp_X12_tell_1  (g77 := (uI g77 0 0)) (g78 := g78) hn (show _ = ent 77 (uI g77 0 0) from E2) (show _ = ent 78 g78 from H66)) E2 rfl (s_lt hn rfl) rfl rfl (Nat.le_of_ble_eq_true rfl) (Nat.le_of_ble_eq_true rfl) (Nat.zero_le _) (Nat.zero_le _) ⟨Or.inl (fun _ _ _ q => q.2.1), fun r n1 h67 q68 => ?_⟩
        obtain ⟨rfl, rfl, E69, E70, F71⟩ := q68
        dsimp only [s_push]
        have E72 : _ = (.inr (12, [.int (iI 0), .int (iI ((-1))), .ref 78, .ref 79, .ref 80, .ref 81, .int (iI (g77 6)), .ref 82, .int (iI (g77 8)), .int (iI (g77 9)), .int (iI (g77 10)), .int (iI (g77 11)), .long (jJ (g77 12)), .int (iI (g77 13)), .int (iI (g77 14)), .int (iI (g77 15)), .int (iI (g77 16)), .ref 83, .int (iI (g77 18)), .ref 84, .ref 85, .int (iI (g77 21)), .ref 86, .ref 87, .int (iI (g77 24)), .int (iI (g77 25)), .ref 88, .ref 89, .ref 90, .int (iI (g77 29)), .ref 91, .ref 92, .ref 93, .int (iI (g77 33)), .long (jJ (g77 34)), .long (jJ (g77 35)), .ref 94, .ref 95, .ref 96, .ref 97, .ref 98, .ref 99, .ref 100, .ref 101, .ref 102, .ref 103, .ref 104, .ref 105, .ref 106, .ref 107, .int (iI (g77 50)), .ref 108, .ref 109, .ref 110, .ref 111, .ref 112, .ref 113, .int (iI (g77 57)), .int (iI (g77 58)), .int (iI (g77 59)), .int (iI (g77 60)), .long (jJ (g77 61)), .ref 114, .int (iI (g77 63))]) : sE) := E69
        exact v_iret dX12_put_93 rfl (Nat.zero_le _) (Nat.zero_le _) (by first | exact ⟨(congrArg (fun x => some (Value.int x)) (congrArg iI (by first | rfl | omega | (split <;> first | rfl | omega | (split <;> first | rfl | omega))))), rfl, (by first | exact (show _ = ent 79 g79 from ((F71 79 (by decide) (by decide)).trans ((F3 79 (by decide)).trans (H79.trans (ent_79 _))))) | (rw [if_pos (show 0 ≤ a ∧ a ≤ 63 ∧ ((b = 0 ∧ 0 ≤ v ∧ v ≤ 99) ∨ (b = 1 ∧ 1 ≤ v ∧ v ≤ 999) ∨ (b = 2 ∧ 0 ≤ v ∧ v ≤ 1)) by omega)]; exact (show _ = ent 79 g79 from ((F71 79 (by decide) (by decide)).trans ((F3 79 (by decide)).trans (H79.trans (ent_79 _)))))) | (rw [if_neg (show ¬ (0 ≤ a ∧ a ≤ 63 ∧ ((b = 0 ∧ 0 ≤ v ∧ v ≤ 99) ∨ (b = 1 ∧ 1 ≤ v ∧ v ≤ 999) ∨ (b = 2 ∧ 0 ≤ v ∧ v ≤ 1))) by omega)]; exact (show _ = ent 79 g79 from ((F71 79 (by decide) (by decide)).trans ((F3 79 (by decide)).trans (H79.trans (ent_79 _))))))), (by first | exact (show _ = ent 78 (uI (g78) 1 (g78 1 + 1)) from (E70.trans (ent_78 _))) | (rw [if_pos (show 0 ≤ a ∧ a ≤ 63 ∧ ((b = 0 ∧ 0 ≤ v ∧ v ≤ 99) ∨ (b = 1 ∧ 1 ≤ v ∧ v ≤ 999) ∨ (b = 2 ∧ 0 ≤ v ∧ v ≤ 1)) by omega)]; exact (show _ = ent 78 (uI (g78) 1 (g78 1 + 1)) from (E70.trans (ent_78 _)))) | (rw [if_neg (show ¬ (0 ≤ a ∧ a ≤ 63 ∧ ((b = 0 ∧ 0 ≤ v ∧ v ≤ 99) ∨ (b = 1 ∧ 1 ≤ v ∧ v ≤ 999) ∨ (b = 2 ∧ 0 ≤ v ∧ v ≤ 1))) by omega)]; exact (show _ = ent 78 (uI (g78) 1 (g78 1 + 1)) from (E70.trans (ent_78 _))))), (by first | exact (show _ = ent 77 ((uI (uI g77 0 0) 1 ((-1)))) from E72) | (rw [if_pos (show 0 ≤ a ∧ a ≤ 63 ∧ ((b = 0 ∧ 0 ≤ v ∧ v ≤ 99) ∨ (b = 1 ∧ 1 ≤ v ∧ v ≤ 999) ∨ (b = 2 ∧ 0 ≤ v ∧ v ≤ 1)) by omega)]; exact (show _ = ent 77 ((uI (uI g77 0 0) 1 ((-1)))) from E72)) | (rw [if_neg (show ¬ (0 ≤ a ∧ a ≤ 63 ∧ ((b = 0 ∧ 0 ≤ v ∧ v ≤ 99) ∨ (b = 1 ∧ 1 ≤ v ∧ v ≤ 999) ∨ (b = 2 ∧ 0 ≤ v ∧ v ≤ 1))) by omega)]; exact (show _ = ent 77 ((uI (uI g77 0 0) 1 ((-1)))) from E72))), fun j m79 m78 m77 => ((F71 j m77 m78).trans (F3 j m77))⟩ | omega)
      · refine v_iload dX12_put_67 rfl ?_
        refine v_ifeqB (tgt := 88) dX12_put_69 (by decide) (fun c_73 => ?_) (fun c_73 => ?_)
        · refine v_aload_n dX12_put_88 rfl ?_
          refine v_iconstI dX12_put_89 ?_
          have H74 := ((F3 78 (by decide)).trans (H78.trans (ent_78 _)))
          refine v_callV dX12_put_90 ml_X12_179 (sp_X12_tell_1  (g77 := (uI g77 0 0)) (g78 := g78) hn (show _ = ent 77 (uI g77 0 0) from E2) (show _ = ent 78 g78 from H74)) E2 rfl (s_lt hn rfl) rfl rfl (Nat.le_of_ble_eq_true rfl) (Nat.le_of_ble_eq_true rfl) (Nat.zero_le _) (Nat.zero_le _) ⟨Or.inl (fun _ _ _ q => q.2.1), fun r n1 h75 q76 => ?_⟩
          obtain ⟨rfl, rfl, E77, E78, F79⟩ := q76
          dsimp only [s_push]
          have E80 : _ = (.inr (12, [.int (iI 0), .int (iI ((-1))), .ref 78, .ref 79, .ref 80, .ref 81, .int (iI (g77 6)), .ref 82, .int (iI (g77 8)), .int (iI (g77 9)), .int (iI (g77 10)), .int (iI (g77 11)), .long (jJ (g77 12)), .int (iI (g77 13)), .int (iI (g77 14)), .int (iI (g77 15)), .int (iI (g77 16)), .ref 83, .int (iI (g77 18)), .ref 84, .ref 85, .int (iI (g77 21)), .ref 86, .ref 87, .int (iI (g77 24)), .int (iI (g77 25)), .ref 88, .ref 89, .ref 90, .int (iI (g77 29)), .ref 91, .ref 92, .ref 93, .int (iI (g77 33)), .long (jJ (g77 34)), .long (jJ (g77 35)), .ref 94, .ref 95, .ref 96, .ref 97, .ref 98, .ref 99, .ref 100, .ref 101, .ref 102, .ref 103, .ref 104, .ref 105, .ref 106, .ref 107, .int (iI (g77 50)), .ref 108, .ref 109, .ref 110, .ref 111, .ref 112, .ref 113, .int (iI (g77 57)), .int (iI (g77 58)), .int (iI (g77 59)), .int (iI (g77 60)), .long (jJ (g77 61)), .ref 114, .int (iI (g77 63))]) : sE) := E77
          exact v_iret dX12_put_93 rfl (Nat.zero_le _) (Nat.zero_le _) (by first | exact ⟨(congrArg (fun x => some (Value.int x)) (congrArg iI (by first | rfl | omega | (split <;> first | rfl | omega | (split <;> first | rfl | omega))))), rfl, (by first | exact (show _ = ent 79 g79 from ((F79 79 (by decide) (by decide)).trans ((F3 79 (by decide)).trans (H79.trans (ent_79 _))))) | (rw [if_pos (show 0 ≤ a ∧ a ≤ 63 ∧ ((b = 0 ∧ 0 ≤ v ∧ v ≤ 99) ∨ (b = 1 ∧ 1 ≤ v ∧ v ≤ 999) ∨ (b = 2 ∧ 0 ≤ v ∧ v ≤ 1)) by omega)]; exact (show _ = ent 79 g79 from ((F79 79 (by decide) (by decide)).trans ((F3 79 (by decide)).trans (H79.trans (ent_79 _)))))) | (rw [if_neg (show ¬ (0 ≤ a ∧ a ≤ 63 ∧ ((b = 0 ∧ 0 ≤ v ∧ v ≤ 99) ∨ (b = 1 ∧ 1 ≤ v ∧ v ≤ 999) ∨ (b = 2 ∧ 0 ≤ v ∧ v ≤ 1))) by omega)]; exact (show _ = ent 79 g79 from ((F79 79 (by decide) (by decide)).trans ((F3 79 (by decide)).trans (H79.trans (ent_79 _))))))), (by first | exact (show _ = ent 78 (uI (g78) 1 (g78 1 + 1)) from (E78.trans (ent_78 _))) | (rw [if_pos (show 0 ≤ a ∧ a ≤ 63 ∧ ((b = 0 ∧ 0 ≤ v ∧ v ≤ 99) ∨ (b = 1 ∧ 1 ≤ v ∧ v ≤ 999) ∨ (b = 2 ∧ 0 ≤ v ∧ v ≤ 1)) by omega)]; exact (show _ = ent 78 (uI (g78) 1 (g78 1 + 1)) from (E78.trans (ent_78 _)))) | (rw [if_neg (show ¬ (0 ≤ a ∧ a ≤ 63 ∧ ((b = 0 ∧ 0 ≤ v ∧ v ≤ 99) ∨ (b = 1 ∧ 1 ≤ v ∧ v ≤ 999) ∨ (b = 2 ∧ 0 ≤ v ∧ v ≤ 1))) by omega)]; exact (show _ = ent 78 (uI (g78) 1 (g78 1 + 1)) from (E78.trans (ent_78 _))))), (by first | exact (show _ = ent 77 ((uI (uI g77 0 0) 1 ((-1)))) from E80) | (rw [if_pos (show 0 ≤ a ∧ a ≤ 63 ∧ ((b = 0 ∧ 0 ≤ v ∧ v ≤ 99) ∨ (b = 1 ∧ 1 ≤ v ∧ v ≤ 999) ∨ (b = 2 ∧ 0 ≤ v ∧ v ≤ 1)) by omega)]; exact (show _ = ent 77 ((uI (uI g77 0 0) 1 ((-1)))) from E80)) | (rw [if_neg (show ¬ (0 ≤ a ∧ a ≤ 63 ∧ ((b = 0 ∧ 0 ≤ v ∧ v ≤ 99) ∨ (b = 1 ∧ 1 ≤ v ∧ v ≤ 999) ∨ (b = 2 ∧ 0 ≤ v ∧ v ≤ 1))) by omega)]; exact (show _ = ent 77 ((uI (uI g77 0 0) 1 ((-1)))) from E80))), fun j m79 m78 m77 => ((F79 j m77 m78).trans (F3 j m77))⟩ | omega)
        · refine v_aload_n dX12_put_72 rfl ?_
          refine v_bipushI dX12_put_73 rfl ?_
          refine v_iconstI dX12_put_75 ?_
          refine v_iload_n dX12_put_76 rfl ?_
          refine v_imulI dX12_put_77 ?_
          refine v_iaddI dX12_put_78 ?_
          refine v_iload_n dX12_put_79 rfl ?_
          refine v_iaddI dX12_put_80 ?_
          refine v_iload_n dX12_put_81 rfl ?_
          have H81 := ((F3 79 (by decide)).trans (H79.trans (ent_79 _)))
          refine v_callV dX12_put_82 ml_X12_199 (sp_X12_change (a := ((40 + (3 * a)) + b)) (b := v) (g77 := (uI g77 0 0)) (g79 := g79) hn (show _ = ent 77 (uI g77 0 0) from E2) (show _ = ent 79 g79 from H81) (by omega)) E2 rfl (s_lt hn rfl) rfl rfl (Nat.le_of_ble_eq_true rfl) (Nat.le_of_ble_eq_true rfl) (Nat.zero_le _) (Nat.zero_le _) ⟨Or.inl (fun _ _ _ q => q.2.1), fun r n1 h82 q83 => ?_⟩
          obtain ⟨rfl, rfl, E84, E85, F86⟩ := q83
          dsimp only [s_push]
          have E87 : _ = (.inr (12, [.int (iI 0), .int (iI (0)), .ref 78, .ref 79, .ref 80, .ref 81, .int (iI (g77 6)), .ref 82, .int (iI (g77 8)), .int (iI (g77 9)), .int (iI (g77 10)), .int (iI (g77 11)), .long (jJ (g77 12)), .int (iI (g77 13)), .int (iI (g77 14)), .int (iI (g77 15)), .int (iI (g77 16)), .ref 83, .int (iI (g77 18)), .ref 84, .ref 85, .int (iI (g77 21)), .ref 86, .ref 87, .int (iI (g77 24)), .int (iI (g77 25)), .ref 88, .ref 89, .ref 90, .int (iI (g77 29)), .ref 91, .ref 92, .ref 93, .int (iI (g77 33)), .long (jJ (g77 34)), .long (jJ (g77 35)), .ref 94, .ref 95, .ref 96, .ref 97, .ref 98, .ref 99, .ref 100, .ref 101, .ref 102, .ref 103, .ref 104, .ref 105, .ref 106, .ref 107, .int (iI (g77 50)), .ref 108, .ref 109, .ref 110, .ref 111, .ref 112, .ref 113, .int (iI (g77 57)), .int (iI (g77 58)), .int (iI (g77 59)), .int (iI (g77 60)), .long (jJ (g77 61)), .ref 114, .int (iI (g77 63))]) : sE) := E85
          refine v_goto (tgt := 93) dX12_put_85 (by decide) ?_
          exact v_iret dX12_put_93 rfl (Nat.zero_le _) (Nat.zero_le _) (by first | exact ⟨(congrArg (fun x => some (Value.int x)) (congrArg iI (by first | rfl | omega | (split <;> first | rfl | omega | (split <;> first | rfl | omega))))), rfl, (by first | exact (show _ = ent 79 (uI (g79) ((40 + (3 * a)) + b) v) from (E84.trans (ent_79 _))) | (rw [if_pos (show 0 ≤ a ∧ a ≤ 63 ∧ ((b = 0 ∧ 0 ≤ v ∧ v ≤ 99) ∨ (b = 1 ∧ 1 ≤ v ∧ v ≤ 999) ∨ (b = 2 ∧ 0 ≤ v ∧ v ≤ 1)) by omega)]; exact (show _ = ent 79 (uI (g79) ((40 + (3 * a)) + b) v) from (E84.trans (ent_79 _)))) | (rw [if_neg (show ¬ (0 ≤ a ∧ a ≤ 63 ∧ ((b = 0 ∧ 0 ≤ v ∧ v ≤ 99) ∨ (b = 1 ∧ 1 ≤ v ∧ v ≤ 999) ∨ (b = 2 ∧ 0 ≤ v ∧ v ≤ 1))) by omega)]; exact (show _ = ent 79 (uI (g79) ((40 + (3 * a)) + b) v) from (E84.trans (ent_79 _))))), (by first | exact (show _ = ent 78 g78 from ((F86 78 (by decide) (by decide)).trans ((F3 78 (by decide)).trans (H78.trans (ent_78 _))))) | (rw [if_pos (show 0 ≤ a ∧ a ≤ 63 ∧ ((b = 0 ∧ 0 ≤ v ∧ v ≤ 99) ∨ (b = 1 ∧ 1 ≤ v ∧ v ≤ 999) ∨ (b = 2 ∧ 0 ≤ v ∧ v ≤ 1)) by omega)]; exact (show _ = ent 78 g78 from ((F86 78 (by decide) (by decide)).trans ((F3 78 (by decide)).trans (H78.trans (ent_78 _)))))) | (rw [if_neg (show ¬ (0 ≤ a ∧ a ≤ 63 ∧ ((b = 0 ∧ 0 ≤ v ∧ v ≤ 99) ∨ (b = 1 ∧ 1 ≤ v ∧ v ≤ 999) ∨ (b = 2 ∧ 0 ≤ v ∧ v ≤ 1))) by omega)]; exact (show _ = ent 78 g78 from ((F86 78 (by decide) (by decide)).trans ((F3 78 (by decide)).trans (H78.trans (ent_78 _))))))), (by first | exact (show _ = ent 77 ((uI (uI g77 0 0) 1 0)) from E87) | (rw [if_pos (show 0 ≤ a ∧ a ≤ 63 ∧ ((b = 0 ∧ 0 ≤ v ∧ v ≤ 99) ∨ (b = 1 ∧ 1 ≤ v ∧ v ≤ 999) ∨ (b = 2 ∧ 0 ≤ v ∧ v ≤ 1)) by omega)]; exact (show _ = ent 77 ((uI (uI g77 0 0) 1 0)) from E87)) | (rw [if_neg (show ¬ (0 ≤ a ∧ a ≤ 63 ∧ ((b = 0 ∧ 0 ≤ v ∧ v ≤ 99) ∨ (b = 1 ∧ 1 ≤ v ∧ v ≤ 999) ∨ (b = 2 ∧ 0 ≤ v ∧ v ≤ 1))) by omega)]; exact (show _ = ent 77 ((uI (uI g77 0 0) 1 0)) from E87))), fun j m79 m78 m77 => ((F86 j m79 m77).trans (F3 j m77))⟩ | omega)
  · refine v_iload_n dX12_put_9 rfl ?_
    refine v_i2lI dX12_put_10 (by omega) (by omega) ?_
    refine v_lconstI (w := 0) dX12_put_11 rfl ?_
    refine v_ldc2I 99 dX12_put_12 k_X12_191 rfl ?_
    refine v_callS dX12_put_15 ml_X12_175 (sp_X12_in (v := v) (lo := 0) (hi := 99)   (by omega) (by omega) (by omega)) rfl rfl (Nat.le_of_ble_eq_true rfl) (Nat.le_of_ble_eq_true rfl) (Nat.zero_le _) (Nat.zero_le _) ⟨Or.inl (fun _ _ _ q => q.2.1), fun r n1 h88 q89 => ?_⟩
    obtain ⟨rfl, rfl, rfl⟩ := q89
    try dsimp only [s_push]
    refine v_goto (tgt := 58) dX12_put_18 (by decide) ?_
    refine v_istore dX12_put_58 (Nat.le_of_ble_eq_true rfl) ?_
    refine v_iload_n dX12_put_60 rfl ?_
    refine v_callS dX12_put_61 ml_X12_195 (sp_X12_isField (a := a)   (by omega)) rfl rfl (Nat.le_of_ble_eq_true rfl) (Nat.le_of_ble_eq_true rfl) (Nat.zero_le _) (Nat.zero_le _) ⟨Or.inl (fun _ _ _ q => q.2.1), fun r n1 h90 q91 => ?_⟩
    obtain ⟨rfl, rfl, rfl⟩ := q91
    try dsimp only [s_push]
    refine v_ifeqB (tgt := 88) dX12_put_64 (by decide) (fun c_92 => ?_) (fun c_92 => ?_)
    · refine v_aload_n dX12_put_88 rfl ?_
      refine v_iconstI dX12_put_89 ?_
      have H93 := ((F3 78 (by decide)).trans (H78.trans (ent_78 _)))
      refine v_callV dX12_put_90 ml_X12_179 (sp_X12_tell_1  (g77 := (uI g77 0 0)) (g78 := g78) hn (show _ = ent 77 (uI g77 0 0) from E2) (show _ = ent 78 g78 from H93)) E2 rfl (s_lt hn rfl) rfl rfl (Nat.le_of_ble_eq_true rfl) (Nat.le_of_ble_eq_true rfl) (Nat.zero_le _) (Nat.zero_le _) ⟨Or.inl (fun _ _ _ q => q.2.1), fun r n1 h94 q95 => ?_⟩
      obtain ⟨rfl, rfl, E96, E97, F98⟩ := q95
      dsimp only [s_push]
      have E99 : _ = (.inr (12, [.int (iI 0), .int (iI ((-1))), .ref 78, .ref 79, .ref 80, .ref 81, .int (iI (g77 6)), .ref 82, .int (iI (g77 8)), .int (iI (g77 9)), .int (iI (g77 10)), .int (iI (g77 11)), .long (jJ (g77 12)), .int (iI (g77 13)), .int (iI (g77 14)), .int (iI (g77 15)), .int (iI (g77 16)), .ref 83, .int (iI (g77 18)), .ref 84, .ref 85, .int (iI (g77 21)), .ref 86, .ref 87, .int (iI (g77 24)), .int (iI (g77 25)), .ref 88, .ref 89, .ref 90, .int (iI (g77 29)), .ref 91, .ref 92, .ref 93, .int (iI (g77 33)), .long (jJ (g77 34)), .long (jJ (g77 35)), .ref 94, .ref 95, .ref 96, .ref 97, .ref 98, .ref 99, .ref 100, .ref 101, .ref 102, .ref 103, .ref 104, .ref 105, .ref 106, .ref 107, .int (iI (g77 50)), .ref 108, .ref 109, .ref 110, .ref 111, .ref 112, .ref 113, .int (iI (g77 57)), .int (iI (g77 58)), .int (iI (g77 59)), .int (iI (g77 60)), .long (jJ (g77 61)), .ref 114, .int (iI (g77 63))]) : sE) := E96
      exact v_iret dX12_put_93 rfl (Nat.zero_le _) (Nat.zero_le _) (by first | exact ⟨(congrArg (fun x => some (Value.int x)) (congrArg iI (by first | rfl | omega | (split <;> first | rfl | omega | (split <;> first | rfl | omega))))), rfl, (by first | exact (show _ = ent 79 g79 from ((F98 79 (by decide) (by decide)).trans ((F3 79 (by decide)).trans (H79.trans (ent_79 _))))) | (rw [if_pos (show 0 ≤ a ∧ a ≤ 63 ∧ ((b = 0 ∧ 0 ≤ v ∧ v ≤ 99) ∨ (b = 1 ∧ 1 ≤ v ∧ v ≤ 999) ∨ (b = 2 ∧ 0 ≤ v ∧ v ≤ 1)) by omega)]; exact (show _ = ent 79 g79 from ((F98 79 (by decide) (by decide)).trans ((F3 79 (by decide)).trans (H79.trans (ent_79 _)))))) | (rw [if_neg (show ¬ (0 ≤ a ∧ a ≤ 63 ∧ ((b = 0 ∧ 0 ≤ v ∧ v ≤ 99) ∨ (b = 1 ∧ 1 ≤ v ∧ v ≤ 999) ∨ (b = 2 ∧ 0 ≤ v ∧ v ≤ 1))) by omega)]; exact (show _ = ent 79 g79 from ((F98 79 (by decide) (by decide)).trans ((F3 79 (by decide)).trans (H79.trans (ent_79 _))))))), (by first | exact (show _ = ent 78 (uI (g78) 1 (g78 1 + 1)) from (E97.trans (ent_78 _))) | (rw [if_pos (show 0 ≤ a ∧ a ≤ 63 ∧ ((b = 0 ∧ 0 ≤ v ∧ v ≤ 99) ∨ (b = 1 ∧ 1 ≤ v ∧ v ≤ 999) ∨ (b = 2 ∧ 0 ≤ v ∧ v ≤ 1)) by omega)]; exact (show _ = ent 78 (uI (g78) 1 (g78 1 + 1)) from (E97.trans (ent_78 _)))) | (rw [if_neg (show ¬ (0 ≤ a ∧ a ≤ 63 ∧ ((b = 0 ∧ 0 ≤ v ∧ v ≤ 99) ∨ (b = 1 ∧ 1 ≤ v ∧ v ≤ 999) ∨ (b = 2 ∧ 0 ≤ v ∧ v ≤ 1))) by omega)]; exact (show _ = ent 78 (uI (g78) 1 (g78 1 + 1)) from (E97.trans (ent_78 _))))), (by first | exact (show _ = ent 77 ((uI (uI g77 0 0) 1 ((-1)))) from E99) | (rw [if_pos (show 0 ≤ a ∧ a ≤ 63 ∧ ((b = 0 ∧ 0 ≤ v ∧ v ≤ 99) ∨ (b = 1 ∧ 1 ≤ v ∧ v ≤ 999) ∨ (b = 2 ∧ 0 ≤ v ∧ v ≤ 1)) by omega)]; exact (show _ = ent 77 ((uI (uI g77 0 0) 1 ((-1)))) from E99)) | (rw [if_neg (show ¬ (0 ≤ a ∧ a ≤ 63 ∧ ((b = 0 ∧ 0 ≤ v ∧ v ≤ 99) ∨ (b = 1 ∧ 1 ≤ v ∧ v ≤ 999) ∨ (b = 2 ∧ 0 ≤ v ∧ v ≤ 1))) by omega)]; exact (show _ = ent 77 ((uI (uI g77 0 0) 1 ((-1)))) from E99))), fun j m79 m78 m77 => ((F98 j m77 m78).trans (F3 j m77))⟩ | omega)
    · refine v_iload dX12_put_67 rfl ?_
      refine v_ifeqB (tgt := 88) dX12_put_69 (by decide) (fun c_100 => ?_) (fun c_100 => ?_)
      · refine v_aload_n dX12_put_88 rfl ?_
        refine v_iconstI dX12_put_89 ?_
        have H101 := ((F3 78 (by decide)).trans (H78.trans (ent_78 _)))
        refine v_callV dX12_put_90 ml_X12_179 (sp_X12_tell_1  (g77 := (uI g77 0 0)) (g78 := g78) hn (show _ = ent 77 (uI g77 0 0) from E2) (show _ = ent 78 g78 from H101)) E2 rfl (s_lt hn rfl) rfl rfl (Nat.le_of_ble_eq_true rfl) (Nat.le_of_ble_eq_true rfl) (Nat.zero_le _) (Nat.zero_le _) ⟨Or.inl (fun _ _ _ q => q.2.1), fun r n1 h102 q103 => ?_⟩
        obtain ⟨rfl, rfl, E104, E105, F106⟩ := q103
        dsimp only [s_push]
        have E107 : _ = (.inr (12, [.int (iI 0), .int (iI ((-1))), .ref 78, .ref 79, .ref 80, .ref 81, .int (iI (g77 6)), .ref 82, .int (iI (g77 8)), .int (iI (g77 9)), .int (iI (g77 10)), .int (iI (g77 11)), .long (jJ (g77 12)), .int (iI (g77 13)), .int (iI (g77 14)), .int (iI (g77 15)), .int (iI (g77 16)), .ref 83, .int (iI (g77 18)), .ref 84, .ref 85, .int (iI (g77 21)), .ref 86, .ref 87, .int (iI (g77 24)), .int (iI (g77 25)), .ref 88, .ref 89, .ref 90, .int (iI (g77 29)), .ref 91, .ref 92, .ref 93, .int (iI (g77 33)), .long (jJ (g77 34)), .long (jJ (g77 35)), .ref 94, .ref 95, .ref 96, .ref 97, .ref 98, .ref 99, .ref 100, .ref 101, .ref 102, .ref 103, .ref 104, .ref 105, .ref 106, .ref 107, .int (iI (g77 50)), .ref 108, .ref 109, .ref 110, .ref 111, .ref 112, .ref 113, .int (iI (g77 57)), .int (iI (g77 58)), .int (iI (g77 59)), .int (iI (g77 60)), .long (jJ (g77 61)), .ref 114, .int (iI (g77 63))]) : sE) := E104
        exact v_iret dX12_put_93 rfl (Nat.zero_le _) (Nat.zero_le _) (by first | exact ⟨(congrArg (fun x => some (Value.int x)) (congrArg iI (by first | rfl | omega | (split <;> first | rfl | omega | (split <;> first | rfl | omega))))), rfl, (by first | exact (show _ = ent 79 g79 from ((F106 79 (by decide) (by decide)).trans ((F3 79 (by decide)).trans (H79.trans (ent_79 _))))) | (rw [if_pos (show 0 ≤ a ∧ a ≤ 63 ∧ ((b = 0 ∧ 0 ≤ v ∧ v ≤ 99) ∨ (b = 1 ∧ 1 ≤ v ∧ v ≤ 999) ∨ (b = 2 ∧ 0 ≤ v ∧ v ≤ 1)) by omega)]; exact (show _ = ent 79 g79 from ((F106 79 (by decide) (by decide)).trans ((F3 79 (by decide)).trans (H79.trans (ent_79 _)))))) | (rw [if_neg (show ¬ (0 ≤ a ∧ a ≤ 63 ∧ ((b = 0 ∧ 0 ≤ v ∧ v ≤ 99) ∨ (b = 1 ∧ 1 ≤ v ∧ v ≤ 999) ∨ (b = 2 ∧ 0 ≤ v ∧ v ≤ 1))) by omega)]; exact (show _ = ent 79 g79 from ((F106 79 (by decide) (by decide)).trans ((F3 79 (by decide)).trans (H79.trans (ent_79 _))))))), (by first | exact (show _ = ent 78 (uI (g78) 1 (g78 1 + 1)) from (E105.trans (ent_78 _))) | (rw [if_pos (show 0 ≤ a ∧ a ≤ 63 ∧ ((b = 0 ∧ 0 ≤ v ∧ v ≤ 99) ∨ (b = 1 ∧ 1 ≤ v ∧ v ≤ 999) ∨ (b = 2 ∧ 0 ≤ v ∧ v ≤ 1)) by omega)]; exact (show _ = ent 78 (uI (g78) 1 (g78 1 + 1)) from (E105.trans (ent_78 _)))) | (rw [if_neg (show ¬ (0 ≤ a ∧ a ≤ 63 ∧ ((b = 0 ∧ 0 ≤ v ∧ v ≤ 99) ∨ (b = 1 ∧ 1 ≤ v ∧ v ≤ 999) ∨ (b = 2 ∧ 0 ≤ v ∧ v ≤ 1))) by omega)]; exact (show _ = ent 78 (uI (g78) 1 (g78 1 + 1)) from (E105.trans (ent_78 _))))), (by first | exact (show _ = ent 77 ((uI (uI g77 0 0) 1 ((-1)))) from E107) | (rw [if_pos (show 0 ≤ a ∧ a ≤ 63 ∧ ((b = 0 ∧ 0 ≤ v ∧ v ≤ 99) ∨ (b = 1 ∧ 1 ≤ v ∧ v ≤ 999) ∨ (b = 2 ∧ 0 ≤ v ∧ v ≤ 1)) by omega)]; exact (show _ = ent 77 ((uI (uI g77 0 0) 1 ((-1)))) from E107)) | (rw [if_neg (show ¬ (0 ≤ a ∧ a ≤ 63 ∧ ((b = 0 ∧ 0 ≤ v ∧ v ≤ 99) ∨ (b = 1 ∧ 1 ≤ v ∧ v ≤ 999) ∨ (b = 2 ∧ 0 ≤ v ∧ v ≤ 1))) by omega)]; exact (show _ = ent 77 ((uI (uI g77 0 0) 1 ((-1)))) from E107))), fun j m79 m78 m77 => ((F106 j m77 m78).trans (F3 j m77))⟩ | omega)
      · refine v_aload_n dX12_put_72 rfl ?_
        refine v_bipushI dX12_put_73 rfl ?_
        refine v_iconstI dX12_put_75 ?_
        refine v_iload_n dX12_put_76 rfl ?_
        refine v_imulI dX12_put_77 ?_
        refine v_iaddI dX12_put_78 ?_
        refine v_iload_n dX12_put_79 rfl ?_
        refine v_iaddI dX12_put_80 ?_
        refine v_iload_n dX12_put_81 rfl ?_
        have H108 := ((F3 79 (by decide)).trans (H79.trans (ent_79 _)))
        refine v_callV dX12_put_82 ml_X12_199 (sp_X12_change (a := ((40 + (3 * a)) + b)) (b := v) (g77 := (uI g77 0 0)) (g79 := g79) hn (show _ = ent 77 (uI g77 0 0) from E2) (show _ = ent 79 g79 from H108) (by omega)) E2 rfl (s_lt hn rfl) rfl rfl (Nat.le_of_ble_eq_true rfl) (Nat.le_of_ble_eq_true rfl) (Nat.zero_le _) (Nat.zero_le _) ⟨Or.inl (fun _ _ _ q => q.2.1), fun r n1 h109 q110 => ?_⟩
        obtain ⟨rfl, rfl, E111, E112, F113⟩ := q110
        dsimp only [s_push]
        have E114 : _ = (.inr (12, [.int (iI 0), .int (iI (0)), .ref 78, .ref 79, .ref 80, .ref 81, .int (iI (g77 6)), .ref 82, .int (iI (g77 8)), .int (iI (g77 9)), .int (iI (g77 10)), .int (iI (g77 11)), .long (jJ (g77 12)), .int (iI (g77 13)), .int (iI (g77 14)), .int (iI (g77 15)), .int (iI (g77 16)), .ref 83, .int (iI (g77 18)), .ref 84, .ref 85, .int (iI (g77 21)), .ref 86, .ref 87, .int (iI (g77 24)), .int (iI (g77 25)), .ref 88, .ref 89, .ref 90, .int (iI (g77 29)), .ref 91, .ref 92, .ref 93, .int (iI (g77 33)), .long (jJ (g77 34)), .long (jJ (g77 35)), .ref 94, .ref 95, .ref 96, .ref 97, .ref 98, .ref 99, .ref 100, .ref 101, .ref 102, .ref 103, .ref 104, .ref 105, .ref 106, .ref 107, .int (iI (g77 50)), .ref 108, .ref 109, .ref 110, .ref 111, .ref 112, .ref 113, .int (iI (g77 57)), .int (iI (g77 58)), .int (iI (g77 59)), .int (iI (g77 60)), .long (jJ (g77 61)), .ref 114, .int (iI (g77 63))]) : sE) := E112
        refine v_goto (tgt := 93) dX12_put_85 (by decide) ?_
        exact v_iret dX12_put_93 rfl (Nat.zero_le _) (Nat.zero_le _) (by first | exact ⟨(congrArg (fun x => some (Value.int x)) (congrArg iI (by first | rfl | omega | (split <;> first | rfl | omega | (split <;> first | rfl | omega))))), rfl, (by first | exact (show _ = ent 79 (uI (g79) ((40 + (3 * a)) + b) v) from (E111.trans (ent_79 _))) | (rw [if_pos (show 0 ≤ a ∧ a ≤ 63 ∧ ((b = 0 ∧ 0 ≤ v ∧ v ≤ 99) ∨ (b = 1 ∧ 1 ≤ v ∧ v ≤ 999) ∨ (b = 2 ∧ 0 ≤ v ∧ v ≤ 1)) by omega)]; exact (show _ = ent 79 (uI (g79) ((40 + (3 * a)) + b) v) from (E111.trans (ent_79 _)))) | (rw [if_neg (show ¬ (0 ≤ a ∧ a ≤ 63 ∧ ((b = 0 ∧ 0 ≤ v ∧ v ≤ 99) ∨ (b = 1 ∧ 1 ≤ v ∧ v ≤ 999) ∨ (b = 2 ∧ 0 ≤ v ∧ v ≤ 1))) by omega)]; exact (show _ = ent 79 (uI (g79) ((40 + (3 * a)) + b) v) from (E111.trans (ent_79 _))))), (by first | exact (show _ = ent 78 g78 from ((F113 78 (by decide) (by decide)).trans ((F3 78 (by decide)).trans (H78.trans (ent_78 _))))) | (rw [if_pos (show 0 ≤ a ∧ a ≤ 63 ∧ ((b = 0 ∧ 0 ≤ v ∧ v ≤ 99) ∨ (b = 1 ∧ 1 ≤ v ∧ v ≤ 999) ∨ (b = 2 ∧ 0 ≤ v ∧ v ≤ 1)) by omega)]; exact (show _ = ent 78 g78 from ((F113 78 (by decide) (by decide)).trans ((F3 78 (by decide)).trans (H78.trans (ent_78 _)))))) | (rw [if_neg (show ¬ (0 ≤ a ∧ a ≤ 63 ∧ ((b = 0 ∧ 0 ≤ v ∧ v ≤ 99) ∨ (b = 1 ∧ 1 ≤ v ∧ v ≤ 999) ∨ (b = 2 ∧ 0 ≤ v ∧ v ≤ 1))) by omega)]; exact (show _ = ent 78 g78 from ((F113 78 (by decide) (by decide)).trans ((F3 78 (by decide)).trans (H78.trans (ent_78 _))))))), (by first | exact (show _ = ent 77 ((uI (uI g77 0 0) 1 0)) from E114) | (rw [if_pos (show 0 ≤ a ∧ a ≤ 63 ∧ ((b = 0 ∧ 0 ≤ v ∧ v ≤ 99) ∨ (b = 1 ∧ 1 ≤ v ∧ v ≤ 999) ∨ (b = 2 ∧ 0 ≤ v ∧ v ≤ 1)) by omega)]; exact (show _ = ent 77 ((uI (uI g77 0 0) 1 0)) from E114)) | (rw [if_neg (show ¬ (0 ≤ a ∧ a ≤ 63 ∧ ((b = 0 ∧ 0 ≤ v ∧ v ≤ 99) ∨ (b = 1 ∧ 1 ≤ v ∧ v ≤ 999) ∨ (b = 2 ∧ 0 ≤ v ∧ v ≤ 1))) by omega)]; exact (show _ = ent 77 ((uI (uI g77 0 0) 1 0)) from E114))), fun j m79 m78 m77 => ((F113 j m79 m77).trans (F3 j m77))⟩ | omega)
theorem dX12_fact_0 : decode cX12_fact 0 = .ok (.aload_n 0, 1) := by decide +kernel
theorem dX12_fact_1 : decode cX12_fact 1 = .ok (.iconst 0, 1) := by decide +kernel
theorem dX12_fact_2 : decode cX12_fact 2 = .ok (.putfield 169, 3) := by decide +kernel
theorem dX12_fact_5 : decode cX12_fact 5 = .ok (.iload_n 1, 1) := by decide +kernel
theorem dX12_fact_6 : decode cX12_fact 6 = .ok (.invokestatic 195, 3) := by decide +kernel
theorem dX12_fact_9 : decode cX12_fact 9 = .ok (.ifCond .eq 24, 3) := by decide +kernel
theorem dX12_fact_12 : decode cX12_fact 12 = .ok (.iload_n 2, 1) := by decide +kernel
theorem dX12_fact_13 : decode cX12_fact 13 = .ok (.i2l, 1) := by decide +kernel
theorem dX12_fact_14 : decode cX12_fact 14 = .ok (.lconst 0, 1) := by decide +kernel
theorem dX12_fact_15 : decode cX12_fact 15 = .ok (.ldc2_w 203, 3) := by decide +kernel
theorem dX12_fact_18 : decode cX12_fact 18 = .ok (.invokestatic 175, 3) := by decide +kernel
theorem dX12_fact_21 : decode cX12_fact 21 = .ok (.ifCond .eq 12, 3) := by decide +kernel
theorem dX12_fact_24 : decode cX12_fact 24 = .ok (.aload_n 0, 1) := by decide +kernel
theorem dX12_fact_25 : decode cX12_fact 25 = .ok (.iload_n 1, 1) := by decide +kernel
theorem dX12_fact_26 : decode cX12_fact 26 = .ok (.iload_n 2, 1) := by decide +kernel
theorem dX12_fact_27 : decode cX12_fact 27 = .ok (.invokevirtual 205, 3) := by decide +kernel
theorem dX12_fact_30 : decode cX12_fact 30 = .ok (.goto 4, 3) := by decide +kernel
theorem dX12_fact_33 : decode cX12_fact 33 = .ok (.iconst (-1), 1) := by decide +kernel
theorem dX12_fact_34 : decode cX12_fact 34 = .ok (.ireturn, 1) := by decide +kernel
theorem sp_X12_fact {n : Nat} {h : Nat → sE} {a b : Int}  {g77 g79 : Int → Int} (hn : 115 ≤ n) (H77 : h 77 = ent 77 g77) (H79 : h 79 = ent 79 g79) (ra : -2147483648 ≤ a ∧ a ≤ 2147483647) (rb : -2147483648 ≤ b ∧ b ≤ 2147483647) : Sp m_X12_fact 3 0 0 [.ref 77, .int (iI a), .int (iI b)] n h (fun r n' h' => r = some (.int (iI (if 0 ≤ a ∧ a ≤ 63 ∧ 0 ≤ b ∧ b ≤ 2 then g79 (40 + 3 * a + b) else -1))) ∧ n' = n ∧ h' 77 = ent 77 ((uI g77 0 0)) ∧ ∀ j, j ≠ 77 → h' j = h j) := by
  refine Sp.ofV (by decide +kernel) (Nat.le_of_ble_eq_true rfl) ?_
  refine v_aload_n dX12_fact_0 rfl ?_
  refine v_iconstI dX12_fact_1 ?_
  refine v_put dX12_fact_2 fl_X12_169 (H77.trans (ent_77 _)) (s_lt hn rfl) (Nat.le_of_ble_eq_true rfl) (fun _ => ⟨rfl, rfl⟩) trivial (fun h1 E2 F3 => ?_)
  refine v_iload_n dX12_fact_5 rfl ?_
  refine v_callS dX12_fact_6 ml_X12_195 (sp_X12_isField (a := a)   (by omega)) rfl rfl (Nat.le_of_ble_eq_true rfl) (Nat.le_of_ble_eq_true rfl) (Nat.zero_le _) (Nat.zero_le _) ⟨Or.inl (fun _ _ _ q => q.2.1), fun r n1 h4 q5 => ?_⟩
  obtain ⟨rfl, rfl, rfl⟩ := q5
  try dsimp only [s_push]
  refine v_ifeqB (tgt := 33) dX12_fact_9 (by decide) (fun c_6 => ?_) (fun c_6 => ?_)
  · refine v_iconstI dX12_fact_33 ?_
    exact v_iret dX12_fact_34 rfl (Nat.zero_le _) (Nat.zero_le _) (by first | exact ⟨(congrArg (fun x => some (Value.int x)) (congrArg iI (by first | rfl | omega | (split <;> first | rfl | omega | (split <;> first | rfl | omega))))), rfl, (by first | exact (show _ = ent 77 (uI g77 0 0) from E2) | (rw [if_pos (by omega)]; exact (show _ = ent 77 (uI g77 0 0) from E2)) | (rw [if_neg (by omega)]; exact (show _ = ent 77 (uI g77 0 0) from E2))), fun j m77 => (F3 j m77)⟩ | omega)
  · refine v_iload_n dX12_fact_12 rfl ?_
    refine v_i2lI dX12_fact_13 (by omega) (by omega) ?_
    refine v_lconstI (w := 0) dX12_fact_14 rfl ?_
    refine v_ldc2I 2 dX12_fact_15 k_X12_203 rfl ?_
    refine v_callS dX12_fact_18 ml_X12_175 (sp_X12_in (v := b) (lo := 0) (hi := 2)   (by omega) (by omega) (by omega)) rfl rfl (Nat.le_of_ble_eq_true rfl) (Nat.le_of_ble_eq_true rfl) (Nat.zero_le _) (Nat.zero_le _) ⟨Or.inl (fun _ _ _ q => q.2.1), fun r n1 h7 q8 => ?_⟩
    obtain ⟨rfl, rfl, rfl⟩ := q8
    try dsimp only [s_push]
    refine v_ifeqB (tgt := 33) dX12_fact_21 (by decide) (fun c_9 => ?_) (fun c_9 => ?_)
    · refine v_iconstI dX12_fact_33 ?_
      exact v_iret dX12_fact_34 rfl (Nat.zero_le _) (Nat.zero_le _) (by first | exact ⟨(congrArg (fun x => some (Value.int x)) (congrArg iI (by first | rfl | omega | (split <;> first | rfl | omega | (split <;> first | rfl | omega))))), rfl, (by first | exact (show _ = ent 77 (uI g77 0 0) from E2) | (rw [if_pos (by omega)]; exact (show _ = ent 77 (uI g77 0 0) from E2)) | (rw [if_neg (by omega)]; exact (show _ = ent 77 (uI g77 0 0) from E2))), fun j m77 => (F3 j m77)⟩ | omega)
    · refine v_aload_n dX12_fact_24 rfl ?_
      refine v_iload_n dX12_fact_25 rfl ?_
      refine v_iload_n dX12_fact_26 rfl ?_
      have H10 := ((F3 79 (by decide)).trans (H79.trans (ent_79 _)))
      refine v_callV dX12_fact_27 ml_X12_205 (sp_X12_ofField (a := a) (b := b) (g77 := (uI g77 0 0)) (g79 := g79) hn (show _ = ent 77 (uI g77 0 0) from E2) (show _ = ent 79 g79 from H10) (by omega)) E2 rfl (s_lt hn rfl) rfl rfl (Nat.le_of_ble_eq_true rfl) (Nat.le_of_ble_eq_true rfl) (Nat.zero_le _) (Nat.zero_le _) ⟨Or.inl (fun _ _ _ q => q.2.1), fun r n1 h11 q12 => ?_⟩
      obtain ⟨rfl, rfl, rfl⟩ := q12
      try dsimp only [s_push]
      refine v_goto (tgt := 34) dX12_fact_30 (by decide) ?_
      exact v_iret dX12_fact_34 rfl (Nat.zero_le _) (Nat.zero_le _) (by first | exact ⟨(congrArg (fun x => some (Value.int x)) (congrArg iI (by first | rfl | omega | (split <;> first | rfl | omega | (split <;> first | rfl | omega))))), rfl, (by first | exact (show _ = ent 77 (uI g77 0 0) from E2) | (rw [if_pos (by omega)]; exact (show _ = ent 77 (uI g77 0 0) from E2)) | (rw [if_neg (by omega)]; exact (show _ = ent 77 (uI g77 0 0) from E2))), fun j m77 => (F3 j m77)⟩ | omega)
theorem dX12_wind_0 : decode cX12_wind 0 = .ok (.aload_n 0, 1) := by decide +kernel
theorem dX12_wind_1 : decode cX12_wind 1 = .ok (.iconst 0, 1) := by decide +kernel
theorem dX12_wind_2 : decode cX12_wind 2 = .ok (.putfield 169, 3) := by decide +kernel
theorem dX12_wind_5 : decode cX12_wind 5 = .ok (.iload_n 1, 1) := by decide +kernel
theorem dX12_wind_6 : decode cX12_wind 6 = .ok (.i2l, 1) := by decide +kernel
theorem dX12_wind_7 : decode cX12_wind 7 = .ok (.lconst 0, 1) := by decide +kernel
theorem dX12_wind_8 : decode cX12_wind 8 = .ok (.ldc2_w 203, 3) := by decide +kernel
theorem dX12_wind_11 : decode cX12_wind 11 = .ok (.invokestatic 175, 3) := by decide +kernel
theorem dX12_wind_14 : decode cX12_wind 14 = .ok (.ifCond .eq 27, 3) := by decide +kernel
theorem dX12_wind_17 : decode cX12_wind 17 = .ok (.iload_n 2, 1) := by decide +kernel
theorem dX12_wind_18 : decode cX12_wind 18 = .ok (.i2l, 1) := by decide +kernel
theorem dX12_wind_19 : decode cX12_wind 19 = .ok (.ldc2_w 208, 3) := by decide +kernel
theorem dX12_wind_22 : decode cX12_wind 22 = .ok (.lconst 1, 1) := by decide +kernel
theorem dX12_wind_23 : decode cX12_wind 23 = .ok (.invokestatic 175, 3) := by decide +kernel
theorem dX12_wind_26 : decode cX12_wind 26 = .ok (.ifCond .eq 15, 3) := by decide +kernel
theorem dX12_wind_29 : decode cX12_wind 29 = .ok (.iload_n 3, 1) := by decide +kernel
theorem dX12_wind_30 : decode cX12_wind 30 = .ok (.i2l, 1) := by decide +kernel
theorem dX12_wind_31 : decode cX12_wind 31 = .ok (.ldc2_w 208, 3) := by decide +kernel
theorem dX12_wind_34 : decode cX12_wind 34 = .ok (.lconst 1, 1) := by decide +kernel
theorem dX12_wind_35 : decode cX12_wind 35 = .ok (.invokestatic 175, 3) := by decide +kernel
theorem dX12_wind_38 : decode cX12_wind 38 = .ok (.ifCond .ne 9, 3) := by decide +kernel
theorem dX12_wind_41 : decode cX12_wind 41 = .ok (.aload_n 0, 1) := by decide +kernel
theorem dX12_wind_42 : decode cX12_wind 42 = .ok (.iconst (-1), 1) := by decide +kernel
theorem dX12_wind_43 : decode cX12_wind 43 = .ok (.invokevirtual 179, 3) := by decide +kernel
theorem dX12_wind_46 : decode cX12_wind 46 = .ok (.ireturn, 1) := by decide +kernel
theorem dX12_wind_47 : decode cX12_wind 47 = .ok (.aload_n 0, 1) := by decide +kernel
theorem dX12_wind_48 : decode cX12_wind 48 = .ok (.getfield 13, 3) := by decide +kernel
theorem dX12_wind_51 : decode cX12_wind 51 = .ok (.bipush 9, 2) := by decide +kernel
theorem dX12_wind_53 : decode cX12_wind 53 = .ok (.iconst 2, 1) := by decide +kernel
theorem dX12_wind_54 : decode cX12_wind 54 = .ok (.iload_n 1, 1) := by decide +kernel
theorem dX12_wind_55 : decode cX12_wind 55 = .ok (.imul, 1) := by decide +kernel
theorem dX12_wind_56 : decode cX12_wind 56 = .ok (.iadd, 1) := by decide +kernel
theorem dX12_wind_57 : decode cX12_wind 57 = .ok (.iload_n 2, 1) := by decide +kernel
theorem dX12_wind_58 : decode cX12_wind 58 = .ok (.iastore, 1) := by decide +kernel
theorem dX12_wind_59 : decode cX12_wind 59 = .ok (.aload_n 0, 1) := by decide +kernel
theorem dX12_wind_60 : decode cX12_wind 60 = .ok (.getfield 13, 3) := by decide +kernel
theorem dX12_wind_63 : decode cX12_wind 63 = .ok (.bipush 9, 2) := by decide +kernel
theorem dX12_wind_65 : decode cX12_wind 65 = .ok (.iconst 2, 1) := by decide +kernel
theorem dX12_wind_66 : decode cX12_wind 66 = .ok (.iload_n 1, 1) := by decide +kernel
theorem dX12_wind_67 : decode cX12_wind 67 = .ok (.imul, 1) := by decide +kernel
theorem dX12_wind_68 : decode cX12_wind 68 = .ok (.iadd, 1) := by decide +kernel
theorem dX12_wind_69 : decode cX12_wind 69 = .ok (.iconst 1, 1) := by decide +kernel
theorem dX12_wind_70 : decode cX12_wind 70 = .ok (.iadd, 1) := by decide +kernel
theorem dX12_wind_71 : decode cX12_wind 71 = .ok (.iload_n 3, 1) := by decide +kernel
theorem dX12_wind_72 : decode cX12_wind 72 = .ok (.iastore, 1) := by decide +kernel
theorem dX12_wind_73 : decode cX12_wind 73 = .ok (.aload_n 0, 1) := by decide +kernel
theorem dX12_wind_74 : decode cX12_wind 74 = .ok (.iconst 0, 1) := by decide +kernel
theorem dX12_wind_75 : decode cX12_wind 75 = .ok (.invokevirtual 179, 3) := by decide +kernel
theorem dX12_wind_78 : decode cX12_wind 78 = .ok (.ireturn, 1) := by decide +kernel
theorem sp_X12_wind {n : Nat} {h : Nat → sE} {a b c : Int}  {g77 g79 g78 : Int → Int} (hn : 115 ≤ n) (H77 : h 77 = ent 77 g77) (H79 : h 79 = ent 79 g79) (H78 : h 78 = ent 78 g78) (ra : -2147483648 ≤ a ∧ a ≤ 2147483647) (rb : -2147483648 ≤ b ∧ b ≤ 2147483647) (rc : -2147483648 ≤ c ∧ c ≤ 2147483647) : Sp m_X12_wind 3 0 0 [.ref 77, .int (iI a), .int (iI b), .int (iI c)] n h (fun r n' h' => r = some (.int (iI (if 0 ≤ a ∧ a ≤ 2 ∧ -1 ≤ b ∧ b ≤ 1 ∧ -1 ≤ c ∧ c ≤ 1 then 0 else -1))) ∧ n' = n ∧ h' 79 = ent 79 (if 0 ≤ a ∧ a ≤ 2 ∧ -1 ≤ b ∧ b ≤ 1 ∧ -1 ≤ c ∧ c ≤ 1 then uI (uI (g79) (9 + 2 * a) b) (9 + 2 * a + 1) c else g79) ∧ h' 78 = ent 78 (if 0 ≤ a ∧ a ≤ 2 ∧ -1 ≤ b ∧ b ≤ 1 ∧ -1 ≤ c ∧ c ≤ 1 then g78 else uI (g78) 1 (g78 1 + 1)) ∧ h' 77 = ent 77 ((uI (uI g77 0 0) 1 (if 0 ≤ a ∧ a ≤ 2 ∧ -1 ≤ b ∧ b ≤ 1 ∧ -1 ≤ c ∧ c ≤ 1 then 0 else -1))) ∧ ∀ j, j ≠ 79 → j ≠ 78 → j ≠ 77 → h' j = h j) := by
  refine Sp.ofV (by decide +kernel) (Nat.le_of_ble_eq_true rfl) ?_
  refine v_aload_n dX12_wind_0 rfl ?_
  refine v_iconstI dX12_wind_1 ?_
  refine v_put dX12_wind_2 fl_X12_169 (H77.trans (ent_77 _)) (s_lt hn rfl) (Nat.le_of_ble_eq_true rfl) (fun _ => ⟨rfl, rfl⟩) trivial (fun h1 E2 F3 => ?_)
  refine v_iload_n dX12_wind_5 rfl ?_
  refine v_i2lI dX12_wind_6 (by omega) (by omega) ?_
  refine v_lconstI (w := 0) dX12_wind_7 rfl ?_
  refine v_ldc2I 2 dX12_wind_8 k_X12_203 rfl ?_
  refine v_callS dX12_wind_11 ml_X12_175 (sp_X12_in (v := a) (lo := 0) (hi := 2)   (by omega) (by omega) (by omega)) rfl rfl (Nat.le_of_ble_eq_true rfl) (Nat.le_of_ble_eq_true rfl) (Nat.zero_le _) (Nat.zero_le _) ⟨Or.inl (fun _ _ _ q => q.2.1), fun r n1 h4 q5 => ?_⟩
  obtain ⟨rfl, rfl, rfl⟩ := q5
  try dsimp only [s_push]
  refine v_ifeqB (tgt := 41) dX12_wind_14 (by decide) (fun c_6 => ?_) (fun c_6 => ?_)
  · refine v_aload_n dX12_wind_41 rfl ?_
    refine v_iconstI dX12_wind_42 ?_
    have H7 := ((F3 78 (by decide)).trans (H78.trans (ent_78 _)))
    refine v_callV dX12_wind_43 ml_X12_179 (sp_X12_tell_1  (g77 := (uI g77 0 0)) (g78 := g78) hn (show _ = ent 77 (uI g77 0 0) from E2) (show _ = ent 78 g78 from H7)) E2 rfl (s_lt hn rfl) rfl rfl (Nat.le_of_ble_eq_true rfl) (Nat.le_of_ble_eq_true rfl) (Nat.zero_le _) (Nat.zero_le _) ⟨Or.inl (fun _ _ _ q => q.2.1), fun r n1 h8 q9 => ?_⟩
    obtain ⟨rfl, rfl, E10, E11, F12⟩ := q9
    dsimp only [s_push]
    have E13 : _ = (.inr (12, [.int (iI 0), .int (iI ((-1))), .ref 78, .ref 79, .ref 80, .ref 81, .int (iI (g77 6)), .ref 82, .int (iI (g77 8)), .int (iI (g77 9)), .int (iI (g77 10)), .int (iI (g77 11)), .long (jJ (g77 12)), .int (iI (g77 13)), .int (iI (g77 14)), .int (iI (g77 15)), .int (iI (g77 16)), .ref 83, .int (iI (g77 18)), .ref 84, .ref 85, .int (iI (g77 21)), .ref 86, .ref 87, .int (iI (g77 24)), .int (iI (g77 25)), .ref 88, .ref 89, .ref 90, .int (iI (g77 29)), .ref 91, .ref 92, .ref 93, .int (iI (g77 33)), .long (jJ (g77 34)), .long (jJ (g77 35)), .ref 94, .ref 95, .ref 96, .ref 97, .ref 98, .ref 99, .ref 100, .ref 101, .ref 102, .ref 103, .ref 104, .ref 105, .ref 106, .ref 107, .int (iI (g77 50)), .ref 108, .ref 109, .ref 110, .ref 111, .ref 112, .ref 113, .int (iI (g77 57)), .int (iI (g77 58)), .int (iI (g77 59)), .int (iI (g77 60)), .long (jJ (g77 61)), .ref 114, .int (iI (g77 63))]) : sE) := E10
    exact v_iret dX12_wind_46 rfl (Nat.zero_le _) (Nat.zero_le _) (by first | exact ⟨(congrArg (fun x => some (Value.int x)) (congrArg iI (by first | rfl | omega | (split <;> first | rfl | omega | (split <;> first | rfl | omega))))), rfl, (by first | exact (show _ = ent 79 g79 from ((F12 79 (by decide) (by decide)).trans ((F3 79 (by decide)).trans (H79.trans (ent_79 _))))) | (rw [if_pos (show 0 ≤ a ∧ a ≤ 2 ∧ -1 ≤ b ∧ b ≤ 1 ∧ -1 ≤ c ∧ c ≤ 1 by omega)]; exact (show _ = ent 79 g79 from ((F12 79 (by decide) (by decide)).trans ((F3 79 (by decide)).trans (H79.trans (ent_79 _)))))) | (rw [if_neg (show ¬ (0 ≤ a ∧ a ≤ 2 ∧ -1 ≤ b ∧ b ≤ 1 ∧ -1 ≤ c ∧ c ≤ 1) by omega)]; exact (show _ = ent 79 g79 from ((F12 79 (by decide) (by decide)).trans ((F3 79 (by decide)).trans (H79.trans (ent_79 _))))))), (by first | exact (show _ = ent 78 (uI (g78) 1 (g78 1 + 1)) from (E11.trans (ent_78 _))) | (rw [if_pos (show 0 ≤ a ∧ a ≤ 2 ∧ -1 ≤ b ∧ b ≤ 1 ∧ -1 ≤ c ∧ c ≤ 1 by omega)]; exact (show _ = ent 78 (uI (g78) 1 (g78 1 + 1)) from (E11.trans (ent_78 _)))) | (rw [if_neg (show ¬ (0 ≤ a ∧ a ≤ 2 ∧ -1 ≤ b ∧ b ≤ 1 ∧ -1 ≤ c ∧ c ≤ 1) by omega)]; exact (show _ = ent 78 (uI (g78) 1 (g78 1 + 1)) from (E11.trans (ent_78 _))))), (by first | exact (show _ = ent 77 ((uI (uI g77 0 0) 1 ((-1)))) from E13) | (rw [if_pos (show 0 ≤ a ∧ a ≤ 2 ∧ -1 ≤ b ∧ b ≤ 1 ∧ -1 ≤ c ∧ c ≤ 1 by omega)]; exact (show _ = ent 77 ((uI (uI g77 0 0) 1 ((-1)))) from E13)) | (rw [if_neg (show ¬ (0 ≤ a ∧ a ≤ 2 ∧ -1 ≤ b ∧ b ≤ 1 ∧ -1 ≤ c ∧ c ≤ 1) by omega)]; exact (show _ = ent 77 ((uI (uI g77 0 0) 1 ((-1)))) from E13))), fun j m79 m78 m77 => ((F12 j m77 m78).trans (F3 j m77))⟩ | omega)
  · refine v_iload_n dX12_wind_17 rfl ?_
    refine v_i2lI dX12_wind_18 (by omega) (by omega) ?_
    refine v_ldc2I (-1) dX12_wind_19 k_X12_208 rfl ?_
    refine v_lconstI (w := 1) dX12_wind_22 rfl ?_
    refine v_callS dX12_wind_23 ml_X12_175 (sp_X12_in (v := b) (lo := (-1)) (hi := 1)   (by omega) (by omega) (by omega)) rfl rfl (Nat.le_of_ble_eq_true rfl) (Nat.le_of_ble_eq_true rfl) (Nat.zero_le _) (Nat.zero_le _) ⟨Or.inl (fun _ _ _ q => q.2.1), fun r n1 h14 q15 => ?_⟩
    obtain ⟨rfl, rfl, rfl⟩ := q15
    try dsimp only [s_push]
    refine v_ifeqB (tgt := 41) dX12_wind_26 (by decide) (fun c_16 => ?_) (fun c_16 => ?_)
    · refine v_aload_n dX12_wind_41 rfl ?_
      refine v_iconstI dX12_wind_42 ?_
      have H17 := ((F3 78 (by decide)).trans (H78.trans (ent_78 _)))
      refine v_callV dX12_wind_43 ml_X12_179 (sp_X12_tell_1  (g77 := (uI g77 0 0)) (g78 := g78) hn (show _ = ent 77 (uI g77 0 0) from E2) (show _ = ent 78 g78 from H17)) E2 rfl (s_lt hn rfl) rfl rfl (Nat.le_of_ble_eq_true rfl) (Nat.le_of_ble_eq_true rfl) (Nat.zero_le _) (Nat.zero_le _) ⟨Or.inl (fun _ _ _ q => q.2.1), fun r n1 h18 q19 => ?_⟩
      obtain ⟨rfl, rfl, E20, E21, F22⟩ := q19
      dsimp only [s_push]
      have E23 : _ = (.inr (12, [.int (iI 0), .int (iI ((-1))), .ref 78, .ref 79, .ref 80, .ref 81, .int (iI (g77 6)), .ref 82, .int (iI (g77 8)), .int (iI (g77 9)), .int (iI (g77 10)), .int (iI (g77 11)), .long (jJ (g77 12)), .int (iI (g77 13)), .int (iI (g77 14)), .int (iI (g77 15)), .int (iI (g77 16)), .ref 83, .int (iI (g77 18)), .ref 84, .ref 85, .int (iI (g77 21)), .ref 86, .ref 87, .int (iI (g77 24)), .int (iI (g77 25)), .ref 88, .ref 89, .ref 90, .int (iI (g77 29)), .ref 91, .ref 92, .ref 93, .int (iI (g77 33)), .long (jJ (g77 34)), .long (jJ (g77 35)), .ref 94, .ref 95, .ref 96, .ref 97, .ref 98, .ref 99, .ref 100, .ref 101, .ref 102, .ref 103, .ref 104, .ref 105, .ref 106, .ref 107, .int (iI (g77 50)), .ref 108, .ref 109, .ref 110, .ref 111, .ref 112, .ref 113, .int (iI (g77 57)), .int (iI (g77 58)), .int (iI (g77 59)), .int (iI (g77 60)), .long (jJ (g77 61)), .ref 114, .int (iI (g77 63))]) : sE) := E20
      exact v_iret dX12_wind_46 rfl (Nat.zero_le _) (Nat.zero_le _) (by first | exact ⟨(congrArg (fun x => some (Value.int x)) (congrArg iI (by first | rfl | omega | (split <;> first | rfl | omega | (split <;> first | rfl | omega))))), rfl, (by first | exact (show _ = ent 79 g79 from ((F22 79 (by decide) (by decide)).trans ((F3 79 (by decide)).trans (H79.trans (ent_79 _))))) | (rw [if_pos (show 0 ≤ a ∧ a ≤ 2 ∧ -1 ≤ b ∧ b ≤ 1 ∧ -1 ≤ c ∧ c ≤ 1 by omega)]; exact (show _ = ent 79 g79 from ((F22 79 (by decide) (by decide)).trans ((F3 79 (by decide)).trans (H79.trans (ent_79 _)))))) | (rw [if_neg (show ¬ (0 ≤ a ∧ a ≤ 2 ∧ -1 ≤ b ∧ b ≤ 1 ∧ -1 ≤ c ∧ c ≤ 1) by omega)]; exact (show _ = ent 79 g79 from ((F22 79 (by decide) (by decide)).trans ((F3 79 (by decide)).trans (H79.trans (ent_79 _))))))), (by first | exact (show _ = ent 78 (uI (g78) 1 (g78 1 + 1)) from (E21.trans (ent_78 _))) | (rw [if_pos (show 0 ≤ a ∧ a ≤ 2 ∧ -1 ≤ b ∧ b ≤ 1 ∧ -1 ≤ c ∧ c ≤ 1 by omega)]; exact (show _ = ent 78 (uI (g78) 1 (g78 1 + 1)) from (E21.trans (ent_78 _)))) | (rw [if_neg (show ¬ (0 ≤ a ∧ a ≤ 2 ∧ -1 ≤ b ∧ b ≤ 1 ∧ -1 ≤ c ∧ c ≤ 1) by omega)]; exact (show _ = ent 78 (uI (g78) 1 (g78 1 + 1)) from (E21.trans (ent_78 _))))), (by first | exact (show _ = ent 77 ((uI (uI g77 0 0) 1 ((-1)))) from E23) | (rw [if_pos (show 0 ≤ a ∧ a ≤ 2 ∧ -1 ≤ b ∧ b ≤ 1 ∧ -1 ≤ c ∧ c ≤ 1 by omega)]; exact (show _ = ent 77 ((uI (uI g77 0 0) 1 ((-1)))) from E23)) | (rw [if_neg (show ¬ (0 ≤ a ∧ a ≤ 2 ∧ -1 ≤ b ∧ b ≤ 1 ∧ -1 ≤ c ∧ c ≤ 1) by omega)]; exact (show _ = ent 77 ((uI (uI g77 0 0) 1 ((-1)))) from E23))), fun j m79 m78 m77 => ((F22 j m77 m78).trans (F3 j m77))⟩ | omega)
    · refine v_iload_n dX12_wind_29 rfl ?_
      refine v_i2lI dX12_wind_30 (by omega) (by omega) ?_
      refine v_ldc2I (-1) dX12_wind_31 k_X12_208 rfl ?_
      refine v_lconstI (w := 1) dX12_wind_34 rfl ?_
      refine v_callS dX12_wind_35 ml_X12_175 (sp_X12_in (v := c) (lo := (-1)) (hi := 1)   (by omega) (by omega) (by omega)) rfl rfl (Nat.le_of_ble_eq_true rfl) (Nat.le_of_ble_eq_true rfl) (Nat.zero_le _) (Nat.zero_le _) ⟨Or.inl (fun _ _ _ q => q.2.1), fun r n1 h24 q25 => ?_⟩
      obtain ⟨rfl, rfl, rfl⟩ := q25
      try dsimp only [s_push]
      refine v_ifneB (tgt := 47) dX12_wind_38 (by decide) (fun c_26 => ?_) (fun c_26 => ?_)
      · refine v_aload_n dX12_wind_47 rfl ?_
        refine v_get dX12_wind_48 fl_X12_13 E2 rfl (s_lt hn rfl) ?_
        refine v_bipushI dX12_wind_51 rfl ?_
        refine v_iconstI dX12_wind_53 ?_
        refine v_iload_n dX12_wind_54 rfl ?_
        refine v_imulI dX12_wind_55 ?_
        refine v_iaddI dX12_wind_56 ?_
        refine v_iload_n dX12_wind_57 rfl ?_
        have H27 := ((F3 79 (by decide)).trans (H79.trans (ent_79 _)))
        refine v_iastI dX12_wind_58 H27 (s_lt hn rfl) (by omega) (by omega) (by omega) (fun h28 E29 F30 => ?_)
        refine v_aload_n dX12_wind_59 rfl ?_
        have H31 := ((F30 77 (by decide)).trans E2)
        refine v_get dX12_wind_60 fl_X12_13 H31 rfl (s_lt hn rfl) ?_
        refine v_bipushI dX12_wind_63 rfl ?_
        refine v_iconstI dX12_wind_65 ?_
        refine v_iload_n dX12_wind_66 rfl ?_
        refine v_imulI dX12_wind_67 ?_
        refine v_iaddI dX12_wind_68 ?_
        refine v_iconstI dX12_wind_69 ?_
        refine v_iaddI dX12_wind_70 ?_
        refine v_iload_n dX12_wind_71 rfl ?_
        refine v_iastI dX12_wind_72 E29 (s_lt hn rfl) (by omega) (by omega) (by omega) (fun h32 E33 F34 => ?_)
        refine v_aload_n dX12_wind_73 rfl ?_
        refine v_iconstI dX12_wind_74 ?_
        have H35 := ((F34 77 (by decide)).trans H31)
        refine v_callV dX12_wind_75 ml_X12_179 (sp_X12_tell_p (a := 0) (g77 := (uI g77 0 0)) hn (show _ = ent 77 (uI g77 0 0) from H35) (by omega)) H35 rfl (s_lt hn rfl) rfl rfl (Nat.le_of_ble_eq_true rfl) (Nat.le_of_ble_eq_true rfl) (Nat.zero_le _) (Nat.zero_le _) ⟨Or.inl (fun _ _ _ q => q.2.1), fun r n1 h36 q37 => ?_⟩
        obtain ⟨rfl, rfl, E38, F39⟩ := q37
        dsimp only [s_push]
        have E40 : _ = (.inr (12, [.int (iI 0), .int (iI (0)), .ref 78, .ref 79, .ref 80, .ref 81, .int (iI (g77 6)), .ref 82, .int (iI (g77 8)), .int (iI (g77 9)), .int (iI (g77 10)), .int (iI (g77 11)), .long (jJ (g77 12)), .int (iI (g77 13)), .int (iI (g77 14)), .int (iI (g77 15)), .int (iI (g77 16)), .ref 83, .int (iI (g77 18)), .ref 84, .ref 85, .int (iI (g77 21)), .ref 86, .ref 87, .int (iI (g77 24)), .int (iI (g77 25)), .ref 88, .ref 89, .ref 90, .int (iI (g77 29)), .ref 91, .ref 92, .ref 93, .int (iI (g77 33)), .long (jJ (g77 34)), .long (jJ (g77 35)), .ref 94, .ref 95, .ref 96, .ref 97, .ref 98, .ref 99, .ref 100, .ref 101, .ref 102, .ref 103, .ref 104, .ref 105, .ref 106, .ref 107, .int (iI (g77 50)), .ref 108, .ref 109, .ref 110, .ref 111, .ref 112, .ref 113, .int (iI (g77 57)), .int (iI (g77 58)), .int (iI (g77 59)), .int (iI (g77 60)), .long (jJ (g77 61)), .ref 114, .int (iI (g77 63))]) : sE) := E38
        exact v_iret dX12_wind_78 rfl (Nat.zero_le _) (Nat.zero_le _) (by first | exact ⟨(congrArg (fun x => some (Value.int x)) (congrArg iI (by first | rfl | omega | (split <;> first | rfl | omega | (split <;> first | rfl | omega))))), rfl, (by first | exact (show _ = ent 79 (uI (uI g79 (9 + (2 * a)) b) ((9 + (2 * a)) + 1) c) from ((F39 79 (by decide)).trans E33)) | (rw [if_pos (show 0 ≤ a ∧ a ≤ 2 ∧ -1 ≤ b ∧ b ≤ 1 ∧ -1 ≤ c ∧ c ≤ 1 by omega)]; exact (show _ = ent 79 (uI (uI g79 (9 + (2 * a)) b) ((9 + (2 * a)) + 1) c) from ((F39 79 (by decide)).trans E33))) | (rw [if_neg (show ¬ (0 ≤ a ∧ a ≤ 2 ∧ -1 ≤ b ∧ b ≤ 1 ∧ -1 ≤ c ∧ c ≤ 1) by omega)]; exact (show _ = ent 79 (uI (uI g79 (9 + (2 * a)) b) ((9 + (2 * a)) + 1) c) from ((F39 79 (by decide)).trans E33)))), (by first | exact (show _ = ent 78 g78 from ((F39 78 (by decide)).trans ((F34 78 (by decide)).trans ((F30 78 (by decide)).trans ((F3 78 (by decide)).trans (H78.trans (ent_78 _))))))) | (rw [if_pos (show 0 ≤ a ∧ a ≤ 2 ∧ -1 ≤ b ∧ b ≤ 1 ∧ -1 ≤ c ∧ c ≤ 1 by omega)]; exact (show _ = ent 78 g78 from ((F39 78 (by decide)).trans ((F34 78 (by decide)).trans ((F30 78 (by decide)).trans ((F3 78 (by decide)).trans (H78.trans (ent_78 _)))))))) | (rw [if_neg (show ¬ (0 ≤ a ∧ a ≤ 2 ∧ -1 ≤ b ∧ b ≤ 1 ∧ -1 ≤ c ∧ c ≤ 1) by omega)]; exact (show _ = ent 78 g78 from ((F39 78 (by decide)).trans ((F34 78 (by decide)).trans ((F30 78 (by decide)).trans ((F3 78 (by decide)).trans (H78.trans (ent_78 _))))))))), (by first | exact (show _ = ent 77 ((uI (uI g77 0 0) 1 0)) from E40) | (rw [if_pos (show 0 ≤ a ∧ a ≤ 2 ∧ -1 ≤ b ∧ b ≤ 1 ∧ -1 ≤ c ∧ c ≤ 1 by omega)]; exact (show _ = ent 77 ((uI (uI g77 0 0) 1 0)) from E40)) | (rw [if_neg (show ¬ (0 ≤ a ∧ a ≤ 2 ∧ -1 ≤ b ∧ b ≤ 1 ∧ -1 ≤ c ∧ c ≤ 1) by omega)]; exact (show _ = ent 77 ((uI (uI g77 0 0) 1 0)) from E40))), fun j m79 m78 m77 => ((F39 j m77).trans ((F34 j m79).trans ((F30 j m79).trans (F3 j m77))))⟩ | omega)
      · refine v_aload_n dX12_wind_41 rfl ?_
        refine v_iconstI dX12_wind_42 ?_
        have H41 := ((F3 78 (by decide)).trans (H78.trans (ent_78 _)))
        refine v_callV dX12_wind_43 ml_X12_179 (sp_X12_tell_1  (g77 := (uI g77 0 0)) (g78 := g78) hn (show _ = ent 77 (uI g77 0 0) from E2) (show _ = ent 78 g78 from H41)) E2 rfl (s_lt hn rfl) rfl rfl (Nat.le_of_ble_eq_true rfl) (Nat.le_of_ble_eq_true rfl) (Nat.zero_le _) (Nat.zero_le _) ⟨Or.inl (fun _ _ _ q => q.2.1), fun r n1 h42 q43 => ?_⟩
        obtain ⟨rfl, rfl, E44, E45, F46⟩ := q43
        dsimp only [s_push]
        have E47 : _ = (.inr (12, [.int (iI 0), .int (iI ((-1))), .ref 78, .ref 79, .ref 80, .ref 81, .int (iI (g77 6)), .ref 82, .int (iI (g77 8)), .int (iI (g77 9)), .int (iI (g77 10)), .int (iI (g77 11)), .long (jJ (g77 12)), .int (iI (g77 13)), .int (iI (g77 14)), .int (iI (g77 15)), .int (iI (g77 16)), .ref 83, .int (iI (g77 18)), .ref 84, .ref 85, .int (iI (g77 21)), .ref 86, .ref 87, .int (iI (g77 24)), .int (iI (g77 25)), .ref 88, .ref 89, .ref 90, .int (iI (g77 29)), .ref 91, .ref 92, .ref 93, .int (iI (g77 33)), .long (jJ (g77 34)), .long (jJ (g77 35)), .ref 94, .ref 95, .ref 96, .ref 97, .ref 98, .ref 99, .ref 100, .ref 101, .ref 102, .ref 103, .ref 104, .ref 105, .ref 106, .ref 107, .int (iI (g77 50)), .ref 108, .ref 109, .ref 110, .ref 111, .ref 112, .ref 113, .int (iI (g77 57)), .int (iI (g77 58)), .int (iI (g77 59)), .int (iI (g77 60)), .long (jJ (g77 61)), .ref 114, .int (iI (g77 63))]) : sE) := E44
        exact v_iret dX12_wind_46 rfl (Nat.zero_le _) (Nat.zero_le _) (by first | exact ⟨(congrArg (fun x => some (Value.int x)) (congrArg iI (by first | rfl | omega | (split <;> first | rfl | omega | (split <;> first | rfl | omega))))), rfl, (by first | exact (show _ = ent 79 g79 from ((F46 79 (by decide) (by decide)).trans ((F3 79 (by decide)).trans (H79.trans (ent_79 _))))) | (rw [if_pos (show 0 ≤ a ∧ a ≤ 2 ∧ -1 ≤ b ∧ b ≤ 1 ∧ -1 ≤ c ∧ c ≤ 1 by omega)]; exact (show _ = ent 79 g79 from ((F46 79 (by decide) (by decide)).trans ((F3 79 (by decide)).trans (H79.trans (ent_79 _)))))) | (rw [if_neg (show ¬ (0 ≤ a ∧ a ≤ 2 ∧ -1 ≤ b ∧ b ≤ 1 ∧ -1 ≤ c ∧ c ≤ 1) by omega)]; exact (show _ = ent 79 g79 from ((F46 79 (by decide) (by decide)).trans ((F3 79 (by decide)).trans (H79.trans (ent_79 _))))))), (by first | exact (show _ = ent 78 (uI (g78) 1 (g78 1 + 1)) from (E45.trans (ent_78 _))) | (rw [if_pos (show 0 ≤ a ∧ a ≤ 2 ∧ -1 ≤ b ∧ b ≤ 1 ∧ -1 ≤ c ∧ c ≤ 1 by omega)]; exact (show _ = ent 78 (uI (g78) 1 (g78 1 + 1)) from (E45.trans (ent_78 _)))) | (rw [if_neg (show ¬ (0 ≤ a ∧ a ≤ 2 ∧ -1 ≤ b ∧ b ≤ 1 ∧ -1 ≤ c ∧ c ≤ 1) by omega)]; exact (show _ = ent 78 (uI (g78) 1 (g78 1 + 1)) from (E45.trans (ent_78 _))))), (by first | exact (show _ = ent 77 ((uI (uI g77 0 0) 1 ((-1)))) from E47) | (rw [if_pos (show 0 ≤ a ∧ a ≤ 2 ∧ -1 ≤ b ∧ b ≤ 1 ∧ -1 ≤ c ∧ c ≤ 1 by omega)]; exact (show _ = ent 77 ((uI (uI g77 0 0) 1 ((-1)))) from E47)) | (rw [if_neg (show ¬ (0 ≤ a ∧ a ≤ 2 ∧ -1 ≤ b ∧ b ≤ 1 ∧ -1 ≤ c ∧ c ≤ 1) by omega)]; exact (show _ = ent 77 ((uI (uI g77 0 0) 1 ((-1)))) from E47))), fun j m79 m78 m77 => ((F46 j m77 m78).trans (F3 j m77))⟩ | omega)
theorem dX12_cloud_0 : decode cX12_cloud 0 = .ok (.aload_n 0, 1) := by decide +kernel
theorem dX12_cloud_1 : decode cX12_cloud 1 = .ok (.iconst 0, 1) := by decide +kernel
theorem dX12_cloud_2 : decode cX12_cloud 2 = .ok (.putfield 169, 3) := by decide +kernel
theorem dX12_cloud_5 : decode cX12_cloud 5 = .ok (.iload_n 1, 1) := by decide +kernel
theorem dX12_cloud_6 : decode cX12_cloud 6 = .ok (.iload_n 2, 1) := by decide +kernel
theorem dX12_cloud_7 : decode cX12_cloud 7 = .ok (.iload_n 3, 1) := by decide +kernel
theorem dX12_cloud_8 : decode cX12_cloud 8 = .ok (.invokestatic 212, 3) := by decide +kernel
theorem dX12_cloud_11 : decode cX12_cloud 11 = .ok (.ifCond .eq 19, 3) := by decide +kernel
theorem dX12_cloud_14 : decode cX12_cloud 14 = .ok (.iload 4, 2) := by decide +kernel
theorem dX12_cloud_16 : decode cX12_cloud 16 = .ok (.invokestatic 216, 3) := by decide +kernel
theorem dX12_cloud_19 : decode cX12_cloud 19 = .ok (.ifCond .eq 11, 3) := by decide +kernel
theorem dX12_cloud_22 : decode cX12_cloud 22 = .ok (.iload 5, 2) := by decide +kernel
theorem dX12_cloud_24 : decode cX12_cloud 24 = .ok (.invokestatic 216, 3) := by decide +kernel
theorem dX12_cloud_27 : decode cX12_cloud 27 = .ok (.ifCond .ne 9, 3) := by decide +kernel
theorem dX12_cloud_30 : decode cX12_cloud 30 = .ok (.aload_n 0, 1) := by decide +kernel
theorem dX12_cloud_31 : decode cX12_cloud 31 = .ok (.iconst (-1), 1) := by decide +kernel
theorem dX12_cloud_32 : decode cX12_cloud 32 = .ok (.invokevirtual 179, 3) := by decide +kernel
theorem dX12_cloud_35 : decode cX12_cloud 35 = .ok (.ireturn, 1) := by decide +kernel
theorem dX12_cloud_36 : decode cX12_cloud 36 = .ok (.aload_n 0, 1) := by decide +kernel
theorem dX12_cloud_37 : decode cX12_cloud 37 = .ok (.getfield 13, 3) := by decide +kernel
theorem dX12_cloud_40 : decode cX12_cloud 40 = .ok (.iconst 0, 1) := by decide +kernel
theorem dX12_cloud_41 : decode cX12_cloud 41 = .ok (.iaload, 1) := by decide +kernel
theorem dX12_cloud_42 : decode cX12_cloud 42 = .ok (.istore 6, 2) := by decide +kernel
theorem dX12_cloud_44 : decode cX12_cloud 44 = .ok (.iload 6, 2) := by decide +kernel
theorem dX12_cloud_46 : decode cX12_cloud 46 = .ok (.iconst 5, 1) := by decide +kernel
theorem dX12_cloud_47 : decode cX12_cloud 47 = .ok (.if_icmp .ne 10, 3) := by decide +kernel
theorem dX12_cloud_50 : decode cX12_cloud 50 = .ok (.aload_n 0, 1) := by decide +kernel
theorem dX12_cloud_51 : decode cX12_cloud 51 = .ok (.bipush (-5), 2) := by decide +kernel
theorem dX12_cloud_53 : decode cX12_cloud 53 = .ok (.invokevirtual 179, 3) := by decide +kernel
theorem dX12_cloud_56 : decode cX12_cloud 56 = .ok (.ireturn, 1) := by decide +kernel
theorem dX12_cloud_57 : decode cX12_cloud 57 = .ok (.bipush 15, 2) := by decide +kernel
theorem dX12_cloud_59 : decode cX12_cloud 59 = .ok (.iconst 5, 1) := by decide +kernel
theorem dX12_cloud_60 : decode cX12_cloud 60 = .ok (.iload 6, 2) := by decide +kernel
theorem dX12_cloud_62 : decode cX12_cloud 62 = .ok (.imul, 1) := by decide +kernel
theorem dX12_cloud_63 : decode cX12_cloud 63 = .ok (.iadd, 1) := by decide +kernel
theorem dX12_cloud_64 : decode cX12_cloud 64 = .ok (.istore 7, 2) := by decide +kernel
theorem dX12_cloud_66 : decode cX12_cloud 66 = .ok (.aload_n 0, 1) := by decide +kernel
theorem dX12_cloud_67 : decode cX12_cloud 67 = .ok (.getfield 13, 3) := by decide +kernel
theorem dX12_cloud_70 : decode cX12_cloud 70 = .ok (.iload 7, 2) := by decide +kernel
theorem dX12_cloud_72 : decode cX12_cloud 72 = .ok (.iload_n 1, 1) := by decide +kernel
theorem dX12_cloud_73 : decode cX12_cloud 73 = .ok (.iastore, 1) := by decide +kernel
theorem dX12_cloud_74 : decode cX12_cloud 74 = .ok (.aload_n 0, 1) := by decide +kernel
theorem dX12_cloud_75 : decode cX12_cloud 75 = .ok (.getfield 13, 3) := by decide +kernel
theorem dX12_cloud_78 : decode cX12_cloud 78 = .ok (.iload 7, 2) := by decide +kernel
theorem dX12_cloud_80 : decode cX12_cloud 80 = .ok (.iconst 1, 1) := by decide +kernel
theorem dX12_cloud_81 : decode cX12_cloud 81 = .ok (.iadd, 1) := by decide +kernel
theorem dX12_cloud_82 : decode cX12_cloud 82 = .ok (.iload_n 2, 1) := by decide +kernel
theorem dX12_cloud_83 : decode cX12_cloud 83 = .ok (.iastore, 1) := by decide +kernel
theorem dX12_cloud_84 : decode cX12_cloud 84 = .ok (.aload_n 0, 1) := by decide +kernel
theorem dX12_cloud_85 : decode cX12_cloud 85 = .ok (.getfield 13, 3) := by decide +kernel
theorem dX12_cloud_88 : decode cX12_cloud 88 = .ok (.iload 7, 2) := by decide +kernel
theorem dX12_cloud_90 : decode cX12_cloud 90 = .ok (.iconst 2, 1) := by decide +kernel
theorem dX12_cloud_91 : decode cX12_cloud 91 = .ok (.iadd, 1) := by decide +kernel
theorem dX12_cloud_92 : decode cX12_cloud 92 = .ok (.iload_n 3, 1) := by decide +kernel
theorem dX12_cloud_93 : decode cX12_cloud 93 = .ok (.iastore, 1) := by decide +kernel
theorem dX12_cloud_94 : decode cX12_cloud 94 = .ok (.aload_n 0, 1) := by decide +kernel
theorem dX12_cloud_95 : decode cX12_cloud 95 = .ok (.getfield 13, 3) := by decide +kernel
theorem dX12_cloud_98 : decode cX12_cloud 98 = .ok (.iload 7, 2) := by decide +kernel
theorem dX12_cloud_100 : decode cX12_cloud 100 = .ok (.iconst 3, 1) := by decide +kernel
theorem dX12_cloud_101 : decode cX12_cloud 101 = .ok (.iadd, 1) := by decide +kernel
theorem dX12_cloud_102 : decode cX12_cloud 102 = .ok (.iload 4, 2) := by decide +kernel
theorem dX12_cloud_104 : decode cX12_cloud 104 = .ok (.iastore, 1) := by decide +kernel
theorem dX12_cloud_105 : decode cX12_cloud 105 = .ok (.aload_n 0, 1) := by decide +kernel
theorem dX12_cloud_106 : decode cX12_cloud 106 = .ok (.getfield 13, 3) := by decide +kernel
theorem dX12_cloud_109 : decode cX12_cloud 109 = .ok (.iload 7, 2) := by decide +kernel
theorem dX12_cloud_111 : decode cX12_cloud 111 = .ok (.iconst 4, 1) := by decide +kernel
theorem dX12_cloud_112 : decode cX12_cloud 112 = .ok (.iadd, 1) := by decide +kernel
theorem dX12_cloud_113 : decode cX12_cloud 113 = .ok (.iload 5, 2) := by decide +kernel
theorem dX12_cloud_115 : decode cX12_cloud 115 = .ok (.iastore, 1) := by decide +kernel
theorem dX12_cloud_116 : decode cX12_cloud 116 = .ok (.aload_n 0, 1) := by decide +kernel
theorem dX12_cloud_117 : decode cX12_cloud 117 = .ok (.getfield 13, 3) := by decide +kernel
theorem dX12_cloud_120 : decode cX12_cloud 120 = .ok (.iconst 0, 1) := by decide +kernel
theorem dX12_cloud_121 : decode cX12_cloud 121 = .ok (.dup2, 1) := by decide +kernel
theorem dX12_cloud_122 : decode cX12_cloud 122 = .ok (.iaload, 1) := by decide +kernel
theorem dX12_cloud_123 : decode cX12_cloud 123 = .ok (.iconst 1, 1) := by decide +kernel
theorem dX12_cloud_124 : decode cX12_cloud 124 = .ok (.iadd, 1) := by decide +kernel
theorem dX12_cloud_125 : decode cX12_cloud 125 = .ok (.iastore, 1) := by decide +kernel
theorem dX12_cloud_126 : decode cX12_cloud 126 = .ok (.aload_n 0, 1) := by decide +kernel
theorem dX12_cloud_127 : decode cX12_cloud 127 = .ok (.iload 6, 2) := by decide +kernel
theorem dX12_cloud_129 : decode cX12_cloud 129 = .ok (.invokevirtual 179, 3) := by decide +kernel
theorem dX12_cloud_132 : decode cX12_cloud 132 = .ok (.ireturn, 1) := by decide +kernel
theorem sp_X12_cloud {n : Nat} {h : Nat → sE} {a b c x y : Int}  {g77 g79 g78 : Int → Int} (hn : 115 ≤ n) (H77 : h 77 = ent 77 g77) (H79 : h 79 = ent 79 g79) (H78 : h 78 = ent 78 g78) (ra : -2147483648 ≤ a ∧ a ≤ 2147483647) (rb : -2147483648 ≤ b ∧ b ≤ 2147483647) (rc : -2147483648 ≤ c ∧ c ≤ 2147483647) (rx : -2147483648 ≤ x ∧ x ≤ 2147483647) (ry : -2147483648 ≤ y ∧ y ≤ 2147483647) (i9 : 0 ≤ g79 0 ∧ g79 0 ≤ 5) : Sp m_X12_cloud 3 0 0 [.ref 77, .int (iI a), .int (iI b), .int (iI c), .int (iI x), .int (iI y)] n h (fun r n' h' => r = some (.int (iI (if 1 ≤ a ∧ a ≤ 3 ∧ 1 ≤ b ∧ b ≤ 3 ∧ 0 ≤ c ∧ c ≤ 2 ∧ -8 ≤ x ∧ x ≤ 15 ∧ -8 ≤ y ∧ y ≤ 15 then if g79 0 < 5 then g79 0 else -5 else -1))) ∧ n' = n ∧ h' 79 = ent 79 (if 1 ≤ a ∧ a ≤ 3 ∧ 1 ≤ b ∧ b ≤ 3 ∧ 0 ≤ c ∧ c ≤ 2 ∧ -8 ≤ x ∧ x ≤ 15 ∧ -8 ≤ y ∧ y ≤ 15 then if g79 0 < 5 then uI (uI (uI (uI (uI (uI (g79) (15 + 5 * g79 0) a) (15 + 5 * g79 0 + 1) b) (15 + 5 * g79 0 + 2) c) (15 + 5 * g79 0 + 3) x) (15 + 5 * g79 0 + 4) y) 0 (g79 0 + 1) else g79 else g79) ∧ h' 78 = ent 78 (if 1 ≤ a ∧ a ≤ 3 ∧ 1 ≤ b ∧ b ≤ 3 ∧ 0 ≤ c ∧ c ≤ 2 ∧ -8 ≤ x ∧ x ≤ 15 ∧ -8 ≤ y ∧ y ≤ 15 then if g79 0 < 5 then g78 else uI (g78) 5 (g78 5 + 1) else uI (g78) 1 (g78 1 + 1)) ∧ h' 77 = ent 77 ((uI (uI g77 0 0) 1 (if 1 ≤ a ∧ a ≤ 3 ∧ 1 ≤ b ∧ b ≤ 3 ∧ 0 ≤ c ∧ c ≤ 2 ∧ -8 ≤ x ∧ x ≤ 15 ∧ -8 ≤ y ∧ y ≤ 15 then if g79 0 < 5 then 0 else -5 else -1))) ∧ ∀ j, j ≠ 79 → j ≠ 78 → j ≠ 77 → h' j = h j) := by
  refine Sp.ofV (by decide +kernel) (Nat.le_of_ble_eq_true rfl) ?_
  refine v_aload_n dX12_cloud_0 rfl ?_
  refine v_iconstI dX12_cloud_1 ?_
  refine v_put dX12_cloud_2 fl_X12_169 (H77.trans (ent_77 _)) (s_lt hn rfl) (Nat.le_of_ble_eq_true rfl) (fun _ => ⟨rfl, rfl⟩) trivial (fun h1 E2 F3 => ?_)
  refine v_iload_n dX12_cloud_5 rfl ?_
  refine v_iload_n dX12_cloud_6 rfl ?_
  refine v_iload_n dX12_cloud_7 rfl ?_
  refine v_callS dX12_cloud_8 ml_X12_212 (sp_X12_isShape (a := a) (b := b) (c := c)   (by omega) (by omega) (by omega)) rfl rfl (Nat.le_of_ble_eq_true rfl) (Nat.le_of_ble_eq_true rfl) (Nat.zero_le _) (Nat.zero_le _) ⟨Or.inl (fun _ _ _ q => q.2.1), fun r n1 h4 q5 => ?_⟩
  obtain ⟨rfl, rfl, rfl⟩ := q5
  try dsimp only [s_push]
  refine v_ifeqB (tgt := 30) dX12_cloud_11 (by decide) (fun c_6 => ?_) (fun c_6 => ?_)
  · refine v_aload_n dX12_cloud_30 rfl ?_
    refine v_iconstI dX12_cloud_31 ?_
    have H7 := ((F3 78 (by decide)).trans (H78.trans (ent_78 _)))
    refine v_callV dX12_cloud_32 ml_X12_179 (sp_X12_tell_1  (g77 := (uI g77 0 0)) (g78 := g78) hn (show _ = ent 77 (uI g77 0 0) from E2) (show _ = ent 78 g78 from H7)) E2 rfl (s_lt hn rfl) rfl rfl (Nat.le_of_ble_eq_true rfl) (Nat.le_of_ble_eq_true rfl) (Nat.zero_le _) (Nat.zero_le _) ⟨Or.inl (fun _ _ _ q => q.2.1), fun r n1 h8 q9 => ?_⟩
    obtain ⟨rfl, rfl, E10, E11, F12⟩ := q9
    dsimp only [s_push]
    have E13 : _ = (.inr (12, [.int (iI 0), .int (iI ((-1))), .ref 78, .ref 79, .ref 80, .ref 81, .int (iI (g77 6)), .ref 82, .int (iI (g77 8)), .int (iI (g77 9)), .int (iI (g77 10)), .int (iI (g77 11)), .long (jJ (g77 12)), .int (iI (g77 13)), .int (iI (g77 14)), .int (iI (g77 15)), .int (iI (g77 16)), .ref 83, .int (iI (g77 18)), .ref 84, .ref 85, .int (iI (g77 21)), .ref 86, .ref 87, .int (iI (g77 24)), .int (iI (g77 25)), .ref 88, .ref 89, .ref 90, .int (iI (g77 29)), .ref 91, .ref 92, .ref 93, .int (iI (g77 33)), .long (jJ (g77 34)), .long (jJ (g77 35)), .ref 94, .ref 95, .ref 96, .ref 97, .ref 98, .ref 99, .ref 100, .ref 101, .ref 102, .ref 103, .ref 104, .ref 105, .ref 106, .ref 107, .int (iI (g77 50)), .ref 108, .ref 109, .ref 110, .ref 111, .ref 112, .ref 113, .int (iI (g77 57)), .int (iI (g77 58)), .int (iI (g77 59)), .int (iI (g77 60)), .long (jJ (g77 61)), .ref 114, .int (iI (g77 63))]) : sE) := E10
    exact v_iret dX12_cloud_35 rfl (Nat.zero_le _) (Nat.zero_le _) (by first | exact ⟨(congrArg (fun x => some (Value.int x)) (congrArg iI (by first | rfl | omega | (split <;> first | rfl | omega | (split <;> first | rfl | omega))))), rfl, (by first | exact (show _ = ent 79 g79 from ((F12 79 (by decide) (by decide)).trans ((F3 79 (by decide)).trans (H79.trans (ent_79 _))))) | (rw [if_pos (show 1 ≤ a ∧ a ≤ 3 ∧ 1 ≤ b ∧ b ≤ 3 ∧ 0 ≤ c ∧ c ≤ 2 ∧ -8 ≤ x ∧ x ≤ 15 ∧ -8 ≤ y ∧ y ≤ 15 by omega)]; exact (show _ = ent 79 g79 from ((F12 79 (by decide) (by decide)).trans ((F3 79 (by decide)).trans (H79.trans (ent_79 _)))))) | (rw [if_neg (show ¬ (1 ≤ a ∧ a ≤ 3 ∧ 1 ≤ b ∧ b ≤ 3 ∧ 0 ≤ c ∧ c ≤ 2 ∧ -8 ≤ x ∧ x ≤ 15 ∧ -8 ≤ y ∧ y ≤ 15) by omega)]; exact (show _ = ent 79 g79 from ((F12 79 (by decide) (by decide)).trans ((F3 79 (by decide)).trans (H79.trans (ent_79 _)))))) | (rw [if_pos (show 1 ≤ a ∧ a ≤ 3 ∧ 1 ≤ b ∧ b ≤ 3 ∧ 0 ≤ c ∧ c ≤ 2 ∧ -8 ≤ x ∧ x ≤ 15 ∧ -8 ≤ y ∧ y ≤ 15 by omega), if_pos (show g79 0 < 5 by omega)]; exact (show _ = ent 79 g79 from ((F12 79 (by decide) (by decide)).trans ((F3 79 (by decide)).trans (H79.trans (ent_79 _)))))) | (rw [if_pos (show 1 ≤ a ∧ a ≤ 3 ∧ 1 ≤ b ∧ b ≤ 3 ∧ 0 ≤ c ∧ c ≤ 2 ∧ -8 ≤ x ∧ x ≤ 15 ∧ -8 ≤ y ∧ y ≤ 15 by omega), if_neg (show ¬ (g79 0 < 5) by omega)]; exact (show _ = ent 79 g79 from ((F12 79 (by decide) (by decide)).trans ((F3 79 (by decide)).trans (H79.trans (ent_79 _)))))) | (rw [if_neg (show ¬ (1 ≤ a ∧ a ≤ 3 ∧ 1 ≤ b ∧ b ≤ 3 ∧ 0 ≤ c ∧ c ≤ 2 ∧ -8 ≤ x ∧ x ≤ 15 ∧ -8 ≤ y ∧ y ≤ 15) by omega), if_pos (show g79 0 < 5 by omega)]; exact (show _ = ent 79 g79 from ((F12 79 (by decide) (by decide)).trans ((F3 79 (by decide)).trans (H79.trans (ent_79 _)))))) | (rw [if_neg (show ¬ (1 ≤ a ∧ a ≤ 3 ∧ 1 ≤ b ∧ b ≤ 3 ∧ 0 ≤ c ∧ c ≤ 2 ∧ -8 ≤ x ∧ x ≤ 15 ∧ -8 ≤ y ∧ y ≤ 15) by omega), if_neg (show ¬ (g79 0 < 5) by omega)]; exact (show _ = ent 79 g79 from ((F12 79 (by decide) (by decide)).trans ((F3 79 (by decide)).trans (H79.trans (ent_79 _))))))), (by first | exact (show _ = ent 78 (uI (g78) 1 (g78 1 + 1)) from (E11.trans (ent_78 _))) | (rw [if_pos (show 1 ≤ a ∧ a ≤ 3 ∧ 1 ≤ b ∧ b ≤ 3 ∧ 0 ≤ c ∧ c ≤ 2 ∧ -8 ≤ x ∧ x ≤ 15 ∧ -8 ≤ y ∧ y ≤ 15 by omega)]; exact (show _ = ent 78 (uI (g78) 1 (g78 1 + 1)) from (E11.trans (ent_78 _)))) | (rw [if_neg (show ¬ (1 ≤ a ∧ a ≤ 3 ∧ 1 ≤ b ∧ b ≤ 3 ∧ 0 ≤ c ∧ c ≤ 2 ∧ -8 ≤ x ∧ x ≤ 15 ∧ -8 ≤ y ∧ y ≤ 15) by omega)]; exact (show _ = ent 78 (uI (g78) 1 (g78 1 + 1)) from (E11.trans (ent_78 _)))) | (rw [if_pos (show 1 ≤ a ∧ a ≤ 3 ∧ 1 ≤ b ∧ b ≤ 3 ∧ 0 ≤ c ∧ c ≤ 2 ∧ -8 ≤ x ∧ x ≤ 15 ∧ -8 ≤ y ∧ y ≤ 15 by omega), if_pos (show g79 0 < 5 by omega)]; exact (show _ = ent 78 (uI (g78) 1 (g78 1 + 1)) from (E11.trans (ent_78 _)))) | (rw [if_pos (show 1 ≤ a ∧ a ≤ 3 ∧ 1 ≤ b ∧ b ≤ 3 ∧ 0 ≤ c ∧ c ≤ 2 ∧ -8 ≤ x ∧ x ≤ 15 ∧ -8 ≤ y ∧ y ≤ 15 by omega), if_neg (show ¬ (g79 0 < 5) by omega)]; exact (show _ = ent 78 (uI (g78) 1 (g78 1 + 1)) from (E11.trans (ent_78 _)))) | (rw [if_neg (show ¬ (1 ≤ a ∧ a ≤ 3 ∧ 1 ≤ b ∧ b ≤ 3 ∧ 0 ≤ c ∧ c ≤ 2 ∧ -8 ≤ x ∧ x ≤ 15 ∧ -8 ≤ y ∧ y ≤ 15) by omega), if_pos (show g79 0 < 5 by omega)]; exact (show _ = ent 78 (uI (g78) 1 (g78 1 + 1)) from (E11.trans (ent_78 _)))) | (rw [if_neg (show ¬ (1 ≤ a ∧ a ≤ 3 ∧ 1 ≤ b ∧ b ≤ 3 ∧ 0 ≤ c ∧ c ≤ 2 ∧ -8 ≤ x ∧ x ≤ 15 ∧ -8 ≤ y ∧ y ≤ 15) by omega), if_neg (show ¬ (g79 0 < 5) by omega)]; exact (show _ = ent 78 (uI (g78) 1 (g78 1 + 1)) from (E11.trans (ent_78 _))))), (by first | exact (show _ = ent 77 ((uI (uI g77 0 0) 1 ((-1)))) from E13) | (rw [if_pos (show 1 ≤ a ∧ a ≤ 3 ∧ 1 ≤ b ∧ b ≤ 3 ∧ 0 ≤ c ∧ c ≤ 2 ∧ -8 ≤ x ∧ x ≤ 15 ∧ -8 ≤ y ∧ y ≤ 15 by omega)]; exact (show _ = ent 77 ((uI (uI g77 0 0) 1 ((-1)))) from E13)) | (rw [if_neg (show ¬ (1 ≤ a ∧ a ≤ 3 ∧ 1 ≤ b ∧ b ≤ 3 ∧ 0 ≤ c ∧ c ≤ 2 ∧ -8 ≤ x ∧ x ≤ 15 ∧ -8 ≤ y ∧ y ≤ 15) by omega)]; exact (show _ = ent 77 ((uI (uI g77 0 0) 1 ((-1)))) from E13)) | (rw [if_pos (show 1 ≤ a ∧ a ≤ 3 ∧ 1 ≤ b ∧ b ≤ 3 ∧ 0 ≤ c ∧ c ≤ 2 ∧ -8 ≤ x ∧ x ≤ 15 ∧ -8 ≤ y ∧ y ≤ 15 by omega), if_pos (show g79 0 < 5 by omega)]; exact (show _ = ent 77 ((uI (uI g77 0 0) 1 ((-1)))) from E13)) | (rw [if_pos (show 1 ≤ a ∧ a ≤ 3 ∧ 1 ≤ b ∧ b ≤ 3 ∧ 0 ≤ c ∧ c ≤ 2 ∧ -8 ≤ x ∧ x ≤ 15 ∧ -8 ≤ y ∧ y ≤ 15 by omega), if_neg (show ¬ (g79 0 < 5) by omega)]; exact (show _ = ent 77 ((uI (uI g77 0 0) 1 ((-1)))) from E13)) | (rw [if_neg (show ¬ (1 ≤ a ∧ a ≤ 3 ∧ 1 ≤ b ∧ b ≤ 3 ∧ 0 ≤ c ∧ c ≤ 2 ∧ -8 ≤ x ∧ x ≤ 15 ∧ -8 ≤ y ∧ y ≤ 15) by omega), if_pos (show g79 0 < 5 by omega)]; exact (show _ = ent 77 ((uI (uI g77 0 0) 1 ((-1)))) from E13)) | (rw [if_neg (show ¬ (1 ≤ a ∧ a ≤ 3 ∧ 1 ≤ b ∧ b ≤ 3 ∧ 0 ≤ c ∧ c ≤ 2 ∧ -8 ≤ x ∧ x ≤ 15 ∧ -8 ≤ y ∧ y ≤ 15) by omega), if_neg (show ¬ (g79 0 < 5) by omega)]; exact (show _ = ent 77 ((uI (uI g77 0 0) 1 ((-1)))) from E13))), fun j m79 m78 m77 => ((F12 j m77 m78).trans (F3 j m77))⟩ | omega)
  · refine v_iload dX12_cloud_14 rfl ?_
    refine v_callS dX12_cloud_16 ml_X12_216 (sp_X12_isPlace (a := x)   (by omega)) rfl rfl (Nat.le_of_ble_eq_true rfl) (Nat.le_of_ble_eq_true rfl) (Nat.zero_le _) (Nat.zero_le _) ⟨Or.inl (fun _ _ _ q => q.2.1), fun r n1 h14 q15 => ?_⟩
    obtain ⟨rfl, rfl, rfl⟩ := q15
    try dsimp only [s_push]
    refine v_ifeqB (tgt := 30) dX12_cloud_19 (by decide) (fun c_16 => ?_) (fun c_16 => ?_)
    · refine v_aload_n dX12_cloud_30 rfl ?_
      refine v_iconstI dX12_cloud_31 ?_
      have H17 := ((F3 78 (by decide)).trans (H78.trans (ent_78 _)))
      refine v_callV dX12_cloud_32 ml_X12_179 (sp_X12_tell_1  (g77 := (uI g77 0 0)) (g78 := g78) hn (show _ = ent 77 (uI g77 0 0) from E2) (show _ = ent 78 g78 from H17)) E2 rfl (s_lt hn rfl) rfl rfl (Nat.le_of_ble_eq_true rfl) (Nat.le_of_ble_eq_true rfl) (Nat.zero_le _) (Nat.zero_le _) ⟨Or.inl (fun _ _ _ q => q.2.1), fun r n1 h18 q19 => ?_⟩
      obtain ⟨rfl, rfl, E20, E21, F22⟩ := q19
      dsimp only [s_push]
      have E23 : _ = (.inr (12, [.int (iI 0), .int (iI ((-1))), .ref 78, .ref 79, .ref 80, .ref 81, .int (iI (g77 6)), .ref 82, .int (iI (g77 8)), .int (iI (g77 9)), .int (iI (g77 10)), .int (iI (g77 11)), .long (jJ (g77 12)), .int (iI (g77 13)), .int (iI (g77 14)), .int (iI (g77 15)), .int (iI (g77 16)), .ref 83, .int (iI (g77 18)), .ref 84, .ref 85, .int (iI (g77 21)), .ref 86, .ref 87, .int (iI (g77 24)), .int (iI (g77 25)), .ref 88, .ref 89, .ref 90, .int (iI (g77 29)), .ref 91, .ref 92, .ref 93, .int (iI (g77 33)), .long (jJ (g77 34)), .long (jJ (g77 35)), .ref 94, .ref 95, .ref 96, .ref 97, .ref 98, .ref 99, .ref 100, .ref 101, .ref 102, .ref 103, .ref 104, .ref 105, .ref 106, .ref 107, .int (iI (g77 50)), .ref 108, .ref 109, .ref 110, .ref 111, .ref 112, .ref 113, .int (iI (g77 57)), .int (iI (g77 58)), .int (iI (g77 59)), .int (iI (g77 60)), .long (jJ (g77 61)), .ref 114, .int (iI (g77 63))]) : sE) := E20
      exact v_iret dX12_cloud_35 rfl (Nat.zero_le _) (Nat.zero_le _) (by first | exact ⟨(congrArg (fun x => some (Value.int x)) (congrArg iI (by first | rfl | omega | (split <;> first | rfl | omega | (split <;> first | rfl | omega))))), rfl, (by first | exact (show _ = ent 79 g79 from ((F22 79 (by decide) (by decide)).trans ((F3 79 (by decide)).trans (H79.trans (ent_79 _))))) | (rw [if_pos (show 1 ≤ a ∧ a ≤ 3 ∧ 1 ≤ b ∧ b ≤ 3 ∧ 0 ≤ c ∧ c ≤ 2 ∧ -8 ≤ x ∧ x ≤ 15 ∧ -8 ≤ y ∧ y ≤ 15 by omega)]; exact (show _ = ent 79 g79 from ((F22 79 (by decide) (by decide)).trans ((F3 79 (by decide)).trans (H79.trans (ent_79 _)))))) | (rw [if_neg (show ¬ (1 ≤ a ∧ a ≤ 3 ∧ 1 ≤ b ∧ b ≤ 3 ∧ 0 ≤ c ∧ c ≤ 2 ∧ -8 ≤ x ∧ x ≤ 15 ∧ -8 ≤ y ∧ y ≤ 15) by omega)]; exact (show _ = ent 79 g79 from ((F22 79 (by decide) (by decide)).trans ((F3 79 (by decide)).trans (H79.trans (ent_79 _)))))) | (rw [if_pos (show 1 ≤ a ∧ a ≤ 3 ∧ 1 ≤ b ∧ b ≤ 3 ∧ 0 ≤ c ∧ c ≤ 2 ∧ -8 ≤ x ∧ x ≤ 15 ∧ -8 ≤ y ∧ y ≤ 15 by omega), if_pos (show g79 0 < 5 by omega)]; exact (show _ = ent 79 g79 from ((F22 79 (by decide) (by decide)).trans ((F3 79 (by decide)).trans (H79.trans (ent_79 _)))))) | (rw [if_pos (show 1 ≤ a ∧ a ≤ 3 ∧ 1 ≤ b ∧ b ≤ 3 ∧ 0 ≤ c ∧ c ≤ 2 ∧ -8 ≤ x ∧ x ≤ 15 ∧ -8 ≤ y ∧ y ≤ 15 by omega), if_neg (show ¬ (g79 0 < 5) by omega)]; exact (show _ = ent 79 g79 from ((F22 79 (by decide) (by decide)).trans ((F3 79 (by decide)).trans (H79.trans (ent_79 _)))))) | (rw [if_neg (show ¬ (1 ≤ a ∧ a ≤ 3 ∧ 1 ≤ b ∧ b ≤ 3 ∧ 0 ≤ c ∧ c ≤ 2 ∧ -8 ≤ x ∧ x ≤ 15 ∧ -8 ≤ y ∧ y ≤ 15) by omega), if_pos (show g79 0 < 5 by omega)]; exact (show _ = ent 79 g79 from ((F22 79 (by decide) (by decide)).trans ((F3 79 (by decide)).trans (H79.trans (ent_79 _)))))) | (rw [if_neg (show ¬ (1 ≤ a ∧ a ≤ 3 ∧ 1 ≤ b ∧ b ≤ 3 ∧ 0 ≤ c ∧ c ≤ 2 ∧ -8 ≤ x ∧ x ≤ 15 ∧ -8 ≤ y ∧ y ≤ 15) by omega), if_neg (show ¬ (g79 0 < 5) by omega)]; exact (show _ = ent 79 g79 from ((F22 79 (by decide) (by decide)).trans ((F3 79 (by decide)).trans (H79.trans (ent_79 _))))))), (by first | exact (show _ = ent 78 (uI (g78) 1 (g78 1 + 1)) from (E21.trans (ent_78 _))) | (rw [if_pos (show 1 ≤ a ∧ a ≤ 3 ∧ 1 ≤ b ∧ b ≤ 3 ∧ 0 ≤ c ∧ c ≤ 2 ∧ -8 ≤ x ∧ x ≤ 15 ∧ -8 ≤ y ∧ y ≤ 15 by omega)]; exact (show _ = ent 78 (uI (g78) 1 (g78 1 + 1)) from (E21.trans (ent_78 _)))) | (rw [if_neg (show ¬ (1 ≤ a ∧ a ≤ 3 ∧ 1 ≤ b ∧ b ≤ 3 ∧ 0 ≤ c ∧ c ≤ 2 ∧ -8 ≤ x ∧ x ≤ 15 ∧ -8 ≤ y ∧ y ≤ 15) by omega)]; exact (show _ = ent 78 (uI (g78) 1 (g78 1 + 1)) from (E21.trans (ent_78 _)))) | (rw [if_pos (show 1 ≤ a ∧ a ≤ 3 ∧ 1 ≤ b ∧ b ≤ 3 ∧ 0 ≤ c ∧ c ≤ 2 ∧ -8 ≤ x ∧ x ≤ 15 ∧ -8 ≤ y ∧ y ≤ 15 by omega), if_pos (show g79 0 < 5 by omega)]; exact (show _ = ent 78 (uI (g78) 1 (g78 1 + 1)) from (E21.trans (ent_78 _)))) | (rw [if_pos (show 1 ≤ a ∧ a ≤ 3 ∧ 1 ≤ b ∧ b ≤ 3 ∧ 0 ≤ c ∧ c ≤ 2 ∧ -8 ≤ x ∧ x ≤ 15 ∧ -8 ≤ y ∧ y ≤ 15 by omega), if_neg (show ¬ (g79 0 < 5) by omega)]; exact (show _ = ent 78 (uI (g78) 1 (g78 1 + 1)) from (E21.trans (ent_78 _)))) | (rw [if_neg (show ¬ (1 ≤ a ∧ a ≤ 3 ∧ 1 ≤ b ∧ b ≤ 3 ∧ 0 ≤ c ∧ c ≤ 2 ∧ -8 ≤ x ∧ x ≤ 15 ∧ -8 ≤ y ∧ y ≤ 15) by omega), if_pos (show g79 0 < 5 by omega)]; exact (show _ = ent 78 (uI (g78) 1 (g78 1 + 1)) from (E21.trans (ent_78 _)))) | (rw [if_neg (show ¬ (1 ≤ a ∧ a ≤ 3 ∧ 1 ≤ b ∧ b ≤ 3 ∧ 0 ≤ c ∧ c ≤ 2 ∧ -8 ≤ x ∧ x ≤ 15 ∧ -8 ≤ y ∧ y ≤ 15) by omega), if_neg (show ¬ (g79 0 < 5) by omega)]; exact (show _ = ent 78 (uI (g78) 1 (g78 1 + 1)) from (E21.trans (ent_78 _))))), (by first | exact (show _ = ent 77 ((uI (uI g77 0 0) 1 ((-1)))) from E23) | (rw [if_pos (show 1 ≤ a ∧ a ≤ 3 ∧ 1 ≤ b ∧ b ≤ 3 ∧ 0 ≤ c ∧ c ≤ 2 ∧ -8 ≤ x ∧ x ≤ 15 ∧ -8 ≤ y ∧ y ≤ 15 by omega)]; exact (show _ = ent 77 ((uI (uI g77 0 0) 1 ((-1)))) from E23)) | (rw [if_neg (show ¬ (1 ≤ a ∧ a ≤ 3 ∧ 1 ≤ b ∧ b ≤ 3 ∧ 0 ≤ c ∧ c ≤ 2 ∧ -8 ≤ x ∧ x ≤ 15 ∧ -8 ≤ y ∧ y ≤ 15) by omega)]; exact (show _ = ent 77 ((uI (uI g77 0 0) 1 ((-1)))) from E23)) | (rw [if_pos (show 1 ≤ a ∧ a ≤ 3 ∧ 1 ≤ b ∧ b ≤ 3 ∧ 0 ≤ c ∧ c ≤ 2 ∧ -8 ≤ x ∧ x ≤ 15 ∧ -8 ≤ y ∧ y ≤ 15 by omega), if_pos (show g79 0 < 5 by omega)]; exact (show _ = ent 77 ((uI (uI g77 0 0) 1 ((-1)))) from E23)) | (rw [if_pos (show 1 ≤ a ∧ a ≤ 3 ∧ 1 ≤ b ∧ b ≤ 3 ∧ 0 ≤ c ∧ c ≤ 2 ∧ -8 ≤ x ∧ x ≤ 15 ∧ -8 ≤ y ∧ y ≤ 15 by omega), if_neg (show ¬ (g79 0 < 5) by omega)]; exact (show _ = ent 77 ((uI (uI g77 0 0) 1 ((-1)))) from E23)) | (rw [if_neg (show ¬ (1 ≤ a ∧ a ≤ 3 ∧ 1 ≤ b ∧ b ≤ 3 ∧ 0 ≤ c ∧ c ≤ 2 ∧ -8 ≤ x ∧ x ≤ 15 ∧ -8 ≤ y ∧ y ≤ 15) by omega), if_pos (show g79 0 < 5 by omega)]; exact (show _ = ent 77 ((uI (uI g77 0 0) 1 ((-1)))) from E23)) | (rw [if_neg (show ¬ (1 ≤ a ∧ a ≤ 3 ∧ 1 ≤ b ∧ b ≤ 3 ∧ 0 ≤ c ∧ c ≤ 2 ∧ -8 ≤ x ∧ x ≤ 15 ∧ -8 ≤ y ∧ y ≤ 15) by omega), if_neg (show ¬ (g79 0 < 5) by omega)]; exact (show _ = ent 77 ((uI (uI g77 0 0) 1 ((-1)))) from E23))), fun j m79 m78 m77 => ((F22 j m77 m78).trans (F3 j m77))⟩ | omega)
    · refine v_iload dX12_cloud_22 rfl ?_
      refine v_callS dX12_cloud_24 ml_X12_216 (sp_X12_isPlace (a := y)   (by omega)) rfl rfl (Nat.le_of_ble_eq_true rfl) (Nat.le_of_ble_eq_true rfl) (Nat.zero_le _) (Nat.zero_le _) ⟨Or.inl (fun _ _ _ q => q.2.1), fun r n1 h24 q25 => ?_⟩
      obtain ⟨rfl, rfl, rfl⟩ := q25
      try dsimp only [s_push]
      refine v_ifneB (tgt := 36) dX12_cloud_27 (by decide) (fun c_26 => ?_) (fun c_26 => ?_)
      · refine v_aload_n dX12_cloud_36 rfl ?_
        refine v_get dX12_cloud_37 fl_X12_13 E2 rfl (s_lt hn rfl) ?_
        refine v_iconstI dX12_cloud_40 ?_
        have H27 := ((F3 79 (by decide)).trans (H79.trans (ent_79 _)))
        refine v_ialdI dX12_cloud_41 H27 (s_lt hn rfl) (by omega) (by omega) (by omega) ?_
        refine v_istore dX12_cloud_42 (Nat.le_of_ble_eq_true rfl) ?_
        refine v_iload dX12_cloud_44 rfl ?_
        refine v_iconstI dX12_cloud_46 ?_
        refine v_icmp_neI (tgt := 57) dX12_cloud_47 (by decide) (by omega) (by omega) (by omega) (by omega) (fun c_28 => ?_) (fun c_28 => ?_)
        · refine v_bipushI dX12_cloud_57 rfl ?_
          refine v_iconstI dX12_cloud_59 ?_
          refine v_iload dX12_cloud_60 rfl ?_
          refine v_imulI dX12_cloud_62 ?_
          refine v_iaddI dX12_cloud_63 ?_
          refine v_istore dX12_cloud_64 (Nat.le_of_ble_eq_true rfl) ?_
          refine v_aload_n dX12_cloud_66 rfl ?_
          refine v_get dX12_cloud_67 fl_X12_13 E2 rfl (s_lt hn rfl) ?_
          refine v_iload dX12_cloud_70 rfl ?_
          refine v_iload_n dX12_cloud_72 rfl ?_
          refine v_iastI dX12_cloud_73 H27 (s_lt hn rfl) (by omega) (by omega) (by omega) (fun h29 E30 F31 => ?_)
          refine v_aload_n dX12_cloud_74 rfl ?_
          have H32 := ((F31 77 (by decide)).trans E2)
          refine v_get dX12_cloud_75 fl_X12_13 H32 rfl (s_lt hn rfl) ?_
          refine v_iload dX12_cloud_78 rfl ?_
          refine v_iconstI dX12_cloud_80 ?_
          refine v_iaddI dX12_cloud_81 ?_
          refine v_iload_n dX12_cloud_82 rfl ?_
          refine v_iastI dX12_cloud_83 E30 (s_lt hn rfl) (by omega) (by omega) (by omega) (fun h33 E34 F35 => ?_)
          refine v_aload_n dX12_cloud_84 rfl ?_
          have H36 := ((F35 77 (by decide)).trans H32)
          refine v_get dX12_cloud_85 fl_X12_13 H36 rfl (s_lt hn rfl) ?_
          refine v_iload dX12_cloud_88 rfl ?_
          refine v_iconstI dX12_cloud_90 ?_
          refine v_iaddI dX12_cloud_91 ?_
          refine v_iload_n dX12_cloud_92 rfl ?_
          refine v_iastI dX12_cloud_93 E34 (s_lt hn rfl) (by omega) (by omega) (by omega) (fun h37 E38 F39 => ?_)
          refine v_aload_n dX12_cloud_94 rfl ?_
          have H40 := ((F39 77 (by decide)).trans H36)
          refine v_get dX12_cloud_95 fl_X12_13 H40 rfl (s_lt hn rfl) ?_
          refine v_iload dX12_cloud_98 rfl ?_
          refine v_iconstI dX12_cloud_100 ?_
          refine v_iaddI dX12_cloud_101 ?_
          refine v_iload dX12_cloud_102 rfl ?_
          refine v_iastI dX12_cloud_104 E38 (s_lt hn rfl) (by omega) (by omega) (by omega) (fun h41 E42 F43 => ?_)
          refine v_aload_n dX12_cloud_105 rfl ?_
          have H44 := ((F43 77 (by decide)).trans H40)
          refine v_get dX12_cloud_106 fl_X12_13 H44 rfl (s_lt hn rfl) ?_
          refine v_iload dX12_cloud_109 rfl ?_
          refine v_iconstI dX12_cloud_111 ?_
          refine v_iaddI dX12_cloud_112 ?_
          refine v_iload dX12_cloud_113 rfl ?_
          refine v_iastI dX12_cloud_115 E42 (s_lt hn rfl) (by omega) (by omega) (by omega) (fun h45 E46 F47 => ?_)
          refine v_aload_n dX12_cloud_116 rfl ?_
          have H48 := ((F47 77 (by decide)).trans H44)
          refine v_get dX12_cloud_117 fl_X12_13 H48 rfl (s_lt hn rfl) ?_
          refine v_iconstI dX12_cloud_120 ?_
          refine v_dup2 dX12_cloud_121 rfl rfl ?_
          refine v_ialdI dX12_cloud_122 E46 (s_lt hn rfl) (by omega) (by omega) (by omega) ?_
          rw [uI_ne (show ¬ 0 = ((15 + (5 * (g79 0))) + 4) by omega)]
          rw [uI_ne (show ¬ 0 = ((15 + (5 * (g79 0))) + 3) by omega)]
          rw [uI_ne (show ¬ 0 = ((15 + (5 * (g79 0))) + 2) by omega)]
          rw [uI_ne (show ¬ 0 = ((15 + (5 * (g79 0))) + 1) by omega)]
          rw [uI_ne (show ¬ 0 = (15 + (5 * (g79 0))) by omega)]
          refine v_iconstI dX12_cloud_123 ?_
          refine v_iaddI dX12_cloud_124 ?_
          refine v_iastI dX12_cloud_125 E46 (s_lt hn rfl) (by omega) (by omega) (by omega) (fun h49 E50 F51 => ?_)
          refine v_aload_n dX12_cloud_126 rfl ?_
          refine v_iload dX12_cloud_127 rfl ?_
          have H52 := ((F51 77 (by decide)).trans H48)
          refine v_callV dX12_cloud_129 ml_X12_179 (sp_X12_tell_p (a := (g79 0)) (g77 := (uI g77 0 0)) hn (show _ = ent 77 (uI g77 0 0) from H52) (by omega)) H52 rfl (s_lt hn rfl) rfl rfl (Nat.le_of_ble_eq_true rfl) (Nat.le_of_ble_eq_true rfl) (Nat.zero_le _) (Nat.zero_le _) ⟨Or.inl (fun _ _ _ q => q.2.1), fun r n1 h53 q54 => ?_⟩
          obtain ⟨rfl, rfl, E55, F56⟩ := q54
          dsimp only [s_push]
          have E57 : _ = (.inr (12, [.int (iI 0), .int (iI (0)), .ref 78, .ref 79, .ref 80, .ref 81, .int (iI (g77 6)), .ref 82, .int (iI (g77 8)), .int (iI (g77 9)), .int (iI (g77 10)), .int (iI (g77 11)), .long (jJ (g77 12)), .int (iI (g77 13)), .int (iI (g77 14)), .int (iI (g77 15)), .int (iI (g77 16)), .ref 83, .int (iI (g77 18)), .ref 84, .ref 85, .int (iI (g77 21)), .ref 86, .ref 87, .int (iI (g77 24)), .int (iI (g77 25)), .ref 88, .ref 89, .ref 90, .int (iI (g77 29)), .ref 91, .ref 92, .ref 93, .int (iI (g77 33)), .long (jJ (g77 34)), .long (jJ (g77 35)), .ref 94, .ref 95, .ref 96, .ref 97, .ref 98, .ref 99, .ref 100, .ref 101, .ref 102, .ref 103, .ref 104, .ref 105, .ref 106, .ref 107, .int (iI (g77 50)), .ref 108, .ref 109, .ref 110, .ref 111, .ref 112, .ref 113, .int (iI (g77 57)), .int (iI (g77 58)), .int (iI (g77 59)), .int (iI (g77 60)), .long (jJ (g77 61)), .ref 114, .int (iI (g77 63))]) : sE) := E55
          exact v_iret dX12_cloud_132 rfl (Nat.zero_le _) (Nat.zero_le _) (by first | exact ⟨(congrArg (fun x => some (Value.int x)) (congrArg iI (by first | rfl | omega | (split <;> first | rfl | omega | (split <;> first | rfl | omega))))), rfl, (by first | exact (show _ = ent 79 (uI (uI (uI (uI (uI (uI g79 (15 + (5 * (g79 0))) a) ((15 + (5 * (g79 0))) + 1) b) ((15 + (5 * (g79 0))) + 2) c) ((15 + (5 * (g79 0))) + 3) x) ((15 + (5 * (g79 0))) + 4) y) 0 ((g79 0) + 1)) from ((F56 79 (by decide)).trans E50)) | (rw [if_pos (show 1 ≤ a ∧ a ≤ 3 ∧ 1 ≤ b ∧ b ≤ 3 ∧ 0 ≤ c ∧ c ≤ 2 ∧ -8 ≤ x ∧ x ≤ 15 ∧ -8 ≤ y ∧ y ≤ 15 by omega)]; exact (show _ = ent 79 (uI (uI (uI (uI (uI (uI g79 (15 + (5 * (g79 0))) a) ((15 + (5 * (g79 0))) + 1) b) ((15 + (5 * (g79 0))) + 2) c) ((15 + (5 * (g79 0))) + 3) x) ((15 + (5 * (g79 0))) + 4) y) 0 ((g79 0) + 1)) from ((F56 79 (by decide)).trans E50))) | (rw [if_neg (show ¬ (1 ≤ a ∧ a ≤ 3 ∧ 1 ≤ b ∧ b ≤ 3 ∧ 0 ≤ c ∧ c ≤ 2 ∧ -8 ≤ x ∧ x ≤ 15 ∧ -8 ≤ y ∧ y ≤ 15) by omega)]; exact (show _ = ent 79 (uI (uI (uI (uI (uI (uI g79 (15 + (5 * (g79 0))) a) ((15 + (5 * (g79 0))) + 1) b) ((15 + (5 * (g79 0))) + 2) c) ((15 + (5 * (g79 0))) + 3) x) ((15 + (5 * (g79 0))) + 4) y) 0 ((g79 0) + 1)) from ((F56 79 (by decide)).trans E50))) | (rw [if_pos (show 1 ≤ a ∧ a ≤ 3 ∧ 1 ≤ b ∧ b ≤ 3 ∧ 0 ≤ c ∧ c ≤ 2 ∧ -8 ≤ x ∧ x ≤ 15 ∧ -8 ≤ y ∧ y ≤ 15 by omega), if_pos (show g79 0 < 5 by omega)]; exact (show _ = ent 79 (uI (uI (uI (uI (uI (uI g79 (15 + (5 * (g79 0))) a) ((15 + (5 * (g79 0))) + 1) b) ((15 + (5 * (g79 0))) + 2) c) ((15 + (5 * (g79 0))) + 3) x) ((15 + (5 * (g79 0))) + 4) y) 0 ((g79 0) + 1)) from ((F56 79 (by decide)).trans E50))) | (rw [if_pos (show 1 ≤ a ∧ a ≤ 3 ∧ 1 ≤ b ∧ b ≤ 3 ∧ 0 ≤ c ∧ c ≤ 2 ∧ -8 ≤ x ∧ x ≤ 15 ∧ -8 ≤ y ∧ y ≤ 15 by omega), if_neg (show ¬ (g79 0 < 5) by omega)]; exact (show _ = ent 79 (uI (uI (uI (uI (uI (uI g79 (15 + (5 * (g79 0))) a) ((15 + (5 * (g79 0))) + 1) b) ((15 + (5 * (g79 0))) + 2) c) ((15 + (5 * (g79 0))) + 3) x) ((15 + (5 * (g79 0))) + 4) y) 0 ((g79 0) + 1)) from ((F56 79 (by decide)).trans E50))) | (rw [if_neg (show ¬ (1 ≤ a ∧ a ≤ 3 ∧ 1 ≤ b ∧ b ≤ 3 ∧ 0 ≤ c ∧ c ≤ 2 ∧ -8 ≤ x ∧ x ≤ 15 ∧ -8 ≤ y ∧ y ≤ 15) by omega), if_pos (show g79 0 < 5 by omega)]; exact (show _ = ent 79 (uI (uI (uI (uI (uI (uI g79 (15 + (5 * (g79 0))) a) ((15 + (5 * (g79 0))) + 1) b) ((15 + (5 * (g79 0))) + 2) c) ((15 + (5 * (g79 0))) + 3) x) ((15 + (5 * (g79 0))) + 4) y) 0 ((g79 0) + 1)) from ((F56 79 (by decide)).trans E50))) | (rw [if_neg (show ¬ (1 ≤ a ∧ a ≤ 3 ∧ 1 ≤ b ∧ b ≤ 3 ∧ 0 ≤ c ∧ c ≤ 2 ∧ -8 ≤ x ∧ x ≤ 15 ∧ -8 ≤ y ∧ y ≤ 15) by omega), if_neg (show ¬ (g79 0 < 5) by omega)]; exact (show _ = ent 79 (uI (uI (uI (uI (uI (uI g79 (15 + (5 * (g79 0))) a) ((15 + (5 * (g79 0))) + 1) b) ((15 + (5 * (g79 0))) + 2) c) ((15 + (5 * (g79 0))) + 3) x) ((15 + (5 * (g79 0))) + 4) y) 0 ((g79 0) + 1)) from ((F56 79 (by decide)).trans E50)))), (by first | exact (show _ = ent 78 g78 from ((F56 78 (by decide)).trans ((F51 78 (by decide)).trans ((F47 78 (by decide)).trans ((F43 78 (by decide)).trans ((F39 78 (by decide)).trans ((F35 78 (by decide)).trans ((F31 78 (by decide)).trans ((F3 78 (by decide)).trans (H78.trans (ent_78 _))))))))))) | (rw [if_pos (show 1 ≤ a ∧ a ≤ 3 ∧ 1 ≤ b ∧ b ≤ 3 ∧ 0 ≤ c ∧ c ≤ 2 ∧ -8 ≤ x ∧ x ≤ 15 ∧ -8 ≤ y ∧ y ≤ 15 by omega)]; exact (show _ = ent 78 g78 from ((F56 78 (by decide)).trans ((F51 78 (by decide)).trans ((F47 78 (by decide)).trans ((F43 78 (by decide)).trans ((F39 78 (by decide)).trans ((F35 78 (by decide)).trans ((F31 78 (by decide)).trans ((F3 78 (by decide)).trans (H78.trans (ent_78 _)))))))))))) | (rw [if_neg (show ¬ (1 ≤ a ∧ a ≤ 3 ∧ 1 ≤ b ∧ b ≤ 3 ∧ 0 ≤ c ∧ c ≤ 2 ∧ -8 ≤ x ∧ x ≤ 15 ∧ -8 ≤ y ∧ y ≤ 15) by omega)]; exact (show _ = ent 78 g78 from ((F56 78 (by decide)).trans ((F51 78 (by decide)).trans ((F47 78 (by decide)).trans ((F43 78 (by decide)).trans ((F39 78 (by decide)).trans ((F35 78 (by decide)).trans ((F31 78 (by decide)).trans ((F3 78 (by decide)).trans (H78.trans (ent_78 _)))))))))))) | (rw [if_pos (show 1 ≤ a ∧ a ≤ 3 ∧ 1 ≤ b ∧ b ≤ 3 ∧ 0 ≤ c ∧ c ≤ 2 ∧ -8 ≤ x ∧ x ≤ 15 ∧ -8 ≤ y ∧ y ≤ 15 by omega), if_pos (show g79 0 < 5 by omega)]; exact (show _ = ent 78 g78 from ((F56 78 (by decide)).trans ((F51 78 (by decide)).trans ((F47 78 (by decide)).trans ((F43 78 (by decide)).trans ((F39 78 (by decide)).trans ((F35 78 (by decide)).trans ((F31 78 (by decide)).trans ((F3 78 (by decide)).trans (H78.trans (ent_78 _)))))))))))) | (rw [if_pos (show 1 ≤ a ∧ a ≤ 3 ∧ 1 ≤ b ∧ b ≤ 3 ∧ 0 ≤ c ∧ c ≤ 2 ∧ -8 ≤ x ∧ x ≤ 15 ∧ -8 ≤ y ∧ y ≤ 15 by omega), if_neg (show ¬ (g79 0 < 5) by omega)]; exact (show _ = ent 78 g78 from ((F56 78 (by decide)).trans ((F51 78 (by decide)).trans ((F47 78 (by decide)).trans ((F43 78 (by decide)).trans ((F39 78 (by decide)).trans ((F35 78 (by decide)).trans ((F31 78 (by decide)).trans ((F3 78 (by decide)).trans (H78.trans (ent_78 _)))))))))))) | (rw [if_neg (show ¬ (1 ≤ a ∧ a ≤ 3 ∧ 1 ≤ b ∧ b ≤ 3 ∧ 0 ≤ c ∧ c ≤ 2 ∧ -8 ≤ x ∧ x ≤ 15 ∧ -8 ≤ y ∧ y ≤ 15) by omega), if_pos (show g79 0 < 5 by omega)]; exact (show _ = ent 78 g78 from ((F56 78 (by decide)).trans ((F51 78 (by decide)).trans ((F47 78 (by decide)).trans ((F43 78 (by decide)).trans ((F39 78 (by decide)).trans ((F35 78 (by decide)).trans ((F31 78 (by decide)).trans ((F3 78 (by decide)).trans (H78.trans (ent_78 _)))))))))))) | (rw [if_neg (show ¬ (1 ≤ a ∧ a ≤ 3 ∧ 1 ≤ b ∧ b ≤ 3 ∧ 0 ≤ c ∧ c ≤ 2 ∧ -8 ≤ x ∧ x ≤ 15 ∧ -8 ≤ y ∧ y ≤ 15) by omega), if_neg (show ¬ (g79 0 < 5) by omega)]; exact (show _ = ent 78 g78 from ((F56 78 (by decide)).trans ((F51 78 (by decide)).trans ((F47 78 (by decide)).trans ((F43 78 (by decide)).trans ((F39 78 (by decide)).trans ((F35 78 (by decide)).trans ((F31 78 (by decide)).trans ((F3 78 (by decide)).trans (H78.trans (ent_78 _))))))))))))), (by first | exact (show _ = ent 77 ((uI (uI g77 0 0) 1 0)) from E57) | (rw [if_pos (show 1 ≤ a ∧ a ≤ 3 ∧ 1 ≤ b ∧ b ≤ 3 ∧ 0 ≤ c ∧ c ≤ 2 ∧ -8 ≤ x ∧ x ≤ 15 ∧ -8 ≤ y ∧ y ≤ 15 by omega)]; exact (show _ = ent 77 ((uI (uI g77 0 0) 1 0)) from E57)) | (rw [if_neg (show ¬ (1 ≤ a ∧ a ≤ 3 ∧ 1 ≤ b ∧ b ≤ 3 ∧ 0 ≤ c ∧ c ≤ 2 ∧ -8 ≤ x ∧ x ≤ 15 ∧ -8 ≤ y ∧ y ≤ 15) by omega)]; exact (show _ = ent 77 ((uI (uI g77 0 0) 1 0)) from E57)) | (rw [if_pos (show 1 ≤ a ∧ a ≤ 3 ∧ 1 ≤ b ∧ b ≤ 3 ∧ 0 ≤ c ∧ c ≤ 2 ∧ -8 ≤ x ∧ x ≤ 15 ∧ -8 ≤ y ∧ y ≤ 15 by omega), if_pos (show g79 0 < 5 by omega)]; exact (show _ = ent 77 ((uI (uI g77 0 0) 1 0)) from E57)) | (rw [if_pos (show 1 ≤ a ∧ a ≤ 3 ∧ 1 ≤ b ∧ b ≤ 3 ∧ 0 ≤ c ∧ c ≤ 2 ∧ -8 ≤ x ∧ x ≤ 15 ∧ -8 ≤ y ∧ y ≤ 15 by omega), if_neg (show ¬ (g79 0 < 5) by omega)]; exact (show _ = ent 77 ((uI (uI g77 0 0) 1 0)) from E57)) | (rw [if_neg (show ¬ (1 ≤ a ∧ a ≤ 3 ∧ 1 ≤ b ∧ b ≤ 3 ∧ 0 ≤ c ∧ c ≤ 2 ∧ -8 ≤ x ∧ x ≤ 15 ∧ -8 ≤ y ∧ y ≤ 15) by omega), if_pos (show g79 0 < 5 by omega)]; exact (show _ = ent 77 ((uI (uI g77 0 0) 1 0)) from E57)) | (rw [if_neg (show ¬ (1 ≤ a ∧ a ≤ 3 ∧ 1 ≤ b ∧ b ≤ 3 ∧ 0 ≤ c ∧ c ≤ 2 ∧ -8 ≤ x ∧ x ≤ 15 ∧ -8 ≤ y ∧ y ≤ 15) by omega), if_neg (show ¬ (g79 0 < 5) by omega)]; exact (show _ = ent 77 ((uI (uI g77 0 0) 1 0)) from E57))), fun j m79 m78 m77 => ((F56 j m77).trans ((F51 j m79).trans ((F47 j m79).trans ((F43 j m79).trans ((F39 j m79).trans ((F35 j m79).trans ((F31 j m79).trans (F3 j m77))))))))⟩ | omega)
        · refine v_aload_n dX12_cloud_50 rfl ?_
          refine v_bipushI dX12_cloud_51 rfl ?_
          have H58 := ((F3 78 (by decide)).trans (H78.trans (ent_78 _)))
          refine v_callV dX12_cloud_53 ml_X12_179 (sp_X12_tell_5  (g77 := (uI g77 0 0)) (g78 := g78) hn (show _ = ent 77 (uI g77 0 0) from E2) (show _ = ent 78 g78 from H58)) E2 rfl (s_lt hn rfl) rfl rfl (Nat.le_of_ble_eq_true rfl) (Nat.le_of_ble_eq_true rfl) (Nat.zero_le _) (Nat.zero_le _) ⟨Or.inl (fun _ _ _ q => q.2.1), fun r n1 h59 q60 => ?_⟩
          obtain ⟨rfl, rfl, E61, E62, F63⟩ := q60
          dsimp only [s_push]
          have E64 : _ = (.inr (12, [.int (iI 0), .int (iI ((-5))), .ref 78, .ref 79, .ref 80, .ref 81, .int (iI (g77 6)), .ref 82, .int (iI (g77 8)), .int (iI (g77 9)), .int (iI (g77 10)), .int (iI (g77 11)), .long (jJ (g77 12)), .int (iI (g77 13)), .int (iI (g77 14)), .int (iI (g77 15)), .int (iI (g77 16)), .ref 83, .int (iI (g77 18)), .ref 84, .ref 85, .int (iI (g77 21)), .ref 86, .ref 87, .int (iI (g77 24)), .int (iI (g77 25)), .ref 88, .ref 89, .ref 90, .int (iI (g77 29)), .ref 91, .ref 92, .ref 93, .int (iI (g77 33)), .long (jJ (g77 34)), .long (jJ (g77 35)), .ref 94, .ref 95, .ref 96, .ref 97, .ref 98, .ref 99, .ref 100, .ref 101, .ref 102, .ref 103, .ref 104, .ref 105, .ref 106, .ref 107, .int (iI (g77 50)), .ref 108, .ref 109, .ref 110, .ref 111, .ref 112, .ref 113, .int (iI (g77 57)), .int (iI (g77 58)), .int (iI (g77 59)), .int (iI (g77 60)), .long (jJ (g77 61)), .ref 114, .int (iI (g77 63))]) : sE) := E61
          exact v_iret dX12_cloud_56 rfl (Nat.zero_le _) (Nat.zero_le _) (by first | exact ⟨(congrArg (fun x => some (Value.int x)) (congrArg iI (by first | rfl | omega | (split <;> first | rfl | omega | (split <;> first | rfl | omega))))), rfl, (by first | exact (show _ = ent 79 g79 from ((F63 79 (by decide) (by decide)).trans H27)) | (rw [if_pos (show 1 ≤ a ∧ a ≤ 3 ∧ 1 ≤ b ∧ b ≤ 3 ∧ 0 ≤ c ∧ c ≤ 2 ∧ -8 ≤ x ∧ x ≤ 15 ∧ -8 ≤ y ∧ y ≤ 15 by omega)]; exact (show _ = ent 79 g79 from ((F63 79 (by decide) (by decide)).trans H27))) | (rw [if_neg (show ¬ (1 ≤ a ∧ a ≤ 3 ∧ 1 ≤ b ∧ b ≤ 3 ∧ 0 ≤ c ∧ c ≤ 2 ∧ -8 ≤ x ∧ x ≤ 15 ∧ -8 ≤ y ∧ y ≤ 15) by omega)]; exact (show _ = ent 79 g79 from ((F63 79 (by decide) (by decide)).trans H27))) | (rw [if_pos (show 1 ≤ a ∧ a ≤ 3 ∧ 1 ≤ b ∧ b ≤ 3 ∧ 0 ≤ c ∧ c ≤ 2 ∧ -8 ≤ x ∧ x ≤ 15 ∧ -8 ≤ y ∧ y ≤ 15 by omega), if_pos (show g79 0 < 5 by omega)]; exact (show _ = ent 79 g79 from ((F63 79 (by decide) (by decide)).trans H27))) | (rw [if_pos (show 1 ≤ a ∧ a ≤ 3 ∧ 1 ≤ b ∧ b ≤ 3 ∧ 0 ≤ c ∧ c ≤ 2 ∧ -8 ≤ x ∧ x ≤ 15 ∧ -8 ≤ y ∧ y ≤ 15 by omega), if_neg (show ¬ (g79 0 < 5) by omega)]; exact (show _ = ent 79 g79 from ((F63 79 (by decide) (by decide)).trans H27))) | (rw [if_neg (show ¬ (1 ≤ a ∧ a ≤ 3 ∧ 1 ≤ b ∧ b ≤ 3 ∧ 0 ≤ c ∧ c ≤ 2 ∧ -8 ≤ x ∧ x ≤ 15 ∧ -8 ≤ y ∧ y ≤ 15) by omega), if_pos (show g79 0 < 5 by omega)]; exact (show _ = ent 79 g79 from ((F63 79 (by decide) (by decide)).trans H27))) | (rw [if_neg (show ¬ (1 ≤ a ∧ a ≤ 3 ∧ 1 ≤ b ∧ b ≤ 3 ∧ 0 ≤ c ∧ c ≤ 2 ∧ -8 ≤ x ∧ x ≤ 15 ∧ -8 ≤ y ∧ y ≤ 15) by omega), if_neg (show ¬ (g79 0 < 5) by omega)]; exact (show _ = ent 79 g79 from ((F63 79 (by decide) (by decide)).trans H27)))), (by first | exact (show _ = ent 78 (uI (g78) 5 (g78 5 + 1)) from (E62.trans (ent_78 _))) | (rw [if_pos (show 1 ≤ a ∧ a ≤ 3 ∧ 1 ≤ b ∧ b ≤ 3 ∧ 0 ≤ c ∧ c ≤ 2 ∧ -8 ≤ x ∧ x ≤ 15 ∧ -8 ≤ y ∧ y ≤ 15 by omega)]; exact (show _ = ent 78 (uI (g78) 5 (g78 5 + 1)) from (E62.trans (ent_78 _)))) | (rw [if_neg (show ¬ (1 ≤ a ∧ a ≤ 3 ∧ 1 ≤ b ∧ b ≤ 3 ∧ 0 ≤ c ∧ c ≤ 2 ∧ -8 ≤ x ∧ x ≤ 15 ∧ -8 ≤ y ∧ y ≤ 15) by omega)]; exact (show _ = ent 78 (uI (g78) 5 (g78 5 + 1)) from (E62.trans (ent_78 _)))) | (rw [if_pos (show 1 ≤ a ∧ a ≤ 3 ∧ 1 ≤ b ∧ b ≤ 3 ∧ 0 ≤ c ∧ c ≤ 2 ∧ -8 ≤ x ∧ x ≤ 15 ∧ -8 ≤ y ∧ y ≤ 15 by omega), if_pos (show g79 0 < 5 by omega)]; exact (show _ = ent 78 (uI (g78) 5 (g78 5 + 1)) from (E62.trans (ent_78 _)))) | (rw [if_pos (show 1 ≤ a ∧ a ≤ 3 ∧ 1 ≤ b ∧ b ≤ 3 ∧ 0 ≤ c ∧ c ≤ 2 ∧ -8 ≤ x ∧ x ≤ 15 ∧ -8 ≤ y ∧ y ≤ 15 by omega), if_neg (show ¬ (g79 0 < 5) by omega)]; exact (show _ = ent 78 (uI (g78) 5 (g78 5 + 1)) from (E62.trans (ent_78 _)))) | (rw [if_neg (show ¬ (1 ≤ a ∧ a ≤ 3 ∧ 1 ≤ b ∧ b ≤ 3 ∧ 0 ≤ c ∧ c ≤ 2 ∧ -8 ≤ x ∧ x ≤ 15 ∧ -8 ≤ y ∧ y ≤ 15) by omega), if_pos (show g79 0 < 5 by omega)]; exact (show _ = ent 78 (uI (g78) 5 (g78 5 + 1)) from (E62.trans (ent_78 _)))) | (rw [if_neg (show ¬ (1 ≤ a ∧ a ≤ 3 ∧ 1 ≤ b ∧ b ≤ 3 ∧ 0 ≤ c ∧ c ≤ 2 ∧ -8 ≤ x ∧ x ≤ 15 ∧ -8 ≤ y ∧ y ≤ 15) by omega), if_neg (show ¬ (g79 0 < 5) by omega)]; exact (show _ = ent 78 (uI (g78) 5 (g78 5 + 1)) from (E62.trans (ent_78 _))))), (by first | exact (show _ = ent 77 ((uI (uI g77 0 0) 1 ((-5)))) from E64) | (rw [if_pos (show 1 ≤ a ∧ a ≤ 3 ∧ 1 ≤ b ∧ b ≤ 3 ∧ 0 ≤ c ∧ c ≤ 2 ∧ -8 ≤ x ∧ x ≤ 15 ∧ -8 ≤ y ∧ y ≤ 15 by omega)]; exact (show _ = ent 77 ((uI (uI g77 0 0) 1 ((-5)))) from E64)) | (rw [if_neg (show ¬ (1 ≤ a ∧ a ≤ 3 ∧ 1 ≤ b ∧ b ≤ 3 ∧ 0 ≤ c ∧ c ≤ 2 ∧ -8 ≤ x ∧ x ≤ 15 ∧ -8 ≤ y ∧ y ≤ 15) by omega)]; exact (show _ = ent 77 ((uI (uI g77 0 0) 1 ((-5)))) from E64)) | (rw [if_pos (show 1 ≤ a ∧ a ≤ 3 ∧ 1 ≤ b ∧ b ≤ 3 ∧ 0 ≤ c ∧ c ≤ 2 ∧ -8 ≤ x ∧ x ≤ 15 ∧ -8 ≤ y ∧ y ≤ 15 by omega), if_pos (show g79 0 < 5 by omega)]; exact (show _ = ent 77 ((uI (uI g77 0 0) 1 ((-5)))) from E64)) | (rw [if_pos (show 1 ≤ a ∧ a ≤ 3 ∧ 1 ≤ b ∧ b ≤ 3 ∧ 0 ≤ c ∧ c ≤ 2 ∧ -8 ≤ x ∧ x ≤ 15 ∧ -8 ≤ y ∧ y ≤ 15 by omega), if_neg (show ¬ (g79 0 < 5) by omega)]; exact (show _ = ent 77 ((uI (uI g77 0 0) 1 ((-5)))) from E64)) | (rw [if_neg (show ¬ (1 ≤ a ∧ a ≤ 3 ∧ 1 ≤ b ∧ b ≤ 3 ∧ 0 ≤ c ∧ c ≤ 2 ∧ -8 ≤ x ∧ x ≤ 15 ∧ -8 ≤ y ∧ y ≤ 15) by omega), if_pos (show g79 0 < 5 by omega)]; exact (show _ = ent 77 ((uI (uI g77 0 0) 1 ((-5)))) from E64)) | (rw [if_neg (show ¬ (1 ≤ a ∧ a ≤ 3 ∧ 1 ≤ b ∧ b ≤ 3 ∧ 0 ≤ c ∧ c ≤ 2 ∧ -8 ≤ x ∧ x ≤ 15 ∧ -8 ≤ y ∧ y ≤ 15) by omega), if_neg (show ¬ (g79 0 < 5) by omega)]; exact (show _ = ent 77 ((uI (uI g77 0 0) 1 ((-5)))) from E64))), fun j m79 m78 m77 => ((F63 j m77 m78).trans (F3 j m77))⟩ | omega)
      · refine v_aload_n dX12_cloud_30 rfl ?_
        refine v_iconstI dX12_cloud_31 ?_
        have H65 := ((F3 78 (by decide)).trans (H78.trans (ent_78 _)))
        refine v_callV dX12_cloud_32 ml_X12_179 (sp_X12_tell_1  (g77 := (uI g77 0 0)) (g78 := g78) hn (show _ = ent 77 (uI g77 0 0) from E2) (show _ = ent 78 g78 from H65)) E2 rfl (s_lt hn rfl) rfl rfl (Nat.le_of_ble_eq_true rfl) (Nat.le_of_ble_eq_true rfl) (Nat.zero_le _) (Nat.zero_le _) ⟨Or.inl (fun _ _ _ q => q.2.1), fun r n1 h66 q67 => ?_⟩
        obtain ⟨rfl, rfl, E68, E69, F70⟩ := q67
        dsimp only [s_push]
        have E71 : _ = (.inr (12, [.int (iI 0), .int (iI ((-1))), .ref 78, .ref 79, .ref 80, .ref 81, .int (iI (g77 6)), .ref 82, .int (iI (g77 8)), .int (iI (g77 9)), .int (iI (g77 10)), .int (iI (g77 11)), .long (jJ (g77 12)), .int (iI (g77 13)), .int (iI (g77 14)), .int (iI (g77 15)), .int (iI (g77 16)), .ref 83, .int (iI (g77 18)), .ref 84, .ref 85, .int (iI (g77 21)), .ref 86, .ref 87, .int (iI (g77 24)), .int (iI (g77 25)), .ref 88, .ref 89, .ref 90, .int (iI (g77 29)), .ref 91, .ref 92, .ref 93, .int (iI (g77 33)), .long (jJ (g77 34)), .long (jJ (g77 35)), .ref 94, .ref 95, .ref 96, .ref 97, .ref 98, .ref 99, .ref 100, .ref 101, .ref 102, .ref 103, .ref 104, .ref 105, .ref 106, .ref 107, .int (iI (g77 50)), .ref 108, .ref 109, .ref 110, .ref 111, .ref 112, .ref 113, .int (iI (g77 57)), .int (iI (g77 58)), .int (iI (g77 59)), .int (iI (g77 60)), .long (jJ (g77 61)), .ref 114, .int (iI (g77 63))]) : sE) := E68
        exact v_iret dX12_cloud_35 rfl (Nat.zero_le _) (Nat.zero_le _) (by first | exact ⟨(congrArg (fun x => some (Value.int x)) (congrArg iI (by first | rfl | omega | (split <;> first | rfl | omega | (split <;> first | rfl | omega))))), rfl, (by first | exact (show _ = ent 79 g79 from ((F70 79 (by decide) (by decide)).trans ((F3 79 (by decide)).trans (H79.trans (ent_79 _))))) | (rw [if_pos (show 1 ≤ a ∧ a ≤ 3 ∧ 1 ≤ b ∧ b ≤ 3 ∧ 0 ≤ c ∧ c ≤ 2 ∧ -8 ≤ x ∧ x ≤ 15 ∧ -8 ≤ y ∧ y ≤ 15 by omega)]; exact (show _ = ent 79 g79 from ((F70 79 (by decide) (by decide)).trans ((F3 79 (by decide)).trans (H79.trans (ent_79 _)))))) | (rw [if_neg (show ¬ (1 ≤ a ∧ a ≤ 3 ∧ 1 ≤ b ∧ b ≤ 3 ∧ 0 ≤ c ∧ c ≤ 2 ∧ -8 ≤ x ∧ x ≤ 15 ∧ -8 ≤ y ∧ y ≤ 15) by omega)]; exact (show _ = ent 79 g79 from ((F70 79 (by decide) (by decide)).trans ((F3 79 (by decide)).trans (H79.trans (ent_79 _)))))) | (rw [if_pos (show 1 ≤ a ∧ a ≤ 3 ∧ 1 ≤ b ∧ b ≤ 3 ∧ 0 ≤ c ∧ c ≤ 2 ∧ -8 ≤ x ∧ x ≤ 15 ∧ -8 ≤ y ∧ y ≤ 15 by omega), if_pos (show g79 0 < 5 by omega)]; exact (show _ = ent 79 g79 from ((F70 79 (by decide) (by decide)).trans ((F3 79 (by decide)).trans (H79.trans (ent_79 _)))))) | (rw [if_pos (show 1 ≤ a ∧ a ≤ 3 ∧ 1 ≤ b ∧ b ≤ 3 ∧ 0 ≤ c ∧ c ≤ 2 ∧ -8 ≤ x ∧ x ≤ 15 ∧ -8 ≤ y ∧ y ≤ 15 by omega), if_neg (show ¬ (g79 0 < 5) by omega)]; exact (show _ = ent 79 g79 from ((F70 79 (by decide) (by decide)).trans ((F3 79 (by decide)).trans (H79.trans (ent_79 _)))))) | (rw [if_neg (show ¬ (1 ≤ a ∧ a ≤ 3 ∧ 1 ≤ b ∧ b ≤ 3 ∧ 0 ≤ c ∧ c ≤ 2 ∧ -8 ≤ x ∧ x ≤ 15 ∧ -8 ≤ y ∧ y ≤ 15) by omega), if_pos (show g79 0 < 5 by omega)]; exact (show _ = ent 79 g79 from ((F70 79 (by decide) (by decide)).trans ((F3 79 (by decide)).trans (H79.trans (ent_79 _)))))) | (rw [if_neg (show ¬ (1 ≤ a ∧ a ≤ 3 ∧ 1 ≤ b ∧ b ≤ 3 ∧ 0 ≤ c ∧ c ≤ 2 ∧ -8 ≤ x ∧ x ≤ 15 ∧ -8 ≤ y ∧ y ≤ 15) by omega), if_neg (show ¬ (g79 0 < 5) by omega)]; exact (show _ = ent 79 g79 from ((F70 79 (by decide) (by decide)).trans ((F3 79 (by decide)).trans (H79.trans (ent_79 _))))))), (by first | exact (show _ = ent 78 (uI (g78) 1 (g78 1 + 1)) from (E69.trans (ent_78 _))) | (rw [if_pos (show 1 ≤ a ∧ a ≤ 3 ∧ 1 ≤ b ∧ b ≤ 3 ∧ 0 ≤ c ∧ c ≤ 2 ∧ -8 ≤ x ∧ x ≤ 15 ∧ -8 ≤ y ∧ y ≤ 15 by omega)]; exact (show _ = ent 78 (uI (g78) 1 (g78 1 + 1)) from (E69.trans (ent_78 _)))) | (rw [if_neg (show ¬ (1 ≤ a ∧ a ≤ 3 ∧ 1 ≤ b ∧ b ≤ 3 ∧ 0 ≤ c ∧ c ≤ 2 ∧ -8 ≤ x ∧ x ≤ 15 ∧ -8 ≤ y ∧ y ≤ 15) by omega)]; exact (show _ = ent 78 (uI (g78) 1 (g78 1 + 1)) from (E69.trans (ent_78 _)))) | (rw [if_pos (show 1 ≤ a ∧ a ≤ 3 ∧ 1 ≤ b ∧ b ≤ 3 ∧ 0 ≤ c ∧ c ≤ 2 ∧ -8 ≤ x ∧ x ≤ 15 ∧ -8 ≤ y ∧ y ≤ 15 by omega), if_pos (show g79 0 < 5 by omega)]; exact (show _ = ent 78 (uI (g78) 1 (g78 1 + 1)) from (E69.trans (ent_78 _)))) | (rw [if_pos (show 1 ≤ a ∧ a ≤ 3 ∧ 1 ≤ b ∧ b ≤ 3 ∧ 0 ≤ c ∧ c ≤ 2 ∧ -8 ≤ x ∧ x ≤ 15 ∧ -8 ≤ y ∧ y ≤ 15 by omega), if_neg (show ¬ (g79 0 < 5) by omega)]; exact (show _ = ent 78 (uI (g78) 1 (g78 1 + 1)) from (E69.trans (ent_78 _)))) | (rw [if_neg (show ¬ (1 ≤ a ∧ a ≤ 3 ∧ 1 ≤ b ∧ b ≤ 3 ∧ 0 ≤ c ∧ c ≤ 2 ∧ -8 ≤ x ∧ x ≤ 15 ∧ -8 ≤ y ∧ y ≤ 15) by omega), if_pos (show g79 0 < 5 by omega)]; exact (show _ = ent 78 (uI (g78) 1 (g78 1 + 1)) from (E69.trans (ent_78 _)))) | (rw [if_neg (show ¬ (1 ≤ a ∧ a ≤ 3 ∧ 1 ≤ b ∧ b ≤ 3 ∧ 0 ≤ c ∧ c ≤ 2 ∧ -8 ≤ x ∧ x ≤ 15 ∧ -8 ≤ y ∧ y ≤ 15) by omega), if_neg (show ¬ (g79 0 < 5) by omega)]; exact (show _ = ent 78 (uI (g78) 1 (g78 1 + 1)) from (E69.trans (ent_78 _))))), (by first | exact (show _ = ent 77 ((uI (uI g77 0 0) 1 ((-1)))) from E71) | (rw [if_pos (show 1 ≤ a ∧ a ≤ 3 ∧ 1 ≤ b ∧ b ≤ 3 ∧ 0 ≤ c ∧ c ≤ 2 ∧ -8 ≤ x ∧ x ≤ 15 ∧ -8 ≤ y ∧ y ≤ 15 by omega)]; exact (show _ = ent 77 ((uI (uI g77 0 0) 1 ((-1)))) from E71)) | (rw [if_neg (show ¬ (1 ≤ a ∧ a ≤ 3 ∧ 1 ≤ b ∧ b ≤ 3 ∧ 0 ≤ c ∧ c ≤ 2 ∧ -8 ≤ x ∧ x ≤ 15 ∧ -8 ≤ y ∧ y ≤ 15) by omega)]; exact (show _ = ent 77 ((uI (uI g77 0 0) 1 ((-1)))) from E71)) | (rw [if_pos (show 1 ≤ a ∧ a ≤ 3 ∧ 1 ≤ b ∧ b ≤ 3 ∧ 0 ≤ c ∧ c ≤ 2 ∧ -8 ≤ x ∧ x ≤ 15 ∧ -8 ≤ y ∧ y ≤ 15 by omega), if_pos (show g79 0 < 5 by omega)]; exact (show _ = ent 77 ((uI (uI g77 0 0) 1 ((-1)))) from E71)) | (rw [if_pos (show 1 ≤ a ∧ a ≤ 3 ∧ 1 ≤ b ∧ b ≤ 3 ∧ 0 ≤ c ∧ c ≤ 2 ∧ -8 ≤ x ∧ x ≤ 15 ∧ -8 ≤ y ∧ y ≤ 15 by omega), if_neg (show ¬ (g79 0 < 5) by omega)]; exact (show _ = ent 77 ((uI (uI g77 0 0) 1 ((-1)))) from E71)) | (rw [if_neg (show ¬ (1 ≤ a ∧ a ≤ 3 ∧ 1 ≤ b ∧ b ≤ 3 ∧ 0 ≤ c ∧ c ≤ 2 ∧ -8 ≤ x ∧ x ≤ 15 ∧ -8 ≤ y ∧ y ≤ 15) by omega), if_pos (show g79 0 < 5 by omega)]; exact (show _ = ent 77 ((uI (uI g77 0 0) 1 ((-1)))) from E71)) | (rw [if_neg (show ¬ (1 ≤ a ∧ a ≤ 3 ∧ 1 ≤ b ∧ b ≤ 3 ∧ 0 ≤ c ∧ c ≤ 2 ∧ -8 ≤ x ∧ x ≤ 15 ∧ -8 ≤ y ∧ y ≤ 15) by omega), if_neg (show ¬ (g79 0 < 5) by omega)]; exact (show _ = ent 77 ((uI (uI g77 0 0) 1 ((-1)))) from E71))), fun j m79 m78 m77 => ((F70 j m77 m78).trans (F3 j m77))⟩ | omega)
theorem dX12_of_0 : decode cX12_of 0 = .ok (.aload_n 0, 1) := by decide +kernel
theorem dX12_of_1 : decode cX12_of 1 = .ok (.iconst 0, 1) := by decide +kernel
theorem dX12_of_2 : decode cX12_of 2 = .ok (.putfield 169, 3) := by decide +kernel
theorem dX12_of_5 : decode cX12_of 5 = .ok (.aload_n 0, 1) := by decide +kernel
theorem dX12_of_6 : decode cX12_of 6 = .ok (.iload_n 1, 1) := by decide +kernel
theorem dX12_of_7 : decode cX12_of 7 = .ok (.invokevirtual 219, 3) := by decide +kernel
theorem dX12_of_10 : decode cX12_of 10 = .ok (.ifCond .eq 24, 3) := by decide +kernel
theorem dX12_of_13 : decode cX12_of 13 = .ok (.iload_n 2, 1) := by decide +kernel
theorem dX12_of_14 : decode cX12_of 14 = .ok (.i2l, 1) := by decide +kernel
theorem dX12_of_15 : decode cX12_of 15 = .ok (.lconst 0, 1) := by decide +kernel
theorem dX12_of_16 : decode cX12_of 16 = .ok (.ldc2_w 222, 3) := by decide +kernel
theorem dX12_of_19 : decode cX12_of 19 = .ok (.invokestatic 175, 3) := by decide +kernel
theorem dX12_of_22 : decode cX12_of 22 = .ok (.ifCond .eq 12, 3) := by decide +kernel
theorem dX12_of_25 : decode cX12_of 25 = .ok (.aload_n 0, 1) := by decide +kernel
theorem dX12_of_26 : decode cX12_of 26 = .ok (.iload_n 1, 1) := by decide +kernel
theorem dX12_of_27 : decode cX12_of 27 = .ok (.iload_n 2, 1) := by decide +kernel
theorem dX12_of_28 : decode cX12_of 28 = .ok (.invokevirtual 224, 3) := by decide +kernel
theorem dX12_of_31 : decode cX12_of 31 = .ok (.goto 6, 3) := by decide +kernel
theorem dX12_of_34 : decode cX12_of 34 = .ok (.sipush (-1000), 3) := by decide +kernel
theorem dX12_of_37 : decode cX12_of 37 = .ok (.ireturn, 1) := by decide +kernel
theorem sp_X12_of {n : Nat} {h : Nat → sE} {a b : Int}  {g77 g79 : Int → Int} (hn : 115 ≤ n) (H77 : h 77 = ent 77 g77) (H79 : h 79 = ent 79 g79) (ra : -2147483648 ≤ a ∧ a ≤ 2147483647) (rb : -2147483648 ≤ b ∧ b ≤ 2147483647) (i9 : 0 ≤ g79 0 ∧ g79 0 ≤ 5) : Sp m_X12_of 3 0 0 [.ref 77, .int (iI a), .int (iI b)] n h (fun r n' h' => r = some (.int (iI (if 0 ≤ a ∧ a ≤ g79 0 - 1 ∧ 0 ≤ b ∧ b ≤ 4 then g79 (15 + 5 * a + b) else -1000))) ∧ n' = n ∧ h' 77 = ent 77 ((uI g77 0 0)) ∧ ∀ j, j ≠ 77 → h' j = h j) := by
  refine Sp.ofV (by decide +kernel) (Nat.le_of_ble_eq_true rfl) ?_
  refine v_aload_n dX12_of_0 rfl ?_
  refine v_iconstI dX12_of_1 ?_
  refine v_put dX12_of_2 fl_X12_169 (H77.trans (ent_77 _)) (s_lt hn rfl) (Nat.le_of_ble_eq_true rfl) (fun _ => ⟨rfl, rfl⟩) trivial (fun h1 E2 F3 => ?_)
  refine v_aload_n dX12_of_5 rfl ?_
  refine v_iload_n dX12_of_6 rfl ?_
  have H4 := ((F3 79 (by decide)).trans (H79.trans (ent_79 _)))
  refine v_callV dX12_of_7 ml_X12_219 (sp_X12_isCloud (a := a) (g77 := (uI g77 0 0)) (g79 := g79) hn (show _ = ent 77 (uI g77 0 0) from E2) (show _ = ent 79 g79 from H4) (by omega) (by omega)) E2 rfl (s_lt hn rfl) rfl rfl (Nat.le_of_ble_eq_true rfl) (Nat.le_of_ble_eq_true rfl) (Nat.zero_le _) (Nat.zero_le _) ⟨Or.inl (fun _ _ _ q => q.2.1), fun r n1 h5 q6 => ?_⟩
  obtain ⟨rfl, rfl, rfl⟩ := q6
  try dsimp only [s_push]
  refine v_ifeqB (tgt := 34) dX12_of_10 (by decide) (fun c_7 => ?_) (fun c_7 => ?_)
  · refine v_sipushI dX12_of_34 rfl ?_
    exact v_iret dX12_of_37 rfl (Nat.zero_le _) (Nat.zero_le _) (by first | exact ⟨(congrArg (fun x => some (Value.int x)) (congrArg iI (by first | rfl | omega | (split <;> first | rfl | omega | (split <;> first | rfl | omega))))), rfl, (by first | exact (show _ = ent 77 (uI g77 0 0) from E2) | (rw [if_pos (by omega)]; exact (show _ = ent 77 (uI g77 0 0) from E2)) | (rw [if_neg (by omega)]; exact (show _ = ent 77 (uI g77 0 0) from E2))), fun j m77 => (F3 j m77)⟩ | omega)
  · refine v_iload_n dX12_of_13 rfl ?_
    refine v_i2lI dX12_of_14 (by omega) (by omega) ?_
    refine v_lconstI (w := 0) dX12_of_15 rfl ?_
    refine v_ldc2I 4 dX12_of_16 k_X12_222 rfl ?_
    refine v_callS dX12_of_19 ml_X12_175 (sp_X12_in (v := b) (lo := 0) (hi := 4)   (by omega) (by omega) (by omega)) rfl rfl (Nat.le_of_ble_eq_true rfl) (Nat.le_of_ble_eq_true rfl) (Nat.zero_le _) (Nat.zero_le _) ⟨Or.inl (fun _ _ _ q => q.2.1), fun r n1 h8 q9 => ?_⟩
    obtain ⟨rfl, rfl, rfl⟩ := q9
    try dsimp only [s_push]
    refine v_ifeqB (tgt := 34) dX12_of_22 (by decide) (fun c_10 => ?_) (fun c_10 => ?_)
    · refine v_sipushI dX12_of_34 rfl ?_
      exact v_iret dX12_of_37 rfl (Nat.zero_le _) (Nat.zero_le _) (by first | exact ⟨(congrArg (fun x => some (Value.int x)) (congrArg iI (by first | rfl | omega | (split <;> first | rfl | omega | (split <;> first | rfl | omega))))), rfl, (by first | exact (show _ = ent 77 (uI g77 0 0) from E2) | (rw [if_pos (by omega)]; exact (show _ = ent 77 (uI g77 0 0) from E2)) | (rw [if_neg (by omega)]; exact (show _ = ent 77 (uI g77 0 0) from E2))), fun j m77 => (F3 j m77)⟩ | omega)
    · refine v_aload_n dX12_of_25 rfl ?_
      refine v_iload_n dX12_of_26 rfl ?_
      refine v_iload_n dX12_of_27 rfl ?_
      refine v_callV dX12_of_28 ml_X12_224 (sp_X12_ofCloud (a := a) (b := b) (g77 := (uI g77 0 0)) (g79 := g79) hn (show _ = ent 77 (uI g77 0 0) from E2) (show _ = ent 79 g79 from H4) (by omega)) E2 rfl (s_lt hn rfl) rfl rfl (Nat.le_of_ble_eq_true rfl) (Nat.le_of_ble_eq_true rfl) (Nat.zero_le _) (Nat.zero_le _) ⟨Or.inl (fun _ _ _ q => q.2.1), fun r n1 h11 q12 => ?_⟩
      obtain ⟨rfl, rfl, rfl⟩ := q12
      try dsimp only [s_push]
      refine v_goto (tgt := 37) dX12_of_31 (by decide) ?_
      exact v_iret dX12_of_37 rfl (Nat.zero_le _) (Nat.zero_le _) (by first | exact ⟨(congrArg (fun x => some (Value.int x)) (congrArg iI (by first | rfl | omega | (split <;> first | rfl | omega | (split <;> first | rfl | omega))))), rfl, (by first | exact (show _ = ent 77 (uI g77 0 0) from E2) | (rw [if_pos (by omega)]; exact (show _ = ent 77 (uI g77 0 0) from E2)) | (rw [if_neg (by omega)]; exact (show _ = ent 77 (uI g77 0 0) from E2))), fun j m77 => (F3 j m77)⟩ | omega)
theorem dX12_undo_0 : decode cX12_undo 0 = .ok (.aload_n 0, 1) := by decide +kernel
theorem dX12_undo_1 : decode cX12_undo 1 = .ok (.iconst 0, 1) := by decide +kernel
theorem dX12_undo_2 : decode cX12_undo 2 = .ok (.putfield 169, 3) := by decide +kernel
theorem dX12_undo_5 : decode cX12_undo 5 = .ok (.aload_n 0, 1) := by decide +kernel
theorem dX12_undo_6 : decode cX12_undo 6 = .ok (.getfield 13, 3) := by decide +kernel
theorem dX12_undo_9 : decode cX12_undo 9 = .ok (.iconst 1, 1) := by decide +kernel
theorem dX12_undo_10 : decode cX12_undo 10 = .ok (.iaload, 1) := by decide +kernel
theorem dX12_undo_11 : decode cX12_undo 11 = .ok (.ifCond .ne 10, 3) := by decide +kernel
theorem dX12_undo_14 : decode cX12_undo 14 = .ok (.aload_n 0, 1) := by decide +kernel
theorem dX12_undo_15 : decode cX12_undo 15 = .ok (.bipush (-3), 2) := by decide +kernel
theorem dX12_undo_17 : decode cX12_undo 17 = .ok (.invokevirtual 179, 3) := by decide +kernel
theorem dX12_undo_20 : decode cX12_undo 20 = .ok (.ireturn, 1) := by decide +kernel
theorem dX12_undo_21 : decode cX12_undo 21 = .ok (.aload_n 0, 1) := by decide +kernel
theorem dX12_undo_22 : decode cX12_undo 22 = .ok (.getfield 13, 3) := by decide +kernel
theorem dX12_undo_25 : decode cX12_undo 25 = .ok (.iconst 1, 1) := by decide +kernel
theorem dX12_undo_26 : decode cX12_undo 26 = .ok (.dup2, 1) := by decide +kernel
theorem dX12_undo_27 : decode cX12_undo 27 = .ok (.iaload, 1) := by decide +kernel
theorem dX12_undo_28 : decode cX12_undo 28 = .ok (.iconst 1, 1) := by decide +kernel
theorem dX12_undo_29 : decode cX12_undo 29 = .ok (.isub, 1) := by decide +kernel
theorem dX12_undo_30 : decode cX12_undo 30 = .ok (.iastore, 1) := by decide +kernel
theorem dX12_undo_31 : decode cX12_undo 31 = .ok (.aload_n 0, 1) := by decide +kernel
theorem dX12_undo_32 : decode cX12_undo 32 = .ok (.aload_n 0, 1) := by decide +kernel
theorem dX12_undo_33 : decode cX12_undo 33 = .ok (.getfield 13, 3) := by decide +kernel
theorem dX12_undo_36 : decode cX12_undo 36 = .ok (.sipush 232, 3) := by decide +kernel
theorem dX12_undo_39 : decode cX12_undo 39 = .ok (.iconst 3, 1) := by decide +kernel
theorem dX12_undo_40 : decode cX12_undo 40 = .ok (.aload_n 0, 1) := by decide +kernel
theorem dX12_undo_41 : decode cX12_undo 41 = .ok (.getfield 13, 3) := by decide +kernel
theorem dX12_undo_44 : decode cX12_undo 44 = .ok (.iconst 1, 1) := by decide +kernel
theorem dX12_undo_45 : decode cX12_undo 45 = .ok (.iaload, 1) := by decide +kernel
theorem dX12_undo_46 : decode cX12_undo 46 = .ok (.imul, 1) := by decide +kernel
theorem dX12_undo_47 : decode cX12_undo 47 = .ok (.iadd, 1) := by decide +kernel
theorem dX12_undo_48 : decode cX12_undo 48 = .ok (.iaload, 1) := by decide +kernel
theorem dX12_undo_49 : decode cX12_undo 49 = .ok (.invokevirtual 179, 3) := by decide +kernel
theorem dX12_undo_52 : decode cX12_undo 52 = .ok (.ireturn, 1) := by decide +kernel
theorem sp_X12_undo {n : Nat} {h : Nat → sE}   {g77 g79 g78 : Int → Int} (hn : 115 ≤ n) (H77 : h 77 = ent 77 g77) (H79 : h 79 = ent 79 g79) (H78 : h 78 = ent 78 g78) (i9 : 0 ≤ g79 1 ∧ g79 1 ≤ 24) (i6 : g79 1 = 0 ∨ (0 ≤ g79 (232 + (3 * ((g79 1) - 1))) ∧ g79 (232 + (3 * ((g79 1) - 1))) ≤ 10)) : Sp m_X12_undo 3 0 0 [.ref 77] n h (fun r n' h' => r = some (.int (iI (if g79 1 = 0 then -3 else g79 (232 + 3 * (g79 1 - 1))))) ∧ n' = n ∧ h' 79 = ent 79 (if g79 1 = 0 then g79 else uI (g79) 1 (g79 1 - 1)) ∧ h' 78 = ent 78 (if g79 1 = 0 then uI (g78) 3 (g78 3 + 1) else g78) ∧ h' 77 = ent 77 ((uI (uI g77 0 0) 1 (if g79 1 = 0 then -3 else 0))) ∧ ∀ j, j ≠ 79 → j ≠ 78 → j ≠ 77 → h' j = h j) := by
  refine Sp.ofV (by decide +kernel) (Nat.le_of_ble_eq_true rfl) ?_
  refine v_aload_n dX12_undo_0 rfl ?_
  refine v_iconstI dX12_undo_1 ?_
  refine v_put dX12_undo_2 fl_X12_169 (H77.trans (ent_77 _)) (s_lt hn rfl) (Nat.le_of_ble_eq_true rfl) (fun _ => ⟨rfl, rfl⟩) trivial (fun h1 E2 F3 => ?_)
  refine v_aload_n dX12_undo_5 rfl ?_
  refine v_get dX12_undo_6 fl_X12_13 E2 rfl (s_lt hn rfl) ?_
  refine v_iconstI dX12_undo_9 ?_
  have H4 := ((F3 79 (by decide)).trans (H79.trans (ent_79 _)))
  refine v_ialdI dX12_undo_10 H4 (s_lt hn rfl) (by omega) (by omega) (by omega) ?_
  refine v_if_neI (tgt := 21) dX12_undo_11 (by decide) (by omega) (by omega) (fun c_5 => ?_) (fun c_5 => ?_)
  · refine v_aload_n dX12_undo_21 rfl ?_
    refine v_get dX12_undo_22 fl_X12_13 E2 rfl (s_lt hn rfl) ?_
    refine v_iconstI dX12_undo_25 ?_
    refine v_dup2 dX12_undo_26 rfl rfl ?_
    refine v_ialdI dX12_undo_27 H4 (s_lt hn rfl) (by omega) (by omega) (by omega) ?_
    refine v_iconstI dX12_undo_28 ?_
    refine v_isubI dX12_undo_29 ?_
    refine v_iastI dX12_undo_30 H4 (s_lt hn rfl) (by omega) (by omega) (by omega) (fun h6 E7 F8 => ?_)
    refine v_aload_n dX12_undo_31 rfl ?_
    refine v_aload_n dX12_undo_32 rfl ?_
    have H9 := ((F8 77 (by decide)).trans E2)
    refine v_get dX12_undo_33 fl_X12_13 H9 rfl (s_lt hn rfl) ?_
    refine v_sipushI dX12_undo_36 rfl ?_
    refine v_iconstI dX12_undo_39 ?_
    refine v_aload_n dX12_undo_40 rfl ?_
    refine v_get dX12_undo_41 fl_X12_13 H9 rfl (s_lt hn rfl) ?_
    refine v_iconstI dX12_undo_44 ?_
    refine v_ialdI dX12_undo_45 E7 (s_lt hn rfl) (by omega) (by omega) (by omega) ?_
    rw [uI_same]
    refine v_imulI dX12_undo_46 ?_
    refine v_iaddI dX12_undo_47 ?_
    refine v_ialdI dX12_undo_48 E7 (s_lt hn rfl) (by omega) (by omega) (by omega) ?_
    rw [uI_ne (show ¬ (232 + (3 * ((g79 1) - 1))) = 1 by omega)]
    refine v_callV dX12_undo_49 ml_X12_179 (sp_X12_tell_p (a := (g79 (232 + (3 * ((g79 1) - 1))))) (g77 := (uI g77 0 0)) hn (show _ = ent 77 (uI g77 0 0) from H9) (by omega)) H9 rfl (s_lt hn rfl) rfl rfl (Nat.le_of_ble_eq_true rfl) (Nat.le_of_ble_eq_true rfl) (Nat.zero_le _) (Nat.zero_le _) ⟨Or.inl (fun _ _ _ q => q.2.1), fun r n1 h10 q11 => ?_⟩
    obtain ⟨rfl, rfl, E12, F13⟩ := q11
    dsimp only [s_push]
    have E14 : _ = (.inr (12, [.int (iI 0), .int (iI (0)), .ref 78, .ref 79, .ref 80, .ref 81, .int (iI (g77 6)), .ref 82, .int (iI (g77 8)), .int (iI (g77 9)), .int (iI (g77 10)), .int (iI (g77 11)), .long (jJ (g77 12)), .int (iI (g77 13)), .int (iI (g77 14)), .int (iI (g77 15)), .int (iI (g77 16)), .ref 83, .int (iI (g77 18)), .ref 84, .ref 85, .int (iI (g77 21)), .ref 86, .ref 87, .int (iI (g77 24)), .int (iI (g77 25)), .ref 88, .ref 89, .ref 90, .int (iI (g77 29)), .ref 91, .ref 92, .ref 93, .int (iI (g77 33)), .long (jJ (g77 34)), .long (jJ (g77 35)), .ref 94, .ref 95, .ref 96, .ref 97, .ref 98, .ref 99, .ref 100, .ref 101, .ref 102, .ref 103, .ref 104, .ref 105, .ref 106, .ref 107, .int (iI (g77 50)), .ref 108, .ref 109, .ref 110, .ref 111, .ref 112, .ref 113, .int (iI (g77 57)), .int (iI (g77 58)), .int (iI (g77 59)), .int (iI (g77 60)), .long (jJ (g77 61)), .ref 114, .int (iI (g77 63))]) : sE) := E12
    exact v_iret dX12_undo_52 rfl (Nat.zero_le _) (Nat.zero_le _) (by first | exact ⟨(congrArg (fun x => some (Value.int x)) (congrArg iI (by first | rfl | omega | (split <;> first | rfl | omega | (split <;> first | rfl | omega))))), rfl, (by first | exact (show _ = ent 79 (uI g79 1 ((g79 1) - 1)) from ((F13 79 (by decide)).trans E7)) | (rw [if_pos (show g79 1 = 0 by omega)]; exact (show _ = ent 79 (uI g79 1 ((g79 1) - 1)) from ((F13 79 (by decide)).trans E7))) | (rw [if_neg (show ¬ (g79 1 = 0) by omega)]; exact (show _ = ent 79 (uI g79 1 ((g79 1) - 1)) from ((F13 79 (by decide)).trans E7)))), (by first | exact (show _ = ent 78 g78 from ((F13 78 (by decide)).trans ((F8 78 (by decide)).trans ((F3 78 (by decide)).trans (H78.trans (ent_78 _)))))) | (rw [if_pos (show g79 1 = 0 by omega)]; exact (show _ = ent 78 g78 from ((F13 78 (by decide)).trans ((F8 78 (by decide)).trans ((F3 78 (by decide)).trans (H78.trans (ent_78 _))))))) | (rw [if_neg (show ¬ (g79 1 = 0) by omega)]; exact (show _ = ent 78 g78 from ((F13 78 (by decide)).trans ((F8 78 (by decide)).trans ((F3 78 (by decide)).trans (H78.trans (ent_78 _)))))))), (by first | exact (show _ = ent 77 ((uI (uI g77 0 0) 1 0)) from E14) | (rw [if_pos (show g79 1 = 0 by omega)]; exact (show _ = ent 77 ((uI (uI g77 0 0) 1 0)) from E14)) | (rw [if_neg (show ¬ (g79 1 = 0) by omega)]; exact (show _ = ent 77 ((uI (uI g77 0 0) 1 0)) from E14))), fun j m79 m78 m77 => ((F13 j m77).trans ((F8 j m79).trans (F3 j m77)))⟩ | omega)
  · refine v_aload_n dX12_undo_14 rfl ?_
    refine v_bipushI dX12_undo_15 rfl ?_
    have H15 := ((F3 78 (by decide)).trans (H78.trans (ent_78 _)))
    refine v_callV dX12_undo_17 ml_X12_179 (sp_X12_tell_3  (g77 := (uI g77 0 0)) (g78 := g78) hn (show _ = ent 77 (uI g77 0 0) from E2) (show _ = ent 78 g78 from H15)) E2 rfl (s_lt hn rfl) rfl rfl (Nat.le_of_ble_eq_true rfl) (Nat.le_of_ble_eq_true rfl) (Nat.zero_le _) (Nat.zero_le _) ⟨Or.inl (fun _ _ _ q => q.2.1), fun r n1 h16 q17 => ?_⟩
    obtain ⟨rfl, rfl, E18, E19, F20⟩ := q17
    dsimp only [s_push]
    have E21 : _ = (.inr (12, [.int (iI 0), .int (iI ((-3))), .ref 78, .ref 79, .ref 80, .ref 81, .int (iI (g77 6)), .ref 82, .int (iI (g77 8)), .int (iI (g77 9)), .int (iI (g77 10)), .int (iI (g77 11)), .long (jJ (g77 12)), .int (iI (g77 13)), .int (iI (g77 14)), .int (iI (g77 15)), .int (iI (g77 16)), .ref 83, .int (iI (g77 18)), .ref 84, .ref 85, .int (iI (g77 21)), .ref 86, .ref 87, .int (iI (g77 24)), .int (iI (g77 25)), .ref 88, .ref 89, .ref 90, .int (iI (g77 29)), .ref 91, .ref 92, .ref 93, .int (iI (g77 33)), .long (jJ (g77 34)), .long (jJ (g77 35)), .ref 94, .ref 95, .ref 96, .ref 97, .ref 98, .ref 99, .ref 100, .ref 101, .ref 102, .ref 103, .ref 104, .ref 105, .ref 106, .ref 107, .int (iI (g77 50)), .ref 108, .ref 109, .ref 110, .ref 111, .ref 112, .ref 113, .int (iI (g77 57)), .int (iI (g77 58)), .int (iI (g77 59)), .int (iI (g77 60)), .long (jJ (g77 61)), .ref 114, .int (iI (g77 63))]) : sE) := E18
    exact v_iret dX12_undo_20 rfl (Nat.zero_le _) (Nat.zero_le _) (by first | exact ⟨(congrArg (fun x => some (Value.int x)) (congrArg iI (by first | rfl | omega | (split <;> first | rfl | omega | (split <;> first | rfl | omega))))), rfl, (by first | exact (show _ = ent 79 g79 from ((F20 79 (by decide) (by decide)).trans H4)) | (rw [if_pos (show g79 1 = 0 by omega)]; exact (show _ = ent 79 g79 from ((F20 79 (by decide) (by decide)).trans H4))) | (rw [if_neg (show ¬ (g79 1 = 0) by omega)]; exact (show _ = ent 79 g79 from ((F20 79 (by decide) (by decide)).trans H4)))), (by first | exact (show _ = ent 78 (uI (g78) 3 (g78 3 + 1)) from (E19.trans (ent_78 _))) | (rw [if_pos (show g79 1 = 0 by omega)]; exact (show _ = ent 78 (uI (g78) 3 (g78 3 + 1)) from (E19.trans (ent_78 _)))) | (rw [if_neg (show ¬ (g79 1 = 0) by omega)]; exact (show _ = ent 78 (uI (g78) 3 (g78 3 + 1)) from (E19.trans (ent_78 _))))), (by first | exact (show _ = ent 77 ((uI (uI g77 0 0) 1 ((-3)))) from E21) | (rw [if_pos (show g79 1 = 0 by omega)]; exact (show _ = ent 77 ((uI (uI g77 0 0) 1 ((-3)))) from E21)) | (rw [if_neg (show ¬ (g79 1 = 0) by omega)]; exact (show _ = ent 77 ((uI (uI g77 0 0) 1 ((-3)))) from E21))), fun j m79 m78 m77 => ((F20 j m77 m78).trans (F3 j m77))⟩ | omega)
theorem dX12_contract_0 : decode cX12_contract 0 = .ok (.aload_n 0, 1) := by decide +kernel
theorem dX12_contract_1 : decode cX12_contract 1 = .ok (.iconst 0, 1) := by decide +kernel
theorem dX12_contract_2 : decode cX12_contract 2 = .ok (.putfield 169, 3) := by decide +kernel
theorem dX12_contract_5 : decode cX12_contract 5 = .ok (.iload_n 1, 1) := by decide +kernel
theorem dX12_contract_6 : decode cX12_contract 6 = .ok (.invokestatic 195, 3) := by decide +kernel
theorem dX12_contract_9 : decode cX12_contract 9 = .ok (.ifCond .eq 46, 3) := by decide +kernel
theorem dX12_contract_12 : decode cX12_contract 12 = .ok (.iload_n 2, 1) := by decide +kernel
theorem dX12_contract_13 : decode cX12_contract 13 = .ok (.invokestatic 236, 3) := by decide +kernel
theorem dX12_contract_16 : decode cX12_contract 16 = .ok (.ifCond .eq 39, 3) := by decide +kernel
theorem dX12_contract_19 : decode cX12_contract 19 = .ok (.iload_n 3, 1) := by decide +kernel
theorem dX12_contract_20 : decode cX12_contract 20 = .ok (.invokestatic 236, 3) := by decide +kernel
theorem dX12_contract_23 : decode cX12_contract 23 = .ok (.ifCond .eq 32, 3) := by decide +kernel
theorem dX12_contract_26 : decode cX12_contract 26 = .ok (.iload_n 3, 1) := by decide +kernel
theorem dX12_contract_27 : decode cX12_contract 27 = .ok (.iload_n 2, 1) := by decide +kernel
theorem dX12_contract_28 : decode cX12_contract 28 = .ok (.if_icmp .lt 27, 3) := by decide +kernel
theorem dX12_contract_31 : decode cX12_contract 31 = .ok (.iload 4, 2) := by decide +kernel
theorem dX12_contract_33 : decode cX12_contract 33 = .ok (.i2l, 1) := by decide +kernel
theorem dX12_contract_34 : decode cX12_contract 34 = .ok (.lconst 0, 1) := by decide +kernel
theorem dX12_contract_35 : decode cX12_contract 35 = .ok (.lconst 1, 1) := by decide +kernel
theorem dX12_contract_36 : decode cX12_contract 36 = .ok (.invokestatic 175, 3) := by decide +kernel
theorem dX12_contract_39 : decode cX12_contract 39 = .ok (.ifCond .eq 16, 3) := by decide +kernel
theorem dX12_contract_42 : decode cX12_contract 42 = .ok (.iload 5, 2) := by decide +kernel
theorem dX12_contract_44 : decode cX12_contract 44 = .ok (.i2l, 1) := by decide +kernel
theorem dX12_contract_45 : decode cX12_contract 45 = .ok (.lconst 1, 1) := by decide +kernel
theorem dX12_contract_46 : decode cX12_contract 46 = .ok (.ldc2_w 191, 3) := by decide +kernel
theorem dX12_contract_49 : decode cX12_contract 49 = .ok (.invokestatic 175, 3) := by decide +kernel
theorem dX12_contract_52 : decode cX12_contract 52 = .ok (.ifCond .ne 9, 3) := by decide +kernel
theorem dX12_contract_55 : decode cX12_contract 55 = .ok (.aload_n 0, 1) := by decide +kernel
theorem dX12_contract_56 : decode cX12_contract 56 = .ok (.iconst (-1), 1) := by decide +kernel
theorem dX12_contract_57 : decode cX12_contract 57 = .ok (.invokevirtual 179, 3) := by decide +kernel
theorem dX12_contract_60 : decode cX12_contract 60 = .ok (.ireturn, 1) := by decide +kernel
theorem dX12_contract_61 : decode cX12_contract 61 = .ok (.aload_n 0, 1) := by decide +kernel
theorem dX12_contract_62 : decode cX12_contract 62 = .ok (.getfield 13, 3) := by decide +kernel
theorem dX12_contract_65 : decode cX12_contract 65 = .ok (.iconst 2, 1) := by decide +kernel
theorem dX12_contract_66 : decode cX12_contract 66 = .ok (.iaload, 1) := by decide +kernel
theorem dX12_contract_67 : decode cX12_contract 67 = .ok (.istore 6, 2) := by decide +kernel
theorem dX12_contract_69 : decode cX12_contract 69 = .ok (.iload 6, 2) := by decide +kernel
theorem dX12_contract_71 : decode cX12_contract 71 = .ok (.bipush 8, 2) := by decide +kernel
theorem dX12_contract_73 : decode cX12_contract 73 = .ok (.if_icmp .ne 10, 3) := by decide +kernel
theorem dX12_contract_76 : decode cX12_contract 76 = .ok (.aload_n 0, 1) := by decide +kernel
theorem dX12_contract_77 : decode cX12_contract 77 = .ok (.bipush (-5), 2) := by decide +kernel
theorem dX12_contract_79 : decode cX12_contract 79 = .ok (.invokevirtual 179, 3) := by decide +kernel
theorem dX12_contract_82 : decode cX12_contract 82 = .ok (.ireturn, 1) := by decide +kernel
theorem dX12_contract_83 : decode cX12_contract 83 = .ok (.sipush 304, 3) := by decide +kernel
theorem dX12_contract_86 : decode cX12_contract 86 = .ok (.iconst 5, 1) := by decide +kernel
theorem dX12_contract_87 : decode cX12_contract 87 = .ok (.iload 6, 2) := by decide +kernel
theorem dX12_contract_89 : decode cX12_contract 89 = .ok (.imul, 1) := by decide +kernel
theorem dX12_contract_90 : decode cX12_contract 90 = .ok (.iadd, 1) := by decide +kernel
theorem dX12_contract_91 : decode cX12_contract 91 = .ok (.istore 7, 2) := by decide +kernel
theorem dX12_contract_93 : decode cX12_contract 93 = .ok (.aload_n 0, 1) := by decide +kernel
theorem dX12_contract_94 : decode cX12_contract 94 = .ok (.getfield 13, 3) := by decide +kernel
theorem dX12_contract_97 : decode cX12_contract 97 = .ok (.iload 7, 2) := by decide +kernel
theorem dX12_contract_99 : decode cX12_contract 99 = .ok (.iload_n 1, 1) := by decide +kernel
theorem dX12_contract_100 : decode cX12_contract 100 = .ok (.iastore, 1) := by decide +kernel
theorem dX12_contract_101 : decode cX12_contract 101 = .ok (.aload_n 0, 1) := by decide +kernel
theorem dX12_contract_102 : decode cX12_contract 102 = .ok (.getfield 13, 3) := by decide +kernel
theorem dX12_contract_105 : decode cX12_contract 105 = .ok (.iload 7, 2) := by decide +kernel
theorem dX12_contract_107 : decode cX12_contract 107 = .ok (.iconst 1, 1) := by decide +kernel
theorem dX12_contract_108 : decode cX12_contract 108 = .ok (.iadd, 1) := by decide +kernel
theorem dX12_contract_109 : decode cX12_contract 109 = .ok (.iload_n 2, 1) := by decide +kernel
theorem dX12_contract_110 : decode cX12_contract 110 = .ok (.iastore, 1) := by decide +kernel
theorem dX12_contract_111 : decode cX12_contract 111 = .ok (.aload_n 0, 1) := by decide +kernel
theorem dX12_contract_112 : decode cX12_contract 112 = .ok (.getfield 13, 3) := by decide +kernel
theorem dX12_contract_115 : decode cX12_contract 115 = .ok (.iload 7, 2) := by decide +kernel
theorem dX12_contract_117 : decode cX12_contract 117 = .ok (.iconst 2, 1) := by decide +kernel
theorem dX12_contract_118 : decode cX12_contract 118 = .ok (.iadd, 1) := by decide +kernel
theorem dX12_contract_119 : decode cX12_contract 119 = .ok (.iload_n 3, 1) := by decide +kernel
theorem dX12_contract_120 : decode cX12_contract 120 = .ok (.iastore, 1) := by decide +kernel
theorem dX12_contract_121 : decode cX12_contract 121 = .ok (.aload_n 0, 1) := by decide +kernel
theorem dX12_contract_122 : decode cX12_contract 122 = .ok (.getfield 13, 3) := by decide +kernel
theorem dX12_contract_125 : decode cX12_contract 125 = .ok (.iload 7, 2) := by decide +kernel
theorem dX12_contract_127 : decode cX12_contract 127 = .ok (.iconst 3, 1) := by decide +kernel
theorem dX12_contract_128 : decode cX12_contract 128 = .ok (.iadd, 1) := by decide +kernel
theorem dX12_contract_129 : decode cX12_contract 129 = .ok (.iload 4, 2) := by decide +kernel
theorem dX12_contract_131 : decode cX12_contract 131 = .ok (.iastore, 1) := by decide +kernel
theorem dX12_contract_132 : decode cX12_contract 132 = .ok (.aload_n 0, 1) := by decide +kernel
theorem dX12_contract_133 : decode cX12_contract 133 = .ok (.getfield 13, 3) := by decide +kernel
theorem dX12_contract_136 : decode cX12_contract 136 = .ok (.iload 7, 2) := by decide +kernel
theorem dX12_contract_138 : decode cX12_contract 138 = .ok (.iconst 4, 1) := by decide +kernel
theorem dX12_contract_139 : decode cX12_contract 139 = .ok (.iadd, 1) := by decide +kernel
theorem dX12_contract_140 : decode cX12_contract 140 = .ok (.iload 5, 2) := by decide +kernel
theorem dX12_contract_142 : decode cX12_contract 142 = .ok (.iastore, 1) := by decide +kernel
theorem dX12_contract_143 : decode cX12_contract 143 = .ok (.aload_n 0, 1) := by decide +kernel
theorem dX12_contract_144 : decode cX12_contract 144 = .ok (.getfield 13, 3) := by decide +kernel
theorem dX12_contract_147 : decode cX12_contract 147 = .ok (.iconst 2, 1) := by decide +kernel
theorem dX12_contract_148 : decode cX12_contract 148 = .ok (.dup2, 1) := by decide +kernel
theorem dX12_contract_149 : decode cX12_contract 149 = .ok (.iaload, 1) := by decide +kernel
theorem dX12_contract_150 : decode cX12_contract 150 = .ok (.iconst 1, 1) := by decide +kernel
theorem dX12_contract_151 : decode cX12_contract 151 = .ok (.iadd, 1) := by decide +kernel
theorem dX12_contract_152 : decode cX12_contract 152 = .ok (.iastore, 1) := by decide +kernel
theorem dX12_contract_153 : decode cX12_contract 153 = .ok (.aload_n 0, 1) := by decide +kernel
theorem dX12_contract_154 : decode cX12_contract 154 = .ok (.iload 6, 2) := by decide +kernel
theorem dX12_contract_156 : decode cX12_contract 156 = .ok (.invokevirtual 179, 3) := by decide +kernel
theorem dX12_contract_159 : decode cX12_contract 159 = .ok (.ireturn, 1) := by decide +kernel
theorem sp_X12_contract {n : Nat} {h : Nat → sE} {a b c x y : Int}  {g77 g79 g78 : Int → Int} (hn : 115 ≤ n) (H77 : h 77 = ent 77 g77) (H79 : h 79 = ent 79 g79) (H78 : h 78 = ent 78 g78) (ra : -2147483648 ≤ a ∧ a ≤ 2147483647) (rb : -2147483648 ≤ b ∧ b ≤ 2147483647) (rc : -2147483648 ≤ c ∧ c ≤ 2147483647) (rx : -2147483648 ≤ x ∧ x ≤ 2147483647) (ry : -2147483648 ≤ y ∧ y ≤ 2147483647) (i9 : 0 ≤ g79 2 ∧ g79 2 ≤ 8) : Sp m_X12_contract 3 0 0 [.ref 77, .int (iI a), .int (iI b), .int (iI c), .int (iI x), .int (iI y)] n h (fun r n' h' => r = some (.int (iI (if 0 ≤ a ∧ a ≤ 63 ∧ 0 ≤ b ∧ b ≤ 11 ∧ 0 ≤ c ∧ c ≤ 11 ∧ b ≤ c ∧ 0 ≤ x ∧ x ≤ 1 ∧ 1 ≤ y ∧ y ≤ 99 then if g79 2 < 8 then g79 2 else -5 else -1))) ∧ n' = n ∧ h' 79 = ent 79 (if 0 ≤ a ∧ a ≤ 63 ∧ 0 ≤ b ∧ b ≤ 11 ∧ 0 ≤ c ∧ c ≤ 11 ∧ b ≤ c ∧ 0 ≤ x ∧ x ≤ 1 ∧ 1 ≤ y ∧ y ≤ 99 then if g79 2 < 8 then uI (uI (uI (uI (uI (uI (g79) (304 + 5 * g79 2) a) (304 + 5 * g79 2 + 1) b) (304 + 5 * g79 2 + 2) c) (304 + 5 * g79 2 + 3) x) (304 + 5 * g79 2 + 4) y) 2 (g79 2 + 1) else g79 else g79) ∧ h' 78 = ent 78 (if 0 ≤ a ∧ a ≤ 63 ∧ 0 ≤ b ∧ b ≤ 11 ∧ 0 ≤ c ∧ c ≤ 11 ∧ b ≤ c ∧ 0 ≤ x ∧ x ≤ 1 ∧ 1 ≤ y ∧ y ≤ 99 then if g79 2 < 8 then g78 else uI (g78) 5 (g78 5 + 1) else uI (g78) 1 (g78 1 + 1)) ∧ h' 77 = ent 77 ((uI (uI g77 0 0) 1 (if 0 ≤ a ∧ a ≤ 63 ∧ 0 ≤ b ∧ b ≤ 11 ∧ 0 ≤ c ∧ c ≤ 11 ∧ b ≤ c ∧ 0 ≤ x ∧ x ≤ 1 ∧ 1 ≤ y ∧ y ≤ 99 then if g79 2 < 8 then 0 else -5 else -1))) ∧ ∀ j, j ≠ 79 → j ≠ 78 → j ≠ 77 → h' j = h j) := by
  refine Sp.ofV (by decide +kernel) (Nat.le_of_ble_eq_true rfl) ?_
  refine v_aload_n dX12_contract_0 rfl ?_
  refine v_iconstI dX12_contract_1 ?_
  refine v_put dX12_contract_2 fl_X12_169 (H77.trans (ent_77 _)) (s_lt hn rfl) (Nat.le_of_ble_eq_true rfl) (fun _ => ⟨rfl, rfl⟩) trivial (fun h1 E2 F3 => ?_)
  refine v_iload_n dX12_contract_5 rfl ?_
  refine v_callS dX12_contract_6 ml_X12_195 (sp_X12_isField (a := a)   (by omega)) rfl rfl (Nat.le_of_ble_eq_true rfl) (Nat.le_of_ble_eq_true rfl) (Nat.zero_le _) (Nat.zero_le _) ⟨Or.inl (fun _ _ _ q => q.2.1), fun r n1 h4 q5 => ?_⟩
  obtain ⟨rfl, rfl, rfl⟩ := q5
  try dsimp only [s_push]
  refine v_ifeqB (tgt := 55) dX12_contract_9 (by decide) (fun c_6 => ?_) (fun c_6 => ?_)
  · refine v_aload_n dX12_contract_55 rfl ?_
    refine v_iconstI dX12_contract_56 ?_
    have H7 := ((F3 78 (by decide)).trans (H78.trans (ent_78 _)))
    refine v_callV dX12_contract_57 ml_X12_179 (sp_X12_tell_1  (g77 := (uI g77 0 0)) (g78 := g78) hn (show _ = ent 77 (uI g77 0 0) from E2) (show _ = ent 78 g78 from H7)) E2 rfl (s_lt hn rfl) rfl rfl (Nat.le_of_ble_eq_true rfl) (Nat.le_of_ble_eq_true rfl) (Nat.zero_le _) (Nat.zero_le _) ⟨Or.inl (fun _ _ _ q => q.2.1), fun r n1 h8 q9 => ?_⟩
    obtain ⟨rfl, rfl, E10, E11, F12⟩ := q9
    dsimp only [s_push]
    have E13 : _ = (.inr (12, [.int (iI 0), .int (iI ((-1))), .ref 78, .ref 79, .ref 80, .ref 81, .int (iI (g77 6)), .ref 82, .int (iI (g77 8)), .int (iI (g77 9)), .int (iI (g77 10)), .int (iI (g77 11)), .long (jJ (g77 12)), .int (iI (g77 13)), .int (iI (g77 14)), .int (iI (g77 15)), .int (iI (g77 16)), .ref 83, .int (iI (g77 18)), .ref 84, .ref 85, .int (iI (g77 21)), .ref 86, .ref 87, .int (iI (g77 24)), .int (iI (g77 25)), .ref 88, .ref 89, .ref 90, .int (iI (g77 29)), .ref 91, .ref 92, .ref 93, .int (iI (g77 33)), .long (jJ (g77 34)), .long (jJ (g77 35)), .ref 94, .ref 95, .ref 96, .ref 97, .ref 98, .ref 99, .ref 100, .ref 101, .ref 102, .ref 103, .ref 104, .ref 105, .ref 106, .ref 107, .int (iI (g77 50)), .ref 108, .ref 109, .ref 110, .ref 111, .ref 112, .ref 113, .int (iI (g77 57)), .int (iI (g77 58)), .int (iI (g77 59)), .int (iI (g77 60)), .long (jJ (g77 61)), .ref 114, .int (iI (g77 63))]) : sE) := E10
    exact v_iret dX12_contract_60 rfl (Nat.zero_le _) (Nat.zero_le _) (by first | exact ⟨(congrArg (fun x => some (Value.int x)) (congrArg iI (by first | rfl | omega | (split <;> first | rfl | omega | (split <;> first | rfl | omega))))), rfl, (by first | exact (show _ = ent 79 g79 from ((F12 79 (by decide) (by decide)).trans ((F3 79 (by decide)).trans (H79.trans (ent_79 _))))) | (rw [if_pos (show 0 ≤ a ∧ a ≤ 63 ∧ 0 ≤ b ∧ b ≤ 11 ∧ 0 ≤ c ∧ c ≤ 11 ∧ b ≤ c ∧ 0 ≤ x ∧ x ≤ 1 ∧ 1 ≤ y ∧ y ≤ 99 by omega)]; exact (show _ = ent 79 g79 from ((F12 79 (by decide) (by decide)).trans ((F3 79 (by decide)).trans (H79.trans (ent_79 _)))))) | (rw [if_neg (show ¬ (0 ≤ a ∧ a ≤ 63 ∧ 0 ≤ b ∧ b ≤ 11 ∧ 0 ≤ c ∧ c ≤ 11 ∧ b ≤ c ∧ 0 ≤ x ∧ x ≤ 1 ∧ 1 ≤ y ∧ y ≤ 99) by omega)]; exact (show _ = ent 79 g79 from ((F12 79 (by decide) (by decide)).trans ((F3 79 (by decide)).trans (H79.trans (ent_79 _)))))) | (rw [if_pos (show 0 ≤ a ∧ a ≤ 63 ∧ 0 ≤ b ∧ b ≤ 11 ∧ 0 ≤ c ∧ c ≤ 11 ∧ b ≤ c ∧ 0 ≤ x ∧ x ≤ 1 ∧ 1 ≤ y ∧ y ≤ 99 by omega), if_pos (show g79 2 < 8 by omega)]; exact (show _ = ent 79 g79 from ((F12 79 (by decide) (by decide)).trans ((F3 79 (by decide)).trans (H79.trans (ent_79 _)))))) | (rw [if_pos (show 0 ≤ a ∧ a ≤ 63 ∧ 0 ≤ b ∧ b ≤ 11 ∧ 0 ≤ c ∧ c ≤ 11 ∧ b ≤ c ∧ 0 ≤ x ∧ x ≤ 1 ∧ 1 ≤ y ∧ y ≤ 99 by omega), if_neg (show ¬ (g79 2 < 8) by omega)]; exact (show _ = ent 79 g79 from ((F12 79 (by decide) (by decide)).trans ((F3 79 (by decide)).trans (H79.trans (ent_79 _)))))) | (rw [if_neg (show ¬ (0 ≤ a ∧ a ≤ 63 ∧ 0 ≤ b ∧ b ≤ 11 ∧ 0 ≤ c ∧ c ≤ 11 ∧ b ≤ c ∧ 0 ≤ x ∧ x ≤ 1 ∧ 1 ≤ y ∧ y ≤ 99) by omega), if_pos (show g79 2 < 8 by omega)]; exact (show _ = ent 79 g79 from ((F12 79 (by decide) (by decide)).trans ((F3 79 (by decide)).trans (H79.trans (ent_79 _)))))) | (rw [if_neg (show ¬ (0 ≤ a ∧ a ≤ 63 ∧ 0 ≤ b ∧ b ≤ 11 ∧ 0 ≤ c ∧ c ≤ 11 ∧ b ≤ c ∧ 0 ≤ x ∧ x ≤ 1 ∧ 1 ≤ y ∧ y ≤ 99) by omega), if_neg (show ¬ (g79 2 < 8) by omega)]; exact (show _ = ent 79 g79 from ((F12 79 (by decide) (by decide)).trans ((F3 79 (by decide)).trans (H79.trans (ent_79 _))))))), (by first | exact (show _ = ent 78 (uI (g78) 1 (g78 1 + 1)) from (E11.trans (ent_78 _))) | (rw [if_pos (show 0 ≤ a ∧ a ≤ 63 ∧ 0 ≤ b ∧ b ≤ 11 ∧ 0 ≤ c ∧ c ≤ 11 ∧ b ≤ c ∧ 0 ≤ x ∧ x ≤ 1 ∧ 1 ≤ y ∧ y ≤ 99 by omega)]; exact (show _ = ent 78 (uI (g78) 1 (g78 1 + 1)) from (E11.trans (ent_78 _)))) | (rw [if_neg (show ¬ (0 ≤ a ∧ a ≤ 63 ∧ 0 ≤ b ∧ b ≤ 11 ∧ 0 ≤ c ∧ c ≤ 11 ∧ b ≤ c ∧ 0 ≤ x ∧ x ≤ 1 ∧ 1 ≤ y ∧ y ≤ 99) by omega)]; exact (show _ = ent 78 (uI (g78) 1 (g78 1 + 1)) from (E11.trans (ent_78 _)))) | (rw [if_pos (show 0 ≤ a ∧ a ≤ 63 ∧ 0 ≤ b ∧ b ≤ 11 ∧ 0 ≤ c ∧ c ≤ 11 ∧ b ≤ c ∧ 0 ≤ x ∧ x ≤ 1 ∧ 1 ≤ y ∧ y ≤ 99 by omega), if_pos (show g79 2 < 8 by omega)]; exact (show _ = ent 78 (uI (g78) 1 (g78 1 + 1)) from (E11.trans (ent_78 _)))) | (rw [if_pos (show 0 ≤ a ∧ a ≤ 63 ∧ 0 ≤ b ∧ b ≤ 11 ∧ 0 ≤ c ∧ c ≤ 11 ∧ b ≤ c ∧ 0 ≤ x ∧ x ≤ 1 ∧ 1 ≤ y ∧ y ≤ 99 by omega), if_neg (show ¬ (g79 2 < 8) by omega)]; exact (show _ = ent 78 (uI (g78) 1 (g78 1 + 1)) from (E11.trans (ent_78 _)))) | (rw [if_neg (show ¬ (0 ≤ a ∧ a ≤ 63 ∧ 0 ≤ b ∧ b ≤ 11 ∧ 0 ≤ c ∧ c ≤ 11 ∧ b ≤ c ∧ 0 ≤ x ∧ x ≤ 1 ∧ 1 ≤ y ∧ y ≤ 99) by omega), if_pos (show g79 2 < 8 by omega)]; exact (show _ = ent 78 (uI (g78) 1 (g78 1 + 1)) from (E11.trans (ent_78 _)))) | (rw [if_neg (show ¬ (0 ≤ a ∧ a ≤ 63 ∧ 0 ≤ b ∧ b ≤ 11 ∧ 0 ≤ c ∧ c ≤ 11 ∧ b ≤ c ∧ 0 ≤ x ∧ x ≤ 1 ∧ 1 ≤ y ∧ y ≤ 99) by omega), if_neg (show ¬ (g79 2 < 8) by omega)]; exact (show _ = ent 78 (uI (g78) 1 (g78 1 + 1)) from (E11.trans (ent_78 _))))), (by first | exact (show _ = ent 77 ((uI (uI g77 0 0) 1 ((-1)))) from E13) | (rw [if_pos (show 0 ≤ a ∧ a ≤ 63 ∧ 0 ≤ b ∧ b ≤ 11 ∧ 0 ≤ c ∧ c ≤ 11 ∧ b ≤ c ∧ 0 ≤ x ∧ x ≤ 1 ∧ 1 ≤ y ∧ y ≤ 99 by omega)]; exact (show _ = ent 77 ((uI (uI g77 0 0) 1 ((-1)))) from E13)) | (rw [if_neg (show ¬ (0 ≤ a ∧ a ≤ 63 ∧ 0 ≤ b ∧ b ≤ 11 ∧ 0 ≤ c ∧ c ≤ 11 ∧ b ≤ c ∧ 0 ≤ x ∧ x ≤ 1 ∧ 1 ≤ y ∧ y ≤ 99) by omega)]; exact (show _ = ent 77 ((uI (uI g77 0 0) 1 ((-1)))) from E13)) | (rw [if_pos (show 0 ≤ a ∧ a ≤ 63 ∧ 0 ≤ b ∧ b ≤ 11 ∧ 0 ≤ c ∧ c ≤ 11 ∧ b ≤ c ∧ 0 ≤ x ∧ x ≤ 1 ∧ 1 ≤ y ∧ y ≤ 99 by omega), if_pos (show g79 2 < 8 by omega)]; exact (show _ = ent 77 ((uI (uI g77 0 0) 1 ((-1)))) from E13)) | (rw [if_pos (show 0 ≤ a ∧ a ≤ 63 ∧ 0 ≤ b ∧ b ≤ 11 ∧ 0 ≤ c ∧ c ≤ 11 ∧ b ≤ c ∧ 0 ≤ x ∧ x ≤ 1 ∧ 1 ≤ y ∧ y ≤ 99 by omega), if_neg (show ¬ (g79 2 < 8) by omega)]; exact (show _ = ent 77 ((uI (uI g77 0 0) 1 ((-1)))) from E13)) | (rw [if_neg (show ¬ (0 ≤ a ∧ a ≤ 63 ∧ 0 ≤ b ∧ b ≤ 11 ∧ 0 ≤ c ∧ c ≤ 11 ∧ b ≤ c ∧ 0 ≤ x ∧ x ≤ 1 ∧ 1 ≤ y ∧ y ≤ 99) by omega), if_pos (show g79 2 < 8 by omega)]; exact (show _ = ent 77 ((uI (uI g77 0 0) 1 ((-1)))) from E13)) | (rw [if_neg (show ¬ (0 ≤ a ∧ a ≤ 63 ∧ 0 ≤ b ∧ b ≤ 11 ∧ 0 ≤ c ∧ c ≤ 11 ∧ b ≤ c ∧ 0 ≤ x ∧ x ≤ 1 ∧ 1 ≤ y ∧ y ≤ 99) by omega), if_neg (show ¬ (g79 2 < 8) by omega)]; exact (show _ = ent 77 ((uI (uI g77 0 0) 1 ((-1)))) from E13))), fun j m79 m78 m77 => ((F12 j m77 m78).trans (F3 j m77))⟩ | omega)
  · refine v_iload_n dX12_contract_12 rfl ?_
    refine v_callS dX12_contract_13 ml_X12_236 (sp_X12_isHour (a := b)   (by omega)) rfl rfl (Nat.le_of_ble_eq_true rfl) (Nat.le_of_ble_eq_true rfl) (Nat.zero_le _) (Nat.zero_le _) ⟨Or.inl (fun _ _ _ q => q.2.1), fun r n1 h14 q15 => ?_⟩
    obtain ⟨rfl, rfl, rfl⟩ := q15
    try dsimp only [s_push]
    refine v_ifeqB (tgt := 55) dX12_contract_16 (by decide) (fun c_16 => ?_) (fun c_16 => ?_)
    · refine v_aload_n dX12_contract_55 rfl ?_
      refine v_iconstI dX12_contract_56 ?_
      have H17 := ((F3 78 (by decide)).trans (H78.trans (ent_78 _)))
      refine v_callV dX12_contract_57 ml_X12_179 (sp_X12_tell_1  (g77 := (uI g77 0 0)) (g78 := g78) hn (show _ = ent 77 (uI g77 0 0) from E2) (show _ = ent 78 g78 from H17)) E2 rfl (s_lt hn rfl) rfl rfl (Nat.le_of_ble_eq_true rfl) (Nat.le_of_ble_eq_true rfl) (Nat.zero_le _) (Nat.zero_le _) ⟨Or.inl (fun _ _ _ q => q.2.1), fun r n1 h18 q19 => ?_⟩
      obtain ⟨rfl, rfl, E20, E21, F22⟩ := q19
      dsimp only [s_push]
      have E23 : _ = (.inr (12, [.int (iI 0), .int (iI ((-1))), .ref 78, .ref 79, .ref 80, .ref 81, .int (iI (g77 6)), .ref 82, .int (iI (g77 8)), .int (iI (g77 9)), .int (iI (g77 10)), .int (iI (g77 11)), .long (jJ (g77 12)), .int (iI (g77 13)), .int (iI (g77 14)), .int (iI (g77 15)), .int (iI (g77 16)), .ref 83, .int (iI (g77 18)), .ref 84, .ref 85, .int (iI (g77 21)), .ref 86, .ref 87, .int (iI (g77 24)), .int (iI (g77 25)), .ref 88, .ref 89, .ref 90, .int (iI (g77 29)), .ref 91, .ref 92, .ref 93, .int (iI (g77 33)), .long (jJ (g77 34)), .long (jJ (g77 35)), .ref 94, .ref 95, .ref 96, .ref 97, .ref 98, .ref 99, .ref 100, .ref 101, .ref 102, .ref 103, .ref 104, .ref 105, .ref 106, .ref 107, .int (iI (g77 50)), .ref 108, .ref 109, .ref 110, .ref 111, .ref 112, .ref 113, .int (iI (g77 57)), .int (iI (g77 58)), .int (iI (g77 59)), .int (iI (g77 60)), .long (jJ (g77 61)), .ref 114, .int (iI (g77 63))]) : sE) := E20
      exact v_iret dX12_contract_60 rfl (Nat.zero_le _) (Nat.zero_le _) (by first | exact ⟨(congrArg (fun x => some (Value.int x)) (congrArg iI (by first | rfl | omega | (split <;> first | rfl | omega | (split <;> first | rfl | omega))))), rfl, (by first | exact (show _ = ent 79 g79 from ((F22 79 (by decide) (by decide)).trans ((F3 79 (by decide)).trans (H79.trans (ent_79 _))))) | (rw [if_pos (show 0 ≤ a ∧ a ≤ 63 ∧ 0 ≤ b ∧ b ≤ 11 ∧ 0 ≤ c ∧ c ≤ 11 ∧ b ≤ c ∧ 0 ≤ x ∧ x ≤ 1 ∧ 1 ≤ y ∧ y ≤ 99 by omega)]; exact (show _ = ent 79 g79 from ((F22 79 (by decide) (by decide)).trans ((F3 79 (by decide)).trans (H79.trans (ent_79 _)))))) | (rw [if_neg (show ¬ (0 ≤ a ∧ a ≤ 63 ∧ 0 ≤ b ∧ b ≤ 11 ∧ 0 ≤ c ∧ c ≤ 11 ∧ b ≤ c ∧ 0 ≤ x ∧ x ≤ 1 ∧ 1 ≤ y ∧ y ≤ 99) by omega)]; exact (show _ = ent 79 g79 from ((F22 79 (by decide) (by decide)).trans ((F3 79 (by decide)).trans (H79.trans (ent_79 _)))))) | (rw [if_pos (show 0 ≤ a ∧ a ≤ 63 ∧ 0 ≤ b ∧ b ≤ 11 ∧ 0 ≤ c ∧ c ≤ 11 ∧ b ≤ c ∧ 0 ≤ x ∧ x ≤ 1 ∧ 1 ≤ y ∧ y ≤ 99 by omega), if_pos (show g79 2 < 8 by omega)]; exact (show _ = ent 79 g79 from ((F22 79 (by decide) (by decide)).trans ((F3 79 (by decide)).trans (H79.trans (ent_79 _)))))) | (rw [if_pos (show 0 ≤ a ∧ a ≤ 63 ∧ 0 ≤ b ∧ b ≤ 11 ∧ 0 ≤ c ∧ c ≤ 11 ∧ b ≤ c ∧ 0 ≤ x ∧ x ≤ 1 ∧ 1 ≤ y ∧ y ≤ 99 by omega), if_neg (show ¬ (g79 2 < 8) by omega)]; exact (show _ = ent 79 g79 from ((F22 79 (by decide) (by decide)).trans ((F3 79 (by decide)).trans (H79.trans (ent_79 _)))))) | (rw [if_neg (show ¬ (0 ≤ a ∧ a ≤ 63 ∧ 0 ≤ b ∧ b ≤ 11 ∧ 0 ≤ c ∧ c ≤ 11 ∧ b ≤ c ∧ 0 ≤ x ∧ x ≤ 1 ∧ 1 ≤ y ∧ y ≤ 99) by omega), if_pos (show g79 2 < 8 by omega)]; exact (show _ = ent 79 g79 from ((F22 79 (by decide) (by decide)).trans ((F3 79 (by decide)).trans (H79.trans (ent_79 _)))))) | (rw [if_neg (show ¬ (0 ≤ a ∧ a ≤ 63 ∧ 0 ≤ b ∧ b ≤ 11 ∧ 0 ≤ c ∧ c ≤ 11 ∧ b ≤ c ∧ 0 ≤ x ∧ x ≤ 1 ∧ 1 ≤ y ∧ y ≤ 99) by omega), if_neg (show ¬ (g79 2 < 8) by omega)]; exact (show _ = ent 79 g79 from ((F22 79 (by decide) (by decide)).trans ((F3 79 (by decide)).trans (H79.trans (ent_79 _))))))), (by first | exact (show _ = ent 78 (uI (g78) 1 (g78 1 + 1)) from (E21.trans (ent_78 _))) | (rw [if_pos (show 0 ≤ a ∧ a ≤ 63 ∧ 0 ≤ b ∧ b ≤ 11 ∧ 0 ≤ c ∧ c ≤ 11 ∧ b ≤ c ∧ 0 ≤ x ∧ x ≤ 1 ∧ 1 ≤ y ∧ y ≤ 99 by omega)]; exact (show _ = ent 78 (uI (g78) 1 (g78 1 + 1)) from (E21.trans (ent_78 _)))) | (rw [if_neg (show ¬ (0 ≤ a ∧ a ≤ 63 ∧ 0 ≤ b ∧ b ≤ 11 ∧ 0 ≤ c ∧ c ≤ 11 ∧ b ≤ c ∧ 0 ≤ x ∧ x ≤ 1 ∧ 1 ≤ y ∧ y ≤ 99) by omega)]; exact (show _ = ent 78 (uI (g78) 1 (g78 1 + 1)) from (E21.trans (ent_78 _)))) | (rw [if_pos (show 0 ≤ a ∧ a ≤ 63 ∧ 0 ≤ b ∧ b ≤ 11 ∧ 0 ≤ c ∧ c ≤ 11 ∧ b ≤ c ∧ 0 ≤ x ∧ x ≤ 1 ∧ 1 ≤ y ∧ y ≤ 99 by omega), if_pos (show g79 2 < 8 by omega)]; exact (show _ = ent 78 (uI (g78) 1 (g78 1 + 1)) from (E21.trans (ent_78 _)))) | (rw [if_pos (show 0 ≤ a ∧ a ≤ 63 ∧ 0 ≤ b ∧ b ≤ 11 ∧ 0 ≤ c ∧ c ≤ 11 ∧ b ≤ c ∧ 0 ≤ x ∧ x ≤ 1 ∧ 1 ≤ y ∧ y ≤ 99 by omega), if_neg (show ¬ (g79 2 < 8) by omega)]; exact (show _ = ent 78 (uI (g78) 1 (g78 1 + 1)) from (E21.trans (ent_78 _)))) | (rw [if_neg (show ¬ (0 ≤ a ∧ a ≤ 63 ∧ 0 ≤ b ∧ b ≤ 11 ∧ 0 ≤ c ∧ c ≤ 11 ∧ b ≤ c ∧ 0 ≤ x ∧ x ≤ 1 ∧ 1 ≤ y ∧ y ≤ 99) by omega), if_pos (show g79 2 < 8 by omega)]; exact (show _ = ent 78 (uI (g78) 1 (g78 1 + 1)) from (E21.trans (ent_78 _)))) | (rw [if_neg (show ¬ (0 ≤ a ∧ a ≤ 63 ∧ 0 ≤ b ∧ b ≤ 11 ∧ 0 ≤ c ∧ c ≤ 11 ∧ b ≤ c ∧ 0 ≤ x ∧ x ≤ 1 ∧ 1 ≤ y ∧ y ≤ 99) by omega), if_neg (show ¬ (g79 2 < 8) by omega)]; exact (show _ = ent 78 (uI (g78) 1 (g78 1 + 1)) from (E21.trans (ent_78 _))))), (by first | exact (show _ = ent 77 ((uI (uI g77 0 0) 1 ((-1)))) from E23) | (rw [if_pos (show 0 ≤ a ∧ a ≤ 63 ∧ 0 ≤ b ∧ b ≤ 11 ∧ 0 ≤ c ∧ c ≤ 11 ∧ b ≤ c ∧ 0 ≤ x ∧ x ≤ 1 ∧ 1 ≤ y ∧ y ≤ 99 by omega)]; exact (show _ = ent 77 ((uI (uI g77 0 0) 1 ((-1)))) from E23)) | (rw [if_neg (show ¬ (0 ≤ a ∧ a ≤ 63 ∧ 0 ≤ b ∧ b ≤ 11 ∧ 0 ≤ c ∧ c ≤ 11 ∧ b ≤ c ∧ 0 ≤ x ∧ x ≤ 1 ∧ 1 ≤ y ∧ y ≤ 99) by omega)]; exact (show _ = ent 77 ((uI (uI g77 0 0) 1 ((-1)))) from E23)) | (rw [if_pos (show 0 ≤ a ∧ a ≤ 63 ∧ 0 ≤ b ∧ b ≤ 11 ∧ 0 ≤ c ∧ c ≤ 11 ∧ b ≤ c ∧ 0 ≤ x ∧ x ≤ 1 ∧ 1 ≤ y ∧ y ≤ 99 by omega), if_pos (show g79 2 < 8 by omega)]; exact (show _ = ent 77 ((uI (uI g77 0 0) 1 ((-1)))) from E23)) | (rw [if_pos (show 0 ≤ a ∧ a ≤ 63 ∧ 0 ≤ b ∧ b ≤ 11 ∧ 0 ≤ c ∧ c ≤ 11 ∧ b ≤ c ∧ 0 ≤ x ∧ x ≤ 1 ∧ 1 ≤ y ∧ y ≤ 99 by omega), if_neg (show ¬ (g79 2 < 8) by omega)]; exact (show _ = ent 77 ((uI (uI g77 0 0) 1 ((-1)))) from E23)) | (rw [if_neg (show ¬ (0 ≤ a ∧ a ≤ 63 ∧ 0 ≤ b ∧ b ≤ 11 ∧ 0 ≤ c ∧ c ≤ 11 ∧ b ≤ c ∧ 0 ≤ x ∧ x ≤ 1 ∧ 1 ≤ y ∧ y ≤ 99) by omega), if_pos (show g79 2 < 8 by omega)]; exact (show _ = ent 77 ((uI (uI g77 0 0) 1 ((-1)))) from E23)) | (rw [if_neg (show ¬ (0 ≤ a ∧ a ≤ 63 ∧ 0 ≤ b ∧ b ≤ 11 ∧ 0 ≤ c ∧ c ≤ 11 ∧ b ≤ c ∧ 0 ≤ x ∧ x ≤ 1 ∧ 1 ≤ y ∧ y ≤ 99) by omega), if_neg (show ¬ (g79 2 < 8) by omega)]; exact (show _ = ent 77 ((uI (uI g77 0 0) 1 ((-1)))) from E23))), fun j m79 m78 m77 => ((F22 j m77 m78).trans (F3 j m77))⟩ | omega)
    · refine v_iload_n dX12_contract_19 rfl ?_
      refine v_callS dX12_contract_20 ml_X12_236 (sp_X12_isHour (a := c)   (by omega)) rfl rfl (Nat.le_of_ble_eq_true rfl) (Nat.le_of_ble_eq_true rfl) (Nat.zero_le _) (Nat.zero_le _) ⟨Or.inl (fun _ _ _ q => q.2.1), fun r n1 h24 q25 => ?_⟩
      obtain ⟨rfl, rfl, rfl⟩ := q25
      try dsimp only [s_push]
      refine v_ifeqB (tgt := 55) dX12_contract_23 (by decide) (fun c_26 => ?_) (fun c_26 => ?_)
      · refine v_aload_n dX12_contract_55 rfl ?_
        refine v_iconstI dX12_contract_56 ?_
        have H27 := ((F3 78 (by decide)).trans (H78.trans (ent_78 _)))
        refine v_callV dX12_contract_57 ml_X12_179 (sp_X12_tell_1  (g77 := (uI g77 0 0)) (g78 := g78) hn (show _ = ent 77 (uI g77 0 0) from E2) (show _ = ent 78 g78 from H27)) E2 rfl (s_lt hn rfl) rfl rfl (Nat.le_of_ble_eq_true rfl) (Nat.le_of_ble_eq_true rfl) (Nat.zero_le _) (Nat.zero_le _) ⟨Or.inl (fun _ _ _ q => q.2.1), fun r n1 h28 q29 => ?_⟩
        obtain ⟨rfl, rfl, E30, E31, F32⟩ := q29
        dsimp only [s_push]
        have E33 : _ = (.inr (12, [.int (iI 0), .int (iI ((-1))), .ref 78, .ref 79, .ref 80, .ref 81, .int (iI (g77 6)), .ref 82, .int (iI (g77 8)), .int (iI (g77 9)), .int (iI (g77 10)), .int (iI (g77 11)), .long (jJ (g77 12)), .int (iI (g77 13)), .int (iI (g77 14)), .int (iI (g77 15)), .int (iI (g77 16)), .ref 83, .int (iI (g77 18)), .ref 84, .ref 85, .int (iI (g77 21)), .ref 86, .ref 87, .int (iI (g77 24)), .int (iI (g77 25)), .ref 88, .ref 89, .ref 90, .int (iI (g77 29)), .ref 91, .ref 92, .ref 93, .int (iI (g77 33)), .long (jJ (g77 34)), .long (jJ (g77 35)), .ref 94, .ref 95, .ref 96, .ref 97, .ref 98, .ref 99, .ref 100, .ref 101, .ref 102, .ref 103, .ref 104, .ref 105, .ref 106, .ref 107, .int (iI (g77 50)), .ref 108, .ref 109, .ref 110, .ref 111, .ref 112, .ref 113, .int (iI (g77 57)), .int (iI (g77 58)), .int (iI (g77 59)), .int (iI (g77 60)), .long (jJ (g77 61)), .ref 114, .int (iI (g77 63))]) : sE) := E30
        exact v_iret dX12_contract_60 rfl (Nat.zero_le _) (Nat.zero_le _) (by first | exact ⟨(congrArg (fun x => some (Value.int x)) (congrArg iI (by first | rfl | omega | (split <;> first | rfl | omega | (split <;> first | rfl | omega))))), rfl, (by first | exact (show _ = ent 79 g79 from ((F32 79 (by decide) (by decide)).trans ((F3 79 (by decide)).trans (H79.trans (ent_79 _))))) | (rw [if_pos (show 0 ≤ a ∧ a ≤ 63 ∧ 0 ≤ b ∧ b ≤ 11 ∧ 0 ≤ c ∧ c ≤ 11 ∧ b ≤ c ∧ 0 ≤ x ∧ x ≤ 1 ∧ 1 ≤ y ∧ y ≤ 99 by omega)]; exact (show _ = ent 79 g79 from ((F32 79 (by decide) (by decide)).trans ((F3 79 (by decide)).trans (H79.trans (ent_79 _)))))) | (rw [if_neg (show ¬ (0 ≤ a ∧ a ≤ 63 ∧ 0 ≤ b ∧ b ≤ 11 ∧ 0 ≤ c ∧ c ≤ 11 ∧ b ≤ c ∧ 0 ≤ x ∧ x ≤ 1 ∧ 1 ≤ y ∧ y ≤ 99) by omega)]; exact (show _ = ent 79 g79 from ((F32 79 (by decide) (by decide)).trans ((F3 79 (by decide)).trans (H79.trans (ent_79 _)))))) | (rw [if_pos (show 0 ≤ a ∧ a ≤ 63 ∧ 0 ≤ b ∧ b ≤ 11 ∧ 0 ≤ c ∧ c ≤ 11 ∧ b ≤ c ∧ 0 ≤ x ∧ x ≤ 1 ∧ 1 ≤ y ∧ y ≤ 99 by omega), if_pos (show g79 2 < 8 by omega)]; exact (show _ = ent 79 g79 from ((F32 79 (by decide) (by decide)).trans ((F3 79 (by decide)).trans (H79.trans (ent_79 _)))))) | (rw [if_pos (show 0 ≤ a ∧ a ≤ 63 ∧ 0 ≤ b ∧ b ≤ 11 ∧ 0 ≤ c ∧ c ≤ 11 ∧ b ≤ c ∧ 0 ≤ x ∧ x ≤ 1 ∧ 1 ≤ y ∧ y ≤ 99 by omega), if_neg (show ¬ (g79 2 < 8) by omega)]; exact (show _ = ent 79 g79 from ((F32 79 (by decide) (by decide)).trans ((F3 79 (by decide)).trans (H79.trans (ent_79 _)))))) | (rw [if_neg (show ¬ (0 ≤ a ∧ a ≤ 63 ∧ 0 ≤ b ∧ b ≤ 11 ∧ 0 ≤ c ∧ c ≤ 11 ∧ b ≤ c ∧ 0 ≤ x ∧ x ≤ 1 ∧ 1 ≤ y ∧ y ≤ 99) by omega), if_pos (show g79 2 < 8 by omega)]; exact (show _ = ent 79 g79 from ((F32 79 (by decide) (by decide)).trans ((F3 79 (by decide)).trans (H79.trans (ent_79 _)))))) | (rw [if_neg (show ¬ (0 ≤ a ∧ a ≤ 63 ∧ 0 ≤ b ∧ b ≤ 11 ∧ 0 ≤ c ∧ c ≤ 11 ∧ b ≤ c ∧ 0 ≤ x ∧ x ≤ 1 ∧ 1 ≤ y ∧ y ≤ 99) by omega), if_neg (show ¬ (g79 2 < 8) by omega)]; exact (show _ = ent 79 g79 from ((F32 79 (by decide) (by decide)).trans ((F3 79 (by decide)).trans (H79.trans (ent_79 _))))))), (by first | exact (show _ = ent 78 (uI (g78) 1 (g78 1 + 1)) from (E31.trans (ent_78 _))) | (rw [if_pos (show 0 ≤ a ∧ a ≤ 63 ∧ 0 ≤ b ∧ b ≤ 11 ∧ 0 ≤ c ∧ c ≤ 11 ∧ b ≤ c ∧ 0 ≤ x ∧ x ≤ 1 ∧ 1 ≤ y ∧ y ≤ 99 by omega)]; exact (show _ = ent 78 (uI (g78) 1 (g78 1 + 1)) from (E31.trans (ent_78 _)))) | (rw [if_neg (show ¬ (0 ≤ a ∧ a ≤ 63 ∧ 0 ≤ b ∧ b ≤ 11 ∧ 0 ≤ c ∧ c ≤ 11 ∧ b ≤ c ∧ 0 ≤ x ∧ x ≤ 1 ∧ 1 ≤ y ∧ y ≤ 99) by omega)]; exact (show _ = ent 78 (uI (g78) 1 (g78 1 + 1)) from (E31.trans (ent_78 _)))) | (rw [if_pos (show 0 ≤ a ∧ a ≤ 63 ∧ 0 ≤ b ∧ b ≤ 11 ∧ 0 ≤ c ∧ c ≤ 11 ∧ b ≤ c ∧ 0 ≤ x ∧ x ≤ 1 ∧ 1 ≤ y ∧ y ≤ 99 by omega), if_pos (show g79 2 < 8 by omega)]; exact (show _ = ent 78 (uI (g78) 1 (g78 1 + 1)) from (E31.trans (ent_78 _)))) | (rw [if_pos (show 0 ≤ a ∧ a ≤ 63 ∧ 0 ≤ b ∧ b ≤ 11 ∧ 0 ≤ c ∧ c ≤ 11 ∧ b ≤ c ∧ 0 ≤ x ∧ x ≤ 1 ∧ 1 ≤ y ∧ y ≤ 99 by omega), if_neg (show ¬ (g79 2 < 8) by omega)]; exact (show _ = ent 78 (uI (g78) 1 (g78 1 + 1)) from (E31.trans (ent_78 _)))) | (rw [if_neg (show ¬ (0 ≤ a ∧ a ≤ 63 ∧ 0 ≤ b ∧ b ≤ 11 ∧ 0 ≤ c ∧ c ≤ 11 ∧ b ≤ c ∧ 0 ≤ x ∧ x ≤ 1 ∧ 1 ≤ y ∧ y ≤ 99) by omega), if_pos (show g79 2 < 8 by omega)]; exact (show _ = ent 78 (uI (g78) 1 (g78 1 + 1)) from (E31.trans (ent_78 _)))) | (rw [if_neg (show ¬ (0 ≤ a ∧ a ≤ 63 ∧ 0 ≤ b ∧ b ≤ 11 ∧ 0 ≤ c ∧ c ≤ 11 ∧ b ≤ c ∧ 0 ≤ x ∧ x ≤ 1 ∧ 1 ≤ y ∧ y ≤ 99) by omega), if_neg (show ¬ (g79 2 < 8) by omega)]; exact (show _ = ent 78 (uI (g78) 1 (g78 1 + 1)) from (E31.trans (ent_78 _))))), (by first | exact (show _ = ent 77 ((uI (uI g77 0 0) 1 ((-1)))) from E33) | (rw [if_pos (show 0 ≤ a ∧ a ≤ 63 ∧ 0 ≤ b ∧ b ≤ 11 ∧ 0 ≤ c ∧ c ≤ 11 ∧ b ≤ c ∧ 0 ≤ x ∧ x ≤ 1 ∧ 1 ≤ y ∧ y ≤ 99 by omega)]; exact (show _ = ent 77 ((uI (uI g77 0 0) 1 ((-1)))) from E33)) | (rw [if_neg (show ¬ (0 ≤ a ∧ a ≤ 63 ∧ 0 ≤ b ∧ b ≤ 11 ∧ 0 ≤ c ∧ c ≤ 11 ∧ b ≤ c ∧ 0 ≤ x ∧ x ≤ 1 ∧ 1 ≤ y ∧ y ≤ 99) by omega)]; exact (show _ = ent 77 ((uI (uI g77 0 0) 1 ((-1)))) from E33)) | (rw [if_pos (show 0 ≤ a ∧ a ≤ 63 ∧ 0 ≤ b ∧ b ≤ 11 ∧ 0 ≤ c ∧ c ≤ 11 ∧ b ≤ c ∧ 0 ≤ x ∧ x ≤ 1 ∧ 1 ≤ y ∧ y ≤ 99 by omega), if_pos (show g79 2 < 8 by omega)]; exact (show _ = ent 77 ((uI (uI g77 0 0) 1 ((-1)))) from E33)) | (rw [if_pos (show 0 ≤ a ∧ a ≤ 63 ∧ 0 ≤ b ∧ b ≤ 11 ∧ 0 ≤ c ∧ c ≤ 11 ∧ b ≤ c ∧ 0 ≤ x ∧ x ≤ 1 ∧ 1 ≤ y ∧ y ≤ 99 by omega), if_neg (show ¬ (g79 2 < 8) by omega)]; exact (show _ = ent 77 ((uI (uI g77 0 0) 1 ((-1)))) from E33)) | (rw [if_neg (show ¬ (0 ≤ a ∧ a ≤ 63 ∧ 0 ≤ b ∧ b ≤ 11 ∧ 0 ≤ c ∧ c ≤ 11 ∧ b ≤ c ∧ 0 ≤ x ∧ x ≤ 1 ∧ 1 ≤ y ∧ y ≤ 99) by omega), if_pos (show g79 2 < 8 by omega)]; exact (show _ = ent 77 ((uI (uI g77 0 0) 1 ((-1)))) from E33)) | (rw [if_neg (show ¬ (0 ≤ a ∧ a ≤ 63 ∧ 0 ≤ b ∧ b ≤ 11 ∧ 0 ≤ c ∧ c ≤ 11 ∧ b ≤ c ∧ 0 ≤ x ∧ x ≤ 1 ∧ 1 ≤ y ∧ y ≤ 99) by omega), if_neg (show ¬ (g79 2 < 8) by omega)]; exact (show _ = ent 77 ((uI (uI g77 0 0) 1 ((-1)))) from E33))), fun j m79 m78 m77 => ((F32 j m77 m78).trans (F3 j m77))⟩ | omega)
      · refine v_iload_n dX12_contract_26 rfl ?_
        refine v_iload_n dX12_contract_27 rfl ?_
        refine v_icmp_ltI (tgt := 55) dX12_contract_28 (by decide) (by omega) (by omega) (by omega) (by omega) (fun c_34 => ?_) (fun c_34 => ?_)
        · refine v_aload_n dX12_contract_55 rfl ?_
          refine v_iconstI dX12_contract_56 ?_
          have H35 := ((F3 78 (by decide)).trans (H78.trans (ent_78 _)))
          refine v_callV dX12_contract_57 ml_X12_179 (sp_X12_tell_1  (g77 := (uI g77 0 0)) (g78 := g78) hn (show _ = ent 77 (uI g77 0 0) from E2) (show _ = ent 78 g78 from H35)) E2 rfl (s_lt hn rfl) rfl rfl (Nat.le_of_ble_eq_true rfl) (Nat.le_of_ble_eq_true rfl) (Nat.zero_le _) (Nat.zero_le _) ⟨Or.inl (fun _ _ _ q => q.2.1), fun r n1 h36 q37 => ?_⟩
          obtain ⟨rfl, rfl, E38, E39, F40⟩ := q37
          dsimp only [s_push]
          have E41 : _ = (.inr (12, [.int (iI 0), .int (iI ((-1))), .ref 78, .ref 79, .ref 80, .ref 81, .int (iI (g77 6)), .ref 82, .int (iI (g77 8)), .int (iI (g77 9)), .int (iI (g77 10)), .int (iI (g77 11)), .long (jJ (g77 12)), .int (iI (g77 13)), .int (iI (g77 14)), .int (iI (g77 15)), .int (iI (g77 16)), .ref 83, .int (iI (g77 18)), .ref 84, .ref 85, .int (iI (g77 21)), .ref 86, .ref 87, .int (iI (g77 24)), .int (iI (g77 25)), .ref 88, .ref 89, .ref 90, .int (iI (g77 29)), .ref 91, .ref 92, .ref 93, .int (iI (g77 33)), .long (jJ (g77 34)), .long (jJ (g77 35)), .ref 94, .ref 95, .ref 96, .ref 97, .ref 98, .ref 99, .ref 100, .ref 101, .ref 102, .ref 103, .ref 104, .ref 105, .ref 106, .ref 107, .int (iI (g77 50)), .ref 108, .ref 109, .ref 110, .ref 111, .ref 112, .ref 113, .int (iI (g77 57)), .int (iI (g77 58)), .int (iI (g77 59)), .int (iI (g77 60)), .long (jJ (g77 61)), .ref 114, .int (iI (g77 63))]) : sE) := E38
          exact v_iret dX12_contract_60 rfl (Nat.zero_le _) (Nat.zero_le _) (by first | exact ⟨(congrArg (fun x => some (Value.int x)) (congrArg iI (by first | rfl | omega | (split <;> first | rfl | omega | (split <;> first | rfl | omega))))), rfl, (by first | exact (show _ = ent 79 g79 from ((F40 79 (by decide) (by decide)).trans ((F3 79 (by decide)).trans (H79.trans (ent_79 _))))) | (rw [if_pos (show 0 ≤ a ∧ a ≤ 63 ∧ 0 ≤ b ∧ b ≤ 11 ∧ 0 ≤ c ∧ c ≤ 11 ∧ b ≤ c ∧ 0 ≤ x ∧ x ≤ 1 ∧ 1 ≤ y ∧ y ≤ 99 by omega)]; exact (show _ = ent 79 g79 from ((F40 79 (by decide) (by decide)).trans ((F3 79 (by decide)).trans (H79.trans (ent_79 _)))))) | (rw [if_neg (show ¬ (0 ≤ a ∧ a ≤ 63 ∧ 0 ≤ b ∧ b ≤ 11 ∧ 0 ≤ c ∧ c ≤ 11 ∧ b ≤ c ∧ 0 ≤ x ∧ x ≤ 1 ∧ 1 ≤ y ∧ y ≤ 99) by omega)]; exact (show _ = ent 79 g79 from ((F40 79 (by decide) (by decide)).trans ((F3 79 (by decide)).trans (H79.trans (ent_79 _)))))) | (rw [if_pos (show 0 ≤ a ∧ a ≤ 63 ∧ 0 ≤ b ∧ b ≤ 11 ∧ 0 ≤ c ∧ c ≤ 11 ∧ b ≤ c ∧ 0 ≤ x ∧ x ≤ 1 ∧ 1 ≤ y ∧ y ≤ 99 by omega), if_pos (show g79 2 < 8 by omega)]; exact (show _ = ent 79 g79 from ((F40 79 (by decide) (by decide)).trans ((F3 79 (by decide)).trans (H79.trans (ent_79 _)))))) | (rw [if_pos (show 0 ≤ a ∧ a ≤ 63 ∧ 0 ≤ b ∧ b ≤ 11 ∧ 0 ≤ c ∧ c ≤ 11 ∧ b ≤ c ∧ 0 ≤ x ∧ x ≤ 1 ∧ 1 ≤ y ∧ y ≤ 99 by omega), if_neg (show ¬ (g79 2 < 8) by omega)]; exact (show _ = ent 79 g79 from ((F40 79 (by decide) (by decide)).trans ((F3 79 (by decide)).trans (H79.trans (ent_79 _)))))) | (rw [if_neg (show ¬ (0 ≤ a ∧ a ≤ 63 ∧ 0 ≤ b ∧ b ≤ 11 ∧ 0 ≤ c ∧ c ≤ 11 ∧ b ≤ c ∧ 0 ≤ x ∧ x ≤ 1 ∧ 1 ≤ y ∧ y ≤ 99) by omega), if_pos (show g79 2 < 8 by omega)]; exact (show _ = ent 79 g79 from ((F40 79 (by decide) (by decide)).trans ((F3 79 (by decide)).trans (H79.trans (ent_79 _)))))) | (rw [if_neg (show ¬ (0 ≤ a ∧ a ≤ 63 ∧ 0 ≤ b ∧ b ≤ 11 ∧ 0 ≤ c ∧ c ≤ 11 ∧ b ≤ c ∧ 0 ≤ x ∧ x ≤ 1 ∧ 1 ≤ y ∧ y ≤ 99) by omega), if_neg (show ¬ (g79 2 < 8) by omega)]; exact (show _ = ent 79 g79 from ((F40 79 (by decide) (by decide)).trans ((F3 79 (by decide)).trans (H79.trans (ent_79 _))))))), (by first | exact (show _ = ent 78 (uI (g78) 1 (g78 1 + 1)) from (E39.trans (ent_78 _))) | (rw [if_pos (show 0 ≤ a ∧ a ≤ 63 ∧ 0 ≤ b ∧ b ≤ 11 ∧ 0 ≤ c ∧ c ≤ 11 ∧ b ≤ c ∧ 0 ≤ x ∧ x ≤ 1 ∧ 1 ≤ y ∧ y ≤ 99 by omega)]; exact (show _ = ent 78 (uI (g78) 1 (g78 1 + 1)) from (E39.trans (ent_78 _)))) | (rw [if_neg (show ¬ (0 ≤ a ∧ a ≤ 63 ∧ 0 ≤ b ∧ b ≤ 11 ∧ 0 ≤ c ∧ c ≤ 11 ∧ b ≤ c ∧ 0 ≤ x ∧ x ≤ 1 ∧ 1 ≤ y ∧ y ≤ 99) by omega)]; exact (show _ = ent 78 (uI (g78) 1 (g78 1 + 1)) from (E39.trans (ent_78 _)))) | (rw [if_pos (show 0 ≤ a ∧ a ≤ 63 ∧ 0 ≤ b ∧ b ≤ 11 ∧ 0 ≤ c ∧ c ≤ 11 ∧ b ≤ c ∧ 0 ≤ x ∧ x ≤ 1 ∧ 1 ≤ y ∧ y ≤ 99 by omega), if_pos (show g79 2 < 8 by omega)]; exact (show _ = ent 78 (uI (g78) 1 (g78 1 + 1)) from (E39.trans (ent_78 _)))) | (rw [if_pos (show 0 ≤ a ∧ a ≤ 63 ∧ 0 ≤ b ∧ b ≤ 11 ∧ 0 ≤ c ∧ c ≤ 11 ∧ b ≤ c ∧ 0 ≤ x ∧ x ≤ 1 ∧ 1 ≤ y ∧ y ≤ 99 by omega), if_neg (show ¬ (g79 2 < 8) by omega)]; exact (show _ = ent 78 (uI (g78) 1 (g78 1 + 1)) from (E39.trans (ent_78 _)))) | (rw [if_neg (show ¬ (0 ≤ a ∧ a ≤ 63 ∧ 0 ≤ b ∧ b ≤ 11 ∧ 0 ≤ c ∧ c ≤ 11 ∧ b ≤ c ∧ 0 ≤ x ∧ x ≤ 1 ∧ 1 ≤ y ∧ y ≤ 99) by omega), if_pos (show g79 2 < 8 by omega)]; exact (show _ = ent 78 (uI (g78) 1 (g78 1 + 1)) from (E39.trans (ent_78 _)))) | (rw [if_neg (show ¬ (0 ≤ a ∧ a ≤ 63 ∧ 0 ≤ b ∧ b ≤ 11 ∧ 0 ≤ c ∧ c ≤ 11 ∧ b ≤ c ∧ 0 ≤ x ∧ x ≤ 1 ∧ 1 ≤ y ∧ y ≤ 99) by omega), if_neg (show ¬ (g79 2 < 8) by omega)]; exact (show _ = ent 78 (uI (g78) 1 (g78 1 + 1)) from (E39.trans (ent_78 _))))), (by first | exact (show _ = ent 77 ((uI (uI g77 0 0) 1 ((-1)))) from E41) | (rw [if_pos (show 0 ≤ a ∧ a ≤ 63 ∧ 0 ≤ b ∧ b ≤ 11 ∧ 0 ≤ c ∧ c ≤ 11 ∧ b ≤ c ∧ 0 ≤ x ∧ x ≤ 1 ∧ 1 ≤ y ∧ y ≤ 99 by omega)]; exact (show _ = ent 77 ((uI (uI g77 0 0) 1 ((-1)))) from E41)) | (rw [if_neg (show ¬ (0 ≤ a ∧ a ≤ 63 ∧ 0 ≤ b ∧ b ≤ 11 ∧ 0 ≤ c ∧ c ≤ 11 ∧ b ≤ c ∧ 0 ≤ x ∧ x ≤ 1 ∧ 1 ≤ y ∧ y ≤ 99) by omega)]; exact (show _ = ent 77 ((uI (uI g77 0 0) 1 ((-1)))) from E41)) | (rw [if_pos (show 0 ≤ a ∧ a ≤ 63 ∧ 0 ≤ b ∧ b ≤ 11 ∧ 0 ≤ c ∧ c ≤ 11 ∧ b ≤ c ∧ 0 ≤ x ∧ x ≤ 1 ∧ 1 ≤ y ∧ y ≤ 99 by omega), if_pos (show g79 2 < 8 by omega)]; exact (show _ = ent 77 ((uI (uI g77 0 0) 1 ((-1)))) from E41)) | (rw [if_pos (show 0 ≤ a ∧ a ≤ 63 ∧ 0 ≤ b ∧ b ≤ 11 ∧ 0 ≤ c ∧ c ≤ 11 ∧ b ≤ c ∧ 0 ≤ x ∧ x ≤ 1 ∧ 1 ≤ y ∧ y ≤ 99 by omega), if_neg (show ¬ (g79 2 < 8) by omega)]; exact (show _ = ent 77 ((uI (uI g77 0 0) 1 ((-1)))) from E41)) | (rw [if_neg (show ¬ (0 ≤ a ∧ a ≤ 63 ∧ 0 ≤ b ∧ b ≤ 11 ∧ 0 ≤ c ∧ c ≤ 11 ∧ b ≤ c ∧ 0 ≤ x ∧ x ≤ 1 ∧ 1 ≤ y ∧ y ≤ 99) by omega), if_pos (show g79 2 < 8 by omega)]; exact (show _ = ent 77 ((uI (uI g77 0 0) 1 ((-1)))) from E41)) | (rw [if_neg (show ¬ (0 ≤ a ∧ a ≤ 63 ∧ 0 ≤ b ∧ b ≤ 11 ∧ 0 ≤ c ∧ c ≤ 11 ∧ b ≤ c ∧ 0 ≤ x ∧ x ≤ 1 ∧ 1 ≤ y ∧ y ≤ 99) by omega), if_neg (show ¬ (g79 2 < 8) by omega)]; exact (show _ = ent 77 ((uI (uI g77 0 0) 1 ((-1)))) from E41))), fun j m79 m78 m77 => ((F40 j m77 m78).trans (F3 j m77))⟩ | omega)
        · refine v_iload dX12_contract_31 rfl ?_
          refine v_i2lI dX12_contract_33 (by omega) (by omega) ?_
          refine v_lconstI (w := 0) dX12_contract_34 rfl ?_
          refine v_lconstI (w := 1) dX12_contract_35 rfl ?_
          refine v_callS dX12_contract_36 ml_X12_175 (sp_X12_in (v := x) (lo := 0) (hi := 1)   (by omega) (by omega) (by omega)) rfl rfl (Nat.le_of_ble_eq_true rfl) (Nat.le_of_ble_eq_true rfl) (Nat.zero_le _) (Nat.zero_le _) ⟨Or.inl (fun _ _ _ q => q.2.1), fun r n1 h42 q43 => ?_⟩
          obtain ⟨rfl, rfl, rfl⟩ := q43
          try dsimp only [s_push]
          refine v_ifeqB (tgt := 55) dX12_contract_39 (by decide) (fun c_44 => ?_) (fun c_44 => ?_)
          · refine v_aload_n dX12_contract_55 rfl ?_
            refine v_iconstI dX12_contract_56 ?_
            have H45 := ((F3 78 (by decide)).trans (H78.trans (ent_78 _)))
            refine v_callV dX12_contract_57 ml_X12_179 (sp_X12_tell_1  (g77 := (uI g77 0 0)) (g78 := g78) hn (show _ = ent 77 (uI g77 0 0) from E2) (show _ = ent 78 g78 from H45)) E2 rfl (s_lt hn rfl) rfl rfl (Nat.le_of_ble_eq_true rfl) (Nat.le_of_ble_eq_true rfl) (Nat.zero_le _) (Nat.zero_le _) ⟨Or.inl (fun _ _ _ q => q.2.1), fun r n1 h46 q47 => ?_⟩
            obtain ⟨rfl, rfl, E48, E49, F50⟩ := q47
            dsimp only [s_push]
            have E51 : _ = (.inr (12, [.int (iI 0), .int (iI ((-1))), .ref 78, .ref 79, .ref 80, .ref 81, .int (iI (g77 6)), .ref 82, .int (iI (g77 8)), .int (iI (g77 9)), .int (iI (g77 10)), .int (iI (g77 11)), .long (jJ (g77 12)), .int (iI (g77 13)), .int (iI (g77 14)), .int (iI (g77 15)), .int (iI (g77 16)), .ref 83, .int (iI (g77 18)), .ref 84, .ref 85, .int (iI (g77 21)), .ref 86, .ref 87, .int (iI (g77 24)), .int (iI (g77 25)), .ref 88, .ref 89, .ref 90, .int (iI (g77 29)), .ref 91, .ref 92, .ref 93, .int (iI (g77 33)), .long (jJ (g77 34)), .long (jJ (g77 35)), .ref 94, .ref 95, .ref 96, .ref 97, .ref 98, .ref 99, .ref 100, .ref 101, .ref 102, .ref 103, .ref 104, .ref 105, .ref 106, .ref 107, .int (iI (g77 50)), .ref 108, .ref 109, .ref 110, .ref 111, .ref 112, .ref 113, .int (iI (g77 57)), .int (iI (g77 58)), .int (iI (g77 59)), .int (iI (g77 60)), .long (jJ (g77 61)), .ref 114, .int (iI (g77 63))]) : sE) := E48
            exact v_iret dX12_contract_60 rfl (Nat.zero_le _) (Nat.zero_le _) (by first | exact ⟨(congrArg (fun x => some (Value.int x)) (congrArg iI (by first | rfl | omega | (split <;> first | rfl | omega | (split <;> first | rfl | omega))))), rfl, (by first | exact (show _ = ent 79 g79 from ((F50 79 (by decide) (by decide)).trans ((F3 79 (by decide)).trans (H79.trans (ent_79 _))))) | (rw [if_pos (show 0 ≤ a ∧ a ≤ 63 ∧ 0 ≤ b ∧ b ≤ 11 ∧ 0 ≤ c ∧ c ≤ 11 ∧ b ≤ c ∧ 0 ≤ x ∧ x ≤ 1 ∧ 1 ≤ y ∧ y ≤ 99 by omega)]; exact (show _ = ent 79 g79 from ((F50 79 (by decide) (by decide)).trans ((F3 79 (by decide)).trans (H79.trans (ent_79 _)))))) | (rw [if_neg (show ¬ (0 ≤ a ∧ a ≤ 63 ∧ 0 ≤ b ∧ b ≤ 11 ∧ 0 ≤ c ∧ c ≤ 11 ∧ b ≤ c ∧ 0 ≤ x ∧ x ≤ 1 ∧ 1 ≤ y ∧ y ≤ 99) by omega)]; exact (show _ = ent 79 g79 from ((F50 79 (by decide) (by decide)).trans ((F3 79 (by decide)).trans (H79.trans (ent_79 _)))))) | (rw [if_pos (show 0 ≤ a ∧ a ≤ 63 ∧ 0 ≤ b ∧ b ≤ 11 ∧ 0 ≤ c ∧ c ≤ 11 ∧ b ≤ c ∧ 0 ≤ x ∧ x ≤ 1 ∧ 1 ≤ y ∧ y ≤ 99 by omega), if_pos (show g79 2 < 8 by omega)]; exact (show _ = ent 79 g79 from ((F50 79 (by decide) (by decide)).trans ((F3 79 (by decide)).trans (H79.trans (ent_79 _)))))) | (rw [if_pos (show 0 ≤ a ∧ a ≤ 63 ∧ 0 ≤ b ∧ b ≤ 11 ∧ 0 ≤ c ∧ c ≤ 11 ∧ b ≤ c ∧ 0 ≤ x ∧ x ≤ 1 ∧ 1 ≤ y ∧ y ≤ 99 by omega), if_neg (show ¬ (g79 2 < 8) by omega)]; exact (show _ = ent 79 g79 from ((F50 79 (by decide) (by decide)).trans ((F3 79 (by decide)).trans (H79.trans (ent_79 _)))))) | (rw [if_neg (show ¬ (0 ≤ a ∧ a ≤ 63 ∧ 0 ≤ b ∧ b ≤ 11 ∧ 0 ≤ c ∧ c ≤ 11 ∧ b ≤ c ∧ 0 ≤ x ∧ x ≤ 1 ∧ 1 ≤ y ∧ y ≤ 99) by omega), if_pos (show g79 2 < 8 by omega)]; exact (show _ = ent 79 g79 from ((F50 79 (by decide) (by decide)).trans ((F3 79 (by decide)).trans (H79.trans (ent_79 _)))))) | (rw [if_neg (show ¬ (0 ≤ a ∧ a ≤ 63 ∧ 0 ≤ b ∧ b ≤ 11 ∧ 0 ≤ c ∧ c ≤ 11 ∧ b ≤ c ∧ 0 ≤ x ∧ x ≤ 1 ∧ 1 ≤ y ∧ y ≤ 99) by omega), if_neg (show ¬ (g79 2 < 8) by omega)]; exact (show _ = ent 79 g79 from ((F50 79 (by decide) (by decide)).trans ((F3 79 (by decide)).trans (H79.trans (ent_79 _))))))), (by first | exact (show _ = ent 78 (uI (g78) 1 (g78 1 + 1)) from (E49.trans (ent_78 _))) | (rw [if_pos (show 0 ≤ a ∧ a ≤ 63 ∧ 0 ≤ b ∧ b ≤ 11 ∧ 0 ≤ c ∧ c ≤ 11 ∧ b ≤ c ∧ 0 ≤ x ∧ x ≤ 1 ∧ 1 ≤ y ∧ y ≤ 99 by omega)]; exact (show _ = ent 78 (uI (g78) 1 (g78 1 + 1)) from (E49.trans (ent_78 _)))) | (rw [if_neg (show ¬ (0 ≤ a ∧ a ≤ 63 ∧ 0 ≤ b ∧ b ≤ 11 ∧ 0 ≤ c ∧ c ≤ 11 ∧ b ≤ c ∧ 0 ≤ x ∧ x ≤ 1 ∧ 1 ≤ y ∧ y ≤ 99) by omega)]; exact (show _ = ent 78 (uI (g78) 1 (g78 1 + 1)) from (E49.trans (ent_78 _)))) | (rw [if_pos (show 0 ≤ a ∧ a ≤ 63 ∧ 0 ≤ b ∧ b ≤ 11 ∧ 0 ≤ c ∧ c ≤ 11 ∧ b ≤ c ∧ 0 ≤ x ∧ x ≤ 1 ∧ 1 ≤ y ∧ y ≤ 99 by omega), if_pos (show g79 2 < 8 by omega)]; exact (show _ = ent 78 (uI (g78) 1 (g78 1 + 1)) from (E49.trans (ent_78 _)))) | (rw [if_pos (show 0 ≤ a ∧ a ≤ 63 ∧ 0 ≤ b ∧ b ≤ 11 ∧ 0 ≤ c ∧ c ≤ 11 ∧ b ≤ c ∧ 0 ≤ x ∧ x ≤ 1 ∧ 1 ≤ y ∧ y ≤ 99 by omega), if_neg (show ¬ (g79 2 < 8) by omega)]; exact (show _ = ent 78 (uI (g78) 1 (g78 1 + 1)) from (E49.trans (ent_78 _)))) | (rw [if_neg (show ¬ (0 ≤ a ∧ a ≤ 63 ∧ 0 ≤ b ∧ b ≤ 11 ∧ 0 ≤ c ∧ c ≤ 11 ∧ b ≤ c ∧ 0 ≤ x ∧ x ≤ 1 ∧ 1 ≤ y ∧ y ≤ 99) by omega), if_pos (show g79 2 < 8 by omega)]; exact (show _ = ent 78 (uI (g78) 1 (g78 1 + 1)) from (E49.trans (ent_78 _)))) | (rw [if_neg (show ¬ (0 ≤ a ∧ a ≤ 63 ∧ 0 ≤ b ∧ b ≤ 11 ∧ 0 ≤ c ∧ c ≤ 11 ∧ b ≤ c ∧ 0 ≤ x ∧ x ≤ 1 ∧ 1 ≤ y ∧ y ≤ 99) by omega), if_neg (show ¬ (g79 2 < 8) by omega)]; exact (show _ = ent 78 (uI (g78) 1 (g78 1 + 1)) from (E49.trans (ent_78 _))))), (by first | exact (show _ = ent 77 ((uI (uI g77 0 0) 1 ((-1)))) from E51) | (rw [if_pos (show 0 ≤ a ∧ a ≤ 63 ∧ 0 ≤ b ∧ b ≤ 11 ∧ 0 ≤ c ∧ c ≤ 11 ∧ b ≤ c ∧ 0 ≤ x ∧ x ≤ 1 ∧ 1 ≤ y ∧ y ≤ 99 by omega)]; exact (show _ = ent 77 ((uI (uI g77 0 0) 1 ((-1)))) from E51)) | (rw [if_neg (show ¬ (0 ≤ a ∧ a ≤ 63 ∧ 0 ≤ b ∧ b ≤ 11 ∧ 0 ≤ c ∧ c ≤ 11 ∧ b ≤ c ∧ 0 ≤ x ∧ x ≤ 1 ∧ 1 ≤ y ∧ y ≤ 99) by omega)]; exact (show _ = ent 77 ((uI (uI g77 0 0) 1 ((-1)))) from E51)) | (rw [if_pos (show 0 ≤ a ∧ a ≤ 63 ∧ 0 ≤ b ∧ b ≤ 11 ∧ 0 ≤ c ∧ c ≤ 11 ∧ b ≤ c ∧ 0 ≤ x ∧ x ≤ 1 ∧ 1 ≤ y ∧ y ≤ 99 by omega), if_pos (show g79 2 < 8 by omega)]; exact (show _ = ent 77 ((uI (uI g77 0 0) 1 ((-1)))) from E51)) | (rw [if_pos (show 0 ≤ a ∧ a ≤ 63 ∧ 0 ≤ b ∧ b ≤ 11 ∧ 0 ≤ c ∧ c ≤ 11 ∧ b ≤ c ∧ 0 ≤ x ∧ x ≤ 1 ∧ 1 ≤ y ∧ y ≤ 99 by omega), if_neg (show ¬ (g79 2 < 8) by omega)]; exact (show _ = ent 77 ((uI (uI g77 0 0) 1 ((-1)))) from E51)) | (rw [if_neg (show ¬ (0 ≤ a ∧ a ≤ 63 ∧ 0 ≤ b ∧ b ≤ 11 ∧ 0 ≤ c ∧ c ≤ 11 ∧ b ≤ c ∧ 0 ≤ x ∧ x ≤ 1 ∧ 1 ≤ y ∧ y ≤ 99) by omega), if_pos (show g79 2 < 8 by omega)]; exact (show _ = ent 77 ((uI (uI g77 0 0) 1 ((-1)))) from E51)) | (rw [if_neg (show ¬ (0 ≤ a ∧ a ≤ 63 ∧ 0 ≤ b ∧ b ≤ 11 ∧ 0 ≤ c ∧ c ≤ 11 ∧ b ≤ c ∧ 0 ≤ x ∧ x ≤ 1 ∧ 1 ≤ y ∧ y ≤ 99) by omega), if_neg (show ¬ (g79 2 < 8) by omega)]; exact (show _ = ent 77 ((uI (uI g77 0 0) 1 ((-1)))) from E51))), fun j m79 m78 m77 => ((F50 j m77 m78).trans (F3 j m77))⟩ | omega)
          · refine v_iload dX12_contract_42 rfl ?_
            refine v_i2lI dX12_contract_44 (by omega) (by omega) ?_
            refine v_lconstI (w := 1) dX12_contract_45 rfl ?_
            refine v_ldc2I 99 dX12_contract_46 k_X12_191 rfl ?_
            refine v_callS dX12_contract_49 ml_X12_175 (sp_X12_in (v := y) (lo := 1) (hi := 99)   (by omega) (by omega) (by omega)) rfl rfl (Nat.le_of_ble_eq_true rfl) (Nat.le_of_ble_eq_true rfl) (Nat.zero_le _) (Nat.zero_le _) ⟨Or.inl (fun _ _ _ q => q.2.1), fun r n1 h52 q53 => ?_⟩
            obtain ⟨rfl, rfl, rfl⟩ := q53
            try dsimp only [s_push]
            refine v_ifneB (tgt := 61) dX12_contract_52 (by decide) (fun c_54 => ?_) (fun c_54 => ?_)
            · refine v_aload_n dX12_contract_61 rfl ?_
              refine v_get dX12_contract_62 fl_X12_13 E2 rfl (s_lt hn rfl) ?_
              refine v_iconstI dX12_contract_65 ?_
              have H55 := ((F3 79 (by decide)).trans (H79.trans (ent_79 _)))
              refine v_ialdI dX12_contract_66 H55 (s_lt hn rfl) (by omega) (by omega) (by omega) ?_
              refine v_istore dX12_contract_67 (Nat.le_of_ble_eq_true rfl) ?_
              refine v_iload dX12_contract_69 rfl ?_
              refine v_bipushI dX12_contract_71 rfl ?_
              refine v_icmp_neI (tgt := 83) dX12_contract_73 (by decide) (by omega) (by omega) (by omega) (by omega) (fun c_56 => ?_) (fun c_56 => ?_)
              · refine v_sipushI dX12_contract_83 rfl ?_
                refine v_iconstI dX12_contract_86 ?_
                refine v_iload dX12_contract_87 rfl ?_
                refine v_imulI dX12_contract_89 ?_
                refine v_iaddI dX12_contract_90 ?_
                refine v_istore dX12_contract_91 (Nat.le_of_ble_eq_true rfl) ?_
                refine v_aload_n dX12_contract_93 rfl ?_
                refine v_get dX12_contract_94 fl_X12_13 E2 rfl (s_lt hn rfl) ?_
                refine v_iload dX12_contract_97 rfl ?_
                refine v_iload_n dX12_contract_99 rfl ?_
                refine v_iastI dX12_contract_100 H55 (s_lt hn rfl) (by omega) (by omega) (by omega) (fun h57 E58 F59 => ?_)
                refine v_aload_n dX12_contract_101 rfl ?_
                have H60 := ((F59 77 (by decide)).trans E2)
                refine v_get dX12_contract_102 fl_X12_13 H60 rfl (s_lt hn rfl) ?_
                refine v_iload dX12_contract_105 rfl ?_
                refine v_iconstI dX12_contract_107 ?_
                refine v_iaddI dX12_contract_108 ?_
                refine v_iload_n dX12_contract_109 rfl ?_
                refine v_iastI dX12_contract_110 E58 (s_lt hn rfl) (by omega) (by omega) (by omega) (fun h61 E62 F63 => ?_)
                refine v_aload_n dX12_contract_111 rfl ?_
                have H64 := ((F63 77 (by decide)).trans H60)
                refine v_get dX12_contract_112 fl_X12_13 H64 rfl (s_lt hn rfl) ?_
                refine v_iload dX12_contract_115 rfl ?_
                refine v_iconstI dX12_contract_117 ?_
                refine v_iaddI dX12_contract_118 ?_
                refine v_iload_n dX12_contract_119 rfl ?_
                refine v_iastI dX12_contract_120 E62 (s_lt hn rfl) (by omega) (by omega) (by omega) (fun h65 E66 F67 => ?_)
                refine v_aload_n dX12_contract_121 rfl ?_
                have H68 := ((F67 77 (by decide)).trans H64)
                refine v_get dX12_contract_122 fl_X12_13 H68 rfl (s_lt hn rfl) ?_
                refine v_iload dX12_contract_125 rfl ?_
                refine v_iconstI dX12_contract_127 ?_
                refine v_iaddI dX12_contract_128 ?_
                refine v_iload dX12_contract_129 rfl ?_
                refine v_iastI dX12_contract_131 E66 (s_lt hn rfl) (by omega) (by omega) (by omega) (fun h69 E70 F71 => ?_)
                refine v_aload_n dX12_contract_132 rfl ?_
                have H72 := ((F71 77 (by decide)).trans H68)
                refine v_get dX12_contract_133 fl_X12_13 H72 rfl (s_lt hn rfl) ?_
                refine v_iload dX12_contract_136 rfl ?_
                refine v_iconstI dX12_contract_138 ?_
                refine v_iaddI dX12_contract_139 ?_
                refine v_iload dX12_contract_140 rfl ?_
                refine v_iastI dX12_contract_142 E70 (s_lt hn rfl) (by omega) (by omega) (by omega) (fun h73 E74 F75 => ?_)
                refine v_aload_n dX12_contract_143 rfl ?_
                have H76 := ((F75 77 (by decide)).trans H72)
                refine v_get dX12_contract_144 fl_X12_13 H76 rfl (s_lt hn rfl) ?_
                refine v_iconstI dX12_contract_147 ?_
                refine v_dup2 dX12_contract_148 rfl rfl ?_
                refine v_ialdI dX12_contract_149 E74 (s_lt hn rfl) (by omega) (by omega) (by omega) ?_
                rw [uI_ne (show ¬ 2 = ((304 + (5 * (g79 2))) + 4) by omega)]
                rw [uI_ne (show ¬ 2 = ((304 + (5 * (g79 2))) + 3) by omega)]
                rw [uI_ne (show ¬ 2 = ((304 + (5 * (g79 2))) + 2) by omega)]
                rw [uI_ne (show ¬ 2 = ((304 + (5 * (g79 2))) + 1) by omega)]
                rw [uI_ne (show ¬ 2 = (304 + (5 * (g79 2))) by omega)]
                refine v_iconstI dX12_contract_150 ?_
                refine v_iaddI dX12_contract_151 ?_
                refine v_iastI dX12_contract_152 E74 (s_lt hn rfl) (by omega) (by omega) (by omega) (fun h77 E78 F79 => ?_)
                refine v_aload_n dX12_contract_153 rfl ?_
                refine v_iload dX12_contract_154 rfl ?_
                have H80 := ((F79 77 (by decide)).trans H76)
                refine v_callV dX12_contract_156 ml_X12_179 (sp_X12_tell_p (a := (g79 2)) (g77 := (uI g77 0 0)) hn (show _ = ent 77 (uI g77 0 0) from H80) (by omega)) H80 rfl (s_lt hn rfl) rfl rfl (Nat.le_of_ble_eq_true rfl) (Nat.le_of_ble_eq_true rfl) (Nat.zero_le _) (Nat.zero_le _) ⟨Or.inl (fun _ _ _ q => q.2.1), fun r n1 h81 q82 => ?_⟩
                obtain ⟨rfl, rfl, E83, F84⟩ := q82
                dsimp only [s_push]
                have E85 : _ = (.inr (12, [.int (iI 0), .int (iI (0)), .ref 78, .ref 79, .ref 80, .ref 81, .int (iI (g77 6)), .ref 82, .int (iI (g77 8)), .int (iI (g77 9)), .int (iI (g77 10)), .int (iI (g77 11)), .long (jJ (g77 12)), .int (iI (g77 13)), .int (iI (g77 14)), .int (iI (g77 15)), .int (iI (g77 16)), .ref 83, .int (iI (g77 18)), .ref 84, .ref 85, .int (iI (g77 21)), .ref 86, .ref 87, .int (iI (g77 24)), .int (iI (g77 25)), .ref 88, .ref 89, .ref 90, .int (iI (g77 29)), .ref 91, .ref 92, .ref 93, .int (iI (g77 33)), .long (jJ (g77 34)), .long (jJ (g77 35)), .ref 94, .ref 95, .ref 96, .ref 97, .ref 98, .ref 99, .ref 100, .ref 101, .ref 102, .ref 103, .ref 104, .ref 105, .ref 106, .ref 107, .int (iI (g77 50)), .ref 108, .ref 109, .ref 110, .ref 111, .ref 112, .ref 113, .int (iI (g77 57)), .int (iI (g77 58)), .int (iI (g77 59)), .int (iI (g77 60)), .long (jJ (g77 61)), .ref 114, .int (iI (g77 63))]) : sE) := E83
                exact v_iret dX12_contract_159 rfl (Nat.zero_le _) (Nat.zero_le _) (by first | exact ⟨(congrArg (fun x => some (Value.int x)) (congrArg iI (by first | rfl | omega | (split <;> first | rfl | omega | (split <;> first | rfl | omega))))), rfl, (by first | exact (show _ = ent 79 (uI (uI (uI (uI (uI (uI g79 (304 + (5 * (g79 2))) a) ((304 + (5 * (g79 2))) + 1) b) ((304 + (5 * (g79 2))) + 2) c) ((304 + (5 * (g79 2))) + 3) x) ((304 + (5 * (g79 2))) + 4) y) 2 ((g79 2) + 1)) from ((F84 79 (by decide)).trans E78)) | (rw [if_pos (show 0 ≤ a ∧ a ≤ 63 ∧ 0 ≤ b ∧ b ≤ 11 ∧ 0 ≤ c ∧ c ≤ 11 ∧ b ≤ c ∧ 0 ≤ x ∧ x ≤ 1 ∧ 1 ≤ y ∧ y ≤ 99 by omega)]; exact (show _ = ent 79 (uI (uI (uI (uI (uI (uI g79 (304 + (5 * (g79 2))) a) ((304 + (5 * (g79 2))) + 1) b) ((304 + (5 * (g79 2))) + 2) c) ((304 + (5 * (g79 2))) + 3) x) ((304 + (5 * (g79 2))) + 4) y) 2 ((g79 2) + 1)) from ((F84 79 (by decide)).trans E78))) | (rw [if_neg (show ¬ (0 ≤ a ∧ a ≤ 63 ∧ 0 ≤ b ∧ b ≤ 11 ∧ 0 ≤ c ∧ c ≤ 11 ∧ b ≤ c ∧ 0 ≤ x ∧ x ≤ 1 ∧ 1 ≤ y ∧ y ≤ 99) by omega)]; exact (show _ = ent 79 (uI (uI (uI (uI (uI (uI g79 (304 + (5 * (g79 2))) a) ((304 + (5 * (g79 2))) + 1) b) ((304 + (5 * (g79 2))) + 2) c) ((304 + (5 * (g79 2))) + 3) x) ((304 + (5 * (g79 2))) + 4) y) 2 ((g79 2) + 1)) from ((F84 79 (by decide)).trans E78))) | (rw [if_pos (show 0 ≤ a ∧ a ≤ 63 ∧ 0 ≤ b ∧ b ≤ 11 ∧ 0 ≤ c ∧ c ≤ 11 ∧ b ≤ c ∧ 0 ≤ x ∧ x ≤ 1 ∧ 1 ≤ y ∧ y ≤ 99 by omega), if_pos (show g79 2 < 8 by omega)]; exact (show _ = ent 79 (uI (uI (uI (uI (uI (uI g79 (304 + (5 * (g79 2))) a) ((304 + (5 * (g79 2))) + 1) b) ((304 + (5 * (g79 2))) + 2) c) ((304 + (5 * (g79 2))) + 3) x) ((304 + (5 * (g79 2))) + 4) y) 2 ((g79 2) + 1)) from ((F84 79 (by decide)).trans E78))) | (rw [if_pos (show 0 ≤ a ∧ a ≤ 63 ∧ 0 ≤ b ∧ b ≤ 11 ∧ 0 ≤ c ∧ c ≤ 11 ∧ b ≤ c ∧ 0 ≤ x ∧ x ≤ 1 ∧ 1 ≤ y ∧ y ≤ 99 by omega), if_neg (show ¬ (g79 2 < 8) by omega)]; exact (show _ = ent 79 (uI (uI (uI (uI (uI (uI g79 (304 + (5 * (g79 2))) a) ((304 + (5 * (g79 2))) + 1) b) ((304 + (5 * (g79 2))) + 2) c) ((304 + (5 * (g79 2))) + 3) x) ((304 + (5 * (g79 2))) + 4) y) 2 ((g79 2) + 1)) from ((F84 79 (by decide)).trans E78))) | (rw [if_neg (show ¬ (0 ≤ a ∧ a ≤ 63 ∧ 0 ≤ b ∧ b ≤ 11 ∧ 0 ≤ c ∧ c ≤ 11 ∧ b ≤ c ∧ 0 ≤ x ∧ x ≤ 1 ∧ 1 ≤ y ∧ y ≤ 99) by omega), if_pos (show g79 2 < 8 by omega)]; exact (show _ = ent 79 (uI (uI (uI (uI (uI (uI g79 (304 + (5 * (g79 2))) a) ((304 + (5 * (g79 2))) + 1) b) ((304 + (5 * (g79 2))) + 2) c) ((304 + (5 * (g79 2))) + 3) x) ((304 + (5 * (g79 2))) + 4) y) 2 ((g79 2) + 1)) from ((F84 79 (by decide)).trans E78))) | (rw [if_neg (show ¬ (0 ≤ a ∧ a ≤ 63 ∧ 0 ≤ b ∧ b ≤ 11 ∧ 0 ≤ c ∧ c ≤ 11 ∧ b ≤ c ∧ 0 ≤ x ∧ x ≤ 1 ∧ 1 ≤ y ∧ y ≤ 99) by omega), if_neg (show ¬ (g79 2 < 8) by omega)]; exact (show _ = ent 79 (uI (uI (uI (uI (uI (uI g79 (304 + (5 * (g79 2))) a) ((304 + (5 * (g79 2))) + 1) b) ((304 + (5 * (g79 2))) + 2) c) ((304 + (5 * (g79 2))) + 3) x) ((304 + (5 * (g79 2))) + 4) y) 2 ((g79 2) + 1)) from ((F84 79 (by decide)).trans E78)))), (by first | exact (show _ = ent 78 g78 from ((F84 78 (by decide)).trans ((F79 78 (by decide)).trans ((F75 78 (by decide)).trans ((F71 78 (by decide)).trans ((F67 78 (by decide)).trans ((F63 78 (by decide)).trans ((F59 78 (by decide)).trans ((F3 78 (by decide)).trans (H78.trans (ent_78 _))))))))))) | (rw [if_pos (show 0 ≤ a ∧ a ≤ 63 ∧ 0 ≤ b ∧ b ≤ 11 ∧ 0 ≤ c ∧ c ≤ 11 ∧ b ≤ c ∧ 0 ≤ x ∧ x ≤ 1 ∧ 1 ≤ y ∧ y ≤ 99 by omega)]; exact (show _ = ent 78 g78 from ((F84 78 (by decide)).trans ((F79 78 (by decide)).trans ((F75 78 (by decide)).trans ((F71 78 (by decide)).trans ((F67 78 (by decide)).trans ((F63 78 (by decide)).trans ((F59 78 (by decide)).trans ((F3 78 (by decide)).trans (H78.trans (ent_78 _)))))))))))) | (rw [if_neg (show ¬ (0 ≤ a ∧ a ≤ 63 ∧ 0 ≤ b ∧ b ≤ 11 ∧ 0 ≤ c ∧ c ≤ 11 ∧ b ≤ c ∧ 0 ≤ x ∧ x ≤ 1 ∧ 1 ≤ y ∧ y ≤ 99) by omega)]; exact (show _ = ent 78 g78 from ((F84 78 (by decide)).trans ((F79 78 (by decide)).trans ((F75 78 (by decide)).trans ((F71 78 (by decide)).trans ((F67 78 (by decide)).trans ((F63 78 (by decide)).trans ((F59 78 (by decide)).trans ((F3 78 (by decide)).trans (H78.trans (ent_78 _)))))))))))) | (rw [if_pos (show 0 ≤ a ∧ a ≤ 63 ∧ 0 ≤ b ∧ b ≤ 11 ∧ 0 ≤ c ∧ c ≤ 11 ∧ b ≤ c ∧ 0 ≤ x ∧ x ≤ 1 ∧ 1 ≤ y ∧ y ≤ 99 by omega), if_pos (show g79 2 < 8 by omega)]; exact (show _ = ent 78 g78 from ((F84 78 (by decide)).trans ((F79 78 (by decide)).trans ((F75 78 (by decide)).trans ((F71 78 (by decide)).trans ((F67 78 (by decide)).trans ((F63 78 (by decide)).trans ((F59 78 (by decide)).trans ((F3 78 (by decide)).trans (H78.trans (ent_78 _)))))))))))) | (rw [if_pos (show 0 ≤ a ∧ a ≤ 63 ∧ 0 ≤ b ∧ b ≤ 11 ∧ 0 ≤ c ∧ c ≤ 11 ∧ b ≤ c ∧ 0 ≤ x ∧ x ≤ 1 ∧ 1 ≤ y ∧ y ≤ 99 by omega), if_neg (show ¬ (g79 2 < 8) by omega)]; exact (show _ = ent 78 g78 from ((F84 78 (by decide)).trans ((F79 78 (by decide)).trans ((F75 78 (by decide)).trans ((F71 78 (by decide)).trans ((F67 78 (by decide)).trans ((F63 78 (by decide)).trans ((F59 78 (by decide)).trans ((F3 78 (by decide)).trans (H78.trans (ent_78 _)))))))))))) | (rw [if_neg (show ¬ (0 ≤ a ∧ a ≤ 63 ∧ 0 ≤ b ∧ b ≤ 11 ∧ 0 ≤ c ∧ c ≤ 11 ∧ b ≤ c ∧ 0 ≤ x ∧ x ≤ 1 ∧ 1 ≤ y ∧ y ≤ 99) by omega), if_pos (show g79 2 < 8 by omega)]; exact (show _ = ent 78 g78 from ((F84 78 (by decide)).trans ((F79 78 (by decide)).trans ((F75 78 (by decide)).trans ((F71 78 (by decide)).trans ((F67 78 (by decide)).trans ((F63 78 (by decide)).trans ((F59 78 (by decide)).trans ((F3 78 (by decide)).trans (H78.trans (ent_78 _)))))))))))) | (rw [if_neg (show ¬ (0 ≤ a ∧ a ≤ 63 ∧ 0 ≤ b ∧ b ≤ 11 ∧ 0 ≤ c ∧ c ≤ 11 ∧ b ≤ c ∧ 0 ≤ x ∧ x ≤ 1 ∧ 1 ≤ y ∧ y ≤ 99) by omega), if_neg (show ¬ (g79 2 < 8) by omega)]; exact (show _ = ent 78 g78 from ((F84 78 (by decide)).trans ((F79 78 (by decide)).trans ((F75 78 (by decide)).trans ((F71 78 (by decide)).trans ((F67 78 (by decide)).trans ((F63 78 (by decide)).trans ((F59 78 (by decide)).trans ((F3 78 (by decide)).trans (H78.trans (ent_78 _))))))))))))), (by first | exact (show _ = ent 77 ((uI (uI g77 0 0) 1 0)) from E85) | (rw [if_pos (show 0 ≤ a ∧ a ≤ 63 ∧ 0 ≤ b ∧ b ≤ 11 ∧ 0 ≤ c ∧ c ≤ 11 ∧ b ≤ c ∧ 0 ≤ x ∧ x ≤ 1 ∧ 1 ≤ y ∧ y ≤ 99 by omega)]; exact (show _ = ent 77 ((uI (uI g77 0 0) 1 0)) from E85)) | (rw [if_neg (show ¬ (0 ≤ a ∧ a ≤ 63 ∧ 0 ≤ b ∧ b ≤ 11 ∧ 0 ≤ c ∧ c ≤ 11 ∧ b ≤ c ∧ 0 ≤ x ∧ x ≤ 1 ∧ 1 ≤ y ∧ y ≤ 99) by omega)]; exact (show _ = ent 77 ((uI (uI g77 0 0) 1 0)) from E85)) | (rw [if_pos (show 0 ≤ a ∧ a ≤ 63 ∧ 0 ≤ b ∧ b ≤ 11 ∧ 0 ≤ c ∧ c ≤ 11 ∧ b ≤ c ∧ 0 ≤ x ∧ x ≤ 1 ∧ 1 ≤ y ∧ y ≤ 99 by omega), if_pos (show g79 2 < 8 by omega)]; exact (show _ = ent 77 ((uI (uI g77 0 0) 1 0)) from E85)) | (rw [if_pos (show 0 ≤ a ∧ a ≤ 63 ∧ 0 ≤ b ∧ b ≤ 11 ∧ 0 ≤ c ∧ c ≤ 11 ∧ b ≤ c ∧ 0 ≤ x ∧ x ≤ 1 ∧ 1 ≤ y ∧ y ≤ 99 by omega), if_neg (show ¬ (g79 2 < 8) by omega)]; exact (show _ = ent 77 ((uI (uI g77 0 0) 1 0)) from E85)) | (rw [if_neg (show ¬ (0 ≤ a ∧ a ≤ 63 ∧ 0 ≤ b ∧ b ≤ 11 ∧ 0 ≤ c ∧ c ≤ 11 ∧ b ≤ c ∧ 0 ≤ x ∧ x ≤ 1 ∧ 1 ≤ y ∧ y ≤ 99) by omega), if_pos (show g79 2 < 8 by omega)]; exact (show _ = ent 77 ((uI (uI g77 0 0) 1 0)) from E85)) | (rw [if_neg (show ¬ (0 ≤ a ∧ a ≤ 63 ∧ 0 ≤ b ∧ b ≤ 11 ∧ 0 ≤ c ∧ c ≤ 11 ∧ b ≤ c ∧ 0 ≤ x ∧ x ≤ 1 ∧ 1 ≤ y ∧ y ≤ 99) by omega), if_neg (show ¬ (g79 2 < 8) by omega)]; exact (show _ = ent 77 ((uI (uI g77 0 0) 1 0)) from E85))), fun j m79 m78 m77 => ((F84 j m77).trans ((F79 j m79).trans ((F75 j m79).trans ((F71 j m79).trans ((F67 j m79).trans ((F63 j m79).trans ((F59 j m79).trans (F3 j m77))))))))⟩ | omega)
              · refine v_aload_n dX12_contract_76 rfl ?_
                refine v_bipushI dX12_contract_77 rfl ?_
                have H86 := ((F3 78 (by decide)).trans (H78.trans (ent_78 _)))
                refine v_callV dX12_contract_79 ml_X12_179 (sp_X12_tell_5  (g77 := (uI g77 0 0)) (g78 := g78) hn (show _ = ent 77 (uI g77 0 0) from E2) (show _ = ent 78 g78 from H86)) E2 rfl (s_lt hn rfl) rfl rfl (Nat.le_of_ble_eq_true rfl) (Nat.le_of_ble_eq_true rfl) (Nat.zero_le _) (Nat.zero_le _) ⟨Or.inl (fun _ _ _ q => q.2.1), fun r n1 h87 q88 => ?_⟩
                obtain ⟨rfl, rfl, E89, E90, F91⟩ := q88
                dsimp only [s_push]
                have E92 : _ = (.inr (12, [.int (iI 0), .int (iI ((-5))), .ref 78, .ref 79, .ref 80, .ref 81, .int (iI (g77 6)), .ref 82, .int (iI (g77 8)), .int (iI (g77 9)), .int (iI (g77 10)), .int (iI (g77 11)), .long (jJ (g77 12)), .int (iI (g77 13)), .int (iI (g77 14)), .int (iI (g77 15)), .int (iI (g77 16)), .ref 83, .int (iI (g77 18)), .ref 84, .ref 85, .int (iI (g77 21)), .ref 86, .ref 87, .int (iI (g77 24)), .int (iI (g77 25)), .ref 88, .ref 89, .ref 90, .int (iI (g77 29)), .ref 91, .ref 92, .ref 93, .int (iI (g77 33)), .long (jJ (g77 34)), .long (jJ (g77 35)), .ref 94, .ref 95, .ref 96, .ref 97, .ref 98, .ref 99, .ref 100, .ref 101, .ref 102, .ref 103, .ref 104, .ref 105, .ref 106, .ref 107, .int (iI (g77 50)), .ref 108, .ref 109, .ref 110, .ref 111, .ref 112, .ref 113, .int (iI (g77 57)), .int (iI (g77 58)), .int (iI (g77 59)), .int (iI (g77 60)), .long (jJ (g77 61)), .ref 114, .int (iI (g77 63))]) : sE) := E89
                exact v_iret dX12_contract_82 rfl (Nat.zero_le _) (Nat.zero_le _) (by first | exact ⟨(congrArg (fun x => some (Value.int x)) (congrArg iI (by first | rfl | omega | (split <;> first | rfl | omega | (split <;> first | rfl | omega))))), rfl, (by first | exact (show _ = ent 79 g79 from ((F91 79 (by decide) (by decide)).trans H55)) | (rw [if_pos (show 0 ≤ a ∧ a ≤ 63 ∧ 0 ≤ b ∧ b ≤ 11 ∧ 0 ≤ c ∧ c ≤ 11 ∧ b ≤ c ∧ 0 ≤ x ∧ x ≤ 1 ∧ 1 ≤ y ∧ y ≤ 99 by omega)]; exact (show _ = ent 79 g79 from ((F91 79 (by decide) (by decide)).trans H55))) | (rw [if_neg (show ¬ (0 ≤ a ∧ a ≤ 63 ∧ 0 ≤ b ∧ b ≤ 11 ∧ 0 ≤ c ∧ c ≤ 11 ∧ b ≤ c ∧ 0 ≤ x ∧ x ≤ 1 ∧ 1 ≤ y ∧ y ≤ 99) by omega)]; exact (show _ = ent 79 g79 from ((F91 79 (by decide) (by decide)).trans H55))) | (rw [if_pos (show 0 ≤ a ∧ a ≤ 63 ∧ 0 ≤ b ∧ b ≤ 11 ∧ 0 ≤ c ∧ c ≤ 11 ∧ b ≤ c ∧ 0 ≤ x ∧ x ≤ 1 ∧ 1 ≤ y ∧ y ≤ 99 by omega), if_pos (show g79 2 < 8 by omega)]; exact (show _ = ent 79 g79 from ((F91 79 (by decide) (by decide)).trans H55))) | (rw [if_pos (show 0 ≤ a ∧ a ≤ 63 ∧ 0 ≤ b ∧ b ≤ 11 ∧ 0 ≤ c ∧ c ≤ 11 ∧ b ≤ c ∧ 0 ≤ x ∧ x ≤ 1 ∧ 1 ≤ y ∧ y ≤ 99 by omega), if_neg (show ¬ (g79 2 < 8) by omega)]; exact (show _ = ent 79 g79 from ((F91 79 (by decide) (by decide)).trans H55))) | (rw [if_neg (show ¬ (0 ≤ a ∧ a ≤ 63 ∧ 0 ≤ b ∧ b ≤ 11 ∧ 0 ≤ c ∧ c ≤ 11 ∧ b ≤ c ∧ 0 ≤ x ∧ x ≤ 1 ∧ 1 ≤ y ∧ y ≤ 99) by omega), if_pos (show g79 2 < 8 by omega)]; exact (show _ = ent 79 g79 from ((F91 79 (by decide) (by decide)).trans H55))) | (rw [if_neg (show ¬ (0 ≤ a ∧ a ≤ 63 ∧ 0 ≤ b ∧ b ≤ 11 ∧ 0 ≤ c ∧ c ≤ 11 ∧ b ≤ c ∧ 0 ≤ x ∧ x ≤ 1 ∧ 1 ≤ y ∧ y ≤ 99) by omega), if_neg (show ¬ (g79 2 < 8) by omega)]; exact (show _ = ent 79 g79 from ((F91 79 (by decide) (by decide)).trans H55)))), (by first | exact (show _ = ent 78 (uI (g78) 5 (g78 5 + 1)) from (E90.trans (ent_78 _))) | (rw [if_pos (show 0 ≤ a ∧ a ≤ 63 ∧ 0 ≤ b ∧ b ≤ 11 ∧ 0 ≤ c ∧ c ≤ 11 ∧ b ≤ c ∧ 0 ≤ x ∧ x ≤ 1 ∧ 1 ≤ y ∧ y ≤ 99 by omega)]; exact (show _ = ent 78 (uI (g78) 5 (g78 5 + 1)) from (E90.trans (ent_78 _)))) | (rw [if_neg (show ¬ (0 ≤ a ∧ a ≤ 63 ∧ 0 ≤ b ∧ b ≤ 11 ∧ 0 ≤ c ∧ c ≤ 11 ∧ b ≤ c ∧ 0 ≤ x ∧ x ≤ 1 ∧ 1 ≤ y ∧ y ≤ 99) by omega)]; exact (show _ = ent 78 (uI (g78) 5 (g78 5 + 1)) from (E90.trans (ent_78 _)))) | (rw [if_pos (show 0 ≤ a ∧ a ≤ 63 ∧ 0 ≤ b ∧ b ≤ 11 ∧ 0 ≤ c ∧ c ≤ 11 ∧ b ≤ c ∧ 0 ≤ x ∧ x ≤ 1 ∧ 1 ≤ y ∧ y ≤ 99 by omega), if_pos (show g79 2 < 8 by omega)]; exact (show _ = ent 78 (uI (g78) 5 (g78 5 + 1)) from (E90.trans (ent_78 _)))) | (rw [if_pos (show 0 ≤ a ∧ a ≤ 63 ∧ 0 ≤ b ∧ b ≤ 11 ∧ 0 ≤ c ∧ c ≤ 11 ∧ b ≤ c ∧ 0 ≤ x ∧ x ≤ 1 ∧ 1 ≤ y ∧ y ≤ 99 by omega), if_neg (show ¬ (g79 2 < 8) by omega)]; exact (show _ = ent 78 (uI (g78) 5 (g78 5 + 1)) from (E90.trans (ent_78 _)))) | (rw [if_neg (show ¬ (0 ≤ a ∧ a ≤ 63 ∧ 0 ≤ b ∧ b ≤ 11 ∧ 0 ≤ c ∧ c ≤ 11 ∧ b ≤ c ∧ 0 ≤ x ∧ x ≤ 1 ∧ 1 ≤ y ∧ y ≤ 99) by omega), if_pos (show g79 2 < 8 by omega)]; exact (show _ = ent 78 (uI (g78) 5 (g78 5 + 1)) from (E90.trans (ent_78 _)))) | (rw [if_neg (show ¬ (0 ≤ a ∧ a ≤ 63 ∧ 0 ≤ b ∧ b ≤ 11 ∧ 0 ≤ c ∧ c ≤ 11 ∧ b ≤ c ∧ 0 ≤ x ∧ x ≤ 1 ∧ 1 ≤ y ∧ y ≤ 99) by omega), if_neg (show ¬ (g79 2 < 8) by omega)]; exact (show _ = ent 78 (uI (g78) 5 (g78 5 + 1)) from (E90.trans (ent_78 _))))), (by first | exact (show _ = ent 77 ((uI (uI g77 0 0) 1 ((-5)))) from E92) | (rw [if_pos (show 0 ≤ a ∧ a ≤ 63 ∧ 0 ≤ b ∧ b ≤ 11 ∧ 0 ≤ c ∧ c ≤ 11 ∧ b ≤ c ∧ 0 ≤ x ∧ x ≤ 1 ∧ 1 ≤ y ∧ y ≤ 99 by omega)]; exact (show _ = ent 77 ((uI (uI g77 0 0) 1 ((-5)))) from E92)) | (rw [if_neg (show ¬ (0 ≤ a ∧ a ≤ 63 ∧ 0 ≤ b ∧ b ≤ 11 ∧ 0 ≤ c ∧ c ≤ 11 ∧ b ≤ c ∧ 0 ≤ x ∧ x ≤ 1 ∧ 1 ≤ y ∧ y ≤ 99) by omega)]; exact (show _ = ent 77 ((uI (uI g77 0 0) 1 ((-5)))) from E92)) | (rw [if_pos (show 0 ≤ a ∧ a ≤ 63 ∧ 0 ≤ b ∧ b ≤ 11 ∧ 0 ≤ c ∧ c ≤ 11 ∧ b ≤ c ∧ 0 ≤ x ∧ x ≤ 1 ∧ 1 ≤ y ∧ y ≤ 99 by omega), if_pos (show g79 2 < 8 by omega)]; exact (show _ = ent 77 ((uI (uI g77 0 0) 1 ((-5)))) from E92)) | (rw [if_pos (show 0 ≤ a ∧ a ≤ 63 ∧ 0 ≤ b ∧ b ≤ 11 ∧ 0 ≤ c ∧ c ≤ 11 ∧ b ≤ c ∧ 0 ≤ x ∧ x ≤ 1 ∧ 1 ≤ y ∧ y ≤ 99 by omega), if_neg (show ¬ (g79 2 < 8) by omega)]; exact (show _ = ent 77 ((uI (uI g77 0 0) 1 ((-5)))) from E92)) | (rw [if_neg (show ¬ (0 ≤ a ∧ a ≤ 63 ∧ 0 ≤ b ∧ b ≤ 11 ∧ 0 ≤ c ∧ c ≤ 11 ∧ b ≤ c ∧ 0 ≤ x ∧ x ≤ 1 ∧ 1 ≤ y ∧ y ≤ 99) by omega), if_pos (show g79 2 < 8 by omega)]; exact (show _ = ent 77 ((uI (uI g77 0 0) 1 ((-5)))) from E92)) | (rw [if_neg (show ¬ (0 ≤ a ∧ a ≤ 63 ∧ 0 ≤ b ∧ b ≤ 11 ∧ 0 ≤ c ∧ c ≤ 11 ∧ b ≤ c ∧ 0 ≤ x ∧ x ≤ 1 ∧ 1 ≤ y ∧ y ≤ 99) by omega), if_neg (show ¬ (g79 2 < 8) by omega)]; exact (show _ = ent 77 ((uI (uI g77 0 0) 1 ((-5)))) from E92))), fun j m79 m78 m77 => ((F91 j m77 m78).trans (F3 j m77))⟩ | omega)
            · refine v_aload_n dX12_contract_55 rfl ?_
              refine v_iconstI dX12_contract_56 ?_
              have H93 := ((F3 78 (by decide)).trans (H78.trans (ent_78 _)))
              refine v_callV dX12_contract_57 ml_X12_179 (sp_X12_tell_1  (g77 := (uI g77 0 0)) (g78 := g78) hn (show _ = ent 77 (uI g77 0 0) from E2) (show _ = ent 78 g78 from H93)) E2 rfl (s_lt hn rfl) rfl rfl (Nat.le_of_ble_eq_true rfl) (Nat.le_of_ble_eq_true rfl) (Nat.zero_le _) (Nat.zero_le _) ⟨Or.inl (fun _ _ _ q => q.2.1), fun r n1 h94 q95 => ?_⟩
              obtain ⟨rfl, rfl, E96, E97, F98⟩ := q95
              dsimp only [s_push]
              have E99 : _ = (.inr (12, [.int (iI 0), .int (iI ((-1))), .ref 78, .ref 79, .ref 80, .ref 81, .int (iI (g77 6)), .ref 82, .int (iI (g77 8)), .int (iI (g77 9)), .int (iI (g77 10)), .int (iI (g77 11)), .long (jJ (g77 12)), .int (iI (g77 13)), .int (iI (g77 14)), .int (iI (g77 15)), .int (iI (g77 16)), .ref 83, .int (iI (g77 18)), .ref 84, .ref 85, .int (iI (g77 21)), .ref 86, .ref 87, .int (iI (g77 24)), .int (iI (g77 25)), .ref 88, .ref 89, .ref 90, .int (iI (g77 29)), .ref 91, .ref 92, .ref 93, .int (iI (g77 33)), .long (jJ (g77 34)), .long (jJ (g77 35)), .ref 94, .ref 95, .ref 96, .ref 97, .ref 98, .ref 99, .ref 100, .ref 101, .ref 102, .ref 103, .ref 104, .ref 105, .ref 106, .ref 107, .int (iI (g77 50)), .ref 108, .ref 109, .ref 110, .ref 111, .ref 112, .ref 113, .int (iI (g77 57)), .int (iI (g77 58)), .int (iI (g77 59)), .int (iI (g77 60)), .long (jJ (g77 61)), .ref 114, .int (iI (g77 63))]) : sE) := E96
              exact v_iret dX12_contract_60 rfl (Nat.zero_le _) (Nat.zero_le _) (by first | exact ⟨(congrArg (fun x => some (Value.int x)) (congrArg iI (by first | rfl | omega | (split <;> first | rfl | omega | (split <;> first | rfl | omega))))), rfl, (by first | exact (show _ = ent 79 g79 from ((F98 79 (by decide) (by decide)).trans ((F3 79 (by decide)).trans (H79.trans (ent_79 _))))) | (rw [if_pos (show 0 ≤ a ∧ a ≤ 63 ∧ 0 ≤ b ∧ b ≤ 11 ∧ 0 ≤ c ∧ c ≤ 11 ∧ b ≤ c ∧ 0 ≤ x ∧ x ≤ 1 ∧ 1 ≤ y ∧ y ≤ 99 by omega)]; exact (show _ = ent 79 g79 from ((F98 79 (by decide) (by decide)).trans ((F3 79 (by decide)).trans (H79.trans (ent_79 _)))))) | (rw [if_neg (show ¬ (0 ≤ a ∧ a ≤ 63 ∧ 0 ≤ b ∧ b ≤ 11 ∧ 0 ≤ c ∧ c ≤ 11 ∧ b ≤ c ∧ 0 ≤ x ∧ x ≤ 1 ∧ 1 ≤ y ∧ y ≤ 99) by omega)]; exact (show _ = ent 79 g79 from ((F98 79 (by decide) (by decide)).trans ((F3 79 (by decide)).trans (H79.trans (ent_79 _)))))) | (rw [if_pos (show 0 ≤ a ∧ a ≤ 63 ∧ 0 ≤ b ∧ b ≤ 11 ∧ 0 ≤ c ∧ c ≤ 11 ∧ b ≤ c ∧ 0 ≤ x ∧ x ≤ 1 ∧ 1 ≤ y ∧ y ≤ 99 by omega), if_pos (show g79 2 < 8 by omega)]; exact (show _ = ent 79 g79 from ((F98 79 (by decide) (by decide)).trans ((F3 79 (by decide)).trans (H79.trans (ent_79 _)))))) | (rw [if_pos (show 0 ≤ a ∧ a ≤ 63 ∧ 0 ≤ b ∧ b ≤ 11 ∧ 0 ≤ c ∧ c ≤ 11 ∧ b ≤ c ∧ 0 ≤ x ∧ x ≤ 1 ∧ 1 ≤ y ∧ y ≤ 99 by omega), if_neg (show ¬ (g79 2 < 8) by omega)]; exact (show _ = ent 79 g79 from ((F98 79 (by decide) (by decide)).trans ((F3 79 (by decide)).trans (H79.trans (ent_79 _)))))) | (rw [if_neg (show ¬ (0 ≤ a ∧ a ≤ 63 ∧ 0 ≤ b ∧ b ≤ 11 ∧ 0 ≤ c ∧ c ≤ 11 ∧ b ≤ c ∧ 0 ≤ x ∧ x ≤ 1 ∧ 1 ≤ y ∧ y ≤ 99) by omega), if_pos (show g79 2 < 8 by omega)]; exact (show _ = ent 79 g79 from ((F98 79 (by decide) (by decide)).trans ((F3 79 (by decide)).trans (H79.trans (ent_79 _)))))) | (rw [if_neg (show ¬ (0 ≤ a ∧ a ≤ 63 ∧ 0 ≤ b ∧ b ≤ 11 ∧ 0 ≤ c ∧ c ≤ 11 ∧ b ≤ c ∧ 0 ≤ x ∧ x ≤ 1 ∧ 1 ≤ y ∧ y ≤ 99) by omega), if_neg (show ¬ (g79 2 < 8) by omega)]; exact (show _ = ent 79 g79 from ((F98 79 (by decide) (by decide)).trans ((F3 79 (by decide)).trans (H79.trans (ent_79 _))))))), (by first | exact (show _ = ent 78 (uI (g78) 1 (g78 1 + 1)) from (E97.trans (ent_78 _))) | (rw [if_pos (show 0 ≤ a ∧ a ≤ 63 ∧ 0 ≤ b ∧ b ≤ 11 ∧ 0 ≤ c ∧ c ≤ 11 ∧ b ≤ c ∧ 0 ≤ x ∧ x ≤ 1 ∧ 1 ≤ y ∧ y ≤ 99 by omega)]; exact (show _ = ent 78 (uI (g78) 1 (g78 1 + 1)) from (E97.trans (ent_78 _)))) | (rw [if_neg (show ¬ (0 ≤ a ∧ a ≤ 63 ∧ 0 ≤ b ∧ b ≤ 11 ∧ 0 ≤ c ∧ c ≤ 11 ∧ b ≤ c ∧ 0 ≤ x ∧ x ≤ 1 ∧ 1 ≤ y ∧ y ≤ 99) by omega)]; exact (show _ = ent 78 (uI (g78) 1 (g78 1 + 1)) from (E97.trans (ent_78 _)))) | (rw [if_pos (show 0 ≤ a ∧ a ≤ 63 ∧ 0 ≤ b ∧ b ≤ 11 ∧ 0 ≤ c ∧ c ≤ 11 ∧ b ≤ c ∧ 0 ≤ x ∧ x ≤ 1 ∧ 1 ≤ y ∧ y ≤ 99 by omega), if_pos (show g79 2 < 8 by omega)]; exact (show _ = ent 78 (uI (g78) 1 (g78 1 + 1)) from (E97.trans (ent_78 _)))) | (rw [if_pos (show 0 ≤ a ∧ a ≤ 63 ∧ 0 ≤ b ∧ b ≤ 11 ∧ 0 ≤ c ∧ c ≤ 11 ∧ b ≤ c ∧ 0 ≤ x ∧ x ≤ 1 ∧ 1 ≤ y ∧ y ≤ 99 by omega), if_neg (show ¬ (g79 2 < 8) by omega)]; exact (show _ = ent 78 (uI (g78) 1 (g78 1 + 1)) from (E97.trans (ent_78 _)))) | (rw [if_neg (show ¬ (0 ≤ a ∧ a ≤ 63 ∧ 0 ≤ b ∧ b ≤ 11 ∧ 0 ≤ c ∧ c ≤ 11 ∧ b ≤ c ∧ 0 ≤ x ∧ x ≤ 1 ∧ 1 ≤ y ∧ y ≤ 99) by omega), if_pos (show g79 2 < 8 by omega)]; exact (show _ = ent 78 (uI (g78) 1 (g78 1 + 1)) from (E97.trans (ent_78 _)))) | (rw [if_neg (show ¬ (0 ≤ a ∧ a ≤ 63 ∧ 0 ≤ b ∧ b ≤ 11 ∧ 0 ≤ c ∧ c ≤ 11 ∧ b ≤ c ∧ 0 ≤ x ∧ x ≤ 1 ∧ 1 ≤ y ∧ y ≤ 99) by omega), if_neg (show ¬ (g79 2 < 8) by omega)]; exact (show _ = ent 78 (uI (g78) 1 (g78 1 + 1)) from (E97.trans (ent_78 _))))), (by first | exact (show _ = ent 77 ((uI (uI g77 0 0) 1 ((-1)))) from E99) | (rw [if_pos (show 0 ≤ a ∧ a ≤ 63 ∧ 0 ≤ b ∧ b ≤ 11 ∧ 0 ≤ c ∧ c ≤ 11 ∧ b ≤ c ∧ 0 ≤ x ∧ x ≤ 1 ∧ 1 ≤ y ∧ y ≤ 99 by omega)]; exact (show _ = ent 77 ((uI (uI g77 0 0) 1 ((-1)))) from E99)) | (rw [if_neg (show ¬ (0 ≤ a ∧ a ≤ 63 ∧ 0 ≤ b ∧ b ≤ 11 ∧ 0 ≤ c ∧ c ≤ 11 ∧ b ≤ c ∧ 0 ≤ x ∧ x ≤ 1 ∧ 1 ≤ y ∧ y ≤ 99) by omega)]; exact (show _ = ent 77 ((uI (uI g77 0 0) 1 ((-1)))) from E99)) | (rw [if_pos (show 0 ≤ a ∧ a ≤ 63 ∧ 0 ≤ b ∧ b ≤ 11 ∧ 0 ≤ c ∧ c ≤ 11 ∧ b ≤ c ∧ 0 ≤ x ∧ x ≤ 1 ∧ 1 ≤ y ∧ y ≤ 99 by omega), if_pos (show g79 2 < 8 by omega)]; exact (show _ = ent 77 ((uI (uI g77 0 0) 1 ((-1)))) from E99)) | (rw [if_pos (show 0 ≤ a ∧ a ≤ 63 ∧ 0 ≤ b ∧ b ≤ 11 ∧ 0 ≤ c ∧ c ≤ 11 ∧ b ≤ c ∧ 0 ≤ x ∧ x ≤ 1 ∧ 1 ≤ y ∧ y ≤ 99 by omega), if_neg (show ¬ (g79 2 < 8) by omega)]; exact (show _ = ent 77 ((uI (uI g77 0 0) 1 ((-1)))) from E99)) | (rw [if_neg (show ¬ (0 ≤ a ∧ a ≤ 63 ∧ 0 ≤ b ∧ b ≤ 11 ∧ 0 ≤ c ∧ c ≤ 11 ∧ b ≤ c ∧ 0 ≤ x ∧ x ≤ 1 ∧ 1 ≤ y ∧ y ≤ 99) by omega), if_pos (show g79 2 < 8 by omega)]; exact (show _ = ent 77 ((uI (uI g77 0 0) 1 ((-1)))) from E99)) | (rw [if_neg (show ¬ (0 ≤ a ∧ a ≤ 63 ∧ 0 ≤ b ∧ b ≤ 11 ∧ 0 ≤ c ∧ c ≤ 11 ∧ b ≤ c ∧ 0 ≤ x ∧ x ≤ 1 ∧ 1 ≤ y ∧ y ≤ 99) by omega), if_neg (show ¬ (g79 2 < 8) by omega)]; exact (show _ = ent 77 ((uI (uI g77 0 0) 1 ((-1)))) from E99))), fun j m79 m78 m77 => ((F98 j m77 m78).trans (F3 j m77))⟩ | omega)
theorem dX12_cancel_0 : decode cX12_cancel 0 = .ok (.aload_n 0, 1) := by decide +kernel
theorem dX12_cancel_1 : decode cX12_cancel 1 = .ok (.iconst 0, 1) := by decide +kernel
theorem dX12_cancel_2 : decode cX12_cancel 2 = .ok (.putfield 169, 3) := by decide +kernel
theorem dX12_cancel_5 : decode cX12_cancel 5 = .ok (.aload_n 0, 1) := by decide +kernel
theorem dX12_cancel_6 : decode cX12_cancel 6 = .ok (.getfield 13, 3) := by decide +kernel
theorem dX12_cancel_9 : decode cX12_cancel 9 = .ok (.iconst 2, 1) := by decide +kernel
theorem dX12_cancel_10 : decode cX12_cancel 10 = .ok (.iaload, 1) := by decide +kernel
theorem dX12_cancel_11 : decode cX12_cancel 11 = .ok (.istore_n 1, 1) := by decide +kernel
theorem dX12_cancel_12 : decode cX12_cancel 12 = .ok (.aload_n 0, 1) := by decide +kernel
theorem dX12_cancel_13 : decode cX12_cancel 13 = .ok (.getfield 13, 3) := by decide +kernel
theorem dX12_cancel_16 : decode cX12_cancel 16 = .ok (.iconst 2, 1) := by decide +kernel
theorem dX12_cancel_17 : decode cX12_cancel 17 = .ok (.iconst 0, 1) := by decide +kernel
theorem dX12_cancel_18 : decode cX12_cancel 18 = .ok (.iastore, 1) := by decide +kernel
theorem dX12_cancel_19 : decode cX12_cancel 19 = .ok (.iload_n 1, 1) := by decide +kernel
theorem dX12_cancel_20 : decode cX12_cancel 20 = .ok (.ireturn, 1) := by decide +kernel
theorem sp_X12_cancel {n : Nat} {h : Nat → sE}   {g77 g79 : Int → Int} (hn : 115 ≤ n) (H77 : h 77 = ent 77 g77) (H79 : h 79 = ent 79 g79)  : Sp m_X12_cancel 3 0 0 [.ref 77] n h (fun r n' h' => r = some (.int (iI (g79 2))) ∧ n' = n ∧ h' 79 = ent 79 (uI (g79) 2 0) ∧ h' 77 = ent 77 ((uI g77 0 0)) ∧ ∀ j, j ≠ 79 → j ≠ 77 → h' j = h j) := by
  refine Sp.ofV (by decide +kernel) (Nat.le_of_ble_eq_true rfl) ?_
  refine v_aload_n dX12_cancel_0 rfl ?_
  refine v_iconstI dX12_cancel_1 ?_
  refine v_put dX12_cancel_2 fl_X12_169 (H77.trans (ent_77 _)) (s_lt hn rfl) (Nat.le_of_ble_eq_true rfl) (fun _ => ⟨rfl, rfl⟩) trivial (fun h1 E2 F3 => ?_)
  refine v_aload_n dX12_cancel_5 rfl ?_
  refine v_get dX12_cancel_6 fl_X12_13 E2 rfl (s_lt hn rfl) ?_
  refine v_iconstI dX12_cancel_9 ?_
  have H4 := ((F3 79 (by decide)).trans (H79.trans (ent_79 _)))
  refine v_ialdI dX12_cancel_10 H4 (s_lt hn rfl) (by omega) (by omega) (by omega) ?_
  refine v_istore_n dX12_cancel_11 (Nat.le_of_ble_eq_true rfl) ?_
  refine v_aload_n dX12_cancel_12 rfl ?_
  refine v_get dX12_cancel_13 fl_X12_13 E2 rfl (s_lt hn rfl) ?_
  refine v_iconstI dX12_cancel_16 ?_
  refine v_iconstI dX12_cancel_17 ?_
  refine v_iastI dX12_cancel_18 H4 (s_lt hn rfl) (by omega) (by omega) (by omega) (fun h5 E6 F7 => ?_)
  refine v_iload_n dX12_cancel_19 rfl ?_
  exact v_iret dX12_cancel_20 rfl (Nat.zero_le _) (Nat.zero_le _) (by first | exact ⟨(congrArg (fun x => some (Value.int x)) (congrArg iI (by first | rfl | omega | (split <;> first | rfl | omega | (split <;> first | rfl | omega))))), rfl, (by first | exact (show _ = ent 79 (uI g79 2 0) from E6) | (rw [if_pos (by omega)]; exact (show _ = ent 79 (uI g79 2 0) from E6)) | (rw [if_neg (by omega)]; exact (show _ = ent 79 (uI g79 2 0) from E6))), (by first | exact (show _ = ent 77 (uI g77 0 0) from ((F7 77 (by decide)).trans E2)) | (rw [if_pos (by omega)]; exact (show _ = ent 77 (uI g77 0 0) from ((F7 77 (by decide)).trans E2))) | (rw [if_neg (by omega)]; exact (show _ = ent 77 (uI g77 0 0) from ((F7 77 (by decide)).trans E2)))), fun j m79 m77 => ((F7 j m79).trans (F3 j m77))⟩ | omega)
theorem dX12_forget_0 : decode cX12_forget 0 = .ok (.aload_n 0, 1) := by decide +kernel
theorem dX12_forget_1 : decode cX12_forget 1 = .ok (.iconst 0, 1) := by decide +kernel
theorem dX12_forget_2 : decode cX12_forget 2 = .ok (.putfield 169, 3) := by decide +kernel
theorem dX12_forget_5 : decode cX12_forget 5 = .ok (.aload_n 0, 1) := by decide +kernel
theorem dX12_forget_6 : decode cX12_forget 6 = .ok (.getfield 13, 3) := by decide +kernel
theorem dX12_forget_9 : decode cX12_forget 9 = .ok (.iconst 3, 1) := by decide +kernel
theorem dX12_forget_10 : decode cX12_forget 10 = .ok (.iaload, 1) := by decide +kernel
theorem dX12_forget_11 : decode cX12_forget 11 = .ok (.istore_n 1, 1) := by decide +kernel
theorem dX12_forget_12 : decode cX12_forget 12 = .ok (.aload_n 0, 1) := by decide +kernel
theorem dX12_forget_13 : decode cX12_forget 13 = .ok (.getfield 13, 3) := by decide +kernel
theorem dX12_forget_16 : decode cX12_forget 16 = .ok (.iconst 3, 1) := by decide +kernel
theorem dX12_forget_17 : decode cX12_forget 17 = .ok (.iconst 0, 1) := by decide +kernel
theorem dX12_forget_18 : decode cX12_forget 18 = .ok (.iastore, 1) := by decide +kernel
theorem dX12_forget_19 : decode cX12_forget 19 = .ok (.iload_n 1, 1) := by decide +kernel
theorem dX12_forget_20 : decode cX12_forget 20 = .ok (.ireturn, 1) := by decide +kernel
theorem sp_X12_forget {n : Nat} {h : Nat → sE}   {g77 g79 : Int → Int} (hn : 115 ≤ n) (H77 : h 77 = ent 77 g77) (H79 : h 79 = ent 79 g79)  : Sp m_X12_forget 3 0 0 [.ref 77] n h (fun r n' h' => r = some (.int (iI (g79 3))) ∧ n' = n ∧ h' 79 = ent 79 (uI (g79) 3 0) ∧ h' 77 = ent 77 ((uI g77 0 0)) ∧ ∀ j, j ≠ 79 → j ≠ 77 → h' j = h j) := by
  refine Sp.ofV (by decide +kernel) (Nat.le_of_ble_eq_true rfl) ?_
  refine v_aload_n dX12_forget_0 rfl ?_
  refine v_iconstI dX12_forget_1 ?_
  refine v_put dX12_forget_2 fl_X12_169 (H77.trans (ent_77 _)) (s_lt hn rfl) (Nat.le_of_ble_eq_true rfl) (fun _ => ⟨rfl, rfl⟩) trivial (fun h1 E2 F3 => ?_)
  refine v_aload_n dX12_forget_5 rfl ?_
  refine v_get dX12_forget_6 fl_X12_13 E2 rfl (s_lt hn rfl) ?_
  refine v_iconstI dX12_forget_9 ?_
  have H4 := ((F3 79 (by decide)).trans (H79.trans (ent_79 _)))
  refine v_ialdI dX12_forget_10 H4 (s_lt hn rfl) (by omega) (by omega) (by omega) ?_
  refine v_istore_n dX12_forget_11 (Nat.le_of_ble_eq_true rfl) ?_
  refine v_aload_n dX12_forget_12 rfl ?_
  refine v_get dX12_forget_13 fl_X12_13 E2 rfl (s_lt hn rfl) ?_
  refine v_iconstI dX12_forget_16 ?_
  refine v_iconstI dX12_forget_17 ?_
  refine v_iastI dX12_forget_18 H4 (s_lt hn rfl) (by omega) (by omega) (by omega) (fun h5 E6 F7 => ?_)
  refine v_iload_n dX12_forget_19 rfl ?_
  exact v_iret dX12_forget_20 rfl (Nat.zero_le _) (Nat.zero_le _) (by first | exact ⟨(congrArg (fun x => some (Value.int x)) (congrArg iI (by first | rfl | omega | (split <;> first | rfl | omega | (split <;> first | rfl | omega))))), rfl, (by first | exact (show _ = ent 79 (uI g79 3 0) from E6) | (rw [if_pos (by omega)]; exact (show _ = ent 79 (uI g79 3 0) from E6)) | (rw [if_neg (by omega)]; exact (show _ = ent 79 (uI g79 3 0) from E6))), (by first | exact (show _ = ent 77 (uI g77 0 0) from ((F7 77 (by decide)).trans E2)) | (rw [if_pos (by omega)]; exact (show _ = ent 77 (uI g77 0 0) from ((F7 77 (by decide)).trans E2))) | (rw [if_neg (by omega)]; exact (show _ = ent 77 (uI g77 0 0) from ((F7 77 (by decide)).trans E2)))), fun j m79 m77 => ((F7 j m79).trans (F3 j m77))⟩ | omega)
theorem dX12_terms_0 : decode cX12_terms 0 = .ok (.aload_n 0, 1) := by decide +kernel
theorem dX12_terms_1 : decode cX12_terms 1 = .ok (.iconst 0, 1) := by decide +kernel
theorem dX12_terms_2 : decode cX12_terms 2 = .ok (.putfield 169, 3) := by decide +kernel
theorem dX12_terms_5 : decode cX12_terms 5 = .ok (.iload_n 1, 1) := by decide +kernel
theorem dX12_terms_6 : decode cX12_terms 6 = .ok (.ifCond .ne 15, 3) := by decide +kernel
theorem dX12_terms_9 : decode cX12_terms 9 = .ok (.iload_n 2, 1) := by decide +kernel
theorem dX12_terms_10 : decode cX12_terms 10 = .ok (.i2l, 1) := by decide +kernel
theorem dX12_terms_11 : decode cX12_terms 11 = .ok (.lconst 0, 1) := by decide +kernel
theorem dX12_terms_12 : decode cX12_terms 12 = .ok (.ldc2_w 191, 3) := by decide +kernel
theorem dX12_terms_15 : decode cX12_terms 15 = .ok (.invokestatic 175, 3) := by decide +kernel
theorem dX12_terms_18 : decode cX12_terms 18 = .ok (.goto 42, 3) := by decide +kernel
theorem dX12_terms_21 : decode cX12_terms 21 = .ok (.iload_n 1, 1) := by decide +kernel
theorem dX12_terms_22 : decode cX12_terms 22 = .ok (.iconst 1, 1) := by decide +kernel
theorem dX12_terms_23 : decode cX12_terms 23 = .ok (.if_icmp .ne 15, 3) := by decide +kernel
theorem dX12_terms_26 : decode cX12_terms 26 = .ok (.iload_n 2, 1) := by decide +kernel
theorem dX12_terms_27 : decode cX12_terms 27 = .ok (.i2l, 1) := by decide +kernel
theorem dX12_terms_28 : decode cX12_terms 28 = .ok (.lconst 0, 1) := by decide +kernel
theorem dX12_terms_29 : decode cX12_terms 29 = .ok (.ldc2_w 227, 3) := by decide +kernel
theorem dX12_terms_32 : decode cX12_terms 32 = .ok (.invokestatic 175, 3) := by decide +kernel
theorem dX12_terms_35 : decode cX12_terms 35 = .ok (.goto 25, 3) := by decide +kernel
theorem dX12_terms_38 : decode cX12_terms 38 = .ok (.iload_n 1, 1) := by decide +kernel
theorem dX12_terms_39 : decode cX12_terms 39 = .ok (.iconst 2, 1) := by decide +kernel
theorem dX12_terms_40 : decode cX12_terms 40 = .ok (.if_icmp .ne 19, 3) := by decide +kernel
theorem dX12_terms_43 : decode cX12_terms 43 = .ok (.iload_n 2, 1) := by decide +kernel
theorem dX12_terms_44 : decode cX12_terms 44 = .ok (.i2l, 1) := by decide +kernel
theorem dX12_terms_45 : decode cX12_terms 45 = .ok (.lconst 0, 1) := by decide +kernel
theorem dX12_terms_46 : decode cX12_terms 46 = .ok (.ldc2_w 239, 3) := by decide +kernel
theorem dX12_terms_49 : decode cX12_terms 49 = .ok (.invokestatic 175, 3) := by decide +kernel
theorem dX12_terms_52 : decode cX12_terms 52 = .ok (.ifCond .eq 7, 3) := by decide +kernel
theorem dX12_terms_55 : decode cX12_terms 55 = .ok (.iconst 1, 1) := by decide +kernel
theorem dX12_terms_56 : decode cX12_terms 56 = .ok (.goto 4, 3) := by decide +kernel
theorem dX12_terms_59 : decode cX12_terms 59 = .ok (.iconst 0, 1) := by decide +kernel
theorem dX12_terms_60 : decode cX12_terms 60 = .ok (.istore_n 3, 1) := by decide +kernel
theorem dX12_terms_61 : decode cX12_terms 61 = .ok (.iload_n 3, 1) := by decide +kernel
theorem dX12_terms_62 : decode cX12_terms 62 = .ok (.ifCond .eq 15, 3) := by decide +kernel
theorem dX12_terms_65 : decode cX12_terms 65 = .ok (.aload_n 0, 1) := by decide +kernel
theorem dX12_terms_66 : decode cX12_terms 66 = .ok (.bipush 6, 2) := by decide +kernel
theorem dX12_terms_68 : decode cX12_terms 68 = .ok (.iload_n 1, 1) := by decide +kernel
theorem dX12_terms_69 : decode cX12_terms 69 = .ok (.iadd, 1) := by decide +kernel
theorem dX12_terms_70 : decode cX12_terms 70 = .ok (.iload_n 2, 1) := by decide +kernel
theorem dX12_terms_71 : decode cX12_terms 71 = .ok (.invokevirtual 199, 3) := by decide +kernel
theorem dX12_terms_74 : decode cX12_terms 74 = .ok (.goto 8, 3) := by decide +kernel
theorem dX12_terms_77 : decode cX12_terms 77 = .ok (.aload_n 0, 1) := by decide +kernel
theorem dX12_terms_78 : decode cX12_terms 78 = .ok (.iconst (-1), 1) := by decide +kernel
theorem dX12_terms_79 : decode cX12_terms 79 = .ok (.invokevirtual 179, 3) := by decide +kernel
theorem dX12_terms_82 : decode cX12_terms 82 = .ok (.ireturn, 1) := by decide +kernel
theorem sp_X12_terms {n : Nat} {h : Nat → sE} {a b : Int}  {g77 g79 g78 : Int → Int} (hn : 115 ≤ n) (H77 : h 77 = ent 77 g77) (H79 : h 79 = ent 79 g79) (H78 : h 78 = ent 78 g78) (ra : -2147483648 ≤ a ∧ a ≤ 2147483647) (rb : -2147483648 ≤ b ∧ b ≤ 2147483647) : Sp m_X12_terms 3 0 0 [.ref 77, .int (iI a), .int (iI b)] n h (fun r n' h' => r = some (.int (iI (if (a = 0 ∧ 0 ≤ b ∧ b ≤ 99) ∨ (a = 1 ∧ 0 ≤ b ∧ b ≤ 10) ∨ (a = 2 ∧ 0 ≤ b ∧ b ≤ 9) then g79 (6 + a) else -1))) ∧ n' = n ∧ h' 79 = ent 79 (if (a = 0 ∧ 0 ≤ b ∧ b ≤ 99) ∨ (a = 1 ∧ 0 ≤ b ∧ b ≤ 10) ∨ (a = 2 ∧ 0 ≤ b ∧ b ≤ 9) then uI (g79) (6 + a) b else g79) ∧ h' 78 = ent 78 (if (a = 0 ∧ 0 ≤ b ∧ b ≤ 99) ∨ (a = 1 ∧ 0 ≤ b ∧ b ≤ 10) ∨ (a = 2 ∧ 0 ≤ b ∧ b ≤ 9) then g78 else uI (g78) 1 (g78 1 + 1)) ∧ h' 77 = ent 77 ((uI (uI g77 0 0) 1 (if (a = 0 ∧ 0 ≤ b ∧ b ≤ 99) ∨ (a = 1 ∧ 0 ≤ b ∧ b ≤ 10) ∨ (a = 2 ∧ 0 ≤ b ∧ b ≤ 9) then 0 else -1))) ∧ ∀ j, j ≠ 79 → j ≠ 78 → j ≠ 77 → h' j = h j) := by
  refine Sp.ofV (by decide +kernel) (Nat.le_of_ble_eq_true rfl) ?_
  refine v_aload_n dX12_terms_0 rfl ?_
  refine v_iconstI dX12_terms_1 ?_
  refine v_put dX12_terms_2 fl_X12_169 (H77.trans (ent_77 _)) (s_lt hn rfl) (Nat.le_of_ble_eq_true rfl) (fun _ => ⟨rfl, rfl⟩) trivial (fun h1 E2 F3 => ?_)
  refine v_iload_n dX12_terms_5 rfl ?_
  refine v_if_neI (tgt := 21) dX12_terms_6 (by decide) (by omega) (by omega) (fun c_4 => ?_) (fun c_4 => ?_)
  · refine v_iload_n dX12_terms_21 rfl ?_
    refine v_iconstI dX12_terms_22 ?_
    refine v_icmp_neI (tgt := 38) dX12_terms_23 (by decide) (by omega) (by omega) (by omega) (by omega) (fun c_5 => ?_) (fun c_5 => ?_)
    · refine v_iload_n dX12_terms_38 rfl ?_
      refine v_iconstI dX12_terms_39 ?_
      refine v_icmp_neI (tgt := 59) dX12_terms_40 (by decide) (by omega) (by omega) (by omega) (by omega) (fun c_6 => ?_) (fun c_6 => ?_)
      · refine v_iconstI dX12_terms_59 ?_
        refine v_istore_n dX12_terms_60 (Nat.le_of_ble_eq_true rfl) ?_
        refine v_iload_n dX12_terms_61 rfl ?_
        refine v_if_eqI (tgt := 77) dX12_terms_62 (by decide) (by decide) (by decide) (fun _ => ?_) (fun c => absurd c (by decide))
        refine v_aload_n dX12_terms_77 rfl ?_
        refine v_iconstI dX12_terms_78 ?_
        have H7 := ((F3 78 (by decide)).trans (H78.trans (ent_78 _)))
        refine v_callV dX12_terms_79 ml_X12_179 (sp_X12_tell_1  (g77 := (uI g77 0 0)) (g78 := g78) hn (show _ = ent 77 (uI g77 0 0) from E2) (show _ = ent 78 g78 from H7)) E2 rfl (s_lt hn rfl) rfl rfl (Nat.le_of_ble_eq_true rfl) (Nat.le_of_ble_eq_true rfl) (Nat.zero_le _) (Nat.zero_le _) ⟨Or.inl (fun _ _ _ q => q.2.1), fun r n1 h8 q9 => ?_⟩
        obtain ⟨rfl, rfl, E10, E11, F12⟩ := q9
        dsimp only [s_push]
        have E13 : _ = (.inr (12, [.int (iI 0), .int (iI ((-1))), .ref 78, .ref 79, .ref 80, .ref 81, .int (iI (g77 6)), .ref 82, .int (iI (g77 8)), .int (iI (g77 9)), .int (iI (g77 10)), .int (iI (g77 11)), .long (jJ (g77 12)), .int (iI (g77 13)), .int (iI (g77 14)), .int (iI (g77 15)), .int (iI (g77 16)), .ref 83, .int (iI (g77 18)), .ref 84, .ref 85, .int (iI (g77 21)), .ref 86, .ref 87, .int (iI (g77 24)), .int (iI (g77 25)), .ref 88, .ref 89, .ref 90, .int (iI (g77 29)), .ref 91, .ref 92, .ref 93, .int (iI (g77 33)), .long (jJ (g77 34)), .long (jJ (g77 35)), .ref 94, .ref 95, .ref 96, .ref 97, .ref 98, .ref 99, .ref 100, .ref 101, .ref 102, .ref 103, .ref 104, .ref 105, .ref 106, .ref 107, .int (iI (g77 50)), .ref 108, .ref 109, .ref 110, .ref 111, .ref 112, .ref 113, .int (iI (g77 57)), .int (iI (g77 58)), .int (iI (g77 59)), .int (iI (g77 60)), .long (jJ (g77 61)), .ref 114, .int (iI (g77 63))]) : sE) := E10
        exact v_iret dX12_terms_82 rfl (Nat.zero_le _) (Nat.zero_le _) (by first | exact ⟨(congrArg (fun x => some (Value.int x)) (congrArg iI (by first | rfl | omega | (split <;> first | rfl | omega | (split <;> first | rfl | omega))))), rfl, (by first | exact (show _ = ent 79 g79 from ((F12 79 (by decide) (by decide)).trans ((F3 79 (by decide)).trans (H79.trans (ent_79 _))))) | (rw [if_pos (show (a = 0 ∧ 0 ≤ b ∧ b ≤ 99) ∨ (a = 1 ∧ 0 ≤ b ∧ b ≤ 10) ∨ (a = 2 ∧ 0 ≤ b ∧ b ≤ 9) by omega)]; exact (show _ = ent 79 g79 from ((F12 79 (by decide) (by decide)).trans ((F3 79 (by decide)).trans (H79.trans (ent_79 _)))))) | (rw [if_neg (show ¬ ((a = 0 ∧ 0 ≤ b ∧ b ≤ 99) ∨ (a = 1 ∧ 0 ≤ b ∧ b ≤ 10) ∨ (a = 2 ∧ 0 ≤ b ∧ b ≤ 9)) by omega)]; exact (show _ = ent 79 g79 from ((F12 79 (by decide) (by decide)).trans ((F3 79 (by decide)).trans (H79.trans (ent_79 _))))))), (by first | exact (show _ = ent 78 (uI (g78) 1 (g78 1 + 1)) from (E11.trans (ent_78 _))) | (rw [if_pos (show (a = 0 ∧ 0 ≤ b ∧ b ≤ 99) ∨ (a = 1 ∧ 0 ≤ b ∧ b ≤ 10) ∨ (a = 2 ∧ 0 ≤ b ∧ b ≤ 9) by omega)]; exact (show _ = ent 78 (uI (g78) 1 (g78 1 + 1)) from (E11.trans (ent_78 _)))) | (rw [if_neg (show ¬ ((a = 0 ∧ 0 ≤ b ∧ b ≤ 99) ∨ (a = 1 ∧ 0 ≤ b ∧ b ≤ 10) ∨ (a = 2 ∧ 0 ≤ b ∧ b ≤ 9)) by omega)]; exact (show _ = ent 78 (uI (g78) 1 (g78 1 + 1)) from (E11.trans (ent_78 _))))), (by first | exact (show _ = ent 77 ((uI (uI g77 0 0) 1 ((-1)))) from E13) | (rw [if_pos (show (a = 0 ∧ 0 ≤ b ∧ b ≤ 99) ∨ (a = 1 ∧ 0 ≤ b ∧ b ≤ 10) ∨ (a = 2 ∧ 0 ≤ b ∧ b ≤ 9) by omega)]; exact (show _ = ent 77 ((uI (uI g77 0 0) 1 ((-1)))) from E13)) | (rw [if_neg (show ¬ ((a = 0 ∧ 0 ≤ b ∧ b ≤ 99) ∨ (a = 1 ∧ 0 ≤ b ∧ b ≤ 10) ∨ (a = 2 ∧ 0 ≤ b ∧ b ≤ 9)) by omega)]; exact (show _ = ent 77 ((uI (uI g77 0 0) 1 ((-1)))) from E13))), fun j m79 m78 m77 => ((F12 j m77 m78).trans (F3 j m77))⟩ | omega)
      · refine v_iload_n dX12_terms_43 rfl ?_
        refine v_i2lI dX12_terms_44 (by omega) (by omega) ?_
        refine v_lconstI (w := 0) dX12_terms_45 rfl ?_
        refine v_ldc2I 9 dX12_terms_46 k_X12_239 rfl ?_
        refine v_callS dX12_terms_49 ml_X12_175 (sp_X12_in (v := b) (lo := 0) (hi := 9)   (by omega) (by omega) (by omega)) rfl rfl (Nat.le_of_ble_eq_true rfl) (Nat.le_of_ble_eq_true rfl) (Nat.zero_le _) (Nat.zero_le _) ⟨Or.inl (fun _ _ _ q => q.2.1), fun r n1 h14 q15 => ?_⟩
        obtain ⟨rfl, rfl, rfl⟩ := q15
        try dsimp only [s_push]
        refine v_ifeqB (tgt := 59) dX12_terms_52 (by decide) (fun c_16 => ?_) (fun c_16 => ?_)
        · refine v_iconstI dX12_terms_59 ?_
          refine v_istore_n dX12_terms_60 (Nat.le_of_ble_eq_true rfl) ?_
          refine v_iload_n dX12_terms_61 rfl ?_
          refine v_if_eqI (tgt := 77) dX12_terms_62 (by decide) (by decide) (by decide) (fun _ => ?_) (fun c => absurd c (by decide))
          refine v_aload_n dX12_terms_77 rfl ?_
          refine v_iconstI dX12_terms_78 ?_
          have H17 := ((F3 78 (by decide)).trans (H78.trans (ent_78 _)))
          refine v_callV dX12_terms_79 ml_X12_179 (sp_X12_tell_1  (g77 := (uI g77 0 0)) (g78 := g78) hn (show _ = ent 77 (uI g77 0 0) from E2) (show _ = ent 78 g78 from H17)) E2 rfl (s_lt hn rfl) rfl rfl (Nat.le_of_ble_eq_true rfl) (Nat.le_of_ble_eq_true rfl) (Nat.zero_le _) (Nat.zero_le _) ⟨Or.inl (fun _ _ _ q => q.2.1), fun r n1 h18 q19 => ?_⟩
          obtain ⟨rfl, rfl, E20, E21, F22⟩ := q19
          dsimp only [s_push]
          have E23 : _ = (.inr (12, [.int (iI 0), .int (iI ((-1))), .ref 78, .ref 79, .ref 80, .ref 81, .int (iI (g77 6)), .ref 82, .int (iI (g77 8)), .int (iI (g77 9)), .int (iI (g77 10)), .int (iI (g77 11)), .long (jJ (g77 12)), .int (iI (g77 13)), .int (iI (g77 14)), .int (iI (g77 15)), .int (iI (g77 16)), .ref 83, .int (iI (g77 18)), .ref 84, .ref 85, .int (iI (g77 21)), .ref 86, .ref 87, .int (iI (g77 24)), .int (iI (g77 25)), .ref 88, .ref 89, .ref 90, .int (iI (g77 29)), .ref 91, .ref 92, .ref 93, .int (iI (g77 33)), .long (jJ (g77 34)), .long (jJ (g77 35)), .ref 94, .ref 95, .ref 96, .ref 97, .ref 98, .ref 99, .ref 100, .ref 101, .ref 102, .ref 103, .ref 104, .ref 105, .ref 106, .ref 107, .int (iI (g77 50)), .ref 108, .ref 109, .ref 110, .ref 111, .ref 112, .ref 113, .int (iI (g77 57)), .int (iI (g77 58)), .int (iI (g77 59)), .int (iI (g77 60)), .long (jJ (g77 61)), .ref 114, .int (iI (g77 63))]) : sE) := E20
          exact v_iret dX12_terms_82 rfl (Nat.zero_le _) (Nat.zero_le _) (by first | exact ⟨(congrArg (fun x => some (Value.int x)) (congrArg iI (by first | rfl | omega | (split <;> first | rfl | omega | (split <;> first | rfl | omega))))), rfl, (by first | exact (show _ = ent 79 g79 from ((F22 79 (by decide) (by decide)).trans ((F3 79 (by decide)).trans (H79.trans (ent_79 _))))) | (rw [if_pos (show (a = 0 ∧ 0 ≤ b ∧ b ≤ 99) ∨ (a = 1 ∧ 0 ≤ b ∧ b ≤ 10) ∨ (a = 2 ∧ 0 ≤ b ∧ b ≤ 9) by omega)]; exact (show _ = ent 79 g79 from ((F22 79 (by decide) (by decide)).trans ((F3 79 (by decide)).trans (H79.trans (ent_79 _)))))) | (rw [if_neg (show ¬ ((a = 0 ∧ 0 ≤ b ∧ b ≤ 99) ∨ (a = 1 ∧ 0 ≤ b ∧ b ≤ 10) ∨ (a = 2 ∧ 0 ≤ b ∧ b ≤ 9)) by omega)]; exact (show _ = ent 79 g79 from ((F22 79 (by decide) (by decide)).trans ((F3 79 (by decide)).trans (H79.trans (ent_79 _))))))), (by first | exact (show _ = ent 78 (uI (g78) 1 (g78 1 + 1)) from (E21.trans (ent_78 _))) | (rw [if_pos (show (a = 0 ∧ 0 ≤ b ∧ b ≤ 99) ∨ (a = 1 ∧ 0 ≤ b ∧ b ≤ 10) ∨ (a = 2 ∧ 0 ≤ b ∧ b ≤ 9) by omega)]; exact (show _ = ent 78 (uI (g78) 1 (g78 1 + 1)) from (E21.trans (ent_78 _)))) | (rw [if_neg (show ¬ ((a = 0 ∧ 0 ≤ b ∧ b ≤ 99) ∨ (a = 1 ∧ 0 ≤ b ∧ b ≤ 10) ∨ (a = 2 ∧ 0 ≤ b ∧ b ≤ 9)) by omega)]; exact (show _ = ent 78 (uI (g78) 1 (g78 1 + 1)) from (E21.trans (ent_78 _))))), (by first | exact (show _ = ent 77 ((uI (uI g77 0 0) 1 ((-1)))) from E23) | (rw [if_pos (show (a = 0 ∧ 0 ≤ b ∧ b ≤ 99) ∨ (a = 1 ∧ 0 ≤ b ∧ b ≤ 10) ∨ (a = 2 ∧ 0 ≤ b ∧ b ≤ 9) by omega)]; exact (show _ = ent 77 ((uI (uI g77 0 0) 1 ((-1)))) from E23)) | (rw [if_neg (show ¬ ((a = 0 ∧ 0 ≤ b ∧ b ≤ 99) ∨ (a = 1 ∧ 0 ≤ b ∧ b ≤ 10) ∨ (a = 2 ∧ 0 ≤ b ∧ b ≤ 9)) by omega)]; exact (show _ = ent 77 ((uI (uI g77 0 0) 1 ((-1)))) from E23))), fun j m79 m78 m77 => ((F22 j m77 m78).trans (F3 j m77))⟩ | omega)
        · refine v_iconstI dX12_terms_55 ?_
          refine v_goto (tgt := 60) dX12_terms_56 (by decide) ?_
          refine v_istore_n dX12_terms_60 (Nat.le_of_ble_eq_true rfl) ?_
          refine v_iload_n dX12_terms_61 rfl ?_
          refine v_if_eqI (tgt := 77) dX12_terms_62 (by decide) (by decide) (by decide) (fun c => absurd c (by decide)) (fun _ => ?_)
          refine v_aload_n dX12_terms_65 rfl ?_
          refine v_bipushI dX12_terms_66 rfl ?_
          refine v_iload_n dX12_terms_68 rfl ?_
          refine v_iaddI dX12_terms_69 ?_
          refine v_iload_n dX12_terms_70 rfl ?_
          have H24 := ((F3 79 (by decide)).trans (H79.trans (ent_79 _)))
          refine v_callV dX12_terms_71 ml_X12_199 (sp_X12_change (a := (6 + a)) (b := b) (g77 := (uI g77 0 0)) (g79 := g79) hn (show _ = ent 77 (uI g77 0 0) from E2) (show _ = ent 79 g79 from H24) (by omega)) E2 rfl (s_lt hn rfl) rfl rfl (Nat.le_of_ble_eq_true rfl) (Nat.le_of_ble_eq_true rfl) (Nat.zero_le _) (Nat.zero_le _) ⟨Or.inl (fun _ _ _ q => q.2.1), fun r n1 h25 q26 => ?_⟩
          obtain ⟨rfl, rfl, E27, E28, F29⟩ := q26
          dsimp only [s_push]
          have E30 : _ = (.inr (12, [.int (iI 0), .int (iI (0)), .ref 78, .ref 79, .ref 80, .ref 81, .int (iI (g77 6)), .ref 82, .int (iI (g77 8)), .int (iI (g77 9)), .int (iI (g77 10)), .int (iI (g77 11)), .long (jJ (g77 12)), .int (iI (g77 13)), .int (iI (g77 14)), .int (iI (g77 15)), .int (iI (g77 16)), .ref 83, .int (iI (g77 18)), .ref 84, .ref 85, .int (iI (g77 21)), .ref 86, .ref 87, .int (iI (g77 24)), .int (iI (g77 25)), .ref 88, .ref 89, .ref 90, .int (iI (g77 29)), .ref 91, .ref 92, .ref 93, .int (iI (g77 33)), .long (jJ (g77 34)), .long (jJ (g77 35)), .ref 94, .ref 95, .ref 96, .ref 97, .ref 98, .ref 99, .ref 100, .ref 101, .ref 102, .ref 103, .ref 104, .ref 105, .ref 106, .ref 107, .int (iI (g77 50)), .ref 108, .ref 109, .ref 110, .ref 111, .ref 112, .ref 113, .int (iI (g77 57)), .int (iI (g77 58)), .int (iI (g77 59)), .int (iI (g77 60)), .long (jJ (g77 61)), .ref 114, .int (iI (g77 63))]) : sE) := E28
          refine v_goto (tgt := 82) dX12_terms_74 (by decide) ?_
          exact v_iret dX12_terms_82 rfl (Nat.zero_le _) (Nat.zero_le _) (by first | exact ⟨(congrArg (fun x => some (Value.int x)) (congrArg iI (by first | rfl | omega | (split <;> first | rfl | omega | (split <;> first | rfl | omega))))), rfl, (by first | exact (show _ = ent 79 (uI (g79) (6 + a) b) from (E27.trans (ent_79 _))) | (rw [if_pos (show (a = 0 ∧ 0 ≤ b ∧ b ≤ 99) ∨ (a = 1 ∧ 0 ≤ b ∧ b ≤ 10) ∨ (a = 2 ∧ 0 ≤ b ∧ b ≤ 9) by omega)]; exact (show _ = ent 79 (uI (g79) (6 + a) b) from (E27.trans (ent_79 _)))) | (rw [if_neg (show ¬ ((a = 0 ∧ 0 ≤ b ∧ b ≤ 99) ∨ (a = 1 ∧ 0 ≤ b ∧ b ≤ 10) ∨ (a = 2 ∧ 0 ≤ b ∧ b ≤ 9)) by omega)]; exact (show _ = ent 79 (uI (g79) (6 + a) b) from (E27.trans (ent_79 _))))), (by first | exact (show _ = ent 78 g78 from ((F29 78 (by decide) (by decide)).trans ((F3 78 (by decide)).trans (H78.trans (ent_78 _))))) | (rw [if_pos (show (a = 0 ∧ 0 ≤ b ∧ b ≤ 99) ∨ (a = 1 ∧ 0 ≤ b ∧ b ≤ 10) ∨ (a = 2 ∧ 0 ≤ b ∧ b ≤ 9) by omega)]; exact (show _ = ent 78 g78 from ((F29 78 (by decide) (by decide)).trans ((F3 78 (by decide)).trans (H78.trans (ent_78 _)))))) | (rw [if_neg (show ¬ ((a = 0 ∧ 0 ≤ b ∧ b ≤ 99) ∨ (a = 1 ∧ 0 ≤ b ∧ b ≤ 10) ∨ (a = 2 ∧ 0 ≤ b ∧ b ≤ 9)) by omega)]; exact (show _ = ent 78 g78 from ((F29 78 (by decide) (by decide)).trans ((F3 78 (by decide)).trans (H78.trans (ent_78 _))))))), (by first | exact (show _ = ent 77 ((uI (uI g77 0 0) 1 0)) from E30) | (rw [if_pos (show (a = 0 ∧ 0 ≤ b ∧ b ≤ 99) ∨ (a = 1 ∧ 0 ≤ b ∧ b ≤ 10) ∨ (a = 2 ∧ 0 ≤ b ∧ b ≤ 9) by omega)]; exact (show _ = ent 77 ((uI (uI g77 0 0) 1 0)) from E30)) | (rw [if_neg (show ¬ ((a = 0 ∧ 0 ≤ b ∧ b ≤ 99) ∨ (a = 1 ∧ 0 ≤ b ∧ b ≤ 10) ∨ (a = 2 ∧ 0 ≤ b ∧ b ≤ 9)) by omega)]; exact (show _ = ent 77 ((uI (uI g77 0 0) 1 0)) from E30))), fun j m79 m78 m77 => ((F29 j m79 m77).trans (F3 j m77))⟩ | omega)
    · refine v_iload_n dX12_terms_26 rfl ?_
      refine v_i2lI dX12_terms_27 (by omega) (by omega) ?_
      refine v_lconstI (w := 0) dX12_terms_28 rfl ?_
      refine v_ldc2I 10 dX12_terms_29 k_X12_227 rfl ?_
      refine v_callS dX12_terms_32 ml_X12_175 (sp_X12_in (v := b) (lo := 0) (hi := 10)   (by omega) (by omega) (by omega)) rfl rfl (Nat.le_of_ble_eq_true rfl) (Nat.le_of_ble_eq_true rfl) (Nat.zero_le _) (Nat.zero_le _) ⟨Or.inl (fun _ _ _ q => q.2.1), fun r n1 h31 q32 => ?_⟩
      obtain ⟨rfl, rfl, rfl⟩ := q32
      try dsimp only [s_push]
      refine v_goto (tgt := 60) dX12_terms_35 (by decide) ?_
      refine v_istore_n dX12_terms_60 (Nat.le_of_ble_eq_true rfl) ?_
      refine v_iload_n dX12_terms_61 rfl ?_
      refine v_ifeqB (tgt := 77) dX12_terms_62 (by decide) (fun c_33 => ?_) (fun c_33 => ?_)
      · refine v_aload_n dX12_terms_77 rfl ?_
        refine v_iconstI dX12_terms_78 ?_
        have H34 := ((F3 78 (by decide)).trans (H78.trans (ent_78 _)))
        refine v_callV dX12_terms_79 ml_X12_179 (sp_X12_tell_1  (g77 := (uI g77 0 0)) (g78 := g78) hn (show _ = ent 77 (uI g77 0 0) from E2) (show _ = ent 78 g78 from H34)) E2 rfl (s_lt hn rfl) rfl rfl (Nat.le_of_ble_eq_true rfl) (Nat.le_of_ble_eq_true rfl) (Nat.zero_le _) (Nat.zero_le _) ⟨Or.inl (fun _ _ _ q => q.2.1), fun r n1 h35 q36 => ?_⟩
        obtain ⟨rfl, rfl, E37, E38, F39⟩ := q36
        dsimp only [s_push]
        have E40 : _ = (.inr (12, [.int (iI 0), .int (iI ((-1))), .ref 78, .ref 79, .ref 80, .ref 81, .int (iI (g77 6)), .ref 82, .int (iI (g77 8)), .int (iI (g77 9)), .int (iI (g77 10)), .int (iI (g77 11)), .long (jJ (g77 12)), .int (iI (g77 13)), .int (iI (g77 14)), .int (iI (g77 15)), .int (iI (g77 16)), .ref 83, .int (iI (g77 18)), .ref 84, .ref 85, .int (iI (g77 21)), .ref 86, .ref 87, .int (iI (g77 24)), .int (iI (g77 25)), .ref 88, .ref 89, .ref 90, .int (iI (g77 29)), .ref 91, .ref 92, .ref 93, .int (iI (g77 33)), .long (jJ (g77 34)), .long (jJ (g77 35)), .ref 94, .ref 95, .ref 96, .ref 97, .ref 98, .ref 99, .ref 100, .ref 101, .ref 102, .ref 103, .ref 104, .ref 105, .ref 106, .ref 107, .int (iI (g77 50)), .ref 108, .ref 109, .ref 110, .ref 111, .ref 112, .ref 113, .int (iI (g77 57)), .int (iI (g77 58)), .int (iI (g77 59)), .int (iI (g77 60)), .long (jJ (g77 61)), .ref 114, .int (iI (g77 63))]) : sE) := E37
        exact v_iret dX12_terms_82 rfl (Nat.zero_le _) (Nat.zero_le _) (by first | exact ⟨(congrArg (fun x => some (Value.int x)) (congrArg iI (by first | rfl | omega | (split <;> first | rfl | omega | (split <;> first | rfl | omega))))), rfl, (by first | exact (show _ = ent 79 g79 from ((F39 79 (by decide) (by decide)).trans ((F3 79 (by decide)).trans (H79.trans (ent_79 _))))) | (rw [if_pos (show (a = 0 ∧ 0 ≤ b ∧ b ≤ 99) ∨ (a = 1 ∧ 0 ≤ b ∧ b ≤ 10) ∨ (a = 2 ∧ 0 ≤ b ∧ b ≤ 9) by omega)]; exact (show _ = ent 79 g79 from ((F39 79 (by decide) (by decide)).trans ((F3 79 (by decide)).trans (H79.trans (ent_79 _)))))) | (rw [if_neg (show ¬ ((a = 0 ∧ 0 ≤ b ∧ b ≤ 99) ∨ (a = 1 ∧ 0 ≤ b ∧ b ≤ 10) ∨ (a = 2 ∧ 0 ≤ b ∧ b ≤ 9)) by omega)]; exact (show _ = ent 79 g79 from ((F39 79 (by decide) (by decide)).trans ((F3 79 (by decide)).trans (H79.trans (ent_79 _))))))), (by first | exact (show _ = ent 78 (uI (g78) 1 (g78 1 + 1)) from (E38.trans (ent_78 _))) | (rw [if_pos (show (a = 0 ∧ 0 ≤ b ∧ b ≤ 99) ∨ (a = 1 ∧ 0 ≤ b ∧ b ≤ 10) ∨ (a = 2 ∧ 0 ≤ b ∧ b ≤ 9) by omega)]; exact (show _ = ent 78 (uI (g78) 1 (g78 1 + 1)) from (E38.trans (ent_78 _)))) | (rw [if_neg (show ¬ ((a = 0 ∧ 0 ≤ b ∧ b ≤ 99) ∨ (a = 1 ∧ 0 ≤ b ∧ b ≤ 10) ∨ (a = 2 ∧ 0 ≤ b ∧ b ≤ 9)) by omega)]; exact (show _ = ent 78 (uI (g78) 1 (g78 1 + 1)) from (E38.trans (ent_78 _))))), (by first | exact (show _ = ent 77 ((uI (uI g77 0 0) 1 ((-1)))) from E40) | (rw [if_pos (show (a = 0 ∧ 0 ≤ b ∧ b ≤ 99) ∨ (a = 1 ∧ 0 ≤ b ∧ b ≤ 10) ∨ (a = 2 ∧ 0 ≤ b ∧ b ≤ 9) by omega)]; exact (show _ = ent 77 ((uI (uI g77 0 0) 1 ((-1)))) from E40)) | (rw [if_neg (show ¬ ((a = 0 ∧ 0 ≤ b ∧ b ≤ 99) ∨ (a = 1 ∧ 0 ≤ b ∧ b ≤ 10) ∨ (a = 2 ∧ 0 ≤ b ∧ b ≤ 9)) by omega)]; exact (show _ = ent 77 ((uI (uI g77 0 0) 1 ((-1)))) from E40))), fun j m79 m78 m77 => ((F39 j m77 m78).trans (F3 j m77))⟩ | omega)
      · refine v_aload_n dX12_terms_65 rfl ?_
        refine v_bipushI dX12_terms_66 rfl ?_
        refine v_iload_n dX12_terms_68 rfl ?_
        refine v_iaddI dX12_terms_69 ?_
        refine v_iload_n dX12_terms_70 rfl ?_
        have H41 := ((F3 79 (by decide)).trans (H79.trans (ent_79 _)))
        refine v_callV dX12_terms_71 ml_X12_199 (sp_X12_change (a := (6 + a)) (b := b) (g77 := (uI g77 0 0)) (g79 := g79) hn (show _ = ent 77 (uI g77 0 0) from E2) (show _ = ent 79 g79 from H41) (by omega)) E2 rfl (s_lt hn rfl) rfl rfl (Nat.le_of_ble_eq_true rfl) (Nat.le_of_ble_eq_true rfl) (Nat.zero_le _) (Nat.zero_le _) ⟨Or.inl (fun _ _ _ q => q.2.1), fun r n1 h42 q43 => ?_⟩
        obtain ⟨rfl, rfl, E44, E45, F46⟩ := q43
        dsimp only [s_push]
        have E47 : _ = (.inr (12, [.int (iI 0), .int (iI (0)), .ref 78, .ref 79, .ref 80, .ref 81, .int (iI (g77 6)), .ref 82, .int (iI (g77 8)), .int (iI (g77 9)), .int (iI (g77 10)), .int (iI (g77 11)), .long (jJ (g77 12)), .int (iI (g77 13)), .int (iI (g77 14)), .int (iI (g77 15)), .int (iI (g77 16)), .ref 83, .int (iI (g77 18)), .ref 84, .ref 85, .int (iI (g77 21)), .ref 86, .ref 87, .int (iI (g77 24)), .int (iI (g77 25)), .ref 88, .ref 89, .ref 90, .int (iI (g77 29)), .ref 91, .ref 92, .ref 93, .int (iI (g77 33)), .long (jJ (g77 34)), .long (jJ (g77 35)), .ref 94, .ref 95, .ref 96, .ref 97, .ref 98, .ref 99, .ref 100, .ref 101, .ref 102, .ref 103, .ref 104, .ref 105, .ref 106, .ref 107, .int (iI (g77 50)), .ref 108, .ref 109, .ref 110, .ref 111, .ref 112, .ref 113, .int (iI (g77 57)), .int (iI (g77 58)), .int (iI (g77 59)), .int (iI (g77 60)), .long (jJ (g77 61)), .ref 114, .int (iI (g77 63))]) : sE) := E45
        refine v_goto (tgt := 82) dX12_terms_74 (by decide) ?_
        exact v_iret dX12_terms_82 rfl (Nat.zero_le _) (Nat.zero_le _) (by first | exact ⟨(congrArg (fun x => some (Value.int x)) (congrArg iI (by first | rfl | omega | (split <;> first | rfl | omega | (split <;> first | rfl | omega))))), rfl, (by first | exact (show _ = ent 79 (uI (g79) (6 + a) b) from (E44.trans (ent_79 _))) | (rw [if_pos (show (a = 0 ∧ 0 ≤ b ∧ b ≤ 99) ∨ (a = 1 ∧ 0 ≤ b ∧ b ≤ 10) ∨ (a = 2 ∧ 0 ≤ b ∧ b ≤ 9) by omega)]; exact (show _ = ent 79 (uI (g79) (6 + a) b) from (E44.trans (ent_79 _)))) | (rw [if_neg (show ¬ ((a = 0 ∧ 0 ≤ b ∧ b ≤ 99) ∨ (a = 1 ∧ 0 ≤ b ∧ b ≤ 10) ∨ (a = 2 ∧ 0 ≤ b ∧ b ≤ 9)) by omega)]; exact (show _ = ent 79 (uI (g79) (6 + a) b) from (E44.trans (ent_79 _))))), (by first | exact (show _ = ent 78 g78 from ((F46 78 (by decide) (by decide)).trans ((F3 78 (by decide)).trans (H78.trans (ent_78 _))))) | (rw [if_pos (show (a = 0 ∧ 0 ≤ b ∧ b ≤ 99) ∨ (a = 1 ∧ 0 ≤ b ∧ b ≤ 10) ∨ (a = 2 ∧ 0 ≤ b ∧ b ≤ 9) by omega)]; exact (show _ = ent 78 g78 from ((F46 78 (by decide) (by decide)).trans ((F3 78 (by decide)).trans (H78.trans (ent_78 _)))))) | (rw [if_neg (show ¬ ((a = 0 ∧ 0 ≤ b ∧ b ≤ 99) ∨ (a = 1 ∧ 0 ≤ b ∧ b ≤ 10) ∨ (a = 2 ∧ 0 ≤ b ∧ b ≤ 9)) by omega)]; exact (show _ = ent 78 g78 from ((F46 78 (by decide) (by decide)).trans ((F3 78 (by decide)).trans (H78.trans (ent_78 _))))))), (by first | exact (show _ = ent 77 ((uI (uI g77 0 0) 1 0)) from E47) | (rw [if_pos (show (a = 0 ∧ 0 ≤ b ∧ b ≤ 99) ∨ (a = 1 ∧ 0 ≤ b ∧ b ≤ 10) ∨ (a = 2 ∧ 0 ≤ b ∧ b ≤ 9) by omega)]; exact (show _ = ent 77 ((uI (uI g77 0 0) 1 0)) from E47)) | (rw [if_neg (show ¬ ((a = 0 ∧ 0 ≤ b ∧ b ≤ 99) ∨ (a = 1 ∧ 0 ≤ b ∧ b ≤ 10) ∨ (a = 2 ∧ 0 ≤ b ∧ b ≤ 9)) by omega)]; exact (show _ = ent 77 ((uI (uI g77 0 0) 1 0)) from E47))), fun j m79 m78 m77 => ((F46 j m79 m77).trans (F3 j m77))⟩ | omega)
  · refine v_iload_n dX12_terms_9 rfl ?_
    refine v_i2lI dX12_terms_10 (by omega) (by omega) ?_
    refine v_lconstI (w := 0) dX12_terms_11 rfl ?_
    refine v_ldc2I 99 dX12_terms_12 k_X12_191 rfl ?_
    refine v_callS dX12_terms_15 ml_X12_175 (sp_X12_in (v := b) (lo := 0) (hi := 99)   (by omega) (by omega) (by omega)) rfl rfl (Nat.le_of_ble_eq_true rfl) (Nat.le_of_ble_eq_true rfl) (Nat.zero_le _) (Nat.zero_le _) ⟨Or.inl (fun _ _ _ q => q.2.1), fun r n1 h48 q49 => ?_⟩
    obtain ⟨rfl, rfl, rfl⟩ := q49
    try dsimp only [s_push]
    refine v_goto (tgt := 60) dX12_terms_18 (by decide) ?_
    refine v_istore_n dX12_terms_60 (Nat.le_of_ble_eq_true rfl) ?_
    refine v_iload_n dX12_terms_61 rfl ?_
    refine v_ifeqB (tgt := 77) dX12_terms_62 (by decide) (fun c_50 => ?_) (fun c_50 => ?_)
    · refine v_aload_n dX12_terms_77 rfl ?_
      refine v_iconstI dX12_terms_78 ?_
      have H51 := ((F3 78 (by decide)).trans (H78.trans (ent_78 _)))
      refine v_callV dX12_terms_79 ml_X12_179 (sp_X12_tell_1  (g77 := (uI g77 0 0)) (g78 := g78) hn (show _ = ent 77 (uI g77 0 0) from E2) (show _ = ent 78 g78 from H51)) E2 rfl (s_lt hn rfl) rfl rfl (Nat.le_of_ble_eq_true rfl) (Nat.le_of_ble_eq_true rfl) (Nat.zero_le _) (Nat.zero_le _) ⟨Or.inl (fun _ _ _ q => q.2.1), fun r n1 h52 q53 => ?_⟩
      obtain ⟨rfl, rfl, E54, E55, F56⟩ := q53
      dsimp only [s_push]
      have E57 : _ = (.inr (12, [.int (iI 0), .int (iI ((-1))), .ref 78, .ref 79, .ref 80, .ref 81, .int (iI (g77 6)), .ref 82, .int (iI (g77 8)), .int (iI (g77 9)), .int (iI (g77 10)), .int (iI (g77 11)), .long (jJ (g77 12)), .int (iI (g77 13)), .int (iI (g77 14)), .int (iI (g77 15)), .int (iI (g77 16)), .ref 83, .int (iI (g77 18)), .ref 84, .ref 85, .int (iI (g77 21)), .ref 86, .ref 87, .int (iI (g77 24)), .int (iI (g77 25)), .ref 88, .ref 89, .ref 90, .int (iI (g77 29)), .ref 91, .ref 92, .ref 93, .int (iI (g77 33)), .long (jJ (g77 34)), .long (jJ (g77 35)), .ref 94, .ref 95, .ref 96, .ref 97, .ref 98, .ref 99, .ref 100, .ref 101, .ref 102, .ref 103, .ref 104, .ref 105, .ref 106, .ref 107, .int (iI (g77 50)), .ref 108, .ref 109, .ref 110, .ref 111, .ref 112, .ref 113, .int (iI (g77 57)), .int (iI (g77 58)), .int (iI (g77 59)), .int (iI (g77 60)), .long (jJ (g77 61)), .ref 114, .int (iI (g77 63))]) : sE) := E54
      exact v_iret dX12_terms_82 rfl (Nat.zero_le _) (Nat.zero_le _) (by first | exact ⟨(congrArg (fun x => some (Value.int x)) (congrArg iI (by first | rfl | omega | (split <;> first | rfl | omega | (split <;> first | rfl | omega))))), rfl, (by first | exact (show _ = ent 79 g79 from ((F56 79 (by decide) (by decide)).trans ((F3 79 (by decide)).trans (H79.trans (ent_79 _))))) | (rw [if_pos (show (a = 0 ∧ 0 ≤ b ∧ b ≤ 99) ∨ (a = 1 ∧ 0 ≤ b ∧ b ≤ 10) ∨ (a = 2 ∧ 0 ≤ b ∧ b ≤ 9) by omega)]; exact (show _ = ent 79 g79 from ((F56 79 (by decide) (by decide)).trans ((F3 79 (by decide)).trans (H79.trans (ent_79 _)))))) | (rw [if_neg (show ¬ ((a = 0 ∧ 0 ≤ b ∧ b ≤ 99) ∨ (a = 1 ∧ 0 ≤ b ∧ b ≤ 10) ∨ (a = 2 ∧ 0 ≤ b ∧ b ≤ 9)) by omega)]; exact (show _ = ent 79 g79 from ((F56 79 (by decide) (by decide)).trans ((F3 79 (by decide)).trans (H79.trans (ent_79 _))))))), (by first | exact (show _ = ent 78 (uI (g78) 1 (g78 1 + 1)) from (E55.trans (ent_78 _))) | (rw [if_pos (show (a = 0 ∧ 0 ≤ b ∧ b ≤ 99) ∨ (a = 1 ∧ 0 ≤ b ∧ b ≤ 10) ∨ (a = 2 ∧ 0 ≤ b ∧ b ≤ 9) by omega)]; exact (show _ = ent 78 (uI (g78) 1 (g78 1 + 1)) from (E55.trans (ent_78 _)))) | (rw [if_neg (show ¬ ((a = 0 ∧ 0 ≤ b ∧ b ≤ 99) ∨ (a = 1 ∧ 0 ≤ b ∧ b ≤ 10) ∨ (a = 2 ∧ 0 ≤ b ∧ b ≤ 9)) by omega)]; exact (show _ = ent 78 (uI (g78) 1 (g78 1 + 1)) from (E55.trans (ent_78 _))))), (by first | exact (show _ = ent 77 ((uI (uI g77 0 0) 1 ((-1)))) from E57) | (rw [if_pos (show (a = 0 ∧ 0 ≤ b ∧ b ≤ 99) ∨ (a = 1 ∧ 0 ≤ b ∧ b ≤ 10) ∨ (a = 2 ∧ 0 ≤ b ∧ b ≤ 9) by omega)]; exact (show _ = ent 77 ((uI (uI g77 0 0) 1 ((-1)))) from E57)) | (rw [if_neg (show ¬ ((a = 0 ∧ 0 ≤ b ∧ b ≤ 99) ∨ (a = 1 ∧ 0 ≤ b ∧ b ≤ 10) ∨ (a = 2 ∧ 0 ≤ b ∧ b ≤ 9)) by omega)]; exact (show _ = ent 77 ((uI (uI g77 0 0) 1 ((-1)))) from E57))), fun j m79 m78 m77 => ((F56 j m77 m78).trans (F3 j m77))⟩ | omega)
    · refine v_aload_n dX12_terms_65 rfl ?_
      refine v_bipushI dX12_terms_66 rfl ?_
      refine v_iload_n dX12_terms_68 rfl ?_
      refine v_iaddI dX12_terms_69 ?_
      refine v_iload_n dX12_terms_70 rfl ?_
      have H58 := ((F3 79 (by decide)).trans (H79.trans (ent_79 _)))
      refine v_callV dX12_terms_71 ml_X12_199 (sp_X12_change (a := (6 + a)) (b := b) (g77 := (uI g77 0 0)) (g79 := g79) hn (show _ = ent 77 (uI g77 0 0) from E2) (show _ = ent 79 g79 from H58) (by omega)) E2 rfl (s_lt hn rfl) rfl rfl (Nat.le_of_ble_eq_true rfl) (Nat.le_of_ble_eq_true rfl) (Nat.zero_le _) (Nat.zero_le _) ⟨Or.inl (fun _ _ _ q => q.2.1), fun r n1 h59 q60 => ?_⟩
      obtain ⟨rfl, rfl, E61, E62, F63⟩ := q60
      dsimp only [s_push]
      have E64 : _ = (.inr (12, [.int (iI 0), .int (iI (0)), .ref 78, .ref 79, .ref 80, .ref 81, .int (iI (g77 6)), .ref 82, .int (iI (g77 8)), .int (iI (g77 9)), .int (iI (g77 10)), .int (iI (g77 11)), .long (jJ (g77 12)), .int (iI (g77 13)), .int (iI (g77 14)), .int (iI (g77 15)), .int (iI (g77 16)), .ref 83, .int (iI (g77 18)), .ref 84, .ref 85, .int (iI (g77 21)), .ref 86, .ref 87, .int (iI (g77 24)), .int (iI (g77 25)), .ref 88, .ref 89, .ref 90, .int (iI (g77 29)), .ref 91, .ref 92, .ref 93, .int (iI (g77 33)), .long (jJ (g77 34)), .long (jJ (g77 35)), .ref 94, .ref 95, .ref 96, .ref 97, .ref 98, .ref 99, .ref 100, .ref 101, .ref 102, .ref 103, .ref 104, .ref 105, .ref 106, .ref 107, .int (iI (g77 50)), .ref 108, .ref 109, .ref 110, .ref 111, .ref 112, .ref 113, .int (iI (g77 57)), .int (iI (g77 58)), .int (iI (g77 59)), .int (iI (g77 60)), .long (jJ (g77 61)), .ref 114, .int (iI (g77 63))]) : sE) := E62
      refine v_goto (tgt := 82) dX12_terms_74 (by decide) ?_
      exact v_iret dX12_terms_82 rfl (Nat.zero_le _) (Nat.zero_le _) (by first | exact ⟨(congrArg (fun x => some (Value.int x)) (congrArg iI (by first | rfl | omega | (split <;> first | rfl | omega | (split <;> first | rfl | omega))))), rfl, (by first | exact (show _ = ent 79 (uI (g79) (6 + a) b) from (E61.trans (ent_79 _))) | (rw [if_pos (show (a = 0 ∧ 0 ≤ b ∧ b ≤ 99) ∨ (a = 1 ∧ 0 ≤ b ∧ b ≤ 10) ∨ (a = 2 ∧ 0 ≤ b ∧ b ≤ 9) by omega)]; exact (show _ = ent 79 (uI (g79) (6 + a) b) from (E61.trans (ent_79 _)))) | (rw [if_neg (show ¬ ((a = 0 ∧ 0 ≤ b ∧ b ≤ 99) ∨ (a = 1 ∧ 0 ≤ b ∧ b ≤ 10) ∨ (a = 2 ∧ 0 ≤ b ∧ b ≤ 9)) by omega)]; exact (show _ = ent 79 (uI (g79) (6 + a) b) from (E61.trans (ent_79 _))))), (by first | exact (show _ = ent 78 g78 from ((F63 78 (by decide) (by decide)).trans ((F3 78 (by decide)).trans (H78.trans (ent_78 _))))) | (rw [if_pos (show (a = 0 ∧ 0 ≤ b ∧ b ≤ 99) ∨ (a = 1 ∧ 0 ≤ b ∧ b ≤ 10) ∨ (a = 2 ∧ 0 ≤ b ∧ b ≤ 9) by omega)]; exact (show _ = ent 78 g78 from ((F63 78 (by decide) (by decide)).trans ((F3 78 (by decide)).trans (H78.trans (ent_78 _)))))) | (rw [if_neg (show ¬ ((a = 0 ∧ 0 ≤ b ∧ b ≤ 99) ∨ (a = 1 ∧ 0 ≤ b ∧ b ≤ 10) ∨ (a = 2 ∧ 0 ≤ b ∧ b ≤ 9)) by omega)]; exact (show _ = ent 78 g78 from ((F63 78 (by decide) (by decide)).trans ((F3 78 (by decide)).trans (H78.trans (ent_78 _))))))), (by first | exact (show _ = ent 77 ((uI (uI g77 0 0) 1 0)) from E64) | (rw [if_pos (show (a = 0 ∧ 0 ≤ b ∧ b ≤ 99) ∨ (a = 1 ∧ 0 ≤ b ∧ b ≤ 10) ∨ (a = 2 ∧ 0 ≤ b ∧ b ≤ 9) by omega)]; exact (show _ = ent 77 ((uI (uI g77 0 0) 1 0)) from E64)) | (rw [if_neg (show ¬ ((a = 0 ∧ 0 ≤ b ∧ b ≤ 99) ∨ (a = 1 ∧ 0 ≤ b ∧ b ≤ 10) ∨ (a = 2 ∧ 0 ≤ b ∧ b ≤ 9)) by omega)]; exact (show _ = ent 77 ((uI (uI g77 0 0) 1 0)) from E64))), fun j m79 m78 m77 => ((F63 j m79 m77).trans (F3 j m77))⟩ | omega)
theorem dX12_sight_0 : decode cX12_sight 0 = .ok (.aload_n 0, 1) := by decide +kernel
theorem dX12_sight_1 : decode cX12_sight 1 = .ok (.iconst 0, 1) := by decide +kernel
theorem dX12_sight_2 : decode cX12_sight 2 = .ok (.putfield 169, 3) := by decide +kernel
theorem dX12_sight_5 : decode cX12_sight 5 = .ok (.iload_n 1, 1) := by decide +kernel
theorem dX12_sight_6 : decode cX12_sight 6 = .ok (.invokestatic 236, 3) := by decide +kernel
theorem dX12_sight_9 : decode cX12_sight 9 = .ok (.ifCond .eq 20, 3) := by decide +kernel
theorem dX12_sight_12 : decode cX12_sight 12 = .ok (.iload_n 2, 1) := by decide +kernel
theorem dX12_sight_13 : decode cX12_sight 13 = .ok (.invokestatic 195, 3) := by decide +kernel
theorem dX12_sight_16 : decode cX12_sight 16 = .ok (.ifCond .eq 13, 3) := by decide +kernel
theorem dX12_sight_19 : decode cX12_sight 19 = .ok (.iload_n 3, 1) := by decide +kernel
theorem dX12_sight_20 : decode cX12_sight 20 = .ok (.i2l, 1) := by decide +kernel
theorem dX12_sight_21 : decode cX12_sight 21 = .ok (.lconst 0, 1) := by decide +kernel
theorem dX12_sight_22 : decode cX12_sight 22 = .ok (.lconst 1, 1) := by decide +kernel
theorem dX12_sight_23 : decode cX12_sight 23 = .ok (.invokestatic 175, 3) := by decide +kernel
theorem dX12_sight_26 : decode cX12_sight 26 = .ok (.ifCond .ne 9, 3) := by decide +kernel
theorem dX12_sight_29 : decode cX12_sight 29 = .ok (.aload_n 0, 1) := by decide +kernel
theorem dX12_sight_30 : decode cX12_sight 30 = .ok (.iconst (-1), 1) := by decide +kernel
theorem dX12_sight_31 : decode cX12_sight 31 = .ok (.invokevirtual 179, 3) := by decide +kernel
theorem dX12_sight_34 : decode cX12_sight 34 = .ok (.ireturn, 1) := by decide +kernel
theorem dX12_sight_35 : decode cX12_sight 35 = .ok (.aload_n 0, 1) := by decide +kernel
theorem dX12_sight_36 : decode cX12_sight 36 = .ok (.getfield 13, 3) := by decide +kernel
theorem dX12_sight_39 : decode cX12_sight 39 = .ok (.iconst 3, 1) := by decide +kernel
theorem dX12_sight_40 : decode cX12_sight 40 = .ok (.iaload, 1) := by decide +kernel
theorem dX12_sight_41 : decode cX12_sight 41 = .ok (.istore 4, 2) := by decide +kernel
theorem dX12_sight_43 : decode cX12_sight 43 = .ok (.iload 4, 2) := by decide +kernel
theorem dX12_sight_45 : decode cX12_sight 45 = .ok (.bipush 10, 2) := by decide +kernel
theorem dX12_sight_47 : decode cX12_sight 47 = .ok (.if_icmp .ne 10, 3) := by decide +kernel
theorem dX12_sight_50 : decode cX12_sight 50 = .ok (.aload_n 0, 1) := by decide +kernel
theorem dX12_sight_51 : decode cX12_sight 51 = .ok (.bipush (-5), 2) := by decide +kernel
theorem dX12_sight_53 : decode cX12_sight 53 = .ok (.invokevirtual 179, 3) := by decide +kernel
theorem dX12_sight_56 : decode cX12_sight 56 = .ok (.ireturn, 1) := by decide +kernel
theorem dX12_sight_57 : decode cX12_sight 57 = .ok (.aload_n 0, 1) := by decide +kernel
theorem dX12_sight_58 : decode cX12_sight 58 = .ok (.getfield 13, 3) := by decide +kernel
theorem dX12_sight_61 : decode cX12_sight 61 = .ok (.sipush 344, 3) := by decide +kernel
theorem dX12_sight_64 : decode cX12_sight 64 = .ok (.iconst 3, 1) := by decide +kernel
theorem dX12_sight_65 : decode cX12_sight 65 = .ok (.iload 4, 2) := by decide +kernel
theorem dX12_sight_67 : decode cX12_sight 67 = .ok (.imul, 1) := by decide +kernel
theorem dX12_sight_68 : decode cX12_sight 68 = .ok (.iadd, 1) := by decide +kernel
theorem dX12_sight_69 : decode cX12_sight 69 = .ok (.iload_n 1, 1) := by decide +kernel
theorem dX12_sight_70 : decode cX12_sight 70 = .ok (.iastore, 1) := by decide +kernel
theorem dX12_sight_71 : decode cX12_sight 71 = .ok (.aload_n 0, 1) := by decide +kernel
theorem dX12_sight_72 : decode cX12_sight 72 = .ok (.getfield 13, 3) := by decide +kernel
theorem dX12_sight_75 : decode cX12_sight 75 = .ok (.sipush 344, 3) := by decide +kernel
theorem dX12_sight_78 : decode cX12_sight 78 = .ok (.iconst 3, 1) := by decide +kernel
theorem dX12_sight_79 : decode cX12_sight 79 = .ok (.iload 4, 2) := by decide +kernel
theorem dX12_sight_81 : decode cX12_sight 81 = .ok (.imul, 1) := by decide +kernel
theorem dX12_sight_82 : decode cX12_sight 82 = .ok (.iadd, 1) := by decide +kernel
theorem dX12_sight_83 : decode cX12_sight 83 = .ok (.iconst 1, 1) := by decide +kernel
theorem dX12_sight_84 : decode cX12_sight 84 = .ok (.iadd, 1) := by decide +kernel
theorem dX12_sight_85 : decode cX12_sight 85 = .ok (.iload_n 2, 1) := by decide +kernel
theorem dX12_sight_86 : decode cX12_sight 86 = .ok (.iastore, 1) := by decide +kernel
theorem dX12_sight_87 : decode cX12_sight 87 = .ok (.aload_n 0, 1) := by decide +kernel
theorem dX12_sight_88 : decode cX12_sight 88 = .ok (.getfield 13, 3) := by decide +kernel
theorem dX12_sight_91 : decode cX12_sight 91 = .ok (.sipush 344, 3) := by decide +kernel
theorem dX12_sight_94 : decode cX12_sight 94 = .ok (.iconst 3, 1) := by decide +kernel
theorem dX12_sight_95 : decode cX12_sight 95 = .ok (.iload 4, 2) := by decide +kernel
theorem dX12_sight_97 : decode cX12_sight 97 = .ok (.imul, 1) := by decide +kernel
theorem dX12_sight_98 : decode cX12_sight 98 = .ok (.iadd, 1) := by decide +kernel
theorem dX12_sight_99 : decode cX12_sight 99 = .ok (.iconst 2, 1) := by decide +kernel
theorem dX12_sight_100 : decode cX12_sight 100 = .ok (.iadd, 1) := by decide +kernel
theorem dX12_sight_101 : decode cX12_sight 101 = .ok (.iload_n 3, 1) := by decide +kernel
theorem dX12_sight_102 : decode cX12_sight 102 = .ok (.iastore, 1) := by decide +kernel
theorem dX12_sight_103 : decode cX12_sight 103 = .ok (.aload_n 0, 1) := by decide +kernel
theorem dX12_sight_104 : decode cX12_sight 104 = .ok (.getfield 13, 3) := by decide +kernel
theorem dX12_sight_107 : decode cX12_sight 107 = .ok (.iconst 3, 1) := by decide +kernel
theorem dX12_sight_108 : decode cX12_sight 108 = .ok (.dup2, 1) := by decide +kernel
theorem dX12_sight_109 : decode cX12_sight 109 = .ok (.iaload, 1) := by decide +kernel
theorem dX12_sight_110 : decode cX12_sight 110 = .ok (.iconst 1, 1) := by decide +kernel
theorem dX12_sight_111 : decode cX12_sight 111 = .ok (.iadd, 1) := by decide +kernel
theorem dX12_sight_112 : decode cX12_sight 112 = .ok (.iastore, 1) := by decide +kernel
theorem dX12_sight_113 : decode cX12_sight 113 = .ok (.aload_n 0, 1) := by decide +kernel
theorem dX12_sight_114 : decode cX12_sight 114 = .ok (.iload 4, 2) := by decide +kernel
theorem dX12_sight_116 : decode cX12_sight 116 = .ok (.iconst 1, 1) := by decide +kernel
theorem dX12_sight_117 : decode cX12_sight 117 = .ok (.iadd, 1) := by decide +kernel
theorem dX12_sight_118 : decode cX12_sight 118 = .ok (.invokevirtual 179, 3) := by decide +kernel
theorem dX12_sight_121 : decode cX12_sight 121 = .ok (.ireturn, 1) := by decide +kernel
theorem sp_X12_sight {n : Nat} {h : Nat → sE} {a b c : Int}  {g77 g79 g78 : Int → Int} (hn : 115 ≤ n) (H77 : h 77 = ent 77 g77) (H79 : h 79 = ent 79 g79) (H78 : h 78 = ent 78 g78) (ra : -2147483648 ≤ a ∧ a ≤ 2147483647) (rb : -2147483648 ≤ b ∧ b ≤ 2147483647) (rc : -2147483648 ≤ c ∧ c ≤ 2147483647) (i9 : 0 ≤ g79 3 ∧ g79 3 ≤ 10) : Sp m_X12_sight 3 0 0 [.ref 77, .int (iI a), .int (iI b), .int (iI c)] n h (fun r n' h' => r = some (.int (iI (if 0 ≤ a ∧ a ≤ 11 ∧ 0 ≤ b ∧ b ≤ 63 ∧ 0 ≤ c ∧ c ≤ 1 then if g79 3 < 10 then g79 3 + 1 else -5 else -1))) ∧ n' = n ∧ h' 79 = ent 79 (if 0 ≤ a ∧ a ≤ 11 ∧ 0 ≤ b ∧ b ≤ 63 ∧ 0 ≤ c ∧ c ≤ 1 then if g79 3 < 10 then uI (uI (uI (uI (g79) (344 + 3 * g79 3) a) (344 + 3 * g79 3 + 1) b) (344 + 3 * g79 3 + 2) c) 3 (g79 3 + 1) else g79 else g79) ∧ h' 78 = ent 78 (if 0 ≤ a ∧ a ≤ 11 ∧ 0 ≤ b ∧ b ≤ 63 ∧ 0 ≤ c ∧ c ≤ 1 then if g79 3 < 10 then g78 else uI (g78) 5 (g78 5 + 1) else uI (g78) 1 (g78 1 + 1)) ∧ h' 77 = ent 77 ((uI (uI g77 0 0) 1 (if 0 ≤ a ∧ a ≤ 11 ∧ 0 ≤ b ∧ b ≤ 63 ∧ 0 ≤ c ∧ c ≤ 1 then if g79 3 < 10 then 0 else -5 else -1))) ∧ ∀ j, j ≠ 79 → j ≠ 78 → j ≠ 77 → h' j = h j) := by
  refine Sp.ofV (by decide +kernel) (Nat.le_of_ble_eq_true rfl) ?_
  refine v_aload_n dX12_sight_0 rfl ?_
  refine v_iconstI dX12_sight_1 ?_
  refine v_put dX12_sight_2 fl_X12_169 (H77.trans (ent_77 _)) (s_lt hn rfl) (Nat.le_of_ble_eq_true rfl) (fun _ => ⟨rfl, rfl⟩) trivial (fun h1 E2 F3 => ?_)
  refine v_iload_n dX12_sight_5 rfl ?_
  refine v_callS dX12_sight_6 ml_X12_236 (sp_X12_isHour (a := a)   (by omega)) rfl rfl (Nat.le_of_ble_eq_true rfl) (Nat.le_of_ble_eq_true rfl) (Nat.zero_le _) (Nat.zero_le _) ⟨Or.inl (fun _ _ _ q => q.2.1), fun r n1 h4 q5 => ?_⟩
  obtain ⟨rfl, rfl, rfl⟩ := q5
  try dsimp only [s_push]
  refine v_ifeqB (tgt := 29) dX12_sight_9 (by decide) (fun c_6 => ?_) (fun c_6 => ?_)
  · refine v_aload_n dX12_sight_29 rfl ?_
    refine v_iconstI dX12_sight_30 ?_
    have H7 := ((F3 78 (by decide)).trans (H78.trans (ent_78 _)))
    refine v_callV dX12_sight_31 ml_X12_179 (sp_X12_tell_1  (g77 := (uI g77 0 0)) (g78 := g78) hn (show _ = ent 77 (uI g77 0 0) from E2) (show _ = ent 78 g78 from H7)) E2 rfl (s_lt hn rfl) rfl rfl (Nat.le_of_ble_eq_true rfl) (Nat.le_of_ble_eq_true rfl) (Nat.zero_le _) (Nat.zero_le _) ⟨Or.inl (fun _ _ _ q => q.2.1), fun r n1 h8 q9 => ?_⟩
    obtain ⟨rfl, rfl, E10, E11, F12⟩ := q9
    dsimp only [s_push]
    have E13 : _ = (.inr (12, [.int (iI 0), .int (iI ((-1))), .ref 78, .ref 79, .ref 80, .ref 81, .int (iI (g77 6)), .ref 82, .int (iI (g77 8)), .int (iI (g77 9)), .int (iI (g77 10)), .int (iI (g77 11)), .long (jJ (g77 12)), .int (iI (g77 13)), .int (iI (g77 14)), .int (iI (g77 15)), .int (iI (g77 16)), .ref 83, .int (iI (g77 18)), .ref 84, .ref 85, .int (iI (g77 21)), .ref 86, .ref 87, .int (iI (g77 24)), .int (iI (g77 25)), .ref 88, .ref 89, .ref 90, .int (iI (g77 29)), .ref 91, .ref 92, .ref 93, .int (iI (g77 33)), .long (jJ (g77 34)), .long (jJ (g77 35)), .ref 94, .ref 95, .ref 96, .ref 97, .ref 98, .ref 99, .ref 100, .ref 101, .ref 102, .ref 103, .ref 104, .ref 105, .ref 106, .ref 107, .int (iI (g77 50)), .ref 108, .ref 109, .ref 110, .ref 111, .ref 112, .ref 113, .int (iI (g77 57)), .int (iI (g77 58)), .int (iI (g77 59)), .int (iI (g77 60)), .long (jJ (g77 61)), .ref 114, .int (iI (g77 63))]) : sE) := E10
    exact v_iret dX12_sight_34 rfl (Nat.zero_le _) (Nat.zero_le _) (by first | exact ⟨(congrArg (fun x => some (Value.int x)) (congrArg iI (by first | rfl | omega | (split <;> first | rfl | omega | (split <;> first | rfl | omega))))), rfl, (by first | exact (show _ = ent 79 g79 from ((F12 79 (by decide) (by decide)).trans ((F3 79 (by decide)).trans (H79.trans (ent_79 _))))) | (rw [if_pos (show 0 ≤ a ∧ a ≤ 11 ∧ 0 ≤ b ∧ b ≤ 63 ∧ 0 ≤ c ∧ c ≤ 1 by omega)]; exact (show _ = ent 79 g79 from ((F12 79 (by decide) (by decide)).trans ((F3 79 (by decide)).trans (H79.trans (ent_79 _)))))) | (rw [if_neg (show ¬ (0 ≤ a ∧ a ≤ 11 ∧ 0 ≤ b ∧ b ≤ 63 ∧ 0 ≤ c ∧ c ≤ 1) by omega)]; exact (show _ = ent 79 g79 from ((F12 79 (by decide) (by decide)).trans ((F3 79 (by decide)).trans (H79.trans (ent_79 _)))))) | (rw [if_pos (show 0 ≤ a ∧ a ≤ 11 ∧ 0 ≤ b ∧ b ≤ 63 ∧ 0 ≤ c ∧ c ≤ 1 by omega), if_pos (show g79 3 < 10 by omega)]; exact (show _ = ent 79 g79 from ((F12 79 (by decide) (by decide)).trans ((F3 79 (by decide)).trans (H79.trans (ent_79 _)))))) | (rw [if_pos (show 0 ≤ a ∧ a ≤ 11 ∧ 0 ≤ b ∧ b ≤ 63 ∧ 0 ≤ c ∧ c ≤ 1 by omega), if_neg (show ¬ (g79 3 < 10) by omega)]; exact (show _ = ent 79 g79 from ((F12 79 (by decide) (by decide)).trans ((F3 79 (by decide)).trans (H79.trans (ent_79 _)))))) | (rw [if_neg (show ¬ (0 ≤ a ∧ a ≤ 11 ∧ 0 ≤ b ∧ b ≤ 63 ∧ 0 ≤ c ∧ c ≤ 1) by omega), if_pos (show g79 3 < 10 by omega)]; exact (show _ = ent 79 g79 from ((F12 79 (by decide) (by decide)).trans ((F3 79 (by decide)).trans (H79.trans (ent_79 _)))))) | (rw [if_neg (show ¬ (0 ≤ a ∧ a ≤ 11 ∧ 0 ≤ b ∧ b ≤ 63 ∧ 0 ≤ c ∧ c ≤ 1) by omega), if_neg (show ¬ (g79 3 < 10) by omega)]; exact (show _ = ent 79 g79 from ((F12 79 (by decide) (by decide)).trans ((F3 79 (by decide)).trans (H79.trans (ent_79 _))))))), (by first | exact (show _ = ent 78 (uI (g78) 1 (g78 1 + 1)) from (E11.trans (ent_78 _))) | (rw [if_pos (show 0 ≤ a ∧ a ≤ 11 ∧ 0 ≤ b ∧ b ≤ 63 ∧ 0 ≤ c ∧ c ≤ 1 by omega)]; exact (show _ = ent 78 (uI (g78) 1 (g78 1 + 1)) from (E11.trans (ent_78 _)))) | (rw [if_neg (show ¬ (0 ≤ a ∧ a ≤ 11 ∧ 0 ≤ b ∧ b ≤ 63 ∧ 0 ≤ c ∧ c ≤ 1) by omega)]; exact (show _ = ent 78 (uI (g78) 1 (g78 1 + 1)) from (E11.trans (ent_78 _)))) | (rw [if_pos (show 0 ≤ a ∧ a ≤ 11 ∧ 0 ≤ b ∧ b ≤ 63 ∧ 0 ≤ c ∧ c ≤ 1 by omega), if_pos (show g79 3 < 10 by omega)]; exact (show _ = ent 78 (uI (g78) 1 (g78 1 + 1)) from (E11.trans (ent_78 _)))) | (rw [if_pos (show 0 ≤ a ∧ a ≤ 11 ∧ 0 ≤ b ∧ b ≤ 63 ∧ 0 ≤ c ∧ c ≤ 1 by omega), if_neg (show ¬ (g79 3 < 10) by omega)]; exact (show _ = ent 78 (uI (g78) 1 (g78 1 + 1)) from (E11.trans (ent_78 _)))) | (rw [if_neg (show ¬ (0 ≤ a ∧ a ≤ 11 ∧ 0 ≤ b ∧ b ≤ 63 ∧ 0 ≤ c ∧ c ≤ 1) by omega), if_pos (show g79 3 < 10 by omega)]; exact (show _ = ent 78 (uI (g78) 1 (g78 1 + 1)) from (E11.trans (ent_78 _)))) | (rw [if_neg (show ¬ (0 ≤ a ∧ a ≤ 11 ∧ 0 ≤ b ∧ b ≤ 63 ∧ 0 ≤ c ∧ c ≤ 1) by omega), if_neg (show ¬ (g79 3 < 10) by omega)]; exact (show _ = ent 78 (uI (g78) 1 (g78 1 + 1)) from (E11.trans (ent_78 _))))), (by first | exact (show _ = ent 77 ((uI (uI g77 0 0) 1 ((-1)))) from E13) | (rw [if_pos (show 0 ≤ a ∧ a ≤ 11 ∧ 0 ≤ b ∧ b ≤ 63 ∧ 0 ≤ c ∧ c ≤ 1 by omega)]; exact (show _ = ent 77 ((uI (uI g77 0 0) 1 ((-1)))) from E13)) | (rw [if_neg (show ¬ (0 ≤ a ∧ a ≤ 11 ∧ 0 ≤ b ∧ b ≤ 63 ∧ 0 ≤ c ∧ c ≤ 1) by omega)]; exact (show _ = ent 77 ((uI (uI g77 0 0) 1 ((-1)))) from E13)) | (rw [if_pos (show 0 ≤ a ∧ a ≤ 11 ∧ 0 ≤ b ∧ b ≤ 63 ∧ 0 ≤ c ∧ c ≤ 1 by omega), if_pos (show g79 3 < 10 by omega)]; exact (show _ = ent 77 ((uI (uI g77 0 0) 1 ((-1)))) from E13)) | (rw [if_pos (show 0 ≤ a ∧ a ≤ 11 ∧ 0 ≤ b ∧ b ≤ 63 ∧ 0 ≤ c ∧ c ≤ 1 by omega), if_neg (show ¬ (g79 3 < 10) by omega)]; exact (show _ = ent 77 ((uI (uI g77 0 0) 1 ((-1)))) from E13)) | (rw [if_neg (show ¬ (0 ≤ a ∧ a ≤ 11 ∧ 0 ≤ b ∧ b ≤ 63 ∧ 0 ≤ c ∧ c ≤ 1) by omega), if_pos (show g79 3 < 10 by omega)]; exact (show _ = ent 77 ((uI (uI g77 0 0) 1 ((-1)))) from E13)) | (rw [if_neg (show ¬ (0 ≤ a ∧ a ≤ 11 ∧ 0 ≤ b ∧ b ≤ 63 ∧ 0 ≤ c ∧ c ≤ 1) by omega), if_neg (show ¬ (g79 3 < 10) by omega)]; exact (show _ = ent 77 ((uI (uI g77 0 0) 1 ((-1)))) from E13))), fun j m79 m78 m77 => ((F12 j m77 m78).trans (F3 j m77))⟩ | omega)
  · refine v_iload_n dX12_sight_12 rfl ?_
    refine v_callS dX12_sight_13 ml_X12_195 (sp_X12_isField (a := b)   (by omega)) rfl rfl (Nat.le_of_ble_eq_true rfl) (Nat.le_of_ble_eq_true rfl) (Nat.zero_le _) (Nat.zero_le _) ⟨Or.inl (fun _ _ _ q => q.2.1), fun r n1 h14 q15 => ?_⟩
    obtain ⟨rfl, rfl, rfl⟩ := q15
    try dsimp only [s_push]
    refine v_ifeqB (tgt := 29) dX12_sight_16 (by decide) (fun c_16 => ?_) (fun c_16 => ?_)
    · refine v_aload_n dX12_sight_29 rfl ?_
      refine v_iconstI dX12_sight_30 ?_
      have H17 := ((F3 78 (by decide)).trans (H78.trans (ent_78 _)))
      refine v_callV dX12_sight_31 ml_X12_179 (sp_X12_tell_1  (g77 := (uI g77 0 0)) (g78 := g78) hn (show _ = ent 77 (uI g77 0 0) from E2) (show _ = ent 78 g78 from H17)) E2 rfl (s_lt hn rfl) rfl rfl (Nat.le_of_ble_eq_true rfl) (Nat.le_of_ble_eq_true rfl) (Nat.zero_le _) (Nat.zero_le _) ⟨Or.inl (fun _ _ _ q => q.2.1), fun r n1 h18 q19 => ?_⟩
      obtain ⟨rfl, rfl, E20, E21, F22⟩ := q19
      dsimp only [s_push]
      have E23 : _ = (.inr (12, [.int (iI 0), .int (iI ((-1))), .ref 78, .ref 79, .ref 80, .ref 81, .int (iI (g77 6)), .ref 82, .int (iI (g77 8)), .int (iI (g77 9)), .int (iI (g77 10)), .int (iI (g77 11)), .long (jJ (g77 12)), .int (iI (g77 13)), .int (iI (g77 14)), .int (iI (g77 15)), .int (iI (g77 16)), .ref 83, .int (iI (g77 18)), .ref 84, .ref 85, .int (iI (g77 21)), .ref 86, .ref 87, .int (iI (g77 24)), .int (iI (g77 25)), .ref 88, .ref 89, .ref 90, .int (iI (g77 29)), .ref 91, .ref 92, .ref 93, .int (iI (g77 33)), .long (jJ (g77 34)), .long (jJ (g77 35)), .ref 94, .ref 95, .ref 96, .ref 97, .ref 98, .ref 99, .ref 100, .ref 101, .ref 102, .ref 103, .ref 104, .ref 105, .ref 106, .ref 107, .int (iI (g77 50)), .ref 108, .ref 109, .ref 110, .ref 111, .ref 112, .ref 113, .int (iI (g77 57)), .int (iI (g77 58)), .int (iI (g77 59)), .int (iI (g77 60)), .long (jJ (g77 61)), .ref 114, .int (iI (g77 63))]) : sE) := E20
      exact v_iret dX12_sight_34 rfl (Nat.zero_le _) (Nat.zero_le _) (by first | exact ⟨(congrArg (fun x => some (Value.int x)) (congrArg iI (by first | rfl | omega | (split <;> first | rfl | omega | (split <;> first | rfl | omega))))), rfl, (by first | exact (show _ = ent 79 g79 from ((F22 79 (by decide) (by decide)).trans ((F3 79 (by decide)).trans (H79.trans (ent_79 _))))) | (rw [if_pos (show 0 ≤ a ∧ a ≤ 11 ∧ 0 ≤ b ∧ b ≤ 63 ∧ 0 ≤ c ∧ c ≤ 1 by omega)]; exact (show _ = ent 79 g79 from ((F22 79 (by decide) (by decide)).trans ((F3 79 (by decide)).trans (H79.trans (ent_79 _)))))) | (rw [if_neg (show ¬ (0 ≤ a ∧ a ≤ 11 ∧ 0 ≤ b ∧ b ≤ 63 ∧ 0 ≤ c ∧ c ≤ 1) by omega)]; exact (show _ = ent 79 g79 from ((F22 79 (by decide) (by decide)).trans ((F3 79 (by decide)).trans (H79.trans (ent_79 _)))))) | (rw [if_pos (show 0 ≤ a ∧ a ≤ 11 ∧ 0 ≤ b ∧ b ≤ 63 ∧ 0 ≤ c ∧ c ≤ 1 by omega), if_pos (show g79 3 < 10 by omega)]; exact (show _ = ent 79 g79 from ((F22 79 (by decide) (by decide)).trans ((F3 79 (by decide)).trans (H79.trans (ent_79 _)))))) | (rw [if_pos (show 0 ≤ a ∧ a ≤ 11 ∧ 0 ≤ b ∧ b ≤ 63 ∧ 0 ≤ c ∧ c ≤ 1 by omega), if_neg (show ¬ (g79 3 < 10) by omega)]; exact (show _ = ent 79 g79 from ((F22 79 (by decide) (by decide)).trans ((F3 79 (by decide)).trans (H79.trans (ent_79 _)))))) | (rw [if_neg (show ¬ (0 ≤ a ∧ a ≤ 11 ∧ 0 ≤ b ∧ b ≤ 63 ∧ 0 ≤ c ∧ c ≤ 1) by omega), if_pos (show g79 3 < 10 by omega)]; exact (show _ = ent 79 g79 from ((F22 79 (by decide) (by decide)).trans ((F3 79 (by decide)).trans (H79.trans (ent_79 _)))))) | (rw [if_neg (show ¬ (0 ≤ a ∧ a ≤ 11 ∧ 0 ≤ b ∧ b ≤ 63 ∧ 0 ≤ c ∧ c ≤ 1) by omega), if_neg (show ¬ (g79 3 < 10) by omega)]; exact (show _ = ent 79 g79 from ((F22 79 (by decide) (by decide)).trans ((F3 79 (by decide)).trans (H79.trans (ent_79 _))))))), (by first | exact (show _ = ent 78 (uI (g78) 1 (g78 1 + 1)) from (E21.trans (ent_78 _))) | (rw [if_pos (show 0 ≤ a ∧ a ≤ 11 ∧ 0 ≤ b ∧ b ≤ 63 ∧ 0 ≤ c ∧ c ≤ 1 by omega)]; exact (show _ = ent 78 (uI (g78) 1 (g78 1 + 1)) from (E21.trans (ent_78 _)))) | (rw [if_neg (show ¬ (0 ≤ a ∧ a ≤ 11 ∧ 0 ≤ b ∧ b ≤ 63 ∧ 0 ≤ c ∧ c ≤ 1) by omega)]; exact (show _ = ent 78 (uI (g78) 1 (g78 1 + 1)) from (E21.trans (ent_78 _)))) | (rw [if_pos (show 0 ≤ a ∧ a ≤ 11 ∧ 0 ≤ b ∧ b ≤ 63 ∧ 0 ≤ c ∧ c ≤ 1 by omega), if_pos (show g79 3 < 10 by omega)]; exact (show _ = ent 78 (uI (g78) 1 (g78 1 + 1)) from (E21.trans (ent_78 _)))) | (rw [if_pos (show 0 ≤ a ∧ a ≤ 11 ∧ 0 ≤ b ∧ b ≤ 63 ∧ 0 ≤ c ∧ c ≤ 1 by omega), if_neg (show ¬ (g79 3 < 10) by omega)]; exact (show _ = ent 78 (uI (g78) 1 (g78 1 + 1)) from (E21.trans (ent_78 _)))) | (rw [if_neg (show ¬ (0 ≤ a ∧ a ≤ 11 ∧ 0 ≤ b ∧ b ≤ 63 ∧ 0 ≤ c ∧ c ≤ 1) by omega), if_pos (show g79 3 < 10 by omega)]; exact (show _ = ent 78 (uI (g78) 1 (g78 1 + 1)) from (E21.trans (ent_78 _)))) | (rw [if_neg (show ¬ (0 ≤ a ∧ a ≤ 11 ∧ 0 ≤ b ∧ b ≤ 63 ∧ 0 ≤ c ∧ c ≤ 1) by omega), if_neg (show ¬ (g79 3 < 10) by omega)]; exact (show _ = ent 78 (uI (g78) 1 (g78 1 + 1)) from (E21.trans (ent_78 _))))), (by first | exact (show _ = ent 77 ((uI (uI g77 0 0) 1 ((-1)))) from E23) | (rw [if_pos (show 0 ≤ a ∧ a ≤ 11 ∧ 0 ≤ b ∧ b ≤ 63 ∧ 0 ≤ c ∧ c ≤ 1 by omega)]; exact (show _ = ent 77 ((uI (uI g77 0 0) 1 ((-1)))) from E23)) | (rw [if_neg (show ¬ (0 ≤ a ∧ a ≤ 11 ∧ 0 ≤ b ∧ b ≤ 63 ∧ 0 ≤ c ∧ c ≤ 1) by omega)]; exact (show _ = ent 77 ((uI (uI g77 0 0) 1 ((-1)))) from E23)) | (rw [if_pos (show 0 ≤ a ∧ a ≤ 11 ∧ 0 ≤ b ∧ b ≤ 63 ∧ 0 ≤ c ∧ c ≤ 1 by omega), if_pos (show g79 3 < 10 by omega)]; exact (show _ = ent 77 ((uI (uI g77 0 0) 1 ((-1)))) from E23)) | (rw [if_pos (show 0 ≤ a ∧ a ≤ 11 ∧ 0 ≤ b ∧ b ≤ 63 ∧ 0 ≤ c ∧ c ≤ 1 by omega), if_neg (show ¬ (g79 3 < 10) by omega)]; exact (show _ = ent 77 ((uI (uI g77 0 0) 1 ((-1)))) from E23)) | (rw [if_neg (show ¬ (0 ≤ a ∧ a ≤ 11 ∧ 0 ≤ b ∧ b ≤ 63 ∧ 0 ≤ c ∧ c ≤ 1) by omega), if_pos (show g79 3 < 10 by omega)]; exact (show _ = ent 77 ((uI (uI g77 0 0) 1 ((-1)))) from E23)) | (rw [if_neg (show ¬ (0 ≤ a ∧ a ≤ 11 ∧ 0 ≤ b ∧ b ≤ 63 ∧ 0 ≤ c ∧ c ≤ 1) by omega), if_neg (show ¬ (g79 3 < 10) by omega)]; exact (show _ = ent 77 ((uI (uI g77 0 0) 1 ((-1)))) from E23))), fun j m79 m78 m77 => ((F22 j m77 m78).trans (F3 j m77))⟩ | omega)
    · refine v_iload_n dX12_sight_19 rfl ?_
      refine v_i2lI dX12_sight_20 (by omega) (by omega) ?_
      refine v_lconstI (w := 0) dX12_sight_21 rfl ?_
      refine v_lconstI (w := 1) dX12_sight_22 rfl ?_
      refine v_callS dX12_sight_23 ml_X12_175 (sp_X12_in (v := c) (lo := 0) (hi := 1)   (by omega) (by omega) (by omega)) rfl rfl (Nat.le_of_ble_eq_true rfl) (Nat.le_of_ble_eq_true rfl) (Nat.zero_le _) (Nat.zero_le _) ⟨Or.inl (fun _ _ _ q => q.2.1), fun r n1 h24 q25 => ?_⟩
      obtain ⟨rfl, rfl, rfl⟩ := q25
      try dsimp only [s_push]
      refine v_ifneB (tgt := 35) dX12_sight_26 (by decide) (fun c_26 => ?_) (fun c_26 => ?_)
      · refine v_aload_n dX12_sight_35 rfl ?_
        refine v_get dX12_sight_36 fl_X12_13 E2 rfl (s_lt hn rfl) ?_
        refine v_iconstI dX12_sight_39 ?_
        have H27 := ((F3 79 (by decide)).trans (H79.trans (ent_79 _)))
        refine v_ialdI dX12_sight_40 H27 (s_lt hn rfl) (by omega) (by omega) (by omega) ?_
        refine v_istore dX12_sight_41 (Nat.le_of_ble_eq_true rfl) ?_
        refine v_iload dX12_sight_43 rfl ?_
        refine v_bipushI dX12_sight_45 rfl ?_
        refine v_icmp_neI (tgt := 57) dX12_sight_47 (by decide) (by omega) (by omega) (by omega) (by omega) (fun c_28 => ?_) (fun c_28 => ?_)
        · refine v_aload_n dX12_sight_57 rfl ?_
          refine v_get dX12_sight_58 fl_X12_13 E2 rfl (s_lt hn rfl) ?_
          refine v_sipushI dX12_sight_61 rfl ?_
          refine v_iconstI dX12_sight_64 ?_
          refine v_iload dX12_sight_65 rfl ?_
          refine v_imulI dX12_sight_67 ?_
          refine v_iaddI dX12_sight_68 ?_
          refine v_iload_n dX12_sight_69 rfl ?_
          refine v_iastI dX12_sight_70 H27 (s_lt hn rfl) (by omega) (by omega) (by omega) (fun h29 E30 F31 => ?_)
          refine v_aload_n dX12_sight_71 rfl ?_
          have H32 := ((F31 77 (by decide)).trans E2)
          refine v_get dX12_sight_72 fl_X12_13 H32 rfl (s_lt hn rfl) ?_
          refine v_sipushI dX12_sight_75 rfl ?_
          refine v_iconstI dX12_sight_78 ?_
          refine v_iload dX12_sight_79 rfl ?_
          refine v_imulI dX12_sight_81 ?_
          refine v_iaddI dX12_sight_82 ?_
          refine v_iconstI dX12_sight_83 ?_
          refine v_iaddI dX12_sight_84 ?_
          refine v_iload_n dX12_sight_85 rfl ?_
          refine v_iastI dX12_sight_86 E30 (s_lt hn rfl) (by omega) (by omega) (by omega) (fun h33 E34 F35 => ?_)
          refine v_aload_n dX12_sight_87 rfl ?_
          have H36 := ((F35 77 (by decide)).trans H32)
          refine v_get dX12_sight_88 fl_X12_13 H36 rfl (s_lt hn rfl) ?_
          refine v_sipushI dX12_sight_91 rfl ?_
          refine v_iconstI dX12_sight_94 ?_
          refine v_iload dX12_sight_95 rfl ?_
          refine v_imulI dX12_sight_97 ?_
          refine v_iaddI dX12_sight_98 ?_
          refine v_iconstI dX12_sight_99 ?_
          refine v_iaddI dX12_sight_100 ?_
          refine v_iload_n dX12_sight_101 rfl ?_
          refine v_iastI dX12_sight_102 E34 (s_lt hn rfl) (by omega) (by omega) (by omega) (fun h37 E38 F39 => ?_)
          refine v_aload_n dX12_sight_103 rfl ?_
          have H40 := ((F39 77 (by decide)).trans H36)
          refine v_get dX12_sight_104 fl_X12_13 H40 rfl (s_lt hn rfl) ?_
          refine v_iconstI dX12_sight_107 ?_
          refine v_dup2 dX12_sight_108 rfl rfl ?_
          refine v_ialdI dX12_sight_109 E38 (s_lt hn rfl) (by omega) (by omega) (by omega) ?_
          rw [uI_ne (show ¬ 3 = ((344 + (3 * (g79 3))) + 2) by omega)]
          rw [uI_ne (show ¬ 3 = ((344 + (3 * (g79 3))) + 1) by omega)]
          rw [uI_ne (show ¬ 3 = (344 + (3 * (g79 3))) by omega)]
          refine v_iconstI dX12_sight_110 ?_
          refine v_iaddI dX12_sight_111 ?_
          refine v_iastI dX12_sight_112 E38 (s_lt hn rfl) (by omega) (by omega) (by omega) (fun h41 E42 F43 => ?_)
          refine v_aload_n dX12_sight_113 rfl ?_
          refine v_iload dX12_sight_114 rfl ?_
          refine v_iconstI dX12_sight_116 ?_
          refine v_iaddI dX12_sight_117 ?_
          have H44 := ((F43 77 (by decide)).trans H40)
          refine v_callV dX12_sight_118 ml_X12_179 (sp_X12_tell_p (a := ((g79 3) + 1)) (g77 := (uI g77 0 0)) hn (show _ = ent 77 (uI g77 0 0) from H44) (by omega)) H44 rfl (s_lt hn rfl) rfl rfl (Nat.le_of_ble_eq_true rfl) (Nat.le_of_ble_eq_true rfl) (Nat.zero_le _) (Nat.zero_le _) ⟨Or.inl (fun _ _ _ q => q.2.1), fun r n1 h45 q46 => ?_⟩
          obtain ⟨rfl, rfl, E47, F48⟩ := q46
          dsimp only [s_push]
          have E49 : _ = (.inr (12, [.int (iI 0), .int (iI (0)), .ref 78, .ref 79, .ref 80, .ref 81, .int (iI (g77 6)), .ref 82, .int (iI (g77 8)), .int (iI (g77 9)), .int (iI (g77 10)), .int (iI (g77 11)), .long (jJ (g77 12)), .int (iI (g77 13)), .int (iI (g77 14)), .int (iI (g77 15)), .int (iI (g77 16)), .ref 83, .int (iI (g77 18)), .ref 84, .ref 85, .int (iI (g77 21)), .ref 86, .ref 87, .int (iI (g77 24)), .int (iI (g77 25)), .ref 88, .ref 89, .ref 90, .int (iI (g77 29)), .ref 91, .ref 92, .ref 93, .int (iI (g77 33)), .long (jJ (g77 34)), .long (jJ (g77 35)), .ref 94, .ref 95, .ref 96, .ref 97, .ref 98, .ref 99, .ref 100, .ref 101, .ref 102, .ref 103, .ref 104, .ref 105, .ref 106, .ref 107, .int (iI (g77 50)), .ref 108, .ref 109, .ref 110, .ref 111, .ref 112, .ref 113, .int (iI (g77 57)), .int (iI (g77 58)), .int (iI (g77 59)), .int (iI (g77 60)), .long (jJ (g77 61)), .ref 114, .int (iI (g77 63))]) : sE) := E47
          exact v_iret dX12_sight_121 rfl (Nat.zero_le _) (Nat.zero_le _) (by first | exact ⟨(congrArg (fun x => some (Value.int x)) (congrArg iI (by first | rfl | omega | (split <;> first | rfl | omega | (split <;> first | rfl | omega))))), rfl, (by first | exact (show _ = ent 79 (uI (uI (uI (uI g79 (344 + (3 * (g79 3))) a) ((344 + (3 * (g79 3))) + 1) b) ((344 + (3 * (g79 3))) + 2) c) 3 ((g79 3) + 1)) from ((F48 79 (by decide)).trans E42)) | (rw [if_pos (show 0 ≤ a ∧ a ≤ 11 ∧ 0 ≤ b ∧ b ≤ 63 ∧ 0 ≤ c ∧ c ≤ 1 by omega)]; exact (show _ = ent 79 (uI (uI (uI (uI g79 (344 + (3 * (g79 3))) a) ((344 + (3 * (g79 3))) + 1) b) ((344 + (3 * (g79 3))) + 2) c) 3 ((g79 3) + 1)) from ((F48 79 (by decide)).trans E42))) | (rw [if_neg (show ¬ (0 ≤ a ∧ a ≤ 11 ∧ 0 ≤ b ∧ b ≤ 63 ∧ 0 ≤ c ∧ c ≤ 1) by omega)]; exact (show _ = ent 79 (uI (uI (uI (uI g79 (344 + (3 * (g79 3))) a) ((344 + (3 * (g79 3))) + 1) b) ((344 + (3 * (g79 3))) + 2) c) 3 ((g79 3) + 1)) from ((F48 79 (by decide)).trans E42))) | (rw [if_pos (show 0 ≤ a ∧ a ≤ 11 ∧ 0 ≤ b ∧ b ≤ 63 ∧ 0 ≤ c ∧ c ≤ 1 by omega), if_pos (show g79 3 < 10 by omega)]; exact (show _ = ent 79 (uI (uI (uI (uI g79 (344 + (3 * (g79 3))) a) ((344 + (3 * (g79 3))) + 1) b) ((344 + (3 * (g79 3))) + 2) c) 3 ((g79 3) + 1)) from ((F48 79 (by decide)).trans E42))) | (rw [if_pos (show 0 ≤ a ∧ a ≤ 11 ∧ 0 ≤ b ∧ b ≤ 63 ∧ 0 ≤ c ∧ c ≤ 1 by omega), if_neg (show ¬ (g79 3 < 10) by omega)]; exact (show _ = ent 79 (uI (uI (uI (uI g79 (344 + (3 * (g79 3))) a) ((344 + (3 * (g79 3))) + 1) b) ((344 + (3 * (g79 3))) + 2) c) 3 ((g79 3) + 1)) from ((F48 79 (by decide)).trans E42))) | (rw [if_neg (show ¬ (0 ≤ a ∧ a ≤ 11 ∧ 0 ≤ b ∧ b ≤ 63 ∧ 0 ≤ c ∧ c ≤ 1) by omega), if_pos (show g79 3 < 10 by omega)]; exact (show _ = ent 79 (uI (uI (uI (uI g79 (344 + (3 * (g79 3))) a) ((344 + (3 * (g79 3))) + 1) b) ((344 + (3 * (g79 3))) + 2) c) 3 ((g79 3) + 1)) from ((F48 79 (by decide)).trans E42))) | (rw [if_neg (show ¬ (0 ≤ a ∧ a ≤ 11 ∧ 0 ≤ b ∧ b ≤ 63 ∧ 0 ≤ c ∧ c ≤ 1) by omega), if_neg (show ¬ (g79 3 < 10) by omega)]; exact (show _ = ent 79 (uI (uI (uI (uI g79 (344 + (3 * (g79 3))) a) ((344 + (3 * (g79 3))) + 1) b) ((344 + (3 * (g79 3))) + 2) c) 3 ((g79 3) + 1)) from ((F48 79 (by decide)).trans E42)))), (by first | exact (show _ = ent 78 g78 from ((F48 78 (by decide)).trans ((F43 78 (by decide)).trans ((F39 78 (by decide)).trans ((F35 78 (by decide)).trans ((F31 78 (by decide)).trans ((F3 78 (by decide)).trans (H78.trans (ent_78 _))))))))) | (rw [if_pos (show 0 ≤ a ∧ a ≤ 11 ∧ 0 ≤ b ∧ b ≤ 63 ∧ 0 ≤ c ∧ c ≤ 1 by omega)]; exact (show _ = ent 78 g78 from ((F48 78 (by decide)).trans ((F43 78 (by decide)).trans ((F39 78 (by decide)).trans ((F35 78 (by decide)).trans ((F31 78 (by decide)).trans ((F3 78 (by decide)).trans (H78.trans (ent_78 _)))))))))) | (rw [if_neg (show ¬ (0 ≤ a ∧ a ≤ 11 ∧ 0 ≤ b ∧ b ≤ 63 ∧ 0 ≤ c ∧ c ≤ 1) by omega)]; exact (show _ = ent 78 g78 from ((F48 78 (by decide)).trans ((F43 78 (by decide)).trans ((F39 78 (by decide)).trans ((F35 78 (by decide)).trans ((F31 78 (by decide)).trans ((F3 78 (by decide)).trans (H78.trans (ent_78 _)))))))))) | (rw [if_pos (show 0 ≤ a ∧ a ≤ 11 ∧ 0 ≤ b ∧ b ≤ 63 ∧ 0 ≤ c ∧ c ≤ 1 by omega), if_pos (show g79 3 < 10 by omega)]; exact (show _ = ent 78 g78 from ((F48 78 (by decide)).trans ((F43 78 (by decide)).trans ((F39 78 (by decide)).trans ((F35 78 (by decide)).trans ((F31 78 (by decide)).trans ((F3 78 (by decide)).trans (H78.trans (ent_78 _)))))))))) | (rw [if_pos (show 0 ≤ a ∧ a ≤ 11 ∧ 0 ≤ b ∧ b ≤ 63 ∧ 0 ≤ c ∧ c ≤ 1 by omega), if_neg (show ¬ (g79 3 < 10) by omega)]; exact (show _ = ent 78 g78 from ((F48 78 (by decide)).trans ((F43 78 (by decide)).trans ((F39 78 (by decide)).trans ((F35 78 (by decide)).trans ((F31 78 (by decide)).trans ((F3 78 (by decide)).trans (H78.trans (ent_78 _)))))))))) | (rw [if_neg (show ¬ (0 ≤ a ∧ a ≤ 11 ∧ 0 ≤ b ∧ b ≤ 63 ∧ 0 ≤ c ∧ c ≤ 1) by omega), if_pos (show g79 3 < 10 by omega)]; exact (show _ = ent 78 g78 from ((F48 78 (by decide)).trans ((F43 78 (by decide)).trans ((F39 78 (by decide)).trans ((F35 78 (by decide)).trans ((F31 78 (by decide)).trans ((F3 78 (by decide)).trans (H78.trans (ent_78 _)))))))))) | (rw [if_neg (show ¬ (0 ≤ a ∧ a ≤ 11 ∧ 0 ≤ b ∧ b ≤ 63 ∧ 0 ≤ c ∧ c ≤ 1) by omega), if_neg (show ¬ (g79 3 < 10) by omega)]; exact (show _ = ent 78 g78 from ((F48 78 (by decide)).trans ((F43 78 (by decide)).trans ((F39 78 (by decide)).trans ((F35 78 (by decide)).trans ((F31 78 (by decide)).trans ((F3 78 (by decide)).trans (H78.trans (ent_78 _))))))))))), (by first | exact (show _ = ent 77 ((uI (uI g77 0 0) 1 0)) from E49) | (rw [if_pos (show 0 ≤ a ∧ a ≤ 11 ∧ 0 ≤ b ∧ b ≤ 63 ∧ 0 ≤ c ∧ c ≤ 1 by omega)]; exact (show _ = ent 77 ((uI (uI g77 0 0) 1 0)) from E49)) | (rw [if_neg (show ¬ (0 ≤ a ∧ a ≤ 11 ∧ 0 ≤ b ∧ b ≤ 63 ∧ 0 ≤ c ∧ c ≤ 1) by omega)]; exact (show _ = ent 77 ((uI (uI g77 0 0) 1 0)) from E49)) | (rw [if_pos (show 0 ≤ a ∧ a ≤ 11 ∧ 0 ≤ b ∧ b ≤ 63 ∧ 0 ≤ c ∧ c ≤ 1 by omega), if_pos (show g79 3 < 10 by omega)]; exact (show _ = ent 77 ((uI (uI g77 0 0) 1 0)) from E49)) | (rw [if_pos (show 0 ≤ a ∧ a ≤ 11 ∧ 0 ≤ b ∧ b ≤ 63 ∧ 0 ≤ c ∧ c ≤ 1 by omega), if_neg (show ¬ (g79 3 < 10) by omega)]; exact (show _ = ent 77 ((uI (uI g77 0 0) 1 0)) from E49)) | (rw [if_neg (show ¬ (0 ≤ a ∧ a ≤ 11 ∧ 0 ≤ b ∧ b ≤ 63 ∧ 0 ≤ c ∧ c ≤ 1) by omega), if_pos (show g79 3 < 10 by omega)]; exact (show _ = ent 77 ((uI (uI g77 0 0) 1 0)) from E49)) | (rw [if_neg (show ¬ (0 ≤ a ∧ a ≤ 11 ∧ 0 ≤ b ∧ b ≤ 63 ∧ 0 ≤ c ∧ c ≤ 1) by omega), if_neg (show ¬ (g79 3 < 10) by omega)]; exact (show _ = ent 77 ((uI (uI g77 0 0) 1 0)) from E49))), fun j m79 m78 m77 => ((F48 j m77).trans ((F43 j m79).trans ((F39 j m79).trans ((F35 j m79).trans ((F31 j m79).trans (F3 j m77))))))⟩ | omega)
        · refine v_aload_n dX12_sight_50 rfl ?_
          refine v_bipushI dX12_sight_51 rfl ?_
          have H50 := ((F3 78 (by decide)).trans (H78.trans (ent_78 _)))
          refine v_callV dX12_sight_53 ml_X12_179 (sp_X12_tell_5  (g77 := (uI g77 0 0)) (g78 := g78) hn (show _ = ent 77 (uI g77 0 0) from E2) (show _ = ent 78 g78 from H50)) E2 rfl (s_lt hn rfl) rfl rfl (Nat.le_of_ble_eq_true rfl) (Nat.le_of_ble_eq_true rfl) (Nat.zero_le _) (Nat.zero_le _) ⟨Or.inl (fun _ _ _ q => q.2.1), fun r n1 h51 q52 => ?_⟩
          obtain ⟨rfl, rfl, E53, E54, F55⟩ := q52
          dsimp only [s_push]
          have E56 : _ = (.inr (12, [.int (iI 0), .int (iI ((-5))), .ref 78, .ref 79, .ref 80, .ref 81, .int (iI (g77 6)), .ref 82, .int (iI (g77 8)), .int (iI (g77 9)), .int (iI (g77 10)), .int (iI (g77 11)), .long (jJ (g77 12)), .int (iI (g77 13)), .int (iI (g77 14)), .int (iI (g77 15)), .int (iI (g77 16)), .ref 83, .int (iI (g77 18)), .ref 84, .ref 85, .int (iI (g77 21)), .ref 86, .ref 87, .int (iI (g77 24)), .int (iI (g77 25)), .ref 88, .ref 89, .ref 90, .int (iI (g77 29)), .ref 91, .ref 92, .ref 93, .int (iI (g77 33)), .long (jJ (g77 34)), .long (jJ (g77 35)), .ref 94, .ref 95, .ref 96, .ref 97, .ref 98, .ref 99, .ref 100, .ref 101, .ref 102, .ref 103, .ref 104, .ref 105, .ref 106, .ref 107, .int (iI (g77 50)), .ref 108, .ref 109, .ref 110, .ref 111, .ref 112, .ref 113, .int (iI (g77 57)), .int (iI (g77 58)), .int (iI (g77 59)), .int (iI (g77 60)), .long (jJ (g77 61)), .ref 114, .int (iI (g77 63))]) : sE) := E53
          exact v_iret dX12_sight_56 rfl (Nat.zero_le _) (Nat.zero_le _) (by first | exact ⟨(congrArg (fun x => some (Value.int x)) (congrArg iI (by first | rfl | omega | (split <;> first | rfl | omega | (split <;> first | rfl | omega))))), rfl, (by first | exact (show _ = ent 79 g79 from ((F55 79 (by decide) (by decide)).trans H27)) | (rw [if_pos (show 0 ≤ a ∧ a ≤ 11 ∧ 0 ≤ b ∧ b ≤ 63 ∧ 0 ≤ c ∧ c ≤ 1 by omega)]; exact (show _ = ent 79 g79 from ((F55 79 (by decide) (by decide)).trans H27))) | (rw [if_neg (show ¬ (0 ≤ a ∧ a ≤ 11 ∧ 0 ≤ b ∧ b ≤ 63 ∧ 0 ≤ c ∧ c ≤ 1) by omega)]; exact (show _ = ent 79 g79 from ((F55 79 (by decide) (by decide)).trans H27))) | (rw [if_pos (show 0 ≤ a ∧ a ≤ 11 ∧ 0 ≤ b ∧ b ≤ 63 ∧ 0 ≤ c ∧ c ≤ 1 by omega), if_pos (show g79 3 < 10 by omega)]; exact (show _ = ent 79 g79 from ((F55 79 (by decide) (by decide)).trans H27))) | (rw [if_pos (show 0 ≤ a ∧ a ≤ 11 ∧ 0 ≤ b ∧ b ≤ 63 ∧ 0 ≤ c ∧ c ≤ 1 by omega), if_neg (show ¬ (g79 3 < 10) by omega)]; exact (show _ = ent 79 g79 from ((F55 79 (by decide) (by decide)).trans H27))) | (rw [if_neg (show ¬ (0 ≤ a ∧ a ≤ 11 ∧ 0 ≤ b ∧ b ≤ 63 ∧ 0 ≤ c ∧ c ≤ 1) by omega), if_pos (show g79 3 < 10 by omega)]; exact (show _ = ent 79 g79 from ((F55 79 (by decide) (by decide)).trans H27))) | (rw [if_neg (show ¬ (0 ≤ a ∧ a ≤ 11 ∧ 0 ≤ b ∧ b ≤ 63 ∧ 0 ≤ c ∧ c ≤ 1) by omega), if_neg (show ¬ (g79 3 < 10) by omega)]; exact (show _ = ent 79 g79 from ((F55 79 (by decide) (by decide)).trans H27)))), (by first | exact (show _ = ent 78 (uI (g78) 5 (g78 5 + 1)) from (E54.trans (ent_78 _))) | (rw [if_pos (show 0 ≤ a ∧ a ≤ 11 ∧ 0 ≤ b ∧ b ≤ 63 ∧ 0 ≤ c ∧ c ≤ 1 by omega)]; exact (show _ = ent 78 (uI (g78) 5 (g78 5 + 1)) from (E54.trans (ent_78 _)))) | (rw [if_neg (show ¬ (0 ≤ a ∧ a ≤ 11 ∧ 0 ≤ b ∧ b ≤ 63 ∧ 0 ≤ c ∧ c ≤ 1) by omega)]; exact (show _ = ent 78 (uI (g78) 5 (g78 5 + 1)) from (E54.trans (ent_78 _)))) | (rw [if_pos (show 0 ≤ a ∧ a ≤ 11 ∧ 0 ≤ b ∧ b ≤ 63 ∧ 0 ≤ c ∧ c ≤ 1 by omega), if_pos (show g79 3 < 10 by omega)]; exact (show _ = ent 78 (uI (g78) 5 (g78 5 + 1)) from (E54.trans (ent_78 _)))) | (rw [if_pos (show 0 ≤ a ∧ a ≤ 11 ∧ 0 ≤ b ∧ b ≤ 63 ∧ 0 ≤ c ∧ c ≤ 1 by omega), if_neg (show ¬ (g79 3 < 10) by omega)]; exact (show _ = ent 78 (uI (g78) 5 (g78 5 + 1)) from (E54.trans (ent_78 _)))) | (rw [if_neg (show ¬ (0 ≤ a ∧ a ≤ 11 ∧ 0 ≤ b ∧ b ≤ 63 ∧ 0 ≤ c ∧ c ≤ 1) by omega), if_pos (show g79 3 < 10 by omega)]; exact (show _ = ent 78 (uI (g78) 5 (g78 5 + 1)) from (E54.trans (ent_78 _)))) | (rw [if_neg (show ¬ (0 ≤ a ∧ a ≤ 11 ∧ 0 ≤ b ∧ b ≤ 63 ∧ 0 ≤ c ∧ c ≤ 1) by omega), if_neg (show ¬ (g79 3 < 10) by omega)]; exact (show _ = ent 78 (uI (g78) 5 (g78 5 + 1)) from (E54.trans (ent_78 _))))), (by first | exact (show _ = ent 77 ((uI (uI g77 0 0) 1 ((-5)))) from E56) | (rw [if_pos (show 0 ≤ a ∧ a ≤ 11 ∧ 0 ≤ b ∧ b ≤ 63 ∧ 0 ≤ c ∧ c ≤ 1 by omega)]; exact (show _ = ent 77 ((uI (uI g77 0 0) 1 ((-5)))) from E56)) | (rw [if_neg (show ¬ (0 ≤ a ∧ a ≤ 11 ∧ 0 ≤ b ∧ b ≤ 63 ∧ 0 ≤ c ∧ c ≤ 1) by omega)]; exact (show _ = ent 77 ((uI (uI g77 0 0) 1 ((-5)))) from E56)) | (rw [if_pos (show 0 ≤ a ∧ a ≤ 11 ∧ 0 ≤ b ∧ b ≤ 63 ∧ 0 ≤ c ∧ c ≤ 1 by omega), if_pos (show g79 3 < 10 by omega)]; exact (show _ = ent 77 ((uI (uI g77 0 0) 1 ((-5)))) from E56)) | (rw [if_pos (show 0 ≤ a ∧ a ≤ 11 ∧ 0 ≤ b ∧ b ≤ 63 ∧ 0 ≤ c ∧ c ≤ 1 by omega), if_neg (show ¬ (g79 3 < 10) by omega)]; exact (show _ = ent 77 ((uI (uI g77 0 0) 1 ((-5)))) from E56)) | (rw [if_neg (show ¬ (0 ≤ a ∧ a ≤ 11 ∧ 0 ≤ b ∧ b ≤ 63 ∧ 0 ≤ c ∧ c ≤ 1) by omega), if_pos (show g79 3 < 10 by omega)]; exact (show _ = ent 77 ((uI (uI g77 0 0) 1 ((-5)))) from E56)) | (rw [if_neg (show ¬ (0 ≤ a ∧ a ≤ 11 ∧ 0 ≤ b ∧ b ≤ 63 ∧ 0 ≤ c ∧ c ≤ 1) by omega), if_neg (show ¬ (g79 3 < 10) by omega)]; exact (show _ = ent 77 ((uI (uI g77 0 0) 1 ((-5)))) from E56))), fun j m79 m78 m77 => ((F55 j m77 m78).trans (F3 j m77))⟩ | omega)
      · refine v_aload_n dX12_sight_29 rfl ?_
        refine v_iconstI dX12_sight_30 ?_
        have H57 := ((F3 78 (by decide)).trans (H78.trans (ent_78 _)))
        refine v_callV dX12_sight_31 ml_X12_179 (sp_X12_tell_1  (g77 := (uI g77 0 0)) (g78 := g78) hn (show _ = ent 77 (uI g77 0 0) from E2) (show _ = ent 78 g78 from H57)) E2 rfl (s_lt hn rfl) rfl rfl (Nat.le_of_ble_eq_true rfl) (Nat.le_of_ble_eq_true rfl) (Nat.zero_le _) (Nat.zero_le _) ⟨Or.inl (fun _ _ _ q => q.2.1), fun r n1 h58 q59 => ?_⟩
        obtain ⟨rfl, rfl, E60, E61, F62⟩ := q59
        dsimp only [s_push]
        have E63 : _ = (.inr (12, [.int (iI 0), .int (iI ((-1))), .ref 78, .ref 79, .ref 80, .ref 81, .int (iI (g77 6)), .ref 82, .int (iI (g77 8)), .int (iI (g77 9)), .int (iI (g77 10)), .int (iI (g77 11)), .long (jJ (g77 12)), .int (iI (g77 13)), .int (iI (g77 14)), .int (iI (g77 15)), .int (iI (g77 16)), .ref 83, .int (iI (g77 18)), .ref 84, .ref 85, .int (iI (g77 21)), .ref 86, .ref 87, .int (iI (g77 24)), .int (iI (g77 25)), .ref 88, .ref 89, .ref 90, .int (iI (g77 29)), .ref 91, .ref 92, .ref 93, .int (iI (g77 33)), .long (jJ (g77 34)), .long (jJ (g77 35)), .ref 94, .ref 95, .ref 96, .ref 97, .ref 98, .ref 99, .ref 100, .ref 101, .ref 102, .ref 103, .ref 104, .ref 105, .ref 106, .ref 107, .int (iI (g77 50)), .ref 108, .ref 109, .ref 110, .ref 111, .ref 112, .ref 113, .int (iI (g77 57)), .int (iI (g77 58)), .int (iI (g77 59)), .int (iI (g77 60)), .long (jJ (g77 61)), .ref 114, .int (iI (g77 63))]) : sE) := E60
        exact v_iret dX12_sight_34 rfl (Nat.zero_le _) (Nat.zero_le _) (by first | exact ⟨(congrArg (fun x => some (Value.int x)) (congrArg iI (by first | rfl | omega | (split <;> first | rfl | omega | (split <;> first | rfl | omega))))), rfl, (by first | exact (show _ = ent 79 g79 from ((F62 79 (by decide) (by decide)).trans ((F3 79 (by decide)).trans (H79.trans (ent_79 _))))) | (rw [if_pos (show 0 ≤ a ∧ a ≤ 11 ∧ 0 ≤ b ∧ b ≤ 63 ∧ 0 ≤ c ∧ c ≤ 1 by omega)]; exact (show _ = ent 79 g79 from ((F62 79 (by decide) (by decide)).trans ((F3 79 (by decide)).trans (H79.trans (ent_79 _)))))) | (rw [if_neg (show ¬ (0 ≤ a ∧ a ≤ 11 ∧ 0 ≤ b ∧ b ≤ 63 ∧ 0 ≤ c ∧ c ≤ 1) by omega)]; exact (show _ = ent 79 g79 from ((F62 79 (by decide) (by decide)).trans ((F3 79 (by decide)).trans (H79.trans (ent_79 _)))))) | (rw [if_pos (show 0 ≤ a ∧ a ≤ 11 ∧ 0 ≤ b ∧ b ≤ 63 ∧ 0 ≤ c ∧ c ≤ 1 by omega), if_pos (show g79 3 < 10 by omega)]; exact (show _ = ent 79 g79 from ((F62 79 (by decide) (by decide)).trans ((F3 79 (by decide)).trans (H79.trans (ent_79 _)))))) | (rw [if_pos (show 0 ≤ a ∧ a ≤ 11 ∧ 0 ≤ b ∧ b ≤ 63 ∧ 0 ≤ c ∧ c ≤ 1 by omega), if_neg (show ¬ (g79 3 < 10) by omega)]; exact (show _ = ent 79 g79 from ((F62 79 (by decide) (by decide)).trans ((F3 79 (by decide)).trans (H79.trans (ent_79 _)))))) | (rw [if_neg (show ¬ (0 ≤ a ∧ a ≤ 11 ∧ 0 ≤ b ∧ b ≤ 63 ∧ 0 ≤ c ∧ c ≤ 1) by omega), if_pos (show g79 3 < 10 by omega)]; exact (show _ = ent 79 g79 from ((F62 79 (by decide) (by decide)).trans ((F3 79 (by decide)).trans (H79.trans (ent_79 _)))))) | (rw [if_neg (show ¬ (0 ≤ a ∧ a ≤ 11 ∧ 0 ≤ b ∧ b ≤ 63 ∧ 0 ≤ c ∧ c ≤ 1) by omega), if_neg (show ¬ (g79 3 < 10) by omega)]; exact (show _ = ent 79 g79 from ((F62 79 (by decide) (by decide)).trans ((F3 79 (by decide)).trans (H79.trans (ent_79 _))))))), (by first | exact (show _ = ent 78 (uI (g78) 1 (g78 1 + 1)) from (E61.trans (ent_78 _))) | (rw [if_pos (show 0 ≤ a ∧ a ≤ 11 ∧ 0 ≤ b ∧ b ≤ 63 ∧ 0 ≤ c ∧ c ≤ 1 by omega)]; exact (show _ = ent 78 (uI (g78) 1 (g78 1 + 1)) from (E61.trans (ent_78 _)))) | (rw [if_neg (show ¬ (0 ≤ a ∧ a ≤ 11 ∧ 0 ≤ b ∧ b ≤ 63 ∧ 0 ≤ c ∧ c ≤ 1) by omega)]; exact (show _ = ent 78 (uI (g78) 1 (g78 1 + 1)) from (E61.trans (ent_78 _)))) | (rw [if_pos (show 0 ≤ a ∧ a ≤ 11 ∧ 0 ≤ b ∧ b ≤ 63 ∧ 0 ≤ c ∧ c ≤ 1 by omega), if_pos (show g79 3 < 10 by omega)]; exact (show _ = ent 78 (uI (g78) 1 (g78 1 + 1)) from (E61.trans (ent_78 _)))) | (rw [if_pos (show 0 ≤ a ∧ a ≤ 11 ∧ 0 ≤ b ∧ b ≤ 63 ∧ 0 ≤ c ∧ c ≤ 1 by omega), if_neg (show ¬ (g79 3 < 10) by omega)]; exact (show _ = ent 78 (uI (g78) 1 (g78 1 + 1)) from (E61.trans (ent_78 _)))) | (rw [if_neg (show ¬ (0 ≤ a ∧ a ≤ 11 ∧ 0 ≤ b ∧ b ≤ 63 ∧ 0 ≤ c ∧ c ≤ 1) by omega), if_pos (show g79 3 < 10 by omega)]; exact (show _ = ent 78 (uI (g78) 1 (g78 1 + 1)) from (E61.trans (ent_78 _)))) | (rw [if_neg (show ¬ (0 ≤ a ∧ a ≤ 11 ∧ 0 ≤ b ∧ b ≤ 63 ∧ 0 ≤ c ∧ c ≤ 1) by omega), if_neg (show ¬ (g79 3 < 10) by omega)]; exact (show _ = ent 78 (uI (g78) 1 (g78 1 + 1)) from (E61.trans (ent_78 _))))), (by first | exact (show _ = ent 77 ((uI (uI g77 0 0) 1 ((-1)))) from E63) | (rw [if_pos (show 0 ≤ a ∧ a ≤ 11 ∧ 0 ≤ b ∧ b ≤ 63 ∧ 0 ≤ c ∧ c ≤ 1 by omega)]; exact (show _ = ent 77 ((uI (uI g77 0 0) 1 ((-1)))) from E63)) | (rw [if_neg (show ¬ (0 ≤ a ∧ a ≤ 11 ∧ 0 ≤ b ∧ b ≤ 63 ∧ 0 ≤ c ∧ c ≤ 1) by omega)]; exact (show _ = ent 77 ((uI (uI g77 0 0) 1 ((-1)))) from E63)) | (rw [if_pos (show 0 ≤ a ∧ a ≤ 11 ∧ 0 ≤ b ∧ b ≤ 63 ∧ 0 ≤ c ∧ c ≤ 1 by omega), if_pos (show g79 3 < 10 by omega)]; exact (show _ = ent 77 ((uI (uI g77 0 0) 1 ((-1)))) from E63)) | (rw [if_pos (show 0 ≤ a ∧ a ≤ 11 ∧ 0 ≤ b ∧ b ≤ 63 ∧ 0 ≤ c ∧ c ≤ 1 by omega), if_neg (show ¬ (g79 3 < 10) by omega)]; exact (show _ = ent 77 ((uI (uI g77 0 0) 1 ((-1)))) from E63)) | (rw [if_neg (show ¬ (0 ≤ a ∧ a ≤ 11 ∧ 0 ≤ b ∧ b ≤ 63 ∧ 0 ≤ c ∧ c ≤ 1) by omega), if_pos (show g79 3 < 10 by omega)]; exact (show _ = ent 77 ((uI (uI g77 0 0) 1 ((-1)))) from E63)) | (rw [if_neg (show ¬ (0 ≤ a ∧ a ≤ 11 ∧ 0 ≤ b ∧ b ≤ 63 ∧ 0 ≤ c ∧ c ≤ 1) by omega), if_neg (show ¬ (g79 3 < 10) by omega)]; exact (show _ = ent 77 ((uI (uI g77 0 0) 1 ((-1)))) from E63))), fun j m79 m78 m77 => ((F62 j m77 m78).trans (F3 j m77))⟩ | omega)
theorem dX12_end_0 : decode cX12_end 0 = .ok (.aload_n 0, 1) := by decide +kernel
theorem dX12_end_1 : decode cX12_end 1 = .ok (.iconst 0, 1) := by decide +kernel
theorem dX12_end_2 : decode cX12_end 2 = .ok (.putfield 169, 3) := by decide +kernel
theorem dX12_end_5 : decode cX12_end 5 = .ok (.iload_n 1, 1) := by decide +kernel
theorem dX12_end_6 : decode cX12_end 6 = .ok (.ifCond .lt 11, 3) := by decide +kernel
theorem dX12_end_9 : decode cX12_end 9 = .ok (.iload_n 1, 1) := by decide +kernel
theorem dX12_end_10 : decode cX12_end 10 = .ok (.aload_n 0, 1) := by decide +kernel
theorem dX12_end_11 : decode cX12_end 11 = .ok (.getfield 241, 3) := by decide +kernel
theorem dX12_end_14 : decode cX12_end 14 = .ok (.if_icmp .le 5, 3) := by decide +kernel
theorem dX12_end_17 : decode cX12_end 17 = .ok (.iconst (-1), 1) := by decide +kernel
theorem dX12_end_18 : decode cX12_end 18 = .ok (.ireturn, 1) := by decide +kernel
theorem dX12_end_19 : decode cX12_end 19 = .ok (.aload_n 0, 1) := by decide +kernel
theorem dX12_end_20 : decode cX12_end 20 = .ok (.iload_n 1, 1) := by decide +kernel
theorem dX12_end_21 : decode cX12_end 21 = .ok (.putfield 241, 3) := by decide +kernel
theorem dX12_end_24 : decode cX12_end 24 = .ok (.iload_n 1, 1) := by decide +kernel
theorem dX12_end_25 : decode cX12_end 25 = .ok (.ireturn, 1) := by decide +kernel
theorem sp_X12_end {n : Nat} {h : Nat → sE} {a : Int}  {g77 : Int → Int} (hn : 115 ≤ n) (H77 : h 77 = ent 77 g77) (ra : -2147483648 ≤ a ∧ a ≤ 2147483647) (i3 : 0 ≤ g77 8 ∧ g77 8 ≤ 400) : Sp m_X12_end 3 0 0 [.ref 77, .int (iI a)] n h (fun r n' h' => r = some (.int (iI (if 0 ≤ a ∧ a ≤ g77 8 then a else -1))) ∧ n' = n ∧ h' 77 = ent 77 ((uI (uI g77 0 0) 8 (if 0 ≤ a ∧ a ≤ g77 8 then a else g77 8))) ∧ ∀ j, j ≠ 77 → h' j = h j) := by
  refine Sp.ofV (by decide +kernel) (Nat.le_of_ble_eq_true rfl) ?_
  refine v_aload_n dX12_end_0 rfl ?_
  refine v_iconstI dX12_end_1 ?_
  refine v_put dX12_end_2 fl_X12_169 (H77.trans (ent_77 _)) (s_lt hn rfl) (Nat.le_of_ble_eq_true rfl) (fun _ => ⟨rfl, rfl⟩) trivial (fun h1 E2 F3 => ?_)
  refine v_iload_n dX12_end_5 rfl ?_
  refine v_if_ltI (tgt := 17) dX12_end_6 (by decide) (by omega) (by omega) (fun c_4 => ?_) (fun c_4 => ?_)
  · refine v_iconstI dX12_end_17 ?_
    exact v_iret dX12_end_18 rfl (Nat.zero_le _) (Nat.zero_le _) (by first | exact ⟨(congrArg (fun x => some (Value.int x)) (congrArg iI (by first | rfl | omega | (split <;> first | rfl | omega | (split <;> first | rfl | omega))))), rfl, (by first | exact (show _ = ent 77 (uI g77 0 0) from E2) | (rw [if_pos (by omega)]; exact (show _ = ent 77 (uI g77 0 0) from E2)) | (rw [if_neg (by omega)]; exact (show _ = ent 77 (uI g77 0 0) from E2))), fun j m77 => (F3 j m77)⟩ | omega)
  · refine v_iload_n dX12_end_9 rfl ?_
    refine v_aload_n dX12_end_10 rfl ?_
    refine v_get dX12_end_11 fl_X12_241 E2 rfl (s_lt hn rfl) ?_
    refine v_icmp_leI (tgt := 19) dX12_end_14 (by decide) (by omega) (by omega) (by omega) (by omega) (fun c_5 => ?_) (fun c_5 => ?_)
    · refine v_aload_n dX12_end_19 rfl ?_
      refine v_iload_n dX12_end_20 rfl ?_
      refine v_put dX12_end_21 fl_X12_241 E2 (s_lt hn rfl) (Nat.le_of_ble_eq_true rfl) (fun _ => ⟨rfl, rfl⟩) trivial (fun h6 E7 F8 => ?_)
      refine v_iload_n dX12_end_24 rfl ?_
      exact v_iret dX12_end_25 rfl (Nat.zero_le _) (Nat.zero_le _) (by first | exact ⟨(congrArg (fun x => some (Value.int x)) (congrArg iI (by first | rfl | omega | (split <;> first | rfl | omega | (split <;> first | rfl | omega))))), rfl, (by first | exact (show _ = ent 77 (uI (uI g77 0 0) 8 a) from E7) | (rw [if_pos (by omega)]; exact (show _ = ent 77 (uI (uI g77 0 0) 8 a) from E7)) | (rw [if_neg (by omega)]; exact (show _ = ent 77 (uI (uI g77 0 0) 8 a) from E7))), fun j m77 => ((F8 j m77).trans (F3 j m77))⟩ | omega)
    · refine v_iconstI dX12_end_17 ?_
      exact v_iret dX12_end_18 rfl (Nat.zero_le _) (Nat.zero_le _) (by first | exact ⟨(congrArg (fun x => some (Value.int x)) (congrArg iI (by first | rfl | omega | (split <;> first | rfl | omega | (split <;> first | rfl | omega))))), rfl, (by first | exact (show _ = ent 77 (uI g77 0 0) from E2) | (rw [if_pos (by omega)]; exact (show _ = ent 77 (uI g77 0 0) from E2)) | (rw [if_neg (by omega)]; exact (show _ = ent 77 (uI g77 0 0) from E2))), fun j m77 => (F3 j m77)⟩ | omega)
theorem dX12_status_0 : decode cX12_status 0 = .ok (.aload_n 0, 1) := by decide +kernel
theorem dX12_status_1 : decode cX12_status 1 = .ok (.iconst 0, 1) := by decide +kernel
theorem dX12_status_2 : decode cX12_status 2 = .ok (.putfield 169, 3) := by decide +kernel
theorem dX12_status_5 : decode cX12_status 5 = .ok (.aload_n 0, 1) := by decide +kernel
theorem dX12_status_6 : decode cX12_status 6 = .ok (.getfield 172, 3) := by decide +kernel
theorem dX12_status_9 : decode cX12_status 9 = .ok (.ireturn, 1) := by decide +kernel
theorem sp_X12_status {n : Nat} {h : Nat → sE}   {g77 : Int → Int} (hn : 115 ≤ n) (H77 : h 77 = ent 77 g77)  : Sp m_X12_status 0 0 0 [.ref 77] n h (fun r n' h' => r = some (.int (iI (g77 1))) ∧ n' = n ∧ h' 77 = ent 77 ((uI g77 0 0)) ∧ ∀ j, j ≠ 77 → h' j = h j) := by
  refine Sp.ofV (by decide +kernel) (Nat.le_of_ble_eq_true rfl) ?_
  refine v_aload_n dX12_status_0 rfl ?_
  refine v_iconstI dX12_status_1 ?_
  refine v_put dX12_status_2 fl_X12_169 (H77.trans (ent_77 _)) (s_lt hn rfl) (Nat.le_of_ble_eq_true rfl) (fun _ => ⟨rfl, rfl⟩) trivial (fun h1 E2 F3 => ?_)
  refine v_aload_n dX12_status_5 rfl ?_
  refine v_get dX12_status_6 fl_X12_172 E2 rfl (s_lt hn rfl) ?_
  exact v_iret dX12_status_9 rfl (Nat.zero_le _) (Nat.zero_le _) (by first | exact ⟨(congrArg (fun x => some (Value.int x)) (congrArg iI (by first | rfl | omega | (split <;> first | rfl | omega | (split <;> first | rfl | omega))))), rfl, (by first | exact (show _ = ent 77 (uI g77 0 0) from E2) | (rw [if_pos (by omega)]; exact (show _ = ent 77 (uI g77 0 0) from E2)) | (rw [if_neg (by omega)]; exact (show _ = ent 77 (uI g77 0 0) from E2))), fun j m77 => (F3 j m77)⟩ | omega)
theorem dX12_haze_0 : decode cX12_haze 0 = .ok (.aload_n 0, 1) := by decide +kernel
theorem dX12_haze_1 : decode cX12_haze 1 = .ok (.iconst 0, 1) := by decide +kernel
theorem dX12_haze_2 : decode cX12_haze 2 = .ok (.putfield 169, 3) := by decide +kernel
theorem dX12_haze_5 : decode cX12_haze 5 = .ok (.aload_n 0, 1) := by decide +kernel
theorem dX12_haze_6 : decode cX12_haze 6 = .ok (.getfield 244, 3) := by decide +kernel
theorem dX12_haze_9 : decode cX12_haze 9 = .ok (.ireturn, 1) := by decide +kernel
theorem sp_X12_haze {n : Nat} {h : Nat → sE}   {g77 : Int → Int} (hn : 115 ≤ n) (H77 : h 77 = ent 77 g77)  : Sp m_X12_haze 0 0 0 [.ref 77] n h (fun r n' h' => r = some (.int (iI (g77 6))) ∧ n' = n ∧ h' 77 = ent 77 ((uI g77 0 0)) ∧ ∀ j, j ≠ 77 → h' j = h j) := by
  refine Sp.ofV (by decide +kernel) (Nat.le_of_ble_eq_true rfl) ?_
  refine v_aload_n dX12_haze_0 rfl ?_
  refine v_iconstI dX12_haze_1 ?_
  refine v_put dX12_haze_2 fl_X12_169 (H77.trans (ent_77 _)) (s_lt hn rfl) (Nat.le_of_ble_eq_true rfl) (fun _ => ⟨rfl, rfl⟩) trivial (fun h1 E2 F3 => ?_)
  refine v_aload_n dX12_haze_5 rfl ?_
  refine v_get dX12_haze_6 fl_X12_244 E2 rfl (s_lt hn rfl) ?_
  exact v_iret dX12_haze_9 rfl (Nat.zero_le _) (Nat.zero_le _) (by first | exact ⟨(congrArg (fun x => some (Value.int x)) (congrArg iI (by first | rfl | omega | (split <;> first | rfl | omega | (split <;> first | rfl | omega))))), rfl, (by first | exact (show _ = ent 77 (uI g77 0 0) from E2) | (rw [if_pos (by omega)]; exact (show _ = ent 77 (uI g77 0 0) from E2)) | (rw [if_neg (by omega)]; exact (show _ = ent 77 (uI g77 0 0) from E2))), fun j m77 => (F3 j m77)⟩ | omega)
theorem dX12_stopped_0 : decode cX12_stopped 0 = .ok (.aload_n 0, 1) := by decide +kernel
theorem dX12_stopped_1 : decode cX12_stopped 1 = .ok (.iconst 0, 1) := by decide +kernel
theorem dX12_stopped_2 : decode cX12_stopped 2 = .ok (.putfield 169, 3) := by decide +kernel
theorem dX12_stopped_5 : decode cX12_stopped 5 = .ok (.aload_n 0, 1) := by decide +kernel
theorem dX12_stopped_6 : decode cX12_stopped 6 = .ok (.getfield 163, 3) := by decide +kernel
theorem dX12_stopped_9 : decode cX12_stopped 9 = .ok (.ireturn, 1) := by decide +kernel
theorem sp_X12_stopped {n : Nat} {h : Nat → sE}   {g77 : Int → Int} (hn : 115 ≤ n) (H77 : h 77 = ent 77 g77)  : Sp m_X12_stopped 0 0 0 [.ref 77] n h (fun r n' h' => r = some (.int (iI (g77 59))) ∧ n' = n ∧ h' 77 = ent 77 ((uI g77 0 0)) ∧ ∀ j, j ≠ 77 → h' j = h j) := by
  refine Sp.ofV (by decide +kernel) (Nat.le_of_ble_eq_true rfl) ?_
  refine v_aload_n dX12_stopped_0 rfl ?_
  refine v_iconstI dX12_stopped_1 ?_
  refine v_put dX12_stopped_2 fl_X12_169 (H77.trans (ent_77 _)) (s_lt hn rfl) (Nat.le_of_ble_eq_true rfl) (fun _ => ⟨rfl, rfl⟩) trivial (fun h1 E2 F3 => ?_)
  refine v_aload_n dX12_stopped_5 rfl ?_
  refine v_get dX12_stopped_6 fl_X12_163 E2 rfl (s_lt hn rfl) ?_
  exact v_iret dX12_stopped_9 rfl (Nat.zero_le _) (Nat.zero_le _) (by first | exact ⟨(congrArg (fun x => some (Value.int x)) (congrArg iI (by first | rfl | omega | (split <;> first | rfl | omega | (split <;> first | rfl | omega))))), rfl, (by first | exact (show _ = ent 77 (uI g77 0 0) from E2) | (rw [if_pos (by omega)]; exact (show _ = ent 77 (uI g77 0 0) from E2)) | (rw [if_neg (by omega)]; exact (show _ = ent 77 (uI g77 0 0) from E2))), fun j m77 => (F3 j m77)⟩ | omega)
theorem dX12_fault_0 : decode cX12_fault 0 = .ok (.aload_n 0, 1) := by decide +kernel
theorem dX12_fault_1 : decode cX12_fault 1 = .ok (.iconst 0, 1) := by decide +kernel
theorem dX12_fault_2 : decode cX12_fault 2 = .ok (.putfield 169, 3) := by decide +kernel
theorem dX12_fault_5 : decode cX12_fault 5 = .ok (.aload_n 0, 1) := by decide +kernel
theorem dX12_fault_6 : decode cX12_fault 6 = .ok (.getfield 26, 3) := by decide +kernel
theorem dX12_fault_9 : decode cX12_fault 9 = .ok (.ireturn, 1) := by decide +kernel
theorem sp_X12_fault {n : Nat} {h : Nat → sE}   {g77 : Int → Int} (hn : 115 ≤ n) (H77 : h 77 = ent 77 g77)  : Sp m_X12_fault 0 0 0 [.ref 77] n h (fun r n' h' => r = some (.int (iI (g77 13))) ∧ n' = n ∧ h' 77 = ent 77 ((uI g77 0 0)) ∧ ∀ j, j ≠ 77 → h' j = h j) := by
  refine Sp.ofV (by decide +kernel) (Nat.le_of_ble_eq_true rfl) ?_
  refine v_aload_n dX12_fault_0 rfl ?_
  refine v_iconstI dX12_fault_1 ?_
  refine v_put dX12_fault_2 fl_X12_169 (H77.trans (ent_77 _)) (s_lt hn rfl) (Nat.le_of_ble_eq_true rfl) (fun _ => ⟨rfl, rfl⟩) trivial (fun h1 E2 F3 => ?_)
  refine v_aload_n dX12_fault_5 rfl ?_
  refine v_get dX12_fault_6 fl_X12_26 E2 rfl (s_lt hn rfl) ?_
  exact v_iret dX12_fault_9 rfl (Nat.zero_le _) (Nat.zero_le _) (by first | exact ⟨(congrArg (fun x => some (Value.int x)) (congrArg iI (by first | rfl | omega | (split <;> first | rfl | omega | (split <;> first | rfl | omega))))), rfl, (by first | exact (show _ = ent 77 (uI g77 0 0) from E2) | (rw [if_pos (by omega)]; exact (show _ = ent 77 (uI g77 0 0) from E2)) | (rw [if_neg (by omega)]; exact (show _ = ent 77 (uI g77 0 0) from E2))), fun j m77 => (F3 j m77)⟩ | omega)
theorem dX12_force_0 : decode cX12_force 0 = .ok (.aload_n 0, 1) := by decide +kernel
theorem dX12_force_1 : decode cX12_force 1 = .ok (.iconst 0, 1) := by decide +kernel
theorem dX12_force_2 : decode cX12_force 2 = .ok (.putfield 169, 3) := by decide +kernel
theorem dX12_force_5 : decode cX12_force 5 = .ok (.iload_n 1, 1) := by decide +kernel
theorem dX12_force_6 : decode cX12_force 6 = .ok (.iconst (-1), 1) := by decide +kernel
theorem dX12_force_7 : decode cX12_force 7 = .ok (.if_icmp .eq 21, 3) := by decide +kernel
theorem dX12_force_10 : decode cX12_force 10 = .ok (.iload_n 1, 1) := by decide +kernel
theorem dX12_force_11 : decode cX12_force 11 = .ok (.i2l, 1) := by decide +kernel
theorem dX12_force_12 : decode cX12_force 12 = .ok (.lconst 0, 1) := by decide +kernel
theorem dX12_force_13 : decode cX12_force 13 = .ok (.aload_n 0, 1) := by decide +kernel
theorem dX12_force_14 : decode cX12_force 14 = .ok (.getfield 13, 3) := by decide +kernel
theorem dX12_force_17 : decode cX12_force 17 = .ok (.iconst 4, 1) := by decide +kernel
theorem dX12_force_18 : decode cX12_force 18 = .ok (.iaload, 1) := by decide +kernel
theorem dX12_force_19 : decode cX12_force 19 = .ok (.i2l, 1) := by decide +kernel
theorem dX12_force_20 : decode cX12_force 20 = .ok (.lconst 1, 1) := by decide +kernel
theorem dX12_force_21 : decode cX12_force 21 = .ok (.lsub, 1) := by decide +kernel
theorem dX12_force_22 : decode cX12_force 22 = .ok (.invokestatic 175, 3) := by decide +kernel
theorem dX12_force_25 : decode cX12_force 25 = .ok (.ifCond .eq 12, 3) := by decide +kernel
theorem dX12_force_28 : decode cX12_force 28 = .ok (.aload_n 0, 1) := by decide +kernel
theorem dX12_force_29 : decode cX12_force 29 = .ok (.iconst 5, 1) := by decide +kernel
theorem dX12_force_30 : decode cX12_force 30 = .ok (.iload_n 1, 1) := by decide +kernel
theorem dX12_force_31 : decode cX12_force 31 = .ok (.invokevirtual 199, 3) := by decide +kernel
theorem dX12_force_34 : decode cX12_force 34 = .ok (.goto 9, 3) := by decide +kernel
theorem dX12_force_37 : decode cX12_force 37 = .ok (.aload_n 0, 1) := by decide +kernel
theorem dX12_force_38 : decode cX12_force 38 = .ok (.bipush (-2), 2) := by decide +kernel
theorem dX12_force_40 : decode cX12_force 40 = .ok (.invokevirtual 179, 3) := by decide +kernel
theorem dX12_force_43 : decode cX12_force 43 = .ok (.ireturn, 1) := by decide +kernel
theorem sp_X12_force {n : Nat} {h : Nat → sE} {a : Int}  {g77 g79 g78 : Int → Int} (hn : 115 ≤ n) (H77 : h 77 = ent 77 g77) (H79 : h 79 = ent 79 g79) (H78 : h 78 = ent 78 g78) (ra : -2147483648 ≤ a ∧ a ≤ 2147483647) (i3 : 0 ≤ g79 4 ∧ g79 4 ≤ 6) : Sp m_X12_force 3 0 0 [.ref 77, .int (iI a)] n h (fun r n' h' => r = some (.int (iI (if a = -1 ∨ (0 ≤ a ∧ a ≤ g79 4 - 1) then g79 5 else -2))) ∧ n' = n ∧ h' 79 = ent 79 (if a = -1 ∨ (0 ≤ a ∧ a ≤ g79 4 - 1) then uI (g79) 5 a else g79) ∧ h' 78 = ent 78 (if a = -1 ∨ (0 ≤ a ∧ a ≤ g79 4 - 1) then g78 else uI (g78) 2 (g78 2 + 1)) ∧ h' 77 = ent 77 ((uI (uI g77 0 0) 1 (if a = -1 ∨ (0 ≤ a ∧ a ≤ g79 4 - 1) then 0 else -2))) ∧ ∀ j, j ≠ 79 → j ≠ 78 → j ≠ 77 → h' j = h j) := by
  refine Sp.ofV (by decide +kernel) (Nat.le_of_ble_eq_true rfl) ?_
  refine v_aload_n dX12_force_0 rfl ?_
  refine v_iconstI dX12_force_1 ?_
  refine v_put dX12_force_2 fl_X12_169 (H77.trans (ent_77 _)) (s_lt hn rfl) (Nat.le_of_ble_eq_true rfl) (fun _ => ⟨rfl, rfl⟩) trivial (fun h1 E2 F3 => ?_)
  refine v_iload_n dX12_force_5 rfl ?_
  refine v_iconstI dX12_force_6 ?_
  refine v_icmp_eqI (tgt := 28) dX12_force_7 (by decide) (by omega) (by omega) (by omega) (by omega) (fun c_4 => ?_) (fun c_4 => ?_)
  · refine v_aload_n dX12_force_28 rfl ?_
    refine v_iconstI dX12_force_29 ?_
    refine v_iload_n dX12_force_30 rfl ?_
    have H5 := ((F3 79 (by decide)).trans (H79.trans (ent_79 _)))
    refine v_callV dX12_force_31 ml_X12_199 (sp_X12_change (a := 5) (b := a) (g77 := (uI g77 0 0)) (g79 := g79) hn (show _ = ent 77 (uI g77 0 0) from E2) (show _ = ent 79 g79 from H5) (by omega)) E2 rfl (s_lt hn rfl) rfl rfl (Nat.le_of_ble_eq_true rfl) (Nat.le_of_ble_eq_true rfl) (Nat.zero_le _) (Nat.zero_le _) ⟨Or.inl (fun _ _ _ q => q.2.1), fun r n1 h6 q7 => ?_⟩
    obtain ⟨rfl, rfl, E8, E9, F10⟩ := q7
    dsimp only [s_push]
    have E11 : _ = (.inr (12, [.int (iI 0), .int (iI (0)), .ref 78, .ref 79, .ref 80, .ref 81, .int (iI (g77 6)), .ref 82, .int (iI (g77 8)), .int (iI (g77 9)), .int (iI (g77 10)), .int (iI (g77 11)), .long (jJ (g77 12)), .int (iI (g77 13)), .int (iI (g77 14)), .int (iI (g77 15)), .int (iI (g77 16)), .ref 83, .int (iI (g77 18)), .ref 84, .ref 85, .int (iI (g77 21)), .ref 86, .ref 87, .int (iI (g77 24)), .int (iI (g77 25)), .ref 88, .ref 89, .ref 90, .int (iI (g77 29)), .ref 91, .ref 92, .ref 93, .int (iI (g77 33)), .long (jJ (g77 34)), .long (jJ (g77 35)), .ref 94, .ref 95, .ref 96, .ref 97, .ref 98, .ref 99, .ref 100, .ref 101, .ref 102, .ref 103, .ref 104, .ref 105, .ref 106, .ref 107, .int (iI (g77 50)), .ref 108, .ref 109, .ref 110, .ref 111, .ref 112, .ref 113, .int (iI (g77 57)), .int (iI (g77 58)), .int (iI (g77 59)), .int (iI (g77 60)), .long (jJ (g77 61)), .ref 114, .int (iI (g77 63))]) : sE) := E9
    refine v_goto (tgt := 43) dX12_force_34 (by decide) ?_
    exact v_iret dX12_force_43 rfl (Nat.zero_le _) (Nat.zero_le _) (by first | exact ⟨(congrArg (fun x => some (Value.int x)) (congrArg iI (by first | rfl | omega | (split <;> first | rfl | omega | (split <;> first | rfl | omega))))), rfl, (by first | exact (show _ = ent 79 (uI (g79) 5 a) from (E8.trans (ent_79 _))) | (rw [if_pos (show a = -1 ∨ (0 ≤ a ∧ a ≤ g79 4 - 1) by omega)]; exact (show _ = ent 79 (uI (g79) 5 a) from (E8.trans (ent_79 _)))) | (rw [if_neg (show ¬ (a = -1 ∨ (0 ≤ a ∧ a ≤ g79 4 - 1)) by omega)]; exact (show _ = ent 79 (uI (g79) 5 a) from (E8.trans (ent_79 _))))), (by first | exact (show _ = ent 78 g78 from ((F10 78 (by decide) (by decide)).trans ((F3 78 (by decide)).trans (H78.trans (ent_78 _))))) | (rw [if_pos (show a = -1 ∨ (0 ≤ a ∧ a ≤ g79 4 - 1) by omega)]; exact (show _ = ent 78 g78 from ((F10 78 (by decide) (by decide)).trans ((F3 78 (by decide)).trans (H78.trans (ent_78 _)))))) | (rw [if_neg (show ¬ (a = -1 ∨ (0 ≤ a ∧ a ≤ g79 4 - 1)) by omega)]; exact (show _ = ent 78 g78 from ((F10 78 (by decide) (by decide)).trans ((F3 78 (by decide)).trans (H78.trans (ent_78 _))))))), (by first | exact (show _ = ent 77 ((uI (uI g77 0 0) 1 0)) from E11) | (rw [if_pos (show a = -1 ∨ (0 ≤ a ∧ a ≤ g79 4 - 1) by omega)]; exact (show _ = ent 77 ((uI (uI g77 0 0) 1 0)) from E11)) | (rw [if_neg (show ¬ (a = -1 ∨ (0 ≤ a ∧ a ≤ g79 4 - 1)) by omega)]; exact (show _ = ent 77 ((uI (uI g77 0 0) 1 0)) from E11))), fun j m79 m78 m77 => ((F10 j m79 m77).trans (F3 j m77))⟩ | omega)
  · refine v_iload_n dX12_force_10 rfl ?_
    refine v_i2lI dX12_force_11 (by omega) (by omega) ?_
    refine v_lconstI (w := 0) dX12_force_12 rfl ?_
    refine v_aload_n dX12_force_13 rfl ?_
    refine v_get dX12_force_14 fl_X12_13 E2 rfl (s_lt hn rfl) ?_
    refine v_iconstI dX12_force_17 ?_
    have H12 := ((F3 79 (by decide)).trans (H79.trans (ent_79 _)))
    refine v_ialdI dX12_force_18 H12 (s_lt hn rfl) (by omega) (by omega) (by omega) ?_
    refine v_i2lI dX12_force_19 (by omega) (by omega) ?_
    refine v_lconstI (w := 1) dX12_force_20 rfl ?_
    refine v_lsubI dX12_force_21 ?_
    refine v_callS dX12_force_22 ml_X12_175 (sp_X12_in (v := a) (lo := 0) (hi := ((g79 4) - 1))   (by omega) (by omega) (by omega)) rfl rfl (Nat.le_of_ble_eq_true rfl) (Nat.le_of_ble_eq_true rfl) (Nat.zero_le _) (Nat.zero_le _) ⟨Or.inl (fun _ _ _ q => q.2.1), fun r n1 h13 q14 => ?_⟩
    obtain ⟨rfl, rfl, rfl⟩ := q14
    try dsimp only [s_push]
    refine v_ifeqB (tgt := 37) dX12_force_25 (by decide) (fun c_15 => ?_) (fun c_15 => ?_)
    · refine v_aload_n dX12_force_37 rfl ?_
      refine v_bipushI dX12_force_38 rfl ?_
      have H16 := ((F3 78 (by decide)).trans (H78.trans (ent_78 _)))
      refine v_callV dX12_force_40 ml_X12_179 (sp_X12_tell_2  (g77 := (uI g77 0 0)) (g78 := g78) hn (show _ = ent 77 (uI g77 0 0) from E2) (show _ = ent 78 g78 from H16)) E2 rfl (s_lt hn rfl) rfl rfl (Nat.le_of_ble_eq_true rfl) (Nat.le_of_ble_eq_true rfl) (Nat.zero_le _) (Nat.zero_le _) ⟨Or.inl (fun _ _ _ q => q.2.1), fun r n1 h17 q18 => ?_⟩
      obtain ⟨rfl, rfl, E19, E20, F21⟩ := q18
      dsimp only [s_push]
      have E22 : _ = (.inr (12, [.int (iI 0), .int (iI ((-2))), .ref 78, .ref 79, .ref 80, .ref 81, .int (iI (g77 6)), .ref 82, .int (iI (g77 8)), .int (iI (g77 9)), .int (iI (g77 10)), .int (iI (g77 11)), .long (jJ (g77 12)), .int (iI (g77 13)), .int (iI (g77 14)), .int (iI (g77 15)), .int (iI (g77 16)), .ref 83, .int (iI (g77 18)), .ref 84, .ref 85, .int (iI (g77 21)), .ref 86, .ref 87, .int (iI (g77 24)), .int (iI (g77 25)), .ref 88, .ref 89, .ref 90, .int (iI (g77 29)), .ref 91, .ref 92, .ref 93, .int (iI (g77 33)), .long (jJ (g77 34)), .long (jJ (g77 35)), .ref 94, .ref 95, .ref 96, .ref 97, .ref 98, .ref 99, .ref 100, .ref 101, .ref 102, .ref 103, .ref 104, .ref 105, .ref 106, .ref 107, .int (iI (g77 50)), .ref 108, .ref 109, .ref 110, .ref 111, .ref 112, .ref 113, .int (iI (g77 57)), .int (iI (g77 58)), .int (iI (g77 59)), .int (iI (g77 60)), .long (jJ (g77 61)), .ref 114, .int (iI (g77 63))]) : sE) := E19
      exact v_iret dX12_force_43 rfl (Nat.zero_le _) (Nat.zero_le _) (by first | exact ⟨(congrArg (fun x => some (Value.int x)) (congrArg iI (by first | rfl | omega | (split <;> first | rfl | omega | (split <;> first | rfl | omega))))), rfl, (by first | exact (show _ = ent 79 g79 from ((F21 79 (by decide) (by decide)).trans H12)) | (rw [if_pos (show a = -1 ∨ (0 ≤ a ∧ a ≤ g79 4 - 1) by omega)]; exact (show _ = ent 79 g79 from ((F21 79 (by decide) (by decide)).trans H12))) | (rw [if_neg (show ¬ (a = -1 ∨ (0 ≤ a ∧ a ≤ g79 4 - 1)) by omega)]; exact (show _ = ent 79 g79 from ((F21 79 (by decide) (by decide)).trans H12)))), (by first | exact (show _ = ent 78 (uI (g78) 2 (g78 2 + 1)) from (E20.trans (ent_78 _))) | (rw [if_pos (show a = -1 ∨ (0 ≤ a ∧ a ≤ g79 4 - 1) by omega)]; exact (show _ = ent 78 (uI (g78) 2 (g78 2 + 1)) from (E20.trans (ent_78 _)))) | (rw [if_neg (show ¬ (a = -1 ∨ (0 ≤ a ∧ a ≤ g79 4 - 1)) by omega)]; exact (show _ = ent 78 (uI (g78) 2 (g78 2 + 1)) from (E20.trans (ent_78 _))))), (by first | exact (show _ = ent 77 ((uI (uI g77 0 0) 1 ((-2)))) from E22) | (rw [if_pos (show a = -1 ∨ (0 ≤ a ∧ a ≤ g79 4 - 1) by omega)]; exact (show _ = ent 77 ((uI (uI g77 0 0) 1 ((-2)))) from E22)) | (rw [if_neg (show ¬ (a = -1 ∨ (0 ≤ a ∧ a ≤ g79 4 - 1)) by omega)]; exact (show _ = ent 77 ((uI (uI g77 0 0) 1 ((-2)))) from E22))), fun j m79 m78 m77 => ((F21 j m77 m78).trans (F3 j m77))⟩ | omega)
    · refine v_aload_n dX12_force_28 rfl ?_
      refine v_iconstI dX12_force_29 ?_
      refine v_iload_n dX12_force_30 rfl ?_
      refine v_callV dX12_force_31 ml_X12_199 (sp_X12_change (a := 5) (b := a) (g77 := (uI g77 0 0)) (g79 := g79) hn (show _ = ent 77 (uI g77 0 0) from E2) (show _ = ent 79 g79 from H12) (by omega)) E2 rfl (s_lt hn rfl) rfl rfl (Nat.le_of_ble_eq_true rfl) (Nat.le_of_ble_eq_true rfl) (Nat.zero_le _) (Nat.zero_le _) ⟨Or.inl (fun _ _ _ q => q.2.1), fun r n1 h23 q24 => ?_⟩
      obtain ⟨rfl, rfl, E25, E26, F27⟩ := q24
      dsimp only [s_push]
      have E28 : _ = (.inr (12, [.int (iI 0), .int (iI (0)), .ref 78, .ref 79, .ref 80, .ref 81, .int (iI (g77 6)), .ref 82, .int (iI (g77 8)), .int (iI (g77 9)), .int (iI (g77 10)), .int (iI (g77 11)), .long (jJ (g77 12)), .int (iI (g77 13)), .int (iI (g77 14)), .int (iI (g77 15)), .int (iI (g77 16)), .ref 83, .int (iI (g77 18)), .ref 84, .ref 85, .int (iI (g77 21)), .ref 86, .ref 87, .int (iI (g77 24)), .int (iI (g77 25)), .ref 88, .ref 89, .ref 90, .int (iI (g77 29)), .ref 91, .ref 92, .ref 93, .int (iI (g77 33)), .long (jJ (g77 34)), .long (jJ (g77 35)), .ref 94, .ref 95, .ref 96, .ref 97, .ref 98, .ref 99, .ref 100, .ref 101, .ref 102, .ref 103, .ref 104, .ref 105, .ref 106, .ref 107, .int (iI (g77 50)), .ref 108, .ref 109, .ref 110, .ref 111, .ref 112, .ref 113, .int (iI (g77 57)), .int (iI (g77 58)), .int (iI (g77 59)), .int (iI (g77 60)), .long (jJ (g77 61)), .ref 114, .int (iI (g77 63))]) : sE) := E26
      refine v_goto (tgt := 43) dX12_force_34 (by decide) ?_
      exact v_iret dX12_force_43 rfl (Nat.zero_le _) (Nat.zero_le _) (by first | exact ⟨(congrArg (fun x => some (Value.int x)) (congrArg iI (by first | rfl | omega | (split <;> first | rfl | omega | (split <;> first | rfl | omega))))), rfl, (by first | exact (show _ = ent 79 (uI (g79) 5 a) from (E25.trans (ent_79 _))) | (rw [if_pos (show a = -1 ∨ (0 ≤ a ∧ a ≤ g79 4 - 1) by omega)]; exact (show _ = ent 79 (uI (g79) 5 a) from (E25.trans (ent_79 _)))) | (rw [if_neg (show ¬ (a = -1 ∨ (0 ≤ a ∧ a ≤ g79 4 - 1)) by omega)]; exact (show _ = ent 79 (uI (g79) 5 a) from (E25.trans (ent_79 _))))), (by first | exact (show _ = ent 78 g78 from ((F27 78 (by decide) (by decide)).trans ((F3 78 (by decide)).trans (H78.trans (ent_78 _))))) | (rw [if_pos (show a = -1 ∨ (0 ≤ a ∧ a ≤ g79 4 - 1) by omega)]; exact (show _ = ent 78 g78 from ((F27 78 (by decide) (by decide)).trans ((F3 78 (by decide)).trans (H78.trans (ent_78 _)))))) | (rw [if_neg (show ¬ (a = -1 ∨ (0 ≤ a ∧ a ≤ g79 4 - 1)) by omega)]; exact (show _ = ent 78 g78 from ((F27 78 (by decide) (by decide)).trans ((F3 78 (by decide)).trans (H78.trans (ent_78 _))))))), (by first | exact (show _ = ent 77 ((uI (uI g77 0 0) 1 0)) from E28) | (rw [if_pos (show a = -1 ∨ (0 ≤ a ∧ a ≤ g79 4 - 1) by omega)]; exact (show _ = ent 77 ((uI (uI g77 0 0) 1 0)) from E28)) | (rw [if_neg (show ¬ (a = -1 ∨ (0 ≤ a ∧ a ≤ g79 4 - 1)) by omega)]; exact (show _ = ent 77 ((uI (uI g77 0 0) 1 0)) from E28))), fun j m79 m78 m77 => ((F27 j m79 m77).trans (F3 j m77))⟩ | omega)

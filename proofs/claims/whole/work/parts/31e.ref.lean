/-! THE REFERENCE'S METHODS, 5 of 5: texts over the picture, by program (tools/wp.py) -/
theorem dX12_back_0 : decode cX12_back 0 = .ok (.aload_n 0, 1) := by decide +kernel
theorem dX12_back_1 : decode cX12_back 1 = .ok (.iconst 0, 1) := by decide +kernel
theorem dX12_back_2 : decode cX12_back 2 = .ok (.putfield 169, 3) := by decide +kernel
theorem dX12_back_5 : decode cX12_back 5 = .ok (.iload_n 1, 1) := by decide +kernel
theorem dX12_back_6 : decode cX12_back 6 = .ok (.i2l, 1) := by decide +kernel
theorem dX12_back_7 : decode cX12_back 7 = .ok (.lconst 0, 1) := by decide +kernel
theorem dX12_back_8 : decode cX12_back 8 = .ok (.lconst 1, 1) := by decide +kernel
theorem dX12_back_9 : decode cX12_back 9 = .ok (.invokestatic 175, 3) := by decide +kernel
theorem dX12_back_12 : decode cX12_back 12 = .ok (.ifCond .ne 9, 3) := by decide +kernel
theorem dX12_back_15 : decode cX12_back 15 = .ok (.aload_n 0, 1) := by decide +kernel
theorem dX12_back_16 : decode cX12_back 16 = .ok (.iconst (-1), 1) := by decide +kernel
theorem dX12_back_17 : decode cX12_back 17 = .ok (.invokevirtual 179, 3) := by decide +kernel
theorem dX12_back_20 : decode cX12_back 20 = .ok (.ireturn, 1) := by decide +kernel
theorem dX12_back_21 : decode cX12_back 21 = .ok (.aload_n 0, 1) := by decide +kernel
theorem dX12_back_22 : decode cX12_back 22 = .ok (.getfield 19, 3) := by decide +kernel
theorem dX12_back_25 : decode cX12_back 25 = .ok (.iload_n 1, 1) := by decide +kernel
theorem dX12_back_26 : decode cX12_back 26 = .ok (.baload, 1) := by decide +kernel
theorem dX12_back_27 : decode cX12_back 27 = .ok (.ifCond .ne 10, 3) := by decide +kernel
theorem dX12_back_30 : decode cX12_back 30 = .ok (.aload_n 0, 1) := by decide +kernel
theorem dX12_back_31 : decode cX12_back 31 = .ok (.bipush (-2), 2) := by decide +kernel
theorem dX12_back_33 : decode cX12_back 33 = .ok (.invokevirtual 179, 3) := by decide +kernel
theorem dX12_back_36 : decode cX12_back 36 = .ok (.ireturn, 1) := by decide +kernel
theorem dX12_back_37 : decode cX12_back 37 = .ok (.iconst 0, 1) := by decide +kernel
theorem dX12_back_38 : decode cX12_back 38 = .ok (.istore_n 2, 1) := by decide +kernel
theorem dX12_back_39 : decode cX12_back 39 = .ok (.iload_n 2, 1) := by decide +kernel
theorem dX12_back_40 : decode cX12_back 40 = .ok (.sipush 5780, 3) := by decide +kernel
theorem dX12_back_43 : decode cX12_back 43 = .ok (.if_icmp .ge 27, 3) := by decide +kernel
theorem dX12_back_46 : decode cX12_back 46 = .ok (.aload_n 0, 1) := by decide +kernel
theorem dX12_back_47 : decode cX12_back 47 = .ok (.getfield 13, 3) := by decide +kernel
theorem dX12_back_50 : decode cX12_back 50 = .ok (.iload_n 2, 1) := by decide +kernel
theorem dX12_back_51 : decode cX12_back 51 = .ok (.aload_n 0, 1) := by decide +kernel
theorem dX12_back_52 : decode cX12_back 52 = .ok (.getfield 16, 3) := by decide +kernel
theorem dX12_back_55 : decode cX12_back 55 = .ok (.sipush 5780, 3) := by decide +kernel
theorem dX12_back_58 : decode cX12_back 58 = .ok (.iload_n 1, 1) := by decide +kernel
theorem dX12_back_59 : decode cX12_back 59 = .ok (.imul, 1) := by decide +kernel
theorem dX12_back_60 : decode cX12_back 60 = .ok (.iload_n 2, 1) := by decide +kernel
theorem dX12_back_61 : decode cX12_back 61 = .ok (.iadd, 1) := by decide +kernel
theorem dX12_back_62 : decode cX12_back 62 = .ok (.iaload, 1) := by decide +kernel
theorem dX12_back_63 : decode cX12_back 63 = .ok (.iastore, 1) := by decide +kernel
theorem dX12_back_64 : decode cX12_back 64 = .ok (.iinc 2 1, 3) := by decide +kernel
theorem dX12_back_67 : decode cX12_back 67 = .ok (.goto (-28), 3) := by decide +kernel
theorem dX12_back_70 : decode cX12_back 70 = .ok (.aload_n 0, 1) := by decide +kernel
theorem dX12_back_71 : decode cX12_back 71 = .ok (.iconst 0, 1) := by decide +kernel
theorem dX12_back_72 : decode cX12_back 72 = .ok (.invokevirtual 179, 3) := by decide +kernel
theorem dX12_back_75 : decode cX12_back 75 = .ok (.ireturn, 1) := by decide +kernel
def w_X12_back (a0 : Int) (X : XT) (Q : Int → XT → Prop) : Prop :=
  R32 a0 ∧ ((0 ≤ a0 ∧ a0 ≤ 1) → (0 ≤ a0 ∧ a0 < 2) ∧ R32 ((x_st X 77 0 0) 81 a0) ∧ (¬ ((x_st X 77 0 0) 81 a0) = 0 → ∃ (I13 : Int → XT → Prop) (m14 : Int → XT → Nat), I13 0 (x_st X 77 0 0) ∧ ∀ (x11 : Int) (X12 : XT), I13 x11 X12 → R32 x11 ∧ (5780 ≤ x11 → w_X12_tell  0 X12 (fun (v27 : Int) (X28 : XT) => Q v27 X28)) ∧ (¬ 5780 ≤ x11 → (0 ≤ ((5780 * a0) + x11) ∧ ((5780 * a0) + x11) < 11560) ∧ (0 ≤ x11 ∧ x11 < 5780) ∧ I13 (x11 + 1) (x_st X12 79 x11 (X12 80 ((5780 * a0) + x11))) ∧ m14 (x11 + 1) (x_st X12 79 x11 (X12 80 ((5780 * a0) + x11))) < m14 x11 X12)) ∧ (((x_st X 77 0 0) 81 a0) = 0 → w_X12_tell  (-2) (x_st X 77 0 0) (fun (v40 : Int) (X41 : XT) => Q v40 X41))) ∧ (¬ (0 ≤ a0 ∧ a0 ≤ 1) → w_X12_tell  (-1) (x_st X 77 0 0) (fun (v46 : Int) (X47 : XT) => Q v46 X47))
set_option maxRecDepth 20000 in
theorem so_X12_back {n : Nat} {h : Nat → sE} {X : XT} {a0 : Int} {Q : Int → XT → Prop} (hn : 115 ≤ n) (hp : Pic X h) (w : w_X12_back  a0 X Q) : Sp m_X12_back 1 0 0 [.ref 77, .int (iI a0)] n h (pIw n h Q) := by
  unfold w_X12_back at w
  refine Sp.ofV (by decide +kernel) (Nat.le_of_ble_eq_true rfl) ?_
  have hf : Fr h h := fun _ _ => rfl
  refine v_aload_n dX12_back_0 rfl ?_
  refine v_iconstI dX12_back_1 ?_
  refine v_put dX12_back_2 fl_X12_169 ((hp 77 (by decide)).trans (ent_77 _)) (s_lt hn rfl) (Nat.le_of_ble_eq_true rfl) (fun _ => ⟨rfl, rfl⟩) trivial (fun h1 E2 F3 => ?_)
  have hp4 := pic_st hp (show h1 77 = ent 77 (uI _ 0 0) from E2) F3
  have hf5 := Fr.up (c := 77) hf F3 rfl
  refine v_iload_n dX12_back_5 rfl ?_
  obtain ⟨q6, w⟩ := w
  refine v_i2lI dX12_back_6 q6.1 q6.2 ?_
  refine v_lconstI (w := 0) dX12_back_7 rfl ?_
  refine v_lconstI (w := 1) dX12_back_8 rfl ?_
  refine v_callSp dX12_back_9 ml_X12_175 (sp_X12_in (v := a0) (lo := 0) (hi := 1) (r32_64 q6) (by decide) (by decide)) rfl rfl (Nat.le_of_ble_eq_true rfl) (Nat.le_of_ble_eq_true rfl) (Nat.zero_le _) (Nat.zero_le _) ?_
  refine v_ifneB (tgt := 21) dX12_back_12 (by decide) (fun c7 => ?_) (fun c7 => ?_)
  · replace w := w.1 c7
    refine v_aload_n dX12_back_21 rfl ?_
    refine v_get dX12_back_22 fl_X12_19 ((hp4 77 (by decide)).trans (ent_77 _)) rfl (s_lt hn rfl) ?_
    refine v_iload_n dX12_back_25 rfl ?_
    obtain ⟨q8, w⟩ := w
    refine v_zaldI dX12_back_26 ((hp4 81 (by decide)).trans (ent_81 _)) (s_lt hn rfl) q8.1 q8.2 (ix_le q8.2 (by decide)) ?_
    obtain ⟨q9, w⟩ := w
    refine v_if_neI (tgt := 37) dX12_back_27 (by decide) q9.1 q9.2 (fun c10 => ?_) (fun c10 => ?_)
    · replace w := w.1 c10
      refine v_iconstI dX12_back_37 ?_
      refine v_istore_n dX12_back_38 (Nat.le_of_ble_eq_true rfl) ?_
      refine v_pick [1, 2, 0] rfl ?_
      obtain ⟨I13, m14, wi17, wl16⟩ := w
      have hL18 : ∀ (N21 : Nat) (x11 : Int) (X12 : XT) (h22 : Nat → sE), m14 x11 X12 < N21 → I13 x11 X12 → Pic X12 h22 → Fr h h22 → V (m_X12_back, 1, 0, 0, n, pIw n h Q, s_G0) 0 0 n h22 39 [(0, .ref 77), (1, .int (iI a0)), (2, .int (iI x11))] [] := by
        intro N21
        induction N21 with
        | zero => intro x11 X12 h22 hm19; exact absurd hm19 (Nat.not_lt_zero _)
        | succ N21 ih15 =>
          intro x11 X12 h22 hm19 hI20 hp23 hf24
          have w := wl16 x11 X12 hI20
          refine v_iload_n dX12_back_39 rfl ?_
          refine v_sipushI dX12_back_40 rfl ?_
          obtain ⟨q25, w⟩ := w
          refine v_icmp_geI (tgt := 70) dX12_back_43 (by decide) q25.1 q25.2 (by decide) (by decide) (fun c26 => ?_) (fun c26 => ?_)
          · replace w := w.1 c26
            refine v_aload_n dX12_back_70 rfl ?_
            refine v_iconstI dX12_back_71 ?_
            refine v_callVIw dX12_back_72 ml_X12_179 (so_X12_tell hn hp23  w) ((hp23 77 (by decide)).trans (ent_77 _)) rfl (s_lt hn rfl) rfl rfl (Nat.le_of_ble_eq_true rfl) (Nat.le_of_ble_eq_true rfl) (Nat.zero_le _) (Nat.zero_le _) (fun v27 X28 h29 hp31 hf30 w => ?_)
            have hf32 := Fr.trans hf24 hf30
            exact v_iret dX12_back_75 rfl (Nat.zero_le _) (Nat.zero_le _) ⟨rfl, hf32, _, _, rfl, hp31, w⟩
          · replace w := w.2 c26
            refine v_aload_n dX12_back_46 rfl ?_
            refine v_get dX12_back_47 fl_X12_13 ((hp23 77 (by decide)).trans (ent_77 _)) rfl (s_lt hn rfl) ?_
            refine v_iload_n dX12_back_50 rfl ?_
            refine v_aload_n dX12_back_51 rfl ?_
            refine v_get dX12_back_52 fl_X12_16 ((hp23 77 (by decide)).trans (ent_77 _)) rfl (s_lt hn rfl) ?_
            refine v_sipushI dX12_back_55 rfl ?_
            refine v_iload_n dX12_back_58 rfl ?_
            refine v_imulI dX12_back_59 ?_
            refine v_iload_n dX12_back_60 rfl ?_
            refine v_iaddI dX12_back_61 ?_
            obtain ⟨q33, w⟩ := w
            refine v_ialdI dX12_back_62 ((hp23 80 (by decide)).trans (ent_80 _)) (s_lt hn rfl) q33.1 q33.2 (ix_le q33.2 (by decide)) ?_
            obtain ⟨q34, w⟩ := w
            refine v_iastI dX12_back_63 ((hp23 79 (by decide)).trans (ent_79 _)) (s_lt hn rfl) q34.1 q34.2 (ix_le q34.2 (by decide)) (fun h35 E36 F37 => ?_)
            have hp38 := pic_st hp23 (show h35 79 = ent 79 (uI _ x11 (X12 80 ((5780 * a0) + x11))) from E36) F37
            have hf39 := Fr.up (c := 79) hf24 F37 rfl
            refine v_iincI dX12_back_64 rfl (Nat.le_of_ble_eq_true rfl) ?_
            refine v_goto (tgt := 39) dX12_back_67 (by decide) ?_
            refine v_pick [1, 2, 0] rfl ?_
            exact ih15 _ _ _ (Nat.lt_of_lt_of_le w.2 (Nat.le_of_lt_succ hm19)) w.1 hp38 hf39
      exact hL18 _ _ _ _ (Nat.lt_succ_self _) wi17 hp4 hf5
    · replace w := w.2 c10
      refine v_aload_n dX12_back_30 rfl ?_
      refine v_bipushI dX12_back_31 rfl ?_
      refine v_callVIw dX12_back_33 ml_X12_179 (so_X12_tell hn hp4  w) ((hp4 77 (by decide)).trans (ent_77 _)) rfl (s_lt hn rfl) rfl rfl (Nat.le_of_ble_eq_true rfl) (Nat.le_of_ble_eq_true rfl) (Nat.zero_le _) (Nat.zero_le _) (fun v40 X41 h42 hp44 hf43 w => ?_)
      have hf45 := Fr.trans hf5 hf43
      exact v_iret dX12_back_36 rfl (Nat.zero_le _) (Nat.zero_le _) ⟨rfl, hf45, _, _, rfl, hp44, w⟩
  · replace w := w.2 c7
    refine v_aload_n dX12_back_15 rfl ?_
    refine v_iconstI dX12_back_16 ?_
    refine v_callVIw dX12_back_17 ml_X12_179 (so_X12_tell hn hp4  w) ((hp4 77 (by decide)).trans (ent_77 _)) rfl (s_lt hn rfl) rfl rfl (Nat.le_of_ble_eq_true rfl) (Nat.le_of_ble_eq_true rfl) (Nat.zero_le _) (Nat.zero_le _) (fun v46 X47 h48 hp50 hf49 w => ?_)
    have hf51 := Fr.trans hf5 hf49
    exact v_iret dX12_back_20 rfl (Nat.zero_le _) (Nat.zero_le _) ⟨rfl, hf51, _, _, rfl, hp50, w⟩

/-! THE REFERENCE'S METHODS, 3 of 5: texts over the picture, by program (tools/wp.py) -/
theorem dX12_layHeat_0 : decode cX12_layHeat 0 = .ok (.aload_n 0, 1) := by decide +kernel
theorem dX12_layHeat_1 : decode cX12_layHeat 1 = .ok (.getfield 105, 3) := by decide +kernel
theorem dX12_layHeat_4 : decode cX12_layHeat 4 = .ok (.iconst 0, 1) := by decide +kernel
theorem dX12_layHeat_5 : decode cX12_layHeat 5 = .ok (.aload_n 0, 1) := by decide +kernel
theorem dX12_layHeat_6 : decode cX12_layHeat 6 = .ok (.iload_n 1, 1) := by decide +kernel
theorem dX12_layHeat_7 : decode cX12_layHeat 7 = .ok (.iconst 0, 1) := by decide +kernel
theorem dX12_layHeat_8 : decode cX12_layHeat 8 = .ok (.invokevirtual 205, 3) := by decide +kernel
theorem dX12_layHeat_11 : decode cX12_layHeat 11 = .ok (.iastore, 1) := by decide +kernel
theorem dX12_layHeat_12 : decode cX12_layHeat 12 = .ok (.iconst 0, 1) := by decide +kernel
theorem dX12_layHeat_13 : decode cX12_layHeat 13 = .ok (.istore_n 2, 1) := by decide +kernel
theorem dX12_layHeat_14 : decode cX12_layHeat 14 = .ok (.iload_n 2, 1) := by decide +kernel
theorem dX12_layHeat_15 : decode cX12_layHeat 15 = .ok (.bipush 12, 2) := by decide +kernel
theorem dX12_layHeat_17 : decode cX12_layHeat 17 = .ok (.if_icmp .ge 80, 3) := by decide +kernel
theorem dX12_layHeat_20 : decode cX12_layHeat 20 = .ok (.aload_n 0, 1) := by decide +kernel
theorem dX12_layHeat_21 : decode cX12_layHeat 21 = .ok (.iload_n 1, 1) := by decide +kernel
theorem dX12_layHeat_22 : decode cX12_layHeat 22 = .ok (.iload_n 2, 1) := by decide +kernel
theorem dX12_layHeat_23 : decode cX12_layHeat 23 = .ok (.invokevirtual 481, 3) := by decide +kernel
theorem dX12_layHeat_26 : decode cX12_layHeat 26 = .ok (.istore_n 3, 1) := by decide +kernel
theorem dX12_layHeat_27 : decode cX12_layHeat 27 = .ok (.iload_n 3, 1) := by decide +kernel
theorem dX12_layHeat_28 : decode cX12_layHeat 28 = .ok (.ifCond .ne 24, 3) := by decide +kernel
theorem dX12_layHeat_31 : decode cX12_layHeat 31 = .ok (.aload_n 0, 1) := by decide +kernel
theorem dX12_layHeat_32 : decode cX12_layHeat 32 = .ok (.getfield 105, 3) := by decide +kernel
theorem dX12_layHeat_35 : decode cX12_layHeat 35 = .ok (.iload_n 2, 1) := by decide +kernel
theorem dX12_layHeat_36 : decode cX12_layHeat 36 = .ok (.iaload, 1) := by decide +kernel
theorem dX12_layHeat_37 : decode cX12_layHeat 37 = .ok (.aload_n 0, 1) := by decide +kernel
theorem dX12_layHeat_38 : decode cX12_layHeat 38 = .ok (.iconst 0, 1) := by decide +kernel
theorem dX12_layHeat_39 : decode cX12_layHeat 39 = .ok (.iload_n 1, 1) := by decide +kernel
theorem dX12_layHeat_40 : decode cX12_layHeat 40 = .ok (.iload_n 2, 1) := by decide +kernel
theorem dX12_layHeat_41 : decode cX12_layHeat 41 = .ok (.iconst 0, 1) := by decide +kernel
theorem dX12_layHeat_42 : decode cX12_layHeat 42 = .ok (.ldc2_w 484, 3) := by decide +kernel
theorem dX12_layHeat_45 : decode cX12_layHeat 45 = .ok (.invokevirtual 486, 3) := by decide +kernel
theorem dX12_layHeat_48 : decode cX12_layHeat 48 = .ok (.iadd, 1) := by decide +kernel
theorem dX12_layHeat_49 : decode cX12_layHeat 49 = .ok (.goto 21, 3) := by decide +kernel
theorem dX12_layHeat_52 : decode cX12_layHeat 52 = .ok (.aload_n 0, 1) := by decide +kernel
theorem dX12_layHeat_53 : decode cX12_layHeat 53 = .ok (.getfield 105, 3) := by decide +kernel
theorem dX12_layHeat_56 : decode cX12_layHeat 56 = .ok (.iload_n 2, 1) := by decide +kernel
theorem dX12_layHeat_57 : decode cX12_layHeat 57 = .ok (.iaload, 1) := by decide +kernel
theorem dX12_layHeat_58 : decode cX12_layHeat 58 = .ok (.aload_n 0, 1) := by decide +kernel
theorem dX12_layHeat_59 : decode cX12_layHeat 59 = .ok (.iconst 1, 1) := by decide +kernel
theorem dX12_layHeat_60 : decode cX12_layHeat 60 = .ok (.iload_n 1, 1) := by decide +kernel
theorem dX12_layHeat_61 : decode cX12_layHeat 61 = .ok (.iload_n 2, 1) := by decide +kernel
theorem dX12_layHeat_62 : decode cX12_layHeat 62 = .ok (.iload_n 3, 1) := by decide +kernel
theorem dX12_layHeat_63 : decode cX12_layHeat 63 = .ok (.ldc2_w 210, 3) := by decide +kernel
theorem dX12_layHeat_66 : decode cX12_layHeat 66 = .ok (.invokevirtual 486, 3) := by decide +kernel
theorem dX12_layHeat_69 : decode cX12_layHeat 69 = .ok (.isub, 1) := by decide +kernel
theorem dX12_layHeat_70 : decode cX12_layHeat 70 = .ok (.istore 4, 2) := by decide +kernel
theorem dX12_layHeat_72 : decode cX12_layHeat 72 = .ok (.aload_n 0, 1) := by decide +kernel
theorem dX12_layHeat_73 : decode cX12_layHeat 73 = .ok (.getfield 105, 3) := by decide +kernel
theorem dX12_layHeat_76 : decode cX12_layHeat 76 = .ok (.iload_n 2, 1) := by decide +kernel
theorem dX12_layHeat_77 : decode cX12_layHeat 77 = .ok (.iconst 1, 1) := by decide +kernel
theorem dX12_layHeat_78 : decode cX12_layHeat 78 = .ok (.iadd, 1) := by decide +kernel
theorem dX12_layHeat_79 : decode cX12_layHeat 79 = .ok (.iload 4, 2) := by decide +kernel
theorem dX12_layHeat_81 : decode cX12_layHeat 81 = .ok (.ifCond .ge 7, 3) := by decide +kernel
theorem dX12_layHeat_84 : decode cX12_layHeat 84 = .ok (.iconst 0, 1) := by decide +kernel
theorem dX12_layHeat_85 : decode cX12_layHeat 85 = .ok (.goto 5, 3) := by decide +kernel
theorem dX12_layHeat_88 : decode cX12_layHeat 88 = .ok (.iload 4, 2) := by decide +kernel
theorem dX12_layHeat_90 : decode cX12_layHeat 90 = .ok (.iastore, 1) := by decide +kernel
theorem dX12_layHeat_91 : decode cX12_layHeat 91 = .ok (.iinc 2 1, 3) := by decide +kernel
theorem dX12_layHeat_94 : decode cX12_layHeat 94 = .ok (.goto (-80), 3) := by decide +kernel
theorem dX12_layHeat_97 : decode cX12_layHeat 97 = .ok (.return_, 1) := by decide +kernel
def w_X12_layHeat (a0 : Int) (X : XT) (Q : XT → Prop) : Prop :=
  (0 ≤ a0 ∧ a0 ≤ 63) ∧ ∃ (I9 : Int → XT → Prop) (m10 : Int → XT → Nat), I9 0 (x_st X 95 0 (X 79 (40 + 3 * a0 + 0))) ∧ ∀ (x7 : Int) (X8 : XT), I9 x7 X8 → R32 x7 ∧ (12 ≤ x7 → Q X8) ∧ (¬ 12 ≤ x7 → w_X12_shadeOf  a0 x7 X8 (fun (v23 : Int) => ∀ J31 : Int → XT → Prop, (∀ (v29 : Int) (X30 : XT), (R32 v29 ∧ (0 ≤ v29 → (0 ≤ (x7 + 1) ∧ (x7 + 1) < 13) ∧ I9 (x7 + 1) (x_st X30 95 (x7 + 1) v29) ∧ m10 (x7 + 1) (x_st X30 95 (x7 + 1) v29) < m10 x7 X8) ∧ (¬ 0 ≤ v29 → (0 ≤ (x7 + 1) ∧ (x7 + 1) < 13) ∧ I9 (x7 + 1) (x_st X30 95 (x7 + 1) 0) ∧ m10 (x7 + 1) (x_st X30 95 (x7 + 1) 0) < m10 x7 X8)) → J31 v29 X30) → R32 v23 ∧ (¬ v23 = 0 → (0 ≤ x7 ∧ x7 < 13) ∧ w_X12_fieldTells  1 a0 x7 v23 3 X8 (fun (v52 : Int) (X53 : XT) => J31 ((X8 95 x7) - v52) X53)) ∧ (v23 = 0 → (0 ≤ x7 ∧ x7 < 13) ∧ w_X12_fieldTells  0 a0 x7 0 5 X8 (fun (v59 : Int) (X60 : XT) => J31 ((X8 95 x7) + v59) X60))))
set_option maxRecDepth 20000 in
theorem so_X12_layHeat {n : Nat} {h : Nat → sE} {X : XT} {a0 : Int} {Q : XT → Prop} (hn : 115 ≤ n) (hp : Pic X h) (w : w_X12_layHeat  a0 X Q) : Sp m_X12_layHeat 7 0 0 [.ref 77, .int (iI a0)] n h (pVw n h Q) := by
  unfold w_X12_layHeat at w
  refine Sp.ofV (by decide +kernel) (Nat.le_of_ble_eq_true rfl) ?_
  have hf : Fr h h := fun _ _ => rfl
  refine v_aload_n dX12_layHeat_0 rfl ?_
  refine v_get dX12_layHeat_1 fl_X12_105 ((hp 77 (by decide)).trans (ent_77 _)) rfl (s_lt hn rfl) ?_
  refine v_iconstI dX12_layHeat_4 ?_
  refine v_aload_n dX12_layHeat_5 rfl ?_
  refine v_iload_n dX12_layHeat_6 rfl ?_
  refine v_iconstI dX12_layHeat_7 ?_
  obtain ⟨q1, w⟩ := w
  refine v_callVp dX12_layHeat_8 ml_X12_205 (sv_X12_ofField (a := a0) (b := 0) (g77 := X 77) (g79 := X 79) hn (hp 77 (by decide)) (hp 79 (by decide)) q1 (by decide)) ((hp 77 (by decide)).trans (ent_77 _)) rfl (s_lt hn rfl) rfl rfl (Nat.le_of_ble_eq_true rfl) (Nat.le_of_ble_eq_true rfl) (Nat.zero_le _) (Nat.zero_le _) ?_
  refine v_iastI dX12_layHeat_11 ((hp 95 (by decide)).trans (ent_95 _)) (s_lt hn rfl) (by decide) (by decide) (by decide) (fun h2 E3 F4 => ?_)
  have hp5 := pic_st hp (show h2 95 = ent 95 (uI _ 0 (X 79 (40 + 3 * a0 + 0))) from E3) F4
  have hf6 := Fr.up (c := 95) hf F4 rfl
  refine v_iconstI dX12_layHeat_12 ?_
  refine v_istore_n dX12_layHeat_13 (Nat.le_of_ble_eq_true rfl) ?_
  refine v_pick [1, 2, 0] rfl ?_
  obtain ⟨I9, m10, wi13, wl12⟩ := w
  have hL14 : ∀ (N17 : Nat) (x7 : Int) (X8 : XT) (h18 : Nat → sE), m10 x7 X8 < N17 → I9 x7 X8 → Pic X8 h18 → Fr h h18 → V (m_X12_layHeat, 7, 0, 0, n, pVw n h Q, s_G0) 0 0 n h18 14 [(0, .ref 77), (1, .int (iI a0)), (2, .int (iI x7))] [] := by
    intro N17
    induction N17 with
    | zero => intro x7 X8 h18 hm15; exact absurd hm15 (Nat.not_lt_zero _)
    | succ N17 ih11 =>
      intro x7 X8 h18 hm15 hI16 hp19 hf20
      have w := wl12 x7 X8 hI16
      refine v_iload_n dX12_layHeat_14 rfl ?_
      refine v_bipushI dX12_layHeat_15 rfl ?_
      obtain ⟨q21, w⟩ := w
      refine v_icmp_geI (tgt := 97) dX12_layHeat_17 (by decide) q21.1 q21.2 (by decide) (by decide) (fun c22 => ?_) (fun c22 => ?_)
      · replace w := w.1 c22
        exact v_vret dX12_layHeat_97 rfl (Nat.zero_le _) (Nat.zero_le _) ⟨rfl, hf20, _, rfl, hp19, w⟩
      · replace w := w.2 c22
        refine v_aload_n dX12_layHeat_20 rfl ?_
        refine v_iload_n dX12_layHeat_21 rfl ?_
        refine v_iload_n dX12_layHeat_22 rfl ?_
        refine v_callVIr dX12_layHeat_23 ml_X12_481 (so_X12_shadeOf hn hp19  w) ((hp19 77 (by decide)).trans (ent_77 _)) rfl (s_lt hn rfl) rfl rfl (Nat.le_of_ble_eq_true rfl) (Nat.le_of_ble_eq_true rfl) (Nat.zero_le _) (Nat.zero_le _) (fun v23 w => ?_)
        refine v_istore_n dX12_layHeat_26 (Nat.le_of_ble_eq_true rfl) ?_
        refine v_iload_n dX12_layHeat_27 rfl ?_
        replace w := w (fun (v29 : Int) (X30 : XT) => ∀ h34 : Nat → sE, Pic X30 h34 → Fr h h34 → V (m_X12_layHeat, 7, 0, 0, n, pVw n h Q, s_G0) 0 0 n h34 70 [(0, .ref 77), (1, .int (iI a0)), (2, .int (iI x7))] [.int (iI v29)]) (by
          intro v29 X30 w h34 hp32 hf33
          refine v_istore dX12_layHeat_70 (Nat.le_of_ble_eq_true rfl) ?_
          refine v_aload_n dX12_layHeat_72 rfl ?_
          refine v_get dX12_layHeat_73 fl_X12_105 ((hp32 77 (by decide)).trans (ent_77 _)) rfl (s_lt hn rfl) ?_
          refine v_iload_n dX12_layHeat_76 rfl ?_
          refine v_iconstI dX12_layHeat_77 ?_
          refine v_iaddI dX12_layHeat_78 ?_
          refine v_iload dX12_layHeat_79 rfl ?_
          obtain ⟨q35, w⟩ := w
          refine v_if_geI (tgt := 88) dX12_layHeat_81 (by decide) q35.1 q35.2 (fun c36 => ?_) (fun c36 => ?_)
          · replace w := w.1 c36
            refine v_iload dX12_layHeat_88 rfl ?_
            obtain ⟨q37, w⟩ := w
            refine v_iastI dX12_layHeat_90 ((hp32 95 (by decide)).trans (ent_95 _)) (s_lt hn rfl) q37.1 q37.2 (ix_le q37.2 (by decide)) (fun h38 E39 F40 => ?_)
            have hp41 := pic_st hp32 (show h38 95 = ent 95 (uI _ (x7 + 1) v29) from E39) F40
            have hf42 := Fr.up (c := 95) hf33 F40 rfl
            refine v_iincI dX12_layHeat_91 rfl (Nat.le_of_ble_eq_true rfl) ?_
            refine v_goto (tgt := 14) dX12_layHeat_94 (by decide) ?_
            refine v_pick [2, 3, 0] rfl ?_
            exact ih11 _ _ _ (Nat.lt_of_lt_of_le w.2 (Nat.le_of_lt_succ hm15)) w.1 hp41 hf42
          · replace w := w.2 c36
            refine v_iconstI dX12_layHeat_84 ?_
            refine v_goto (tgt := 90) dX12_layHeat_85 (by decide) ?_
            obtain ⟨q43, w⟩ := w
            refine v_iastI dX12_layHeat_90 ((hp32 95 (by decide)).trans (ent_95 _)) (s_lt hn rfl) q43.1 q43.2 (ix_le q43.2 (by decide)) (fun h44 E45 F46 => ?_)
            have hp47 := pic_st hp32 (show h44 95 = ent 95 (uI _ (x7 + 1) 0) from E45) F46
            have hf48 := Fr.up (c := 95) hf33 F46 rfl
            refine v_iincI dX12_layHeat_91 rfl (Nat.le_of_ble_eq_true rfl) ?_
            refine v_goto (tgt := 14) dX12_layHeat_94 (by decide) ?_
            refine v_pick [2, 3, 0] rfl ?_
            exact ih11 _ _ _ (Nat.lt_of_lt_of_le w.2 (Nat.le_of_lt_succ hm15)) w.1 hp47 hf48
        )
        obtain ⟨q49, w⟩ := w
        refine v_if_neI (tgt := 52) dX12_layHeat_28 (by decide) q49.1 q49.2 (fun c50 => ?_) (fun c50 => ?_)
        · replace w := w.1 c50
          refine v_aload_n dX12_layHeat_52 rfl ?_
          refine v_get dX12_layHeat_53 fl_X12_105 ((hp19 77 (by decide)).trans (ent_77 _)) rfl (s_lt hn rfl) ?_
          refine v_iload_n dX12_layHeat_56 rfl ?_
          obtain ⟨q51, w⟩ := w
          refine v_ialdI dX12_layHeat_57 ((hp19 95 (by decide)).trans (ent_95 _)) (s_lt hn rfl) q51.1 q51.2 (ix_le q51.2 (by decide)) ?_
          refine v_aload_n dX12_layHeat_58 rfl ?_
          refine v_iconstI dX12_layHeat_59 ?_
          refine v_iload_n dX12_layHeat_60 rfl ?_
          refine v_iload_n dX12_layHeat_61 rfl ?_
          refine v_iload_n dX12_layHeat_62 rfl ?_
          refine v_ldc2I 3 dX12_layHeat_63 k_X12_210 rfl ?_
          refine v_callVIw dX12_layHeat_66 ml_X12_486 (so_X12_fieldTells hn hp19  w) ((hp19 77 (by decide)).trans (ent_77 _)) rfl (s_lt hn rfl) rfl rfl (Nat.le_of_ble_eq_true rfl) (Nat.le_of_ble_eq_true rfl) (Nat.zero_le _) (Nat.zero_le _) (fun v52 X53 h54 hp56 hf55 w => ?_)
          have hf57 := Fr.trans hf20 hf55
          refine v_isubI dX12_layHeat_69 ?_
          refine v_pick [1, 2, 3] rfl ?_
          exact w _ hp56 hf57
        · replace w := w.2 c50
          refine v_aload_n dX12_layHeat_31 rfl ?_
          refine v_get dX12_layHeat_32 fl_X12_105 ((hp19 77 (by decide)).trans (ent_77 _)) rfl (s_lt hn rfl) ?_
          refine v_iload_n dX12_layHeat_35 rfl ?_
          obtain ⟨q58, w⟩ := w
          refine v_ialdI dX12_layHeat_36 ((hp19 95 (by decide)).trans (ent_95 _)) (s_lt hn rfl) q58.1 q58.2 (ix_le q58.2 (by decide)) ?_
          refine v_aload_n dX12_layHeat_37 rfl ?_
          refine v_iconstI dX12_layHeat_38 ?_
          refine v_iload_n dX12_layHeat_39 rfl ?_
          refine v_iload_n dX12_layHeat_40 rfl ?_
          refine v_iconstI dX12_layHeat_41 ?_
          refine v_ldc2I 5 dX12_layHeat_42 k_X12_484 rfl ?_
          refine v_callVIw dX12_layHeat_45 ml_X12_486 (so_X12_fieldTells hn hp19  w) ((hp19 77 (by decide)).trans (ent_77 _)) rfl (s_lt hn rfl) rfl rfl (Nat.le_of_ble_eq_true rfl) (Nat.le_of_ble_eq_true rfl) (Nat.zero_le _) (Nat.zero_le _) (fun v59 X60 h61 hp63 hf62 w => ?_)
          have hf64 := Fr.trans hf20 hf62
          refine v_iaddI dX12_layHeat_48 ?_
          refine v_goto (tgt := 70) dX12_layHeat_49 (by decide) ?_
          refine v_pick [1, 2, 3] rfl ?_
          exact w _ hp63 hf64
  exact hL14 _ _ _ _ (Nat.lt_succ_self _) wi13 hp5 hf6
theorem dX12_heat_0 : decode cX12_heat 0 = .ok (.aload_n 0, 1) := by decide +kernel
theorem dX12_heat_1 : decode cX12_heat 1 = .ok (.iconst 0, 1) := by decide +kernel
theorem dX12_heat_2 : decode cX12_heat 2 = .ok (.putfield 169, 3) := by decide +kernel
theorem dX12_heat_5 : decode cX12_heat 5 = .ok (.iload_n 1, 1) := by decide +kernel
theorem dX12_heat_6 : decode cX12_heat 6 = .ok (.invokestatic 195, 3) := by decide +kernel
theorem dX12_heat_9 : decode cX12_heat 9 = .ok (.ifCond .eq 15, 3) := by decide +kernel
theorem dX12_heat_12 : decode cX12_heat 12 = .ok (.iload_n 2, 1) := by decide +kernel
theorem dX12_heat_13 : decode cX12_heat 13 = .ok (.i2l, 1) := by decide +kernel
theorem dX12_heat_14 : decode cX12_heat 14 = .ok (.lconst 0, 1) := by decide +kernel
theorem dX12_heat_15 : decode cX12_heat 15 = .ok (.ldc2_w 496, 3) := by decide +kernel
theorem dX12_heat_18 : decode cX12_heat 18 = .ok (.invokestatic 175, 3) := by decide +kernel
theorem dX12_heat_21 : decode cX12_heat 21 = .ok (.ifCond .ne 5, 3) := by decide +kernel
theorem dX12_heat_24 : decode cX12_heat 24 = .ok (.iconst (-1), 1) := by decide +kernel
theorem dX12_heat_25 : decode cX12_heat 25 = .ok (.ireturn, 1) := by decide +kernel
theorem dX12_heat_26 : decode cX12_heat 26 = .ok (.aload_n 0, 1) := by decide +kernel
theorem dX12_heat_27 : decode cX12_heat 27 = .ok (.invokevirtual 478, 3) := by decide +kernel
theorem dX12_heat_30 : decode cX12_heat 30 = .ok (.aload_n 0, 1) := by decide +kernel
theorem dX12_heat_31 : decode cX12_heat 31 = .ok (.iload_n 1, 1) := by decide +kernel
theorem dX12_heat_32 : decode cX12_heat 32 = .ok (.invokevirtual 493, 3) := by decide +kernel
theorem dX12_heat_35 : decode cX12_heat 35 = .ok (.aload_n 0, 1) := by decide +kernel
theorem dX12_heat_36 : decode cX12_heat 36 = .ok (.getfield 105, 3) := by decide +kernel
theorem dX12_heat_39 : decode cX12_heat 39 = .ok (.iload_n 2, 1) := by decide +kernel
theorem dX12_heat_40 : decode cX12_heat 40 = .ok (.iaload, 1) := by decide +kernel
theorem dX12_heat_41 : decode cX12_heat 41 = .ok (.ireturn, 1) := by decide +kernel
def w_X12_heat (a0 a1 : Int) (X : XT) (Q : Int → XT → Prop) : Prop :=
  R32 a0 ∧ (¬ (0 ≤ a0 ∧ a0 ≤ 63) → Q (-1) (x_st X 77 0 0)) ∧ ((0 ≤ a0 ∧ a0 ≤ 63) → R32 a1 ∧ ((0 ≤ a1 ∧ a1 ≤ 12) → w_X12_layCorners   (x_st X 77 0 0) (fun (X11 : XT) => w_X12_layHeat  a0 X11 (fun (X17 : XT) => (0 ≤ a1 ∧ a1 < 13) ∧ Q (X17 95 a1) X17))) ∧ (¬ (0 ≤ a1 ∧ a1 ≤ 12) → Q (-1) (x_st X 77 0 0)))
set_option maxRecDepth 20000 in
theorem so_X12_heat {n : Nat} {h : Nat → sE} {X : XT} {a0 a1 : Int} {Q : Int → XT → Prop} (hn : 115 ≤ n) (hp : Pic X h) (w : w_X12_heat  a0 a1 X Q) : Sp m_X12_heat 10 0 0 [.ref 77, .int (iI a0), .int (iI a1)] n h (pIw n h Q) := by
  unfold w_X12_heat at w
  refine Sp.ofV (by decide +kernel) (Nat.le_of_ble_eq_true rfl) ?_
  have hf : Fr h h := fun _ _ => rfl
  refine v_aload_n dX12_heat_0 rfl ?_
  refine v_iconstI dX12_heat_1 ?_
  refine v_put dX12_heat_2 fl_X12_169 ((hp 77 (by decide)).trans (ent_77 _)) (s_lt hn rfl) (Nat.le_of_ble_eq_true rfl) (fun _ => ⟨rfl, rfl⟩) trivial (fun h1 E2 F3 => ?_)
  have hp4 := pic_st hp (show h1 77 = ent 77 (uI _ 0 0) from E2) F3
  have hf5 := Fr.up (c := 77) hf F3 rfl
  refine v_iload_n dX12_heat_5 rfl ?_
  obtain ⟨q6, w⟩ := w
  refine v_callSp dX12_heat_6 ml_X12_195 (sp_X12_isField (a := a0) q6) rfl rfl (Nat.le_of_ble_eq_true rfl) (Nat.le_of_ble_eq_true rfl) (Nat.zero_le _) (Nat.zero_le _) ?_
  refine v_ifeqB (tgt := 24) dX12_heat_9 (by decide) (fun c7 => ?_) (fun c7 => ?_)
  · replace w := w.1 c7
    refine v_iconstI dX12_heat_24 ?_
    exact v_iret dX12_heat_25 rfl (Nat.zero_le _) (Nat.zero_le _) ⟨rfl, hf5, _, _, rfl, hp4, w⟩
  · replace w := w.2 c7
    refine v_iload_n dX12_heat_12 rfl ?_
    obtain ⟨q8, w⟩ := w
    refine v_i2lI dX12_heat_13 q8.1 q8.2 ?_
    refine v_lconstI (w := 0) dX12_heat_14 rfl ?_
    refine v_ldc2I 12 dX12_heat_15 k_X12_496 rfl ?_
    refine v_callSp dX12_heat_18 ml_X12_175 (sp_X12_in (v := a1) (lo := 0) (hi := 12) (r32_64 q8) (by decide) (by decide)) rfl rfl (Nat.le_of_ble_eq_true rfl) (Nat.le_of_ble_eq_true rfl) (Nat.zero_le _) (Nat.zero_le _) ?_
    refine v_ifneB (tgt := 26) dX12_heat_21 (by decide) (fun c9 => ?_) (fun c9 => ?_)
    · replace w := w.1 c9
      refine v_aload_n dX12_heat_26 rfl ?_
      refine v_callVVw dX12_heat_27 ml_X12_478 (so_X12_layCorners hn hp4  w) ((hp4 77 (by decide)).trans (ent_77 _)) rfl (s_lt hn rfl) rfl rfl (Nat.le_of_ble_eq_true rfl) (Nat.le_of_ble_eq_true rfl) (Nat.zero_le _) (Nat.zero_le _) (fun X11 h12 hp14 hf13 w => ?_)
      have hf15 := Fr.trans hf5 hf13
      refine v_aload_n dX12_heat_30 rfl ?_
      refine v_iload_n dX12_heat_31 rfl ?_
      refine v_callVVw dX12_heat_32 ml_X12_493 (so_X12_layHeat hn hp14  w) ((hp14 77 (by decide)).trans (ent_77 _)) rfl (s_lt hn rfl) rfl rfl (Nat.le_of_ble_eq_true rfl) (Nat.le_of_ble_eq_true rfl) (Nat.zero_le _) (Nat.zero_le _) (fun X17 h18 hp20 hf19 w => ?_)
      have hf21 := Fr.trans hf15 hf19
      refine v_aload_n dX12_heat_35 rfl ?_
      refine v_get dX12_heat_36 fl_X12_105 ((hp20 77 (by decide)).trans (ent_77 _)) rfl (s_lt hn rfl) ?_
      refine v_iload_n dX12_heat_39 rfl ?_
      obtain ⟨q22, w⟩ := w
      refine v_ialdI dX12_heat_40 ((hp20 95 (by decide)).trans (ent_95 _)) (s_lt hn rfl) q22.1 q22.2 (ix_le q22.2 (by decide)) ?_
      exact v_iret dX12_heat_41 rfl (Nat.zero_le _) (Nat.zero_le _) ⟨rfl, hf21, _, _, rfl, hp20, w⟩
    · replace w := w.2 c9
      refine v_iconstI dX12_heat_24 ?_
      exact v_iret dX12_heat_25 rfl (Nat.zero_le _) (Nat.zero_le _) ⟨rfl, hf5, _, _, rfl, hp4, w⟩
theorem dX12_isScorched_0 : decode cX12_isScorched 0 = .ok (.aload_n 0, 1) := by decide +kernel
theorem dX12_isScorched_1 : decode cX12_isScorched 1 = .ok (.iload_n 1, 1) := by decide +kernel
theorem dX12_isScorched_2 : decode cX12_isScorched 2 = .ok (.invokevirtual 493, 3) := by decide +kernel
theorem dX12_isScorched_5 : decode cX12_isScorched 5 = .ok (.iconst 0, 1) := by decide +kernel
theorem dX12_isScorched_6 : decode cX12_isScorched 6 = .ok (.istore_n 2, 1) := by decide +kernel
theorem dX12_isScorched_7 : decode cX12_isScorched 7 = .ok (.iconst 0, 1) := by decide +kernel
theorem dX12_isScorched_8 : decode cX12_isScorched 8 = .ok (.istore_n 3, 1) := by decide +kernel
theorem dX12_isScorched_9 : decode cX12_isScorched 9 = .ok (.iload_n 3, 1) := by decide +kernel
theorem dX12_isScorched_10 : decode cX12_isScorched 10 = .ok (.bipush 12, 2) := by decide +kernel
theorem dX12_isScorched_12 : decode cX12_isScorched 12 = .ok (.if_icmp .gt 34, 3) := by decide +kernel
theorem dX12_isScorched_15 : decode cX12_isScorched 15 = .ok (.iload_n 2, 1) := by decide +kernel
theorem dX12_isScorched_16 : decode cX12_isScorched 16 = .ok (.ifCond .ne 18, 3) := by decide +kernel
theorem dX12_isScorched_19 : decode cX12_isScorched 19 = .ok (.aload_n 0, 1) := by decide +kernel
theorem dX12_isScorched_20 : decode cX12_isScorched 20 = .ok (.getfield 105, 3) := by decide +kernel
theorem dX12_isScorched_23 : decode cX12_isScorched 23 = .ok (.iload_n 3, 1) := by decide +kernel
theorem dX12_isScorched_24 : decode cX12_isScorched 24 = .ok (.iaload, 1) := by decide +kernel
theorem dX12_isScorched_25 : decode cX12_isScorched 25 = .ok (.aload_n 0, 1) := by decide +kernel
theorem dX12_isScorched_26 : decode cX12_isScorched 26 = .ok (.iload_n 1, 1) := by decide +kernel
theorem dX12_isScorched_27 : decode cX12_isScorched 27 = .ok (.iconst 1, 1) := by decide +kernel
theorem dX12_isScorched_28 : decode cX12_isScorched 28 = .ok (.invokevirtual 205, 3) := by decide +kernel
theorem dX12_isScorched_31 : decode cX12_isScorched 31 = .ok (.if_icmp .le 7, 3) := by decide +kernel
theorem dX12_isScorched_34 : decode cX12_isScorched 34 = .ok (.iconst 1, 1) := by decide +kernel
theorem dX12_isScorched_35 : decode cX12_isScorched 35 = .ok (.goto 4, 3) := by decide +kernel
theorem dX12_isScorched_38 : decode cX12_isScorched 38 = .ok (.iconst 0, 1) := by decide +kernel
theorem dX12_isScorched_39 : decode cX12_isScorched 39 = .ok (.istore_n 2, 1) := by decide +kernel
theorem dX12_isScorched_40 : decode cX12_isScorched 40 = .ok (.iinc 3 1, 3) := by decide +kernel
theorem dX12_isScorched_43 : decode cX12_isScorched 43 = .ok (.goto (-34), 3) := by decide +kernel
theorem dX12_isScorched_46 : decode cX12_isScorched 46 = .ok (.iload_n 2, 1) := by decide +kernel
theorem dX12_isScorched_47 : decode cX12_isScorched 47 = .ok (.ireturn, 1) := by decide +kernel
def w_X12_isScorched (a0 : Int) (X : XT) (Q : Int → XT → Prop) : Prop :=
  w_X12_layHeat  a0 X (fun (X2 : XT) => ∃ (I9 : Int → Int → Prop) (m10 : Int → Int → Nat), I9 0 0 ∧ ∀ (x7 : Int) (x8 : Int), I9 x7 x8 → R32 x8 ∧ (12 < x8 → (x7 = 0 ∨ x7 = 1) ∧ Q x7 X2) ∧ (¬ 12 < x8 → ∀ J21 : Prop, ((I9 1 (x8 + 1) ∧ m10 1 (x8 + 1) < m10 x7 x8) → J21) → R32 x7 ∧ (¬ x7 = 0 → J21 ) ∧ (x7 = 0 → (0 ≤ x8 ∧ x8 < 13) ∧ (0 ≤ a0 ∧ a0 ≤ 63) ∧ R32 (X2 95 x8) ∧ R32 (X2 79 (40 + 3 * a0 + 1)) ∧ ((X2 95 x8) ≤ (X2 79 (40 + 3 * a0 + 1)) → I9 0 (x8 + 1) ∧ m10 0 (x8 + 1) < m10 x7 x8) ∧ (¬ (X2 95 x8) ≤ (X2 79 (40 + 3 * a0 + 1)) → J21 ))))
set_option maxRecDepth 20000 in
theorem so_X12_isScorched {n : Nat} {h : Nat → sE} {X : XT} {a0 : Int} {Q : Int → XT → Prop} (hn : 115 ≤ n) (hp : Pic X h) (w : w_X12_isScorched  a0 X Q) : Sp m_X12_isScorched 8 0 0 [.ref 77, .int (iI a0)] n h (pIw n h Q) := by
  unfold w_X12_isScorched at w
  refine Sp.ofV (by decide +kernel) (Nat.le_of_ble_eq_true rfl) ?_
  have hf : Fr h h := fun _ _ => rfl
  refine v_aload_n dX12_isScorched_0 rfl ?_
  refine v_iload_n dX12_isScorched_1 rfl ?_
  refine v_callVVw dX12_isScorched_2 ml_X12_493 (so_X12_layHeat hn hp  w) ((hp 77 (by decide)).trans (ent_77 _)) rfl (s_lt hn rfl) rfl rfl (Nat.le_of_ble_eq_true rfl) (Nat.le_of_ble_eq_true rfl) (Nat.zero_le _) (Nat.zero_le _) (fun X2 h3 hp5 hf4 w => ?_)
  have hf6 := Fr.trans hf hf4
  refine v_iconstI dX12_isScorched_5 ?_
  refine v_istore_n dX12_isScorched_6 (Nat.le_of_ble_eq_true rfl) ?_
  refine v_iconstI dX12_isScorched_7 ?_
  refine v_istore_n dX12_isScorched_8 (Nat.le_of_ble_eq_true rfl) ?_
  refine v_pick [2, 3, 1, 0] rfl ?_
  obtain ⟨I9, m10, wi13, wl12⟩ := w
  have hL14 : ∀ (N17 : Nat) (x7 : Int) (x8 : Int), m10 x7 x8 < N17 → I9 x7 x8 → V (m_X12_isScorched, 8, 0, 0, n, pIw n h Q, s_G0) 0 0 n h3 9 [(0, .ref 77), (1, .int (iI a0)), (2, .int (iI x7)), (3, .int (iI x8))] [] := by
    intro N17
    induction N17 with
    | zero => intro x7 x8  hm15; exact absurd hm15 (Nat.not_lt_zero _)
    | succ N17 ih11 =>
      intro x7 x8  hm15 hI16
      have w := wl12 x7 x8 hI16
      refine v_iload_n dX12_isScorched_9 rfl ?_
      refine v_bipushI dX12_isScorched_10 rfl ?_
      obtain ⟨q18, w⟩ := w
      refine v_icmp_gtI (tgt := 46) dX12_isScorched_12 (by decide) q18.1 q18.2 (by decide) (by decide) (fun c19 => ?_) (fun c19 => ?_)
      · replace w := w.1 c19
        refine v_iload_n dX12_isScorched_46 rfl ?_
        obtain ⟨q20, w⟩ := w
        exact v_zretZ dX12_isScorched_47 rfl q20 (Nat.zero_le _) (Nat.zero_le _) ⟨rfl, hf6, _, _, rfl, hp5, w⟩
      · replace w := w.2 c19
        refine v_iload_n dX12_isScorched_15 rfl ?_
        replace w := w (V (m_X12_isScorched, 8, 0, 0, n, pIw n h Q, s_G0) 0 0 n h3 34 [(0, .ref 77), (1, .int (iI a0)), (3, .int (iI x8))] []) (by
          intro  w
          refine v_iconstI dX12_isScorched_34 ?_
          refine v_goto (tgt := 39) dX12_isScorched_35 (by decide) ?_
          refine v_istore_n dX12_isScorched_39 (Nat.le_of_ble_eq_true rfl) ?_
          refine v_iincI dX12_isScorched_40 rfl (Nat.le_of_ble_eq_true rfl) ?_
          refine v_goto (tgt := 9) dX12_isScorched_43 (by decide) ?_
          refine v_pick [2, 3, 1, 0] rfl ?_
          exact ih11 _ _ (Nat.lt_of_lt_of_le w.2 (Nat.le_of_lt_succ hm15)) w.1
        )
        obtain ⟨q22, w⟩ := w
        refine v_if_neI (tgt := 34) dX12_isScorched_16 (by decide) q22.1 q22.2 (fun c23 => ?_) (fun c23 => ?_)
        · replace w := w.1 c23
          refine v_pick [0, 1, 3] rfl ?_
          exact w
        · replace w := w.2 c23
          refine v_aload_n dX12_isScorched_19 rfl ?_
          refine v_get dX12_isScorched_20 fl_X12_105 ((hp5 77 (by decide)).trans (ent_77 _)) rfl (s_lt hn rfl) ?_
          refine v_iload_n dX12_isScorched_23 rfl ?_
          obtain ⟨q24, w⟩ := w
          refine v_ialdI dX12_isScorched_24 ((hp5 95 (by decide)).trans (ent_95 _)) (s_lt hn rfl) q24.1 q24.2 (ix_le q24.2 (by decide)) ?_
          refine v_aload_n dX12_isScorched_25 rfl ?_
          refine v_iload_n dX12_isScorched_26 rfl ?_
          refine v_iconstI dX12_isScorched_27 ?_
          obtain ⟨q25, w⟩ := w
          refine v_callVp dX12_isScorched_28 ml_X12_205 (sv_X12_ofField (a := a0) (b := 1) (g77 := X2 77) (g79 := X2 79) hn (hp5 77 (by decide)) (hp5 79 (by decide)) q25 (by decide)) ((hp5 77 (by decide)).trans (ent_77 _)) rfl (s_lt hn rfl) rfl rfl (Nat.le_of_ble_eq_true rfl) (Nat.le_of_ble_eq_true rfl) (Nat.zero_le _) (Nat.zero_le _) ?_
          obtain ⟨q26, q27, w⟩ := w
          refine v_icmp_leI (tgt := 38) dX12_isScorched_31 (by decide) q26.1 q26.2 q27.1 q27.2 (fun c28 => ?_) (fun c28 => ?_)
          · replace w := w.1 c28
            refine v_iconstI dX12_isScorched_38 ?_
            refine v_istore_n dX12_isScorched_39 (Nat.le_of_ble_eq_true rfl) ?_
            refine v_iincI dX12_isScorched_40 rfl (Nat.le_of_ble_eq_true rfl) ?_
            refine v_goto (tgt := 9) dX12_isScorched_43 (by decide) ?_
            refine v_pick [2, 3, 1, 0] rfl ?_
            exact ih11 _ _ (Nat.lt_of_lt_of_le w.2 (Nat.le_of_lt_succ hm15)) w.1
          · replace w := w.2 c28
            refine v_pick [0, 1, 3] rfl ?_
            exact w
  exact hL14 _ _ _ (Nat.lt_succ_self _) wi13
theorem dX12_scorched_0 : decode cX12_scorched 0 = .ok (.aload_n 0, 1) := by decide +kernel
theorem dX12_scorched_1 : decode cX12_scorched 1 = .ok (.iconst 0, 1) := by decide +kernel
theorem dX12_scorched_2 : decode cX12_scorched 2 = .ok (.putfield 169, 3) := by decide +kernel
theorem dX12_scorched_5 : decode cX12_scorched 5 = .ok (.aload_n 0, 1) := by decide +kernel
theorem dX12_scorched_6 : decode cX12_scorched 6 = .ok (.invokevirtual 478, 3) := by decide +kernel
theorem dX12_scorched_9 : decode cX12_scorched 9 = .ok (.iconst 0, 1) := by decide +kernel
theorem dX12_scorched_10 : decode cX12_scorched 10 = .ok (.istore_n 2, 1) := by decide +kernel
theorem dX12_scorched_11 : decode cX12_scorched 11 = .ok (.iconst 0, 1) := by decide +kernel
theorem dX12_scorched_12 : decode cX12_scorched 12 = .ok (.istore_n 3, 1) := by decide +kernel
theorem dX12_scorched_13 : decode cX12_scorched 13 = .ok (.iload_n 3, 1) := by decide +kernel
theorem dX12_scorched_14 : decode cX12_scorched 14 = .ok (.bipush 64, 2) := by decide +kernel
theorem dX12_scorched_16 : decode cX12_scorched 16 = .ok (.if_icmp .ge 27, 3) := by decide +kernel
theorem dX12_scorched_19 : decode cX12_scorched 19 = .ok (.aload_n 0, 1) := by decide +kernel
theorem dX12_scorched_20 : decode cX12_scorched 20 = .ok (.iload_n 3, 1) := by decide +kernel
theorem dX12_scorched_21 : decode cX12_scorched 21 = .ok (.invokevirtual 498, 3) := by decide +kernel
theorem dX12_scorched_24 : decode cX12_scorched 24 = .ok (.ifCond .eq 13, 3) := by decide +kernel
theorem dX12_scorched_27 : decode cX12_scorched 27 = .ok (.iload_n 2, 1) := by decide +kernel
theorem dX12_scorched_28 : decode cX12_scorched 28 = .ok (.iload_n 1, 1) := by decide +kernel
theorem dX12_scorched_29 : decode cX12_scorched 29 = .ok (.if_icmp .ne 5, 3) := by decide +kernel
theorem dX12_scorched_32 : decode cX12_scorched 32 = .ok (.iload_n 3, 1) := by decide +kernel
theorem dX12_scorched_33 : decode cX12_scorched 33 = .ok (.ireturn, 1) := by decide +kernel
theorem dX12_scorched_34 : decode cX12_scorched 34 = .ok (.iinc 2 1, 3) := by decide +kernel
theorem dX12_scorched_37 : decode cX12_scorched 37 = .ok (.iinc 3 1, 3) := by decide +kernel
theorem dX12_scorched_40 : decode cX12_scorched 40 = .ok (.goto (-27), 3) := by decide +kernel
theorem dX12_scorched_43 : decode cX12_scorched 43 = .ok (.iload_n 1, 1) := by decide +kernel
theorem dX12_scorched_44 : decode cX12_scorched 44 = .ok (.iconst (-1), 1) := by decide +kernel
theorem dX12_scorched_45 : decode cX12_scorched 45 = .ok (.if_icmp .ne 7, 3) := by decide +kernel
theorem dX12_scorched_48 : decode cX12_scorched 48 = .ok (.iload_n 2, 1) := by decide +kernel
theorem dX12_scorched_49 : decode cX12_scorched 49 = .ok (.goto 4, 3) := by decide +kernel
theorem dX12_scorched_52 : decode cX12_scorched 52 = .ok (.iconst (-1), 1) := by decide +kernel
theorem dX12_scorched_53 : decode cX12_scorched 53 = .ok (.ireturn, 1) := by decide +kernel
def w_X12_scorched (a0 : Int) (X : XT) (Q : Int → XT → Prop) : Prop :=
  w_X12_layCorners   (x_st X 77 0 0) (fun (X7 : XT) => ∃ (I15 : Int → Int → XT → Prop) (m16 : Int → Int → XT → Nat), I15 0 0 X7 ∧ ∀ (x12 : Int) (x13 : Int) (X14 : XT), I15 x12 x13 X14 → R32 x13 ∧ (64 ≤ x13 → R32 a0 ∧ (¬ a0 = (-1) → Q (-1) X14) ∧ (a0 = (-1) → Q x12 X14)) ∧ (¬ 64 ≤ x13 → w_X12_isScorched  x13 X14 (fun (v31 : Int) (X32 : XT) => R32 v31 ∧ (v31 = 0 → I15 x12 (x13 + 1) X32 ∧ m16 x12 (x13 + 1) X32 < m16 x12 x13 X14) ∧ (¬ v31 = 0 → R32 x12 ∧ R32 a0 ∧ (¬ x12 = a0 → I15 (x12 + 1) (x13 + 1) X32 ∧ m16 (x12 + 1) (x13 + 1) X32 < m16 x12 x13 X14) ∧ (x12 = a0 → Q x13 X32)))))
set_option maxRecDepth 20000 in
theorem so_X12_scorched {n : Nat} {h : Nat → sE} {X : XT} {a0 : Int} {Q : Int → XT → Prop} (hn : 115 ≤ n) (hp : Pic X h) (w : w_X12_scorched  a0 X Q) : Sp m_X12_scorched 10 0 0 [.ref 77, .int (iI a0)] n h (pIw n h Q) := by
  unfold w_X12_scorched at w
  refine Sp.ofV (by decide +kernel) (Nat.le_of_ble_eq_true rfl) ?_
  have hf : Fr h h := fun _ _ => rfl
  refine v_aload_n dX12_scorched_0 rfl ?_
  refine v_iconstI dX12_scorched_1 ?_
  refine v_put dX12_scorched_2 fl_X12_169 ((hp 77 (by decide)).trans (ent_77 _)) (s_lt hn rfl) (Nat.le_of_ble_eq_true rfl) (fun _ => ⟨rfl, rfl⟩) trivial (fun h1 E2 F3 => ?_)
  have hp4 := pic_st hp (show h1 77 = ent 77 (uI _ 0 0) from E2) F3
  have hf5 := Fr.up (c := 77) hf F3 rfl
  refine v_aload_n dX12_scorched_5 rfl ?_
  refine v_callVVw dX12_scorched_6 ml_X12_478 (so_X12_layCorners hn hp4  w) ((hp4 77 (by decide)).trans (ent_77 _)) rfl (s_lt hn rfl) rfl rfl (Nat.le_of_ble_eq_true rfl) (Nat.le_of_ble_eq_true rfl) (Nat.zero_le _) (Nat.zero_le _) (fun X7 h8 hp10 hf9 w => ?_)
  have hf11 := Fr.trans hf5 hf9
  refine v_iconstI dX12_scorched_9 ?_
  refine v_istore_n dX12_scorched_10 (Nat.le_of_ble_eq_true rfl) ?_
  refine v_iconstI dX12_scorched_11 ?_
  refine v_istore_n dX12_scorched_12 (Nat.le_of_ble_eq_true rfl) ?_
  refine v_pick [2, 3, 1, 0] rfl ?_
  obtain ⟨I15, m16, wi19, wl18⟩ := w
  have hL20 : ∀ (N23 : Nat) (x12 : Int) (x13 : Int) (X14 : XT) (h24 : Nat → sE), m16 x12 x13 X14 < N23 → I15 x12 x13 X14 → Pic X14 h24 → Fr h h24 → V (m_X12_scorched, 10, 0, 0, n, pIw n h Q, s_G0) 0 0 n h24 13 [(0, .ref 77), (1, .int (iI a0)), (2, .int (iI x12)), (3, .int (iI x13))] [] := by
    intro N23
    induction N23 with
    | zero => intro x12 x13 X14 h24 hm21; exact absurd hm21 (Nat.not_lt_zero _)
    | succ N23 ih17 =>
      intro x12 x13 X14 h24 hm21 hI22 hp25 hf26
      have w := wl18 x12 x13 X14 hI22
      refine v_iload_n dX12_scorched_13 rfl ?_
      refine v_bipushI dX12_scorched_14 rfl ?_
      obtain ⟨q27, w⟩ := w
      refine v_icmp_geI (tgt := 43) dX12_scorched_16 (by decide) q27.1 q27.2 (by decide) (by decide) (fun c28 => ?_) (fun c28 => ?_)
      · replace w := w.1 c28
        refine v_iload_n dX12_scorched_43 rfl ?_
        refine v_iconstI dX12_scorched_44 ?_
        obtain ⟨q29, w⟩ := w
        refine v_icmp_neI (tgt := 52) dX12_scorched_45 (by decide) q29.1 q29.2 (by decide) (by decide) (fun c30 => ?_) (fun c30 => ?_)
        · replace w := w.1 c30
          refine v_iconstI dX12_scorched_52 ?_
          exact v_iret dX12_scorched_53 rfl (Nat.zero_le _) (Nat.zero_le _) ⟨rfl, hf26, _, _, rfl, hp25, w⟩
        · replace w := w.2 c30
          refine v_iload_n dX12_scorched_48 rfl ?_
          refine v_goto (tgt := 53) dX12_scorched_49 (by decide) ?_
          exact v_iret dX12_scorched_53 rfl (Nat.zero_le _) (Nat.zero_le _) ⟨rfl, hf26, _, _, rfl, hp25, w⟩
      · replace w := w.2 c28
        refine v_aload_n dX12_scorched_19 rfl ?_
        refine v_iload_n dX12_scorched_20 rfl ?_
        refine v_callVIw dX12_scorched_21 ml_X12_498 (so_X12_isScorched hn hp25  w) ((hp25 77 (by decide)).trans (ent_77 _)) rfl (s_lt hn rfl) rfl rfl (Nat.le_of_ble_eq_true rfl) (Nat.le_of_ble_eq_true rfl) (Nat.zero_le _) (Nat.zero_le _) (fun v31 X32 h33 hp35 hf34 w => ?_)
        have hf36 := Fr.trans hf26 hf34
        obtain ⟨q37, w⟩ := w
        refine v_if_eqI (tgt := 37) dX12_scorched_24 (by decide) q37.1 q37.2 (fun c38 => ?_) (fun c38 => ?_)
        · replace w := w.1 c38
          refine v_iincI dX12_scorched_37 rfl (Nat.le_of_ble_eq_true rfl) ?_
          refine v_goto (tgt := 13) dX12_scorched_40 (by decide) ?_
          refine v_pick [1, 2, 3, 0] rfl ?_
          exact ih17 _ _ _ _ (Nat.lt_of_lt_of_le w.2 (Nat.le_of_lt_succ hm21)) w.1 hp35 hf36
        · replace w := w.2 c38
          refine v_iload_n dX12_scorched_27 rfl ?_
          refine v_iload_n dX12_scorched_28 rfl ?_
          obtain ⟨q39, q40, w⟩ := w
          refine v_icmp_neI (tgt := 34) dX12_scorched_29 (by decide) q39.1 q39.2 q40.1 q40.2 (fun c41 => ?_) (fun c41 => ?_)
          · replace w := w.1 c41
            refine v_iincI dX12_scorched_34 rfl (Nat.le_of_ble_eq_true rfl) ?_
            refine v_iincI dX12_scorched_37 rfl (Nat.le_of_ble_eq_true rfl) ?_
            refine v_goto (tgt := 13) dX12_scorched_40 (by decide) ?_
            refine v_pick [2, 3, 1, 0] rfl ?_
            exact ih17 _ _ _ _ (Nat.lt_of_lt_of_le w.2 (Nat.le_of_lt_succ hm21)) w.1 hp35 hf36
          · replace w := w.2 c41
            refine v_iload_n dX12_scorched_32 rfl ?_
            exact v_iret dX12_scorched_33 rfl (Nat.zero_le _) (Nat.zero_le _) ⟨rfl, hf36, _, _, rfl, hp35, w⟩
  exact hL20 _ _ _ _ _ (Nat.lt_succ_self _) wi19 hp10 hf11
theorem dX12_brokenIn_0 : decode cX12_brokenIn 0 = .ok (.aload_n 0, 1) := by decide +kernel
theorem dX12_brokenIn_1 : decode cX12_brokenIn 1 = .ok (.iload_n 1, 1) := by decide +kernel
theorem dX12_brokenIn_2 : decode cX12_brokenIn 2 = .ok (.iconst 1, 1) := by decide +kernel
theorem dX12_brokenIn_3 : decode cX12_brokenIn 3 = .ok (.invokevirtual 501, 3) := by decide +kernel
theorem dX12_brokenIn_6 : decode cX12_brokenIn 6 = .ok (.istore_n 2, 1) := by decide +kernel
theorem dX12_brokenIn_7 : decode cX12_brokenIn 7 = .ok (.iload_n 2, 1) := by decide +kernel
theorem dX12_brokenIn_8 : decode cX12_brokenIn 8 = .ok (.aload_n 0, 1) := by decide +kernel
theorem dX12_brokenIn_9 : decode cX12_brokenIn 9 = .ok (.iload_n 1, 1) := by decide +kernel
theorem dX12_brokenIn_10 : decode cX12_brokenIn 10 = .ok (.iconst 2, 1) := by decide +kernel
theorem dX12_brokenIn_11 : decode cX12_brokenIn 11 = .ok (.invokevirtual 501, 3) := by decide +kernel
theorem dX12_brokenIn_14 : decode cX12_brokenIn 14 = .ok (.if_icmp .gt 48, 3) := by decide +kernel
theorem dX12_brokenIn_17 : decode cX12_brokenIn 17 = .ok (.aload_n 0, 1) := by decide +kernel
theorem dX12_brokenIn_18 : decode cX12_brokenIn 18 = .ok (.aload_n 0, 1) := by decide +kernel
theorem dX12_brokenIn_19 : decode cX12_brokenIn 19 = .ok (.iload_n 1, 1) := by decide +kernel
theorem dX12_brokenIn_20 : decode cX12_brokenIn 20 = .ok (.iconst 0, 1) := by decide +kernel
theorem dX12_brokenIn_21 : decode cX12_brokenIn 21 = .ok (.invokevirtual 501, 3) := by decide +kernel
theorem dX12_brokenIn_24 : decode cX12_brokenIn 24 = .ok (.iload_n 2, 1) := by decide +kernel
theorem dX12_brokenIn_25 : decode cX12_brokenIn 25 = .ok (.invokevirtual 481, 3) := by decide +kernel
theorem dX12_brokenIn_28 : decode cX12_brokenIn 28 = .ok (.ifCond .le 7, 3) := by decide +kernel
theorem dX12_brokenIn_31 : decode cX12_brokenIn 31 = .ok (.iconst 1, 1) := by decide +kernel
theorem dX12_brokenIn_32 : decode cX12_brokenIn 32 = .ok (.goto 4, 3) := by decide +kernel
theorem dX12_brokenIn_35 : decode cX12_brokenIn 35 = .ok (.iconst 0, 1) := by decide +kernel
theorem dX12_brokenIn_36 : decode cX12_brokenIn 36 = .ok (.aload_n 0, 1) := by decide +kernel
theorem dX12_brokenIn_37 : decode cX12_brokenIn 37 = .ok (.iload_n 1, 1) := by decide +kernel
theorem dX12_brokenIn_38 : decode cX12_brokenIn 38 = .ok (.iconst 3, 1) := by decide +kernel
theorem dX12_brokenIn_39 : decode cX12_brokenIn 39 = .ok (.invokevirtual 501, 3) := by decide +kernel
theorem dX12_brokenIn_42 : decode cX12_brokenIn 42 = .ok (.iconst 1, 1) := by decide +kernel
theorem dX12_brokenIn_43 : decode cX12_brokenIn 43 = .ok (.if_icmp .ne 7, 3) := by decide +kernel
theorem dX12_brokenIn_46 : decode cX12_brokenIn 46 = .ok (.iconst 1, 1) := by decide +kernel
theorem dX12_brokenIn_47 : decode cX12_brokenIn 47 = .ok (.goto 4, 3) := by decide +kernel
theorem dX12_brokenIn_50 : decode cX12_brokenIn 50 = .ok (.iconst 0, 1) := by decide +kernel
theorem dX12_brokenIn_51 : decode cX12_brokenIn 51 = .ok (.if_icmp .eq 5, 3) := by decide +kernel
theorem dX12_brokenIn_54 : decode cX12_brokenIn 54 = .ok (.iload_n 2, 1) := by decide +kernel
theorem dX12_brokenIn_55 : decode cX12_brokenIn 55 = .ok (.ireturn, 1) := by decide +kernel
theorem dX12_brokenIn_56 : decode cX12_brokenIn 56 = .ok (.iinc 2 1, 3) := by decide +kernel
theorem dX12_brokenIn_59 : decode cX12_brokenIn 59 = .ok (.goto (-52), 3) := by decide +kernel
theorem dX12_brokenIn_62 : decode cX12_brokenIn 62 = .ok (.iconst (-1), 1) := by decide +kernel
theorem dX12_brokenIn_63 : decode cX12_brokenIn 63 = .ok (.ireturn, 1) := by decide +kernel
def w_X12_brokenIn (a0 : Int) (X : XT) (Q : Int → Prop) : Prop :=
  (0 ≤ a0 ∧ a0 ≤ 7) ∧ ∃ (I3 : Int → Prop) (m4 : Int → Nat), I3 (X 79 (304 + 5 * a0 + 1)) ∧ ∀ (x2 : Int), I3 x2 → R32 x2 ∧ R32 (X 79 (304 + 5 * a0 + 2)) ∧ ((X 79 (304 + 5 * a0 + 2)) < x2 → Q (-1)) ∧ (¬ (X 79 (304 + 5 * a0 + 2)) < x2 → w_X12_shadeOf  (X 79 (304 + 5 * a0 + 0)) x2 X (fun (v15 : Int) => ∀ J22 : Int → Prop, (∀ (v21 : Int), (∀ J24 : Int → Prop, (∀ (v23 : Int), (R32 v21 ∧ R32 v23 ∧ (v21 = v23 → I3 (x2 + 1) ∧ m4 (x2 + 1) < m4 x2) ∧ (¬ v21 = v23 → Q x2)) → J24 v23) → R32 (X 79 (304 + 5 * a0 + 3)) ∧ (¬ (X 79 (304 + 5 * a0 + 3)) = 1 → J24 0) ∧ ((X 79 (304 + 5 * a0 + 3)) = 1 → J24 1)) → J22 v21) → R32 v15 ∧ (v15 ≤ 0 → J22 0) ∧ (¬ v15 ≤ 0 → J22 1)))
set_option maxRecDepth 20000 in
theorem so_X12_brokenIn {n : Nat} {h : Nat → sE} {X : XT} {a0 : Int} {Q : Int → Prop} (hn : 115 ≤ n) (hp : Pic X h) (w : w_X12_brokenIn  a0 X Q) : Sp m_X12_brokenIn 4 0 0 [.ref 77, .int (iI a0)] n h (pIr n h Q) := by
  unfold w_X12_brokenIn at w
  refine Sp.ofV (by decide +kernel) (Nat.le_of_ble_eq_true rfl) ?_
  have hf : Fr h h := fun _ _ => rfl
  refine v_aload_n dX12_brokenIn_0 rfl ?_
  refine v_iload_n dX12_brokenIn_1 rfl ?_
  refine v_iconstI dX12_brokenIn_2 ?_
  obtain ⟨q1, w⟩ := w
  refine v_callVp dX12_brokenIn_3 ml_X12_501 (sv_X12_ofContract (a := a0) (b := 1) (g77 := X 77) (g79 := X 79) hn (hp 77 (by decide)) (hp 79 (by decide)) q1 (by decide)) ((hp 77 (by decide)).trans (ent_77 _)) rfl (s_lt hn rfl) rfl rfl (Nat.le_of_ble_eq_true rfl) (Nat.le_of_ble_eq_true rfl) (Nat.zero_le _) (Nat.zero_le _) ?_
  refine v_istore_n dX12_brokenIn_6 (Nat.le_of_ble_eq_true rfl) ?_
  refine v_pick [1, 2, 0] rfl ?_
  obtain ⟨I3, m4, wi7, wl6⟩ := w
  have hL8 : ∀ (N11 : Nat) (x2 : Int), m4 x2 < N11 → I3 x2 → V (m_X12_brokenIn, 4, 0, 0, n, pIr n h Q, s_G0) 0 0 n h 7 [(0, .ref 77), (1, .int (iI a0)), (2, .int (iI x2))] [] := by
    intro N11
    induction N11 with
    | zero => intro x2  hm9; exact absurd hm9 (Nat.not_lt_zero _)
    | succ N11 ih5 =>
      intro x2  hm9 hI10
      have w := wl6 x2 hI10
      refine v_iload_n dX12_brokenIn_7 rfl ?_
      refine v_aload_n dX12_brokenIn_8 rfl ?_
      refine v_iload_n dX12_brokenIn_9 rfl ?_
      refine v_iconstI dX12_brokenIn_10 ?_
      refine v_callVp dX12_brokenIn_11 ml_X12_501 (sv_X12_ofContract (a := a0) (b := 2) (g77 := X 77) (g79 := X 79) hn (hp 77 (by decide)) (hp 79 (by decide)) q1 (by decide)) ((hp 77 (by decide)).trans (ent_77 _)) rfl (s_lt hn rfl) rfl rfl (Nat.le_of_ble_eq_true rfl) (Nat.le_of_ble_eq_true rfl) (Nat.zero_le _) (Nat.zero_le _) ?_
      obtain ⟨q12, q13, w⟩ := w
      refine v_icmp_gtI (tgt := 62) dX12_brokenIn_14 (by decide) q12.1 q12.2 q13.1 q13.2 (fun c14 => ?_) (fun c14 => ?_)
      · replace w := w.1 c14
        refine v_iconstI dX12_brokenIn_62 ?_
        exact v_iret dX12_brokenIn_63 rfl (Nat.zero_le _) (Nat.zero_le _) ⟨rfl, rfl, _, rfl, w⟩
      · replace w := w.2 c14
        refine v_aload_n dX12_brokenIn_17 rfl ?_
        refine v_aload_n dX12_brokenIn_18 rfl ?_
        refine v_iload_n dX12_brokenIn_19 rfl ?_
        refine v_iconstI dX12_brokenIn_20 ?_
        refine v_callVp dX12_brokenIn_21 ml_X12_501 (sv_X12_ofContract (a := a0) (b := 0) (g77 := X 77) (g79 := X 79) hn (hp 77 (by decide)) (hp 79 (by decide)) q1 (by decide)) ((hp 77 (by decide)).trans (ent_77 _)) rfl (s_lt hn rfl) rfl rfl (Nat.le_of_ble_eq_true rfl) (Nat.le_of_ble_eq_true rfl) (Nat.zero_le _) (Nat.zero_le _) ?_
        refine v_iload_n dX12_brokenIn_24 rfl ?_
        refine v_callVIr dX12_brokenIn_25 ml_X12_481 (so_X12_shadeOf hn hp  w) ((hp 77 (by decide)).trans (ent_77 _)) rfl (s_lt hn rfl) rfl rfl (Nat.le_of_ble_eq_true rfl) (Nat.le_of_ble_eq_true rfl) (Nat.zero_le _) (Nat.zero_le _) (fun v15 w => ?_)
        replace w := w (fun (v21 : Int) => V (m_X12_brokenIn, 4, 0, 0, n, pIr n h Q, s_G0) 0 0 n h 36 [(0, .ref 77), (1, .int (iI a0)), (2, .int (iI x2))] [.int (iI v21)]) (by
          intro v21 w
          refine v_aload_n dX12_brokenIn_36 rfl ?_
          refine v_iload_n dX12_brokenIn_37 rfl ?_
          refine v_iconstI dX12_brokenIn_38 ?_
          refine v_callVp dX12_brokenIn_39 ml_X12_501 (sv_X12_ofContract (a := a0) (b := 3) (g77 := X 77) (g79 := X 79) hn (hp 77 (by decide)) (hp 79 (by decide)) q1 (by decide)) ((hp 77 (by decide)).trans (ent_77 _)) rfl (s_lt hn rfl) rfl rfl (Nat.le_of_ble_eq_true rfl) (Nat.le_of_ble_eq_true rfl) (Nat.zero_le _) (Nat.zero_le _) ?_
          refine v_iconstI dX12_brokenIn_42 ?_
          replace w := w (fun (v23 : Int) => V (m_X12_brokenIn, 4, 0, 0, n, pIr n h Q, s_G0) 0 0 n h 51 [(0, .ref 77), (1, .int (iI a0)), (2, .int (iI x2))] [.int (iI v23), .int (iI v21)]) (by
            intro v23 w
            obtain ⟨q25, q26, w⟩ := w
            refine v_icmp_eqI (tgt := 56) dX12_brokenIn_51 (by decide) q25.1 q25.2 q26.1 q26.2 (fun c27 => ?_) (fun c27 => ?_)
            · replace w := w.1 c27
              refine v_iincI dX12_brokenIn_56 rfl (Nat.le_of_ble_eq_true rfl) ?_
              refine v_goto (tgt := 7) dX12_brokenIn_59 (by decide) ?_
              refine v_pick [1, 2, 0] rfl ?_
              exact ih5 _ (Nat.lt_of_lt_of_le w.2 (Nat.le_of_lt_succ hm9)) w.1
            · replace w := w.2 c27
              refine v_iload_n dX12_brokenIn_54 rfl ?_
              exact v_iret dX12_brokenIn_55 rfl (Nat.zero_le _) (Nat.zero_le _) ⟨rfl, rfl, _, rfl, w⟩
          )
          obtain ⟨q28, w⟩ := w
          refine v_icmp_neI (tgt := 50) dX12_brokenIn_43 (by decide) q28.1 q28.2 (by decide) (by decide) (fun c29 => ?_) (fun c29 => ?_)
          · replace w := w.1 c29
            refine v_iconstI dX12_brokenIn_50 ?_
            exact w
          · replace w := w.2 c29
            refine v_iconstI dX12_brokenIn_46 ?_
            refine v_goto (tgt := 51) dX12_brokenIn_47 (by decide) ?_
            exact w
        )
        obtain ⟨q30, w⟩ := w
        refine v_if_leI (tgt := 35) dX12_brokenIn_28 (by decide) q30.1 q30.2 (fun c31 => ?_) (fun c31 => ?_)
        · replace w := w.1 c31
          refine v_iconstI dX12_brokenIn_35 ?_
          exact w
        · replace w := w.2 c31
          refine v_iconstI dX12_brokenIn_31 ?_
          refine v_goto (tgt := 36) dX12_brokenIn_32 (by decide) ?_
          exact w
  exact hL8 _ _ (Nat.lt_succ_self _) wi7
theorem dX12_broken_0 : decode cX12_broken 0 = .ok (.aload_n 0, 1) := by decide +kernel
theorem dX12_broken_1 : decode cX12_broken 1 = .ok (.iconst 0, 1) := by decide +kernel
theorem dX12_broken_2 : decode cX12_broken 2 = .ok (.putfield 169, 3) := by decide +kernel
theorem dX12_broken_5 : decode cX12_broken 5 = .ok (.iload_n 1, 1) := by decide +kernel
theorem dX12_broken_6 : decode cX12_broken 6 = .ok (.i2l, 1) := by decide +kernel
theorem dX12_broken_7 : decode cX12_broken 7 = .ok (.lconst 0, 1) := by decide +kernel
theorem dX12_broken_8 : decode cX12_broken 8 = .ok (.aload_n 0, 1) := by decide +kernel
theorem dX12_broken_9 : decode cX12_broken 9 = .ok (.getfield 13, 3) := by decide +kernel
theorem dX12_broken_12 : decode cX12_broken 12 = .ok (.iconst 2, 1) := by decide +kernel
theorem dX12_broken_13 : decode cX12_broken 13 = .ok (.iaload, 1) := by decide +kernel
theorem dX12_broken_14 : decode cX12_broken 14 = .ok (.i2l, 1) := by decide +kernel
theorem dX12_broken_15 : decode cX12_broken 15 = .ok (.lconst 1, 1) := by decide +kernel
theorem dX12_broken_16 : decode cX12_broken 16 = .ok (.lsub, 1) := by decide +kernel
theorem dX12_broken_17 : decode cX12_broken 17 = .ok (.invokestatic 175, 3) := by decide +kernel
theorem dX12_broken_20 : decode cX12_broken 20 = .ok (.ifCond .ne 5, 3) := by decide +kernel
theorem dX12_broken_23 : decode cX12_broken 23 = .ok (.iconst (-1), 1) := by decide +kernel
theorem dX12_broken_24 : decode cX12_broken 24 = .ok (.ireturn, 1) := by decide +kernel
theorem dX12_broken_25 : decode cX12_broken 25 = .ok (.aload_n 0, 1) := by decide +kernel
theorem dX12_broken_26 : decode cX12_broken 26 = .ok (.invokevirtual 478, 3) := by decide +kernel
theorem dX12_broken_29 : decode cX12_broken 29 = .ok (.aload_n 0, 1) := by decide +kernel
theorem dX12_broken_30 : decode cX12_broken 30 = .ok (.iload_n 1, 1) := by decide +kernel
theorem dX12_broken_31 : decode cX12_broken 31 = .ok (.invokevirtual 504, 3) := by decide +kernel
theorem dX12_broken_34 : decode cX12_broken 34 = .ok (.ireturn, 1) := by decide +kernel
def w_X12_broken (a0 : Int) (X : XT) (Q : Int → XT → Prop) : Prop :=
  R32 a0 ∧ R32 ((x_st X 77 0 0) 79 2) ∧ R64 (((x_st X 77 0 0) 79 2) - 1) ∧ ((0 ≤ a0 ∧ a0 ≤ (((x_st X 77 0 0) 79 2) - 1)) → w_X12_layCorners   (x_st X 77 0 0) (fun (X11 : XT) => w_X12_brokenIn  a0 X11 (fun (v16 : Int) => Q v16 X11))) ∧ (¬ (0 ≤ a0 ∧ a0 ≤ (((x_st X 77 0 0) 79 2) - 1)) → Q (-1) (x_st X 77 0 0))
set_option maxRecDepth 20000 in
theorem so_X12_broken {n : Nat} {h : Nat → sE} {X : XT} {a0 : Int} {Q : Int → XT → Prop} (hn : 115 ≤ n) (hp : Pic X h) (w : w_X12_broken  a0 X Q) : Sp m_X12_broken 10 0 0 [.ref 77, .int (iI a0)] n h (pIw n h Q) := by
  unfold w_X12_broken at w
  refine Sp.ofV (by decide +kernel) (Nat.le_of_ble_eq_true rfl) ?_
  have hf : Fr h h := fun _ _ => rfl
  refine v_aload_n dX12_broken_0 rfl ?_
  refine v_iconstI dX12_broken_1 ?_
  refine v_put dX12_broken_2 fl_X12_169 ((hp 77 (by decide)).trans (ent_77 _)) (s_lt hn rfl) (Nat.le_of_ble_eq_true rfl) (fun _ => ⟨rfl, rfl⟩) trivial (fun h1 E2 F3 => ?_)
  have hp4 := pic_st hp (show h1 77 = ent 77 (uI _ 0 0) from E2) F3
  have hf5 := Fr.up (c := 77) hf F3 rfl
  refine v_iload_n dX12_broken_5 rfl ?_
  obtain ⟨q6, w⟩ := w
  refine v_i2lI dX12_broken_6 q6.1 q6.2 ?_
  refine v_lconstI (w := 0) dX12_broken_7 rfl ?_
  refine v_aload_n dX12_broken_8 rfl ?_
  refine v_get dX12_broken_9 fl_X12_13 ((hp4 77 (by decide)).trans (ent_77 _)) rfl (s_lt hn rfl) ?_
  refine v_iconstI dX12_broken_12 ?_
  refine v_ialdI dX12_broken_13 ((hp4 79 (by decide)).trans (ent_79 _)) (s_lt hn rfl) (by decide) (by decide) (by decide) ?_
  obtain ⟨q7, w⟩ := w
  refine v_i2lI dX12_broken_14 q7.1 q7.2 ?_
  refine v_lconstI (w := 1) dX12_broken_15 rfl ?_
  refine v_lsubI dX12_broken_16 ?_
  obtain ⟨q8, w⟩ := w
  refine v_callSp dX12_broken_17 ml_X12_175 (sp_X12_in (v := a0) (lo := 0) (hi := (((x_st X 77 0 0) 79 2) - 1)) (r32_64 q6) (by decide) q8) rfl rfl (Nat.le_of_ble_eq_true rfl) (Nat.le_of_ble_eq_true rfl) (Nat.zero_le _) (Nat.zero_le _) ?_
  refine v_ifneB (tgt := 25) dX12_broken_20 (by decide) (fun c9 => ?_) (fun c9 => ?_)
  · replace w := w.1 c9
    refine v_aload_n dX12_broken_25 rfl ?_
    refine v_callVVw dX12_broken_26 ml_X12_478 (so_X12_layCorners hn hp4  w) ((hp4 77 (by decide)).trans (ent_77 _)) rfl (s_lt hn rfl) rfl rfl (Nat.le_of_ble_eq_true rfl) (Nat.le_of_ble_eq_true rfl) (Nat.zero_le _) (Nat.zero_le _) (fun X11 h12 hp14 hf13 w => ?_)
    have hf15 := Fr.trans hf5 hf13
    refine v_aload_n dX12_broken_29 rfl ?_
    refine v_iload_n dX12_broken_30 rfl ?_
    refine v_callVIr dX12_broken_31 ml_X12_504 (so_X12_brokenIn hn hp14  w) ((hp14 77 (by decide)).trans (ent_77 _)) rfl (s_lt hn rfl) rfl rfl (Nat.le_of_ble_eq_true rfl) (Nat.le_of_ble_eq_true rfl) (Nat.zero_le _) (Nat.zero_le _) (fun v16 w => ?_)
    exact v_iret dX12_broken_34 rfl (Nat.zero_le _) (Nat.zero_le _) ⟨rfl, hf15, _, _, rfl, hp14, w⟩
  · replace w := w.2 c9
    refine v_iconstI dX12_broken_23 ?_
    exact v_iret dX12_broken_24 rfl (Nat.zero_le _) (Nat.zero_le _) ⟨rfl, hf5, _, _, rfl, hp4, w⟩
theorem dX12_judge_0 : decode cX12_judge 0 = .ok (.aload_n 0, 1) := by decide +kernel
theorem dX12_judge_1 : decode cX12_judge 1 = .ok (.iconst 0, 1) := by decide +kernel
theorem dX12_judge_2 : decode cX12_judge 2 = .ok (.putfield 169, 3) := by decide +kernel
theorem dX12_judge_5 : decode cX12_judge 5 = .ok (.iload_n 1, 1) := by decide +kernel
theorem dX12_judge_6 : decode cX12_judge 6 = .ok (.i2l, 1) := by decide +kernel
theorem dX12_judge_7 : decode cX12_judge 7 = .ok (.lconst 0, 1) := by decide +kernel
theorem dX12_judge_8 : decode cX12_judge 8 = .ok (.lconst 1, 1) := by decide +kernel
theorem dX12_judge_9 : decode cX12_judge 9 = .ok (.invokestatic 175, 3) := by decide +kernel
theorem dX12_judge_12 : decode cX12_judge 12 = .ok (.ifCond .ne 5, 3) := by decide +kernel
theorem dX12_judge_15 : decode cX12_judge 15 = .ok (.iconst (-1), 1) := by decide +kernel
theorem dX12_judge_16 : decode cX12_judge 16 = .ok (.ireturn, 1) := by decide +kernel
theorem dX12_judge_17 : decode cX12_judge 17 = .ok (.aload_n 0, 1) := by decide +kernel
theorem dX12_judge_18 : decode cX12_judge 18 = .ok (.invokevirtual 478, 3) := by decide +kernel
theorem dX12_judge_21 : decode cX12_judge 21 = .ok (.iconst (-1), 1) := by decide +kernel
theorem dX12_judge_22 : decode cX12_judge 22 = .ok (.istore_n 2, 1) := by decide +kernel
theorem dX12_judge_23 : decode cX12_judge 23 = .ok (.ldc_w 507, 3) := by decide +kernel
theorem dX12_judge_26 : decode cX12_judge 26 = .ok (.istore_n 3, 1) := by decide +kernel
theorem dX12_judge_27 : decode cX12_judge 27 = .ok (.iconst 0, 1) := by decide +kernel
theorem dX12_judge_28 : decode cX12_judge 28 = .ok (.istore 4, 2) := by decide +kernel
theorem dX12_judge_30 : decode cX12_judge 30 = .ok (.iconst 0, 1) := by decide +kernel
theorem dX12_judge_31 : decode cX12_judge 31 = .ok (.istore 5, 2) := by decide +kernel
theorem dX12_judge_33 : decode cX12_judge 33 = .ok (.iload 5, 2) := by decide +kernel
theorem dX12_judge_35 : decode cX12_judge 35 = .ok (.aload_n 0, 1) := by decide +kernel
theorem dX12_judge_36 : decode cX12_judge 36 = .ok (.getfield 13, 3) := by decide +kernel
theorem dX12_judge_39 : decode cX12_judge 39 = .ok (.iconst 2, 1) := by decide +kernel
theorem dX12_judge_40 : decode cX12_judge 40 = .ok (.iaload, 1) := by decide +kernel
theorem dX12_judge_41 : decode cX12_judge 41 = .ok (.if_icmp .ge 77, 3) := by decide +kernel
theorem dX12_judge_44 : decode cX12_judge 44 = .ok (.aload_n 0, 1) := by decide +kernel
theorem dX12_judge_45 : decode cX12_judge 45 = .ok (.iload 5, 2) := by decide +kernel
theorem dX12_judge_47 : decode cX12_judge 47 = .ok (.invokevirtual 504, 3) := by decide +kernel
theorem dX12_judge_50 : decode cX12_judge 50 = .ok (.istore 6, 2) := by decide +kernel
theorem dX12_judge_52 : decode cX12_judge 52 = .ok (.iload 4, 2) := by decide +kernel
theorem dX12_judge_54 : decode cX12_judge 54 = .ok (.iload 6, 2) := by decide +kernel
theorem dX12_judge_56 : decode cX12_judge 56 = .ok (.iconst (-1), 1) := by decide +kernel
theorem dX12_judge_57 : decode cX12_judge 57 = .ok (.if_icmp .ne 13, 3) := by decide +kernel
theorem dX12_judge_60 : decode cX12_judge 60 = .ok (.aload_n 0, 1) := by decide +kernel
theorem dX12_judge_61 : decode cX12_judge 61 = .ok (.iload 5, 2) := by decide +kernel
theorem dX12_judge_63 : decode cX12_judge 63 = .ok (.iconst 4, 1) := by decide +kernel
theorem dX12_judge_64 : decode cX12_judge 64 = .ok (.invokevirtual 501, 3) := by decide +kernel
theorem dX12_judge_67 : decode cX12_judge 67 = .ok (.goto 4, 3) := by decide +kernel
theorem dX12_judge_70 : decode cX12_judge 70 = .ok (.iconst 0, 1) := by decide +kernel
theorem dX12_judge_71 : decode cX12_judge 71 = .ok (.iadd, 1) := by decide +kernel
theorem dX12_judge_72 : decode cX12_judge 72 = .ok (.istore 4, 2) := by decide +kernel
theorem dX12_judge_74 : decode cX12_judge 74 = .ok (.iload 6, 2) := by decide +kernel
theorem dX12_judge_76 : decode cX12_judge 76 = .ok (.iconst (-1), 1) := by decide +kernel
theorem dX12_judge_77 : decode cX12_judge 77 = .ok (.if_icmp .eq 14, 3) := by decide +kernel
theorem dX12_judge_80 : decode cX12_judge 80 = .ok (.iload 6, 2) := by decide +kernel
theorem dX12_judge_82 : decode cX12_judge 82 = .ok (.iload_n 3, 1) := by decide +kernel
theorem dX12_judge_83 : decode cX12_judge 83 = .ok (.if_icmp .ge 8, 3) := by decide +kernel
theorem dX12_judge_86 : decode cX12_judge 86 = .ok (.iload 5, 2) := by decide +kernel
theorem dX12_judge_88 : decode cX12_judge 88 = .ok (.goto 4, 3) := by decide +kernel
theorem dX12_judge_91 : decode cX12_judge 91 = .ok (.iload_n 2, 1) := by decide +kernel
theorem dX12_judge_92 : decode cX12_judge 92 = .ok (.istore_n 2, 1) := by decide +kernel
theorem dX12_judge_93 : decode cX12_judge 93 = .ok (.iload 6, 2) := by decide +kernel
theorem dX12_judge_95 : decode cX12_judge 95 = .ok (.iconst (-1), 1) := by decide +kernel
theorem dX12_judge_96 : decode cX12_judge 96 = .ok (.if_icmp .eq 14, 3) := by decide +kernel
theorem dX12_judge_99 : decode cX12_judge 99 = .ok (.iload 6, 2) := by decide +kernel
theorem dX12_judge_101 : decode cX12_judge 101 = .ok (.iload_n 3, 1) := by decide +kernel
theorem dX12_judge_102 : decode cX12_judge 102 = .ok (.if_icmp .ge 8, 3) := by decide +kernel
theorem dX12_judge_105 : decode cX12_judge 105 = .ok (.iload 6, 2) := by decide +kernel
theorem dX12_judge_107 : decode cX12_judge 107 = .ok (.goto 4, 3) := by decide +kernel
theorem dX12_judge_110 : decode cX12_judge 110 = .ok (.iload_n 3, 1) := by decide +kernel
theorem dX12_judge_111 : decode cX12_judge 111 = .ok (.istore_n 3, 1) := by decide +kernel
theorem dX12_judge_112 : decode cX12_judge 112 = .ok (.iinc 5 1, 3) := by decide +kernel
theorem dX12_judge_115 : decode cX12_judge 115 = .ok (.goto (-82), 3) := by decide +kernel
theorem dX12_judge_118 : decode cX12_judge 118 = .ok (.iload_n 1, 1) := by decide +kernel
theorem dX12_judge_119 : decode cX12_judge 119 = .ok (.ifCond .ne 7, 3) := by decide +kernel
theorem dX12_judge_122 : decode cX12_judge 122 = .ok (.iload_n 2, 1) := by decide +kernel
theorem dX12_judge_123 : decode cX12_judge 123 = .ok (.goto 5, 3) := by decide +kernel
theorem dX12_judge_126 : decode cX12_judge 126 = .ok (.iload 4, 2) := by decide +kernel
theorem dX12_judge_128 : decode cX12_judge 128 = .ok (.ireturn, 1) := by decide +kernel
def w_X12_judge (a0 : Int) (X : XT) (Q : Int → XT → Prop) : Prop :=
  R32 a0 ∧ ((0 ≤ a0 ∧ a0 ≤ 1) → w_X12_layCorners   (x_st X 77 0 0) (fun (X9 : XT) => ∃ (I18 : Int → Int → Int → Int → Prop) (m19 : Int → Int → Int → Int → Nat), I18 (-1) 100000000 0 0 ∧ ∀ (x14 : Int) (x15 : Int) (x16 : Int) (x17 : Int), I18 x14 x15 x16 x17 → R32 x17 ∧ R32 (X9 79 2) ∧ ((X9 79 2) ≤ x17 → (¬ a0 = 0 → Q x16 X9) ∧ (a0 = 0 → Q x14 X9)) ∧ (¬ (X9 79 2) ≤ x17 → w_X12_brokenIn  x17 X9 (fun (v31 : Int) => ∀ J38 : Int → Prop, (∀ (v37 : Int), (∀ J40 : Int → Prop, (∀ (v39 : Int), (∀ J41 : Prop, ((I18 v39 x15 (x16 + v37) (x17 + 1) ∧ m19 v39 x15 (x16 + v37) (x17 + 1) < m19 x14 x15 x16 x17) → J41) → R32 v31 ∧ (v31 = (-1) → J41 ) ∧ (¬ v31 = (-1) → R32 x15 ∧ (x15 ≤ v31 → J41 ) ∧ (¬ x15 ≤ v31 → I18 v39 v31 (x16 + v37) (x17 + 1) ∧ m19 v39 v31 (x16 + v37) (x17 + 1) < m19 x14 x15 x16 x17))) → J40 v39) → R32 v31 ∧ (v31 = (-1) → J40 x14) ∧ (¬ v31 = (-1) → R32 x15 ∧ (x15 ≤ v31 → J40 x14) ∧ (¬ x15 ≤ v31 → J40 x17))) → J38 v37) → R32 v31 ∧ (¬ v31 = (-1) → J38 0) ∧ (v31 = (-1) → (0 ≤ x17 ∧ x17 ≤ 7) ∧ J38 (X9 79 (304 + 5 * x17 + 4))))))) ∧ (¬ (0 ≤ a0 ∧ a0 ≤ 1) → Q (-1) (x_st X 77 0 0))
set_option maxRecDepth 20000 in
theorem so_X12_judge {n : Nat} {h : Nat → sE} {X : XT} {a0 : Int} {Q : Int → XT → Prop} (hn : 115 ≤ n) (hp : Pic X h) (w : w_X12_judge  a0 X Q) : Sp m_X12_judge 10 0 0 [.ref 77, .int (iI a0)] n h (pIw n h Q) := by
  unfold w_X12_judge at w
  refine Sp.ofV (by decide +kernel) (Nat.le_of_ble_eq_true rfl) ?_
  have hf : Fr h h := fun _ _ => rfl
  refine v_aload_n dX12_judge_0 rfl ?_
  refine v_iconstI dX12_judge_1 ?_
  refine v_put dX12_judge_2 fl_X12_169 ((hp 77 (by decide)).trans (ent_77 _)) (s_lt hn rfl) (Nat.le_of_ble_eq_true rfl) (fun _ => ⟨rfl, rfl⟩) trivial (fun h1 E2 F3 => ?_)
  have hp4 := pic_st hp (show h1 77 = ent 77 (uI _ 0 0) from E2) F3
  have hf5 := Fr.up (c := 77) hf F3 rfl
  refine v_iload_n dX12_judge_5 rfl ?_
  obtain ⟨q6, w⟩ := w
  refine v_i2lI dX12_judge_6 q6.1 q6.2 ?_
  refine v_lconstI (w := 0) dX12_judge_7 rfl ?_
  refine v_lconstI (w := 1) dX12_judge_8 rfl ?_
  refine v_callSp dX12_judge_9 ml_X12_175 (sp_X12_in (v := a0) (lo := 0) (hi := 1) (r32_64 q6) (by decide) (by decide)) rfl rfl (Nat.le_of_ble_eq_true rfl) (Nat.le_of_ble_eq_true rfl) (Nat.zero_le _) (Nat.zero_le _) ?_
  refine v_ifneB (tgt := 17) dX12_judge_12 (by decide) (fun c7 => ?_) (fun c7 => ?_)
  · replace w := w.1 c7
    refine v_aload_n dX12_judge_17 rfl ?_
    refine v_callVVw dX12_judge_18 ml_X12_478 (so_X12_layCorners hn hp4  w) ((hp4 77 (by decide)).trans (ent_77 _)) rfl (s_lt hn rfl) rfl rfl (Nat.le_of_ble_eq_true rfl) (Nat.le_of_ble_eq_true rfl) (Nat.zero_le _) (Nat.zero_le _) (fun X9 h10 hp12 hf11 w => ?_)
    have hf13 := Fr.trans hf5 hf11
    refine v_iconstI dX12_judge_21 ?_
    refine v_istore_n dX12_judge_22 (Nat.le_of_ble_eq_true rfl) ?_
    refine v_ldcwI 100000000 dX12_judge_23 k_X12_507 rfl ?_
    refine v_istore_n dX12_judge_26 (Nat.le_of_ble_eq_true rfl) ?_
    refine v_iconstI dX12_judge_27 ?_
    refine v_istore dX12_judge_28 (Nat.le_of_ble_eq_true rfl) ?_
    refine v_iconstI dX12_judge_30 ?_
    refine v_istore dX12_judge_31 (Nat.le_of_ble_eq_true rfl) ?_
    refine v_pick [4, 5, 3, 2, 1, 0] rfl ?_
    obtain ⟨I18, m19, wi22, wl21⟩ := w
    have hL23 : ∀ (N26 : Nat) (x14 : Int) (x15 : Int) (x16 : Int) (x17 : Int), m19 x14 x15 x16 x17 < N26 → I18 x14 x15 x16 x17 → V (m_X12_judge, 10, 0, 0, n, pIw n h Q, s_G0) 0 0 n h10 33 [(0, .ref 77), (1, .int (iI a0)), (2, .int (iI x14)), (3, .int (iI x15)), (4, .int (iI x16)), (5, .int (iI x17))] [] := by
      intro N26
      induction N26 with
      | zero => intro x14 x15 x16 x17  hm24; exact absurd hm24 (Nat.not_lt_zero _)
      | succ N26 ih20 =>
        intro x14 x15 x16 x17  hm24 hI25
        have w := wl21 x14 x15 x16 x17 hI25
        refine v_iload dX12_judge_33 rfl ?_
        refine v_aload_n dX12_judge_35 rfl ?_
        refine v_get dX12_judge_36 fl_X12_13 ((hp12 77 (by decide)).trans (ent_77 _)) rfl (s_lt hn rfl) ?_
        refine v_iconstI dX12_judge_39 ?_
        refine v_ialdI dX12_judge_40 ((hp12 79 (by decide)).trans (ent_79 _)) (s_lt hn rfl) (by decide) (by decide) (by decide) ?_
        obtain ⟨q27, q28, w⟩ := w
        refine v_icmp_geI (tgt := 118) dX12_judge_41 (by decide) q27.1 q27.2 q28.1 q28.2 (fun c29 => ?_) (fun c29 => ?_)
        · replace w := w.1 c29
          refine v_iload_n dX12_judge_118 rfl ?_
          refine v_if_neI (tgt := 126) dX12_judge_119 (by decide) q6.1 q6.2 (fun c30 => ?_) (fun c30 => ?_)
          · replace w := w.1 c30
            refine v_iload dX12_judge_126 rfl ?_
            exact v_iret dX12_judge_128 rfl (Nat.zero_le _) (Nat.zero_le _) ⟨rfl, hf13, _, _, rfl, hp12, w⟩
          · replace w := w.2 c30
            refine v_iload_n dX12_judge_122 rfl ?_
            refine v_goto (tgt := 128) dX12_judge_123 (by decide) ?_
            exact v_iret dX12_judge_128 rfl (Nat.zero_le _) (Nat.zero_le _) ⟨rfl, hf13, _, _, rfl, hp12, w⟩
        · replace w := w.2 c29
          refine v_aload_n dX12_judge_44 rfl ?_
          refine v_iload dX12_judge_45 rfl ?_
          refine v_callVIr dX12_judge_47 ml_X12_504 (so_X12_brokenIn hn hp12  w) ((hp12 77 (by decide)).trans (ent_77 _)) rfl (s_lt hn rfl) rfl rfl (Nat.le_of_ble_eq_true rfl) (Nat.le_of_ble_eq_true rfl) (Nat.zero_le _) (Nat.zero_le _) (fun v31 w => ?_)
          refine v_istore dX12_judge_50 (Nat.le_of_ble_eq_true rfl) ?_
          refine v_iload dX12_judge_52 rfl ?_
          refine v_iload dX12_judge_54 rfl ?_
          refine v_iconstI dX12_judge_56 ?_
          replace w := w (fun (v37 : Int) => V (m_X12_judge, 10, 0, 0, n, pIw n h Q, s_G0) 0 0 n h10 71 [(0, .ref 77), (1, .int (iI a0)), (2, .int (iI x14)), (3, .int (iI x15)), (5, .int (iI x17)), (6, .int (iI v31))] [.int (iI v37), .int (iI x16)]) (by
            intro v37 w
            refine v_iaddI dX12_judge_71 ?_
            refine v_istore dX12_judge_72 (Nat.le_of_ble_eq_true rfl) ?_
            refine v_iload dX12_judge_74 rfl ?_
            refine v_iconstI dX12_judge_76 ?_
            replace w := w (fun (v39 : Int) => V (m_X12_judge, 10, 0, 0, n, pIw n h Q, s_G0) 0 0 n h10 92 [(0, .ref 77), (1, .int (iI a0)), (3, .int (iI x15)), (4, .int (iI (x16 + v37))), (5, .int (iI x17)), (6, .int (iI v31))] [.int (iI v39)]) (by
              intro v39 w
              refine v_istore_n dX12_judge_92 (Nat.le_of_ble_eq_true rfl) ?_
              refine v_iload dX12_judge_93 rfl ?_
              refine v_iconstI dX12_judge_95 ?_
              replace w := w (V (m_X12_judge, 10, 0, 0, n, pIw n h Q, s_G0) 0 0 n h10 110 [(0, .ref 77), (1, .int (iI a0)), (2, .int (iI v39)), (3, .int (iI x15)), (4, .int (iI (x16 + v37))), (5, .int (iI x17))] []) (by
                intro  w
                refine v_iload_n dX12_judge_110 rfl ?_
                refine v_istore_n dX12_judge_111 (Nat.le_of_ble_eq_true rfl) ?_
                refine v_iincI dX12_judge_112 rfl (Nat.le_of_ble_eq_true rfl) ?_
                refine v_goto (tgt := 33) dX12_judge_115 (by decide) ?_
                refine v_pick [2, 3, 4, 1, 5, 0] rfl ?_
                exact ih20 _ _ _ _ (Nat.lt_of_lt_of_le w.2 (Nat.le_of_lt_succ hm24)) w.1
              )
              obtain ⟨q42, w⟩ := w
              refine v_icmp_eqI (tgt := 110) dX12_judge_96 (by decide) q42.1 q42.2 (by decide) (by decide) (fun c43 => ?_) (fun c43 => ?_)
              · replace w := w.1 c43
                refine v_pick [1, 2, 0, 3, 4, 5] rfl ?_
                exact w
              · replace w := w.2 c43
                refine v_iload dX12_judge_99 rfl ?_
                refine v_iload_n dX12_judge_101 rfl ?_
                obtain ⟨q44, w⟩ := w
                refine v_icmp_geI (tgt := 110) dX12_judge_102 (by decide) q42.1 q42.2 q44.1 q44.2 (fun c45 => ?_) (fun c45 => ?_)
                · replace w := w.1 c45
                  refine v_pick [1, 2, 0, 3, 4, 5] rfl ?_
                  exact w
                · replace w := w.2 c45
                  refine v_iload dX12_judge_105 rfl ?_
                  refine v_goto (tgt := 111) dX12_judge_107 (by decide) ?_
                  refine v_istore_n dX12_judge_111 (Nat.le_of_ble_eq_true rfl) ?_
                  refine v_iincI dX12_judge_112 rfl (Nat.le_of_ble_eq_true rfl) ?_
                  refine v_goto (tgt := 33) dX12_judge_115 (by decide) ?_
                  refine v_pick [3, 4, 2, 1, 5, 0] rfl ?_
                  exact ih20 _ _ _ _ (Nat.lt_of_lt_of_le w.2 (Nat.le_of_lt_succ hm24)) w.1
            )
            obtain ⟨q46, w⟩ := w
            refine v_icmp_eqI (tgt := 91) dX12_judge_77 (by decide) q46.1 q46.2 (by decide) (by decide) (fun c47 => ?_) (fun c47 => ?_)
            · replace w := w.1 c47
              refine v_iload_n dX12_judge_91 rfl ?_
              refine v_pick [1, 2, 4, 0, 5, 6] rfl ?_
              exact w
            · replace w := w.2 c47
              refine v_iload dX12_judge_80 rfl ?_
              refine v_iload_n dX12_judge_82 rfl ?_
              obtain ⟨q48, w⟩ := w
              refine v_icmp_geI (tgt := 91) dX12_judge_83 (by decide) q46.1 q46.2 q48.1 q48.2 (fun c49 => ?_) (fun c49 => ?_)
              · replace w := w.1 c49
                refine v_iload_n dX12_judge_91 rfl ?_
                refine v_pick [1, 2, 4, 0, 5, 6] rfl ?_
                exact w
              · replace w := w.2 c49
                refine v_iload dX12_judge_86 rfl ?_
                refine v_goto (tgt := 92) dX12_judge_88 (by decide) ?_
                refine v_pick [1, 2, 4, 0, 5, 6] rfl ?_
                exact w
          )
          obtain ⟨q50, w⟩ := w
          refine v_icmp_neI (tgt := 70) dX12_judge_57 (by decide) q50.1 q50.2 (by decide) (by decide) (fun c51 => ?_) (fun c51 => ?_)
          · replace w := w.1 c51
            refine v_iconstI dX12_judge_70 ?_
            refine v_pick [1, 2, 3, 4, 6, 0] rfl ?_
            exact w
          · replace w := w.2 c51
            refine v_aload_n dX12_judge_60 rfl ?_
            refine v_iload dX12_judge_61 rfl ?_
            refine v_iconstI dX12_judge_63 ?_
            obtain ⟨q52, w⟩ := w
            refine v_callVp dX12_judge_64 ml_X12_501 (sv_X12_ofContract (a := x17) (b := 4) (g77 := X9 77) (g79 := X9 79) hn (hp12 77 (by decide)) (hp12 79 (by decide)) q52 (by decide)) ((hp12 77 (by decide)).trans (ent_77 _)) rfl (s_lt hn rfl) rfl rfl (Nat.le_of_ble_eq_true rfl) (Nat.le_of_ble_eq_true rfl) (Nat.zero_le _) (Nat.zero_le _) ?_
            refine v_goto (tgt := 71) dX12_judge_67 (by decide) ?_
            refine v_pick [1, 2, 3, 4, 6, 0] rfl ?_
            exact w
    exact hL23 _ _ _ _ _ (Nat.lt_succ_self _) wi22
  · replace w := w.2 c7
    refine v_iconstI dX12_judge_15 ?_
    exact v_iret dX12_judge_16 rfl (Nat.zero_le _) (Nat.zero_le _) ⟨rfl, hf5, _, _, rfl, hp4, w⟩
theorem dX12_layWorks_0 : decode cX12_layWorks 0 = .ok (.iconst 0, 1) := by decide +kernel
theorem dX12_layWorks_1 : decode cX12_layWorks 1 = .ok (.istore_n 2, 1) := by decide +kernel
theorem dX12_layWorks_2 : decode cX12_layWorks 2 = .ok (.iload_n 2, 1) := by decide +kernel
theorem dX12_layWorks_3 : decode cX12_layWorks 3 = .ok (.bipush 12, 2) := by decide +kernel
theorem dX12_layWorks_5 : decode cX12_layWorks 5 = .ok (.if_icmp .ge 43, 3) := by decide +kernel
theorem dX12_layWorks_8 : decode cX12_layWorks 8 = .ok (.iconst 0, 1) := by decide +kernel
theorem dX12_layWorks_9 : decode cX12_layWorks 9 = .ok (.istore_n 3, 1) := by decide +kernel
theorem dX12_layWorks_10 : decode cX12_layWorks 10 = .ok (.iload_n 3, 1) := by decide +kernel
theorem dX12_layWorks_11 : decode cX12_layWorks 11 = .ok (.sipush 576, 3) := by decide +kernel
theorem dX12_layWorks_14 : decode cX12_layWorks 14 = .ok (.if_icmp .ge 28, 3) := by decide +kernel
theorem dX12_layWorks_17 : decode cX12_layWorks 17 = .ok (.aload_n 0, 1) := by decide +kernel
theorem dX12_layWorks_18 : decode cX12_layWorks 18 = .ok (.getfield 108, 3) := by decide +kernel
theorem dX12_layWorks_21 : decode cX12_layWorks 21 = .ok (.sipush 576, 3) := by decide +kernel
theorem dX12_layWorks_24 : decode cX12_layWorks 24 = .ok (.iload_n 2, 1) := by decide +kernel
theorem dX12_layWorks_25 : decode cX12_layWorks 25 = .ok (.imul, 1) := by decide +kernel
theorem dX12_layWorks_26 : decode cX12_layWorks 26 = .ok (.iload_n 3, 1) := by decide +kernel
theorem dX12_layWorks_27 : decode cX12_layWorks 27 = .ok (.iadd, 1) := by decide +kernel
theorem dX12_layWorks_28 : decode cX12_layWorks 28 = .ok (.aload_n 0, 1) := by decide +kernel
theorem dX12_layWorks_29 : decode cX12_layWorks 29 = .ok (.iload_n 1, 1) := by decide +kernel
theorem dX12_layWorks_30 : decode cX12_layWorks 30 = .ok (.iload_n 3, 1) := by decide +kernel
theorem dX12_layWorks_31 : decode cX12_layWorks 31 = .ok (.iload_n 2, 1) := by decide +kernel
theorem dX12_layWorks_32 : decode cX12_layWorks 32 = .ok (.invokevirtual 457, 3) := by decide +kernel
theorem dX12_layWorks_35 : decode cX12_layWorks 35 = .ok (.bastore, 1) := by decide +kernel
theorem dX12_layWorks_36 : decode cX12_layWorks 36 = .ok (.iinc 3 1, 3) := by decide +kernel
theorem dX12_layWorks_39 : decode cX12_layWorks 39 = .ok (.goto (-29), 3) := by decide +kernel
theorem dX12_layWorks_42 : decode cX12_layWorks 42 = .ok (.iinc 2 1, 3) := by decide +kernel
theorem dX12_layWorks_45 : decode cX12_layWorks 45 = .ok (.goto (-43), 3) := by decide +kernel
theorem dX12_layWorks_48 : decode cX12_layWorks 48 = .ok (.return_, 1) := by decide +kernel
def w_X12_layWorks (a0 : Int) (X : XT) (Q : XT → Prop) : Prop :=
  ∃ (I3 : Int → XT → Prop) (m4 : Int → XT → Nat), I3 0 X ∧ ∀ (x1 : Int) (X2 : XT), I3 x1 X2 → R32 x1 ∧ (12 ≤ x1 → Q X2) ∧ (¬ 12 ≤ x1 → ∃ (I19 : Int → XT → Prop) (m20 : Int → XT → Nat), I19 0 X2 ∧ ∀ (x17 : Int) (X18 : XT), I19 x17 X18 → R32 x17 ∧ (576 ≤ x17 → I3 (x1 + 1) X18 ∧ m4 (x1 + 1) X18 < m4 x1 X2) ∧ (¬ 576 ≤ x17 → w_X12_helps  a0 x17 x1 X18 (fun (v33 : Int) (X34 : XT) => (v33 = 0 ∨ v33 = 1) ∧ (0 ≤ ((576 * x1) + x17) ∧ ((576 * x1) + x17) < 6912) ∧ I19 (x17 + 1) (x_st X34 96 ((576 * x1) + x17) v33) ∧ m20 (x17 + 1) (x_st X34 96 ((576 * x1) + x17) v33) < m20 x17 X18)))
set_option maxRecDepth 20000 in
theorem so_X12_layWorks {n : Nat} {h : Nat → sE} {X : XT} {a0 : Int} {Q : XT → Prop} (hn : 115 ≤ n) (hp : Pic X h) (w : w_X12_layWorks  a0 X Q) : Sp m_X12_layWorks 8 0 0 [.ref 77, .int (iI a0)] n h (pVw n h Q) := by
  unfold w_X12_layWorks at w
  refine Sp.ofV (by decide +kernel) (Nat.le_of_ble_eq_true rfl) ?_
  have hf : Fr h h := fun _ _ => rfl
  refine v_iconstI dX12_layWorks_0 ?_
  refine v_istore_n dX12_layWorks_1 (Nat.le_of_ble_eq_true rfl) ?_
  refine v_pick [1, 2, 0] rfl ?_
  obtain ⟨I3, m4, wi7, wl6⟩ := w
  have hL8 : ∀ (N11 : Nat) (x1 : Int) (X2 : XT) (h12 : Nat → sE), m4 x1 X2 < N11 → I3 x1 X2 → Pic X2 h12 → Fr h h12 → V (m_X12_layWorks, 8, 0, 0, n, pVw n h Q, s_G0) 0 0 n h12 2 [(0, .ref 77), (1, .int (iI a0)), (2, .int (iI x1))] [] := by
    intro N11
    induction N11 with
    | zero => intro x1 X2 h12 hm9; exact absurd hm9 (Nat.not_lt_zero _)
    | succ N11 ih5 =>
      intro x1 X2 h12 hm9 hI10 hp13 hf14
      have w := wl6 x1 X2 hI10
      refine v_iload_n dX12_layWorks_2 rfl ?_
      refine v_bipushI dX12_layWorks_3 rfl ?_
      obtain ⟨q15, w⟩ := w
      refine v_icmp_geI (tgt := 48) dX12_layWorks_5 (by decide) q15.1 q15.2 (by decide) (by decide) (fun c16 => ?_) (fun c16 => ?_)
      · replace w := w.1 c16
        exact v_vret dX12_layWorks_48 rfl (Nat.zero_le _) (Nat.zero_le _) ⟨rfl, hf14, _, rfl, hp13, w⟩
      · replace w := w.2 c16
        refine v_iconstI dX12_layWorks_8 ?_
        refine v_istore_n dX12_layWorks_9 (Nat.le_of_ble_eq_true rfl) ?_
        refine v_pick [1, 2, 3, 0] rfl ?_
        obtain ⟨I19, m20, wi23, wl22⟩ := w
        have hL24 : ∀ (N27 : Nat) (x17 : Int) (X18 : XT) (h28 : Nat → sE), m20 x17 X18 < N27 → I19 x17 X18 → Pic X18 h28 → Fr h h28 → V (m_X12_layWorks, 8, 0, 0, n, pVw n h Q, s_G0) 0 0 n h28 10 [(0, .ref 77), (1, .int (iI a0)), (2, .int (iI x1)), (3, .int (iI x17))] [] := by
          intro N27
          induction N27 with
          | zero => intro x17 X18 h28 hm25; exact absurd hm25 (Nat.not_lt_zero _)
          | succ N27 ih21 =>
            intro x17 X18 h28 hm25 hI26 hp29 hf30
            have w := wl22 x17 X18 hI26
            refine v_iload_n dX12_layWorks_10 rfl ?_
            refine v_sipushI dX12_layWorks_11 rfl ?_
            obtain ⟨q31, w⟩ := w
            refine v_icmp_geI (tgt := 42) dX12_layWorks_14 (by decide) q31.1 q31.2 (by decide) (by decide) (fun c32 => ?_) (fun c32 => ?_)
            · replace w := w.1 c32
              refine v_iincI dX12_layWorks_42 rfl (Nat.le_of_ble_eq_true rfl) ?_
              refine v_goto (tgt := 2) dX12_layWorks_45 (by decide) ?_
              refine v_pick [1, 2, 0] rfl ?_
              exact ih5 _ _ _ (Nat.lt_of_lt_of_le w.2 (Nat.le_of_lt_succ hm9)) w.1 hp29 hf30
            · replace w := w.2 c32
              refine v_aload_n dX12_layWorks_17 rfl ?_
              refine v_get dX12_layWorks_18 fl_X12_108 ((hp29 77 (by decide)).trans (ent_77 _)) rfl (s_lt hn rfl) ?_
              refine v_sipushI dX12_layWorks_21 rfl ?_
              refine v_iload_n dX12_layWorks_24 rfl ?_
              refine v_imulI dX12_layWorks_25 ?_
              refine v_iload_n dX12_layWorks_26 rfl ?_
              refine v_iaddI dX12_layWorks_27 ?_
              refine v_aload_n dX12_layWorks_28 rfl ?_
              refine v_iload_n dX12_layWorks_29 rfl ?_
              refine v_iload_n dX12_layWorks_30 rfl ?_
              refine v_iload_n dX12_layWorks_31 rfl ?_
              refine v_callVIw dX12_layWorks_32 ml_X12_457 (so_X12_helps hn hp29  w) ((hp29 77 (by decide)).trans (ent_77 _)) rfl (s_lt hn rfl) rfl rfl (Nat.le_of_ble_eq_true rfl) (Nat.le_of_ble_eq_true rfl) (Nat.zero_le _) (Nat.zero_le _) (fun v33 X34 h35 hp37 hf36 w => ?_)
              have hf38 := Fr.trans hf30 hf36
              obtain ⟨q39, w⟩ := w
              obtain ⟨q40, w⟩ := w
              refine v_zastI dX12_layWorks_35 ((hp37 96 (by decide)).trans (ent_96 _)) (s_lt hn rfl) q40.1 q40.2 (ix_le q40.2 (by decide)) q39 (fun h41 E42 F43 => ?_)
              have hp44 := pic_st hp37 (show h41 96 = ent 96 (uI _ ((576 * x1) + x17) v33) from E42) F43
              have hf45 := Fr.up (c := 96) hf38 F43 rfl
              refine v_iincI dX12_layWorks_36 rfl (Nat.le_of_ble_eq_true rfl) ?_
              refine v_goto (tgt := 10) dX12_layWorks_39 (by decide) ?_
              refine v_pick [1, 2, 3, 0] rfl ?_
              exact ih21 _ _ _ (Nat.lt_of_lt_of_le w.2 (Nat.le_of_lt_succ hm25)) w.1 hp44 hf45
        exact hL24 _ _ _ _ (Nat.lt_succ_self _) wi23 hp13 hf14
  exact hL8 _ _ _ _ (Nat.lt_succ_self _) wi7 hp hf
theorem dX12_nextOf_0 : decode cX12_nextOf 0 = .ok (.aload_n 0, 1) := by decide +kernel
theorem dX12_nextOf_1 : decode cX12_nextOf 1 = .ok (.aload_n 0, 1) := by decide +kernel
theorem dX12_nextOf_2 : decode cX12_nextOf 2 = .ok (.iload_n 1, 1) := by decide +kernel
theorem dX12_nextOf_3 : decode cX12_nextOf 3 = .ok (.iconst 2, 1) := by decide +kernel
theorem dX12_nextOf_4 : decode cX12_nextOf 4 = .ok (.invokevirtual 224, 3) := by decide +kernel
theorem dX12_nextOf_7 : decode cX12_nextOf 7 = .ok (.iload_n 3, 1) := by decide +kernel
theorem dX12_nextOf_8 : decode cX12_nextOf 8 = .ok (.iload 4, 2) := by decide +kernel
theorem dX12_nextOf_10 : decode cX12_nextOf 10 = .ok (.aload_n 0, 1) := by decide +kernel
theorem dX12_nextOf_11 : decode cX12_nextOf 11 = .ok (.getfield 108, 3) := by decide +kernel
theorem dX12_nextOf_14 : decode cX12_nextOf 14 = .ok (.sipush 576, 3) := by decide +kernel
theorem dX12_nextOf_17 : decode cX12_nextOf 17 = .ok (.iload_n 2, 1) := by decide +kernel
theorem dX12_nextOf_18 : decode cX12_nextOf 18 = .ok (.imul, 1) := by decide +kernel
theorem dX12_nextOf_19 : decode cX12_nextOf 19 = .ok (.iload_n 3, 1) := by decide +kernel
theorem dX12_nextOf_20 : decode cX12_nextOf 20 = .ok (.iadd, 1) := by decide +kernel
theorem dX12_nextOf_21 : decode cX12_nextOf 21 = .ok (.baload, 1) := by decide +kernel
theorem dX12_nextOf_22 : decode cX12_nextOf 22 = .ok (.ifCond .eq 8, 3) := by decide +kernel
theorem dX12_nextOf_25 : decode cX12_nextOf 25 = .ok (.iload 5, 2) := by decide +kernel
theorem dX12_nextOf_27 : decode cX12_nextOf 27 = .ok (.goto 4, 3) := by decide +kernel
theorem dX12_nextOf_30 : decode cX12_nextOf 30 = .ok (.iconst 4, 1) := by decide +kernel
theorem dX12_nextOf_31 : decode cX12_nextOf 31 = .ok (.iconst 4, 1) := by decide +kernel
theorem dX12_nextOf_32 : decode cX12_nextOf 32 = .ok (.invokevirtual 460, 3) := by decide +kernel
theorem dX12_nextOf_35 : decode cX12_nextOf 35 = .ok (.ireturn, 1) := by decide +kernel
def w_X12_nextOf (a0 a1 a2 a3 a4 : Int) (X : XT) (Q : Int → Prop) : Prop :=
  (0 ≤ a0 ∧ a0 ≤ 4) ∧ (0 ≤ ((576 * a1) + a2) ∧ ((576 * a1) + a2) < 6912) ∧ R32 (X 96 ((576 * a1) + a2)) ∧ ((X 96 ((576 * a1) + a2)) = 0 → w_X12_goes  (X 79 (15 + 5 * a0 + 2)) a2 a3 4 4 X (fun (v5 : Int) => Q v5)) ∧ (¬ (X 96 ((576 * a1) + a2)) = 0 → w_X12_goes  (X 79 (15 + 5 * a0 + 2)) a2 a3 a4 4 X (fun (v11 : Int) => Q v11))
set_option maxRecDepth 20000 in
theorem so_X12_nextOf {n : Nat} {h : Nat → sE} {X : XT} {a0 a1 a2 a3 a4 : Int} {Q : Int → Prop} (hn : 115 ≤ n) (hp : Pic X h) (w : w_X12_nextOf  a0 a1 a2 a3 a4 X Q) : Sp m_X12_nextOf 4 0 0 [.ref 77, .int (iI a0), .int (iI a1), .int (iI a2), .int (iI a3), .int (iI a4)] n h (pIr n h Q) := by
  unfold w_X12_nextOf at w
  refine Sp.ofV (by decide +kernel) (Nat.le_of_ble_eq_true rfl) ?_
  have hf : Fr h h := fun _ _ => rfl
  refine v_aload_n dX12_nextOf_0 rfl ?_
  refine v_aload_n dX12_nextOf_1 rfl ?_
  refine v_iload_n dX12_nextOf_2 rfl ?_
  refine v_iconstI dX12_nextOf_3 ?_
  obtain ⟨q1, w⟩ := w
  refine v_callVp dX12_nextOf_4 ml_X12_224 (sv_X12_ofCloud (a := a0) (b := 2) (g77 := X 77) (g79 := X 79) hn (hp 77 (by decide)) (hp 79 (by decide)) q1 (by decide)) ((hp 77 (by decide)).trans (ent_77 _)) rfl (s_lt hn rfl) rfl rfl (Nat.le_of_ble_eq_true rfl) (Nat.le_of_ble_eq_true rfl) (Nat.zero_le _) (Nat.zero_le _) ?_
  refine v_iload_n dX12_nextOf_7 rfl ?_
  refine v_iload dX12_nextOf_8 rfl ?_
  refine v_aload_n dX12_nextOf_10 rfl ?_
  refine v_get dX12_nextOf_11 fl_X12_108 ((hp 77 (by decide)).trans (ent_77 _)) rfl (s_lt hn rfl) ?_
  refine v_sipushI dX12_nextOf_14 rfl ?_
  refine v_iload_n dX12_nextOf_17 rfl ?_
  refine v_imulI dX12_nextOf_18 ?_
  refine v_iload_n dX12_nextOf_19 rfl ?_
  refine v_iaddI dX12_nextOf_20 ?_
  obtain ⟨q2, w⟩ := w
  refine v_zaldI dX12_nextOf_21 ((hp 96 (by decide)).trans (ent_96 _)) (s_lt hn rfl) q2.1 q2.2 (ix_le q2.2 (by decide)) ?_
  obtain ⟨q3, w⟩ := w
  refine v_if_eqI (tgt := 30) dX12_nextOf_22 (by decide) q3.1 q3.2 (fun c4 => ?_) (fun c4 => ?_)
  · replace w := w.1 c4
    refine v_iconstI dX12_nextOf_30 ?_
    refine v_iconstI dX12_nextOf_31 ?_
    refine v_callVIr dX12_nextOf_32 ml_X12_460 (so_X12_goes hn hp  w) ((hp 77 (by decide)).trans (ent_77 _)) rfl (s_lt hn rfl) rfl rfl (Nat.le_of_ble_eq_true rfl) (Nat.le_of_ble_eq_true rfl) (Nat.zero_le _) (Nat.zero_le _) (fun v5 w => ?_)
    exact v_iret dX12_nextOf_35 rfl (Nat.zero_le _) (Nat.zero_le _) ⟨rfl, rfl, _, rfl, w⟩
  · replace w := w.2 c4
    refine v_iload dX12_nextOf_25 rfl ?_
    refine v_goto (tgt := 31) dX12_nextOf_27 (by decide) ?_
    refine v_iconstI dX12_nextOf_31 ?_
    refine v_callVIr dX12_nextOf_32 ml_X12_460 (so_X12_goes hn hp  w) ((hp 77 (by decide)).trans (ent_77 _)) rfl (s_lt hn rfl) rfl rfl (Nat.le_of_ble_eq_true rfl) (Nat.le_of_ble_eq_true rfl) (Nat.zero_le _) (Nat.zero_le _) (fun v11 w => ?_)
    exact v_iret dX12_nextOf_35 rfl (Nat.zero_le _) (Nat.zero_le _) ⟨rfl, rfl, _, rfl, w⟩
theorem dX12_fewestBy_0 : decode cX12_fewestBy 0 = .ok (.aload_n 0, 1) := by decide +kernel
theorem dX12_fewestBy_1 : decode cX12_fewestBy 1 = .ok (.iload_n 1, 1) := by decide +kernel
theorem dX12_fewestBy_2 : decode cX12_fewestBy 2 = .ok (.iload_n 2, 1) := by decide +kernel
theorem dX12_fewestBy_3 : decode cX12_fewestBy 3 = .ok (.iload_n 3, 1) := by decide +kernel
theorem dX12_fewestBy_4 : decode cX12_fewestBy 4 = .ok (.iconst 0, 1) := by decide +kernel
theorem dX12_fewestBy_5 : decode cX12_fewestBy 5 = .ok (.iload 4, 2) := by decide +kernel
theorem dX12_fewestBy_7 : decode cX12_fewestBy 7 = .ok (.invokevirtual 508, 3) := by decide +kernel
theorem dX12_fewestBy_10 : decode cX12_fewestBy 10 = .ok (.istore 5, 2) := by decide +kernel
theorem dX12_fewestBy_12 : decode cX12_fewestBy 12 = .ok (.iload 5, 2) := by decide +kernel
theorem dX12_fewestBy_14 : decode cX12_fewestBy 14 = .ok (.iconst (-1), 1) := by decide +kernel
theorem dX12_fewestBy_15 : decode cX12_fewestBy 15 = .ok (.if_icmp .ne 9, 3) := by decide +kernel
theorem dX12_fewestBy_18 : decode cX12_fewestBy 18 = .ok (.ldc_w 507, 3) := by decide +kernel
theorem dX12_fewestBy_21 : decode cX12_fewestBy 21 = .ok (.goto 18, 3) := by decide +kernel
theorem dX12_fewestBy_24 : decode cX12_fewestBy 24 = .ok (.aload_n 0, 1) := by decide +kernel
theorem dX12_fewestBy_25 : decode cX12_fewestBy 25 = .ok (.getfield 111, 3) := by decide +kernel
theorem dX12_fewestBy_28 : decode cX12_fewestBy 28 = .ok (.sipush 576, 3) := by decide +kernel
theorem dX12_fewestBy_31 : decode cX12_fewestBy 31 = .ok (.iload_n 2, 1) := by decide +kernel
theorem dX12_fewestBy_32 : decode cX12_fewestBy 32 = .ok (.iconst 1, 1) := by decide +kernel
theorem dX12_fewestBy_33 : decode cX12_fewestBy 33 = .ok (.iadd, 1) := by decide +kernel
theorem dX12_fewestBy_34 : decode cX12_fewestBy 34 = .ok (.imul, 1) := by decide +kernel
theorem dX12_fewestBy_35 : decode cX12_fewestBy 35 = .ok (.iload 5, 2) := by decide +kernel
theorem dX12_fewestBy_37 : decode cX12_fewestBy 37 = .ok (.iadd, 1) := by decide +kernel
theorem dX12_fewestBy_38 : decode cX12_fewestBy 38 = .ok (.iaload, 1) := by decide +kernel
theorem dX12_fewestBy_39 : decode cX12_fewestBy 39 = .ok (.istore 6, 2) := by decide +kernel
theorem dX12_fewestBy_41 : decode cX12_fewestBy 41 = .ok (.iload 6, 2) := by decide +kernel
theorem dX12_fewestBy_43 : decode cX12_fewestBy 43 = .ok (.ldc_w 507, 3) := by decide +kernel
theorem dX12_fewestBy_46 : decode cX12_fewestBy 46 = .ok (.if_icmp .lt 9, 3) := by decide +kernel
theorem dX12_fewestBy_49 : decode cX12_fewestBy 49 = .ok (.ldc_w 507, 3) := by decide +kernel
theorem dX12_fewestBy_52 : decode cX12_fewestBy 52 = .ok (.goto 17, 3) := by decide +kernel
theorem dX12_fewestBy_55 : decode cX12_fewestBy 55 = .ok (.iload 6, 2) := by decide +kernel
theorem dX12_fewestBy_57 : decode cX12_fewestBy 57 = .ok (.iload 4, 2) := by decide +kernel
theorem dX12_fewestBy_59 : decode cX12_fewestBy 59 = .ok (.iconst 4, 1) := by decide +kernel
theorem dX12_fewestBy_60 : decode cX12_fewestBy 60 = .ok (.if_icmp .ge 7, 3) := by decide +kernel
theorem dX12_fewestBy_63 : decode cX12_fewestBy 63 = .ok (.iconst 1, 1) := by decide +kernel
theorem dX12_fewestBy_64 : decode cX12_fewestBy 64 = .ok (.goto 4, 3) := by decide +kernel
theorem dX12_fewestBy_67 : decode cX12_fewestBy 67 = .ok (.iconst 0, 1) := by decide +kernel
theorem dX12_fewestBy_68 : decode cX12_fewestBy 68 = .ok (.iadd, 1) := by decide +kernel
theorem dX12_fewestBy_69 : decode cX12_fewestBy 69 = .ok (.ireturn, 1) := by decide +kernel
def w_X12_fewestBy (a0 a1 a2 a3 : Int) (X : XT) (Q : Int → Prop) : Prop :=
  w_X12_nextOf  a0 a1 a2 0 a3 X (fun (v1 : Int) => ∀ J8 : Int → Prop, (∀ (v7 : Int), (R32 v7 ∧ (v7 < 100000000 → R32 a3 ∧ (4 ≤ a3 → Q (v7 + 0)) ∧ (¬ 4 ≤ a3 → Q (v7 + 1))) ∧ (¬ v7 < 100000000 → Q 100000000)) → J8 v7) → R32 v1 ∧ (¬ v1 = (-1) → (0 ≤ ((576 * (a1 + 1)) + v1) ∧ ((576 * (a1 + 1)) + v1) < 6912) ∧ J8 (X 97 ((576 * (a1 + 1)) + v1))) ∧ (v1 = (-1) → J8 100000000))
set_option maxRecDepth 20000 in
theorem so_X12_fewestBy {n : Nat} {h : Nat → sE} {X : XT} {a0 a1 a2 a3 : Int} {Q : Int → Prop} (hn : 115 ≤ n) (hp : Pic X h) (w : w_X12_fewestBy  a0 a1 a2 a3 X Q) : Sp m_X12_fewestBy 5 0 0 [.ref 77, .int (iI a0), .int (iI a1), .int (iI a2), .int (iI a3)] n h (pIr n h Q) := by
  unfold w_X12_fewestBy at w
  refine Sp.ofV (by decide +kernel) (Nat.le_of_ble_eq_true rfl) ?_
  have hf : Fr h h := fun _ _ => rfl
  refine v_aload_n dX12_fewestBy_0 rfl ?_
  refine v_iload_n dX12_fewestBy_1 rfl ?_
  refine v_iload_n dX12_fewestBy_2 rfl ?_
  refine v_iload_n dX12_fewestBy_3 rfl ?_
  refine v_iconstI dX12_fewestBy_4 ?_
  refine v_iload dX12_fewestBy_5 rfl ?_
  refine v_callVIr dX12_fewestBy_7 ml_X12_508 (so_X12_nextOf hn hp  w) ((hp 77 (by decide)).trans (ent_77 _)) rfl (s_lt hn rfl) rfl rfl (Nat.le_of_ble_eq_true rfl) (Nat.le_of_ble_eq_true rfl) (Nat.zero_le _) (Nat.zero_le _) (fun v1 w => ?_)
  refine v_istore dX12_fewestBy_10 (Nat.le_of_ble_eq_true rfl) ?_
  refine v_iload dX12_fewestBy_12 rfl ?_
  refine v_iconstI dX12_fewestBy_14 ?_
  replace w := w (fun (v7 : Int) => V (m_X12_fewestBy, 5, 0, 0, n, pIr n h Q, s_G0) 0 0 n h 39 [(4, .int (iI a3))] [.int (iI v7)]) (by
    intro v7 w
    refine v_istore dX12_fewestBy_39 (Nat.le_of_ble_eq_true rfl) ?_
    refine v_iload dX12_fewestBy_41 rfl ?_
    refine v_ldcwI 100000000 dX12_fewestBy_43 k_X12_507 rfl ?_
    obtain ⟨q9, w⟩ := w
    refine v_icmp_ltI (tgt := 55) dX12_fewestBy_46 (by decide) q9.1 q9.2 (by decide) (by decide) (fun c10 => ?_) (fun c10 => ?_)
    · replace w := w.1 c10
      refine v_iload dX12_fewestBy_55 rfl ?_
      refine v_iload dX12_fewestBy_57 rfl ?_
      refine v_iconstI dX12_fewestBy_59 ?_
      obtain ⟨q11, w⟩ := w
      refine v_icmp_geI (tgt := 67) dX12_fewestBy_60 (by decide) q11.1 q11.2 (by decide) (by decide) (fun c12 => ?_) (fun c12 => ?_)
      · replace w := w.1 c12
        refine v_iconstI dX12_fewestBy_67 ?_
        refine v_iaddI dX12_fewestBy_68 ?_
        exact v_iret dX12_fewestBy_69 rfl (Nat.zero_le _) (Nat.zero_le _) ⟨rfl, rfl, _, rfl, w⟩
      · replace w := w.2 c12
        refine v_iconstI dX12_fewestBy_63 ?_
        refine v_goto (tgt := 68) dX12_fewestBy_64 (by decide) ?_
        refine v_iaddI dX12_fewestBy_68 ?_
        exact v_iret dX12_fewestBy_69 rfl (Nat.zero_le _) (Nat.zero_le _) ⟨rfl, rfl, _, rfl, w⟩
    · replace w := w.2 c10
      refine v_ldcwI 100000000 dX12_fewestBy_49 k_X12_507 rfl ?_
      refine v_goto (tgt := 69) dX12_fewestBy_52 (by decide) ?_
      exact v_iret dX12_fewestBy_69 rfl (Nat.zero_le _) (Nat.zero_le _) ⟨rfl, rfl, _, rfl, w⟩
  )
  obtain ⟨q13, w⟩ := w
  refine v_icmp_neI (tgt := 24) dX12_fewestBy_15 (by decide) q13.1 q13.2 (by decide) (by decide) (fun c14 => ?_) (fun c14 => ?_)
  · replace w := w.1 c14
    refine v_aload_n dX12_fewestBy_24 rfl ?_
    refine v_get dX12_fewestBy_25 fl_X12_111 ((hp 77 (by decide)).trans (ent_77 _)) rfl (s_lt hn rfl) ?_
    refine v_sipushI dX12_fewestBy_28 rfl ?_
    refine v_iload_n dX12_fewestBy_31 rfl ?_
    refine v_iconstI dX12_fewestBy_32 ?_
    refine v_iaddI dX12_fewestBy_33 ?_
    refine v_imulI dX12_fewestBy_34 ?_
    refine v_iload dX12_fewestBy_35 rfl ?_
    refine v_iaddI dX12_fewestBy_37 ?_
    obtain ⟨q15, w⟩ := w
    refine v_ialdI dX12_fewestBy_38 ((hp 97 (by decide)).trans (ent_97 _)) (s_lt hn rfl) q15.1 q15.2 (ix_le q15.2 (by decide)) ?_
    refine v_pick [5] rfl ?_
    exact w
  · replace w := w.2 c14
    refine v_ldcwI 100000000 dX12_fewestBy_18 k_X12_507 rfl ?_
    refine v_goto (tgt := 39) dX12_fewestBy_21 (by decide) ?_
    refine v_pick [5] rfl ?_
    exact w
theorem dX12_findDrive_0 : decode cX12_findDrive 0 = .ok (.iload 4, 2) := by decide +kernel
theorem dX12_findDrive_2 : decode cX12_findDrive 2 = .ok (.istore 5, 2) := by decide +kernel
theorem dX12_findDrive_4 : decode cX12_findDrive 4 = .ok (.iload 5, 2) := by decide +kernel
theorem dX12_findDrive_6 : decode cX12_findDrive 6 = .ok (.ifCond .lt 132, 3) := by decide +kernel
theorem dX12_findDrive_9 : decode cX12_findDrive 9 = .ok (.iconst 0, 1) := by decide +kernel
theorem dX12_findDrive_10 : decode cX12_findDrive 10 = .ok (.istore 6, 2) := by decide +kernel
theorem dX12_findDrive_12 : decode cX12_findDrive 12 = .ok (.iload 6, 2) := by decide +kernel
theorem dX12_findDrive_14 : decode cX12_findDrive 14 = .ok (.sipush 576, 3) := by decide +kernel
theorem dX12_findDrive_17 : decode cX12_findDrive 17 = .ok (.if_icmp .ge 115, 3) := by decide +kernel
theorem dX12_findDrive_20 : decode cX12_findDrive 20 = .ok (.iload 5, 2) := by decide +kernel
theorem dX12_findDrive_22 : decode cX12_findDrive 22 = .ok (.iload 4, 2) := by decide +kernel
theorem dX12_findDrive_24 : decode cX12_findDrive 24 = .ok (.if_icmp .ne 7, 3) := by decide +kernel
theorem dX12_findDrive_27 : decode cX12_findDrive 27 = .ok (.iconst 0, 1) := by decide +kernel
theorem dX12_findDrive_28 : decode cX12_findDrive 28 = .ok (.goto 6, 3) := by decide +kernel
theorem dX12_findDrive_31 : decode cX12_findDrive 31 = .ok (.ldc_w 507, 3) := by decide +kernel
theorem dX12_findDrive_34 : decode cX12_findDrive 34 = .ok (.istore 7, 2) := by decide +kernel
theorem dX12_findDrive_36 : decode cX12_findDrive 36 = .ok (.iconst 0, 1) := by decide +kernel
theorem dX12_findDrive_37 : decode cX12_findDrive 37 = .ok (.istore 8, 2) := by decide +kernel
theorem dX12_findDrive_39 : decode cX12_findDrive 39 = .ok (.iload 8, 2) := by decide +kernel
theorem dX12_findDrive_41 : decode cX12_findDrive 41 = .ok (.iconst 5, 1) := by decide +kernel
theorem dX12_findDrive_42 : decode cX12_findDrive 42 = .ok (.if_icmp .ge 45, 3) := by decide +kernel
theorem dX12_findDrive_45 : decode cX12_findDrive 45 = .ok (.iload 5, 2) := by decide +kernel
theorem dX12_findDrive_47 : decode cX12_findDrive 47 = .ok (.iload 4, 2) := by decide +kernel
theorem dX12_findDrive_49 : decode cX12_findDrive 49 = .ok (.if_icmp .ge 38, 3) := by decide +kernel
theorem dX12_findDrive_52 : decode cX12_findDrive 52 = .ok (.aload_n 0, 1) := by decide +kernel
theorem dX12_findDrive_53 : decode cX12_findDrive 53 = .ok (.iload_n 1, 1) := by decide +kernel
theorem dX12_findDrive_54 : decode cX12_findDrive 54 = .ok (.iload 5, 2) := by decide +kernel
theorem dX12_findDrive_56 : decode cX12_findDrive 56 = .ok (.iload 6, 2) := by decide +kernel
theorem dX12_findDrive_58 : decode cX12_findDrive 58 = .ok (.iload 8, 2) := by decide +kernel
theorem dX12_findDrive_60 : decode cX12_findDrive 60 = .ok (.invokevirtual 511, 3) := by decide +kernel
theorem dX12_findDrive_63 : decode cX12_findDrive 63 = .ok (.istore 9, 2) := by decide +kernel
theorem dX12_findDrive_65 : decode cX12_findDrive 65 = .ok (.iload 9, 2) := by decide +kernel
theorem dX12_findDrive_67 : decode cX12_findDrive 67 = .ok (.iload 7, 2) := by decide +kernel
theorem dX12_findDrive_69 : decode cX12_findDrive 69 = .ok (.if_icmp .ge 8, 3) := by decide +kernel
theorem dX12_findDrive_72 : decode cX12_findDrive 72 = .ok (.iload 9, 2) := by decide +kernel
theorem dX12_findDrive_74 : decode cX12_findDrive 74 = .ok (.goto 5, 3) := by decide +kernel
theorem dX12_findDrive_77 : decode cX12_findDrive 77 = .ok (.iload 7, 2) := by decide +kernel
theorem dX12_findDrive_79 : decode cX12_findDrive 79 = .ok (.istore 7, 2) := by decide +kernel
theorem dX12_findDrive_81 : decode cX12_findDrive 81 = .ok (.iinc 8 1, 3) := by decide +kernel
theorem dX12_findDrive_84 : decode cX12_findDrive 84 = .ok (.goto (-45), 3) := by decide +kernel
theorem dX12_findDrive_87 : decode cX12_findDrive 87 = .ok (.aload_n 0, 1) := by decide +kernel
theorem dX12_findDrive_88 : decode cX12_findDrive 88 = .ok (.getfield 111, 3) := by decide +kernel
theorem dX12_findDrive_91 : decode cX12_findDrive 91 = .ok (.sipush 576, 3) := by decide +kernel
theorem dX12_findDrive_94 : decode cX12_findDrive 94 = .ok (.iload 5, 2) := by decide +kernel
theorem dX12_findDrive_96 : decode cX12_findDrive 96 = .ok (.imul, 1) := by decide +kernel
theorem dX12_findDrive_97 : decode cX12_findDrive 97 = .ok (.iload 6, 2) := by decide +kernel
theorem dX12_findDrive_99 : decode cX12_findDrive 99 = .ok (.iadd, 1) := by decide +kernel
theorem dX12_findDrive_100 : decode cX12_findDrive 100 = .ok (.iload 5, 2) := by decide +kernel
theorem dX12_findDrive_102 : decode cX12_findDrive 102 = .ok (.iload_n 3, 1) := by decide +kernel
theorem dX12_findDrive_103 : decode cX12_findDrive 103 = .ok (.if_icmp .lt 20, 3) := by decide +kernel
theorem dX12_findDrive_106 : decode cX12_findDrive 106 = .ok (.aload_n 0, 1) := by decide +kernel
theorem dX12_findDrive_107 : decode cX12_findDrive 107 = .ok (.iload_n 1, 1) := by decide +kernel
theorem dX12_findDrive_108 : decode cX12_findDrive 108 = .ok (.iload 6, 2) := by decide +kernel
theorem dX12_findDrive_110 : decode cX12_findDrive 110 = .ok (.iload_n 2, 1) := by decide +kernel
theorem dX12_findDrive_111 : decode cX12_findDrive 111 = .ok (.invokevirtual 475, 3) := by decide +kernel
theorem dX12_findDrive_114 : decode cX12_findDrive 114 = .ok (.ifCond .ne 9, 3) := by decide +kernel
theorem dX12_findDrive_117 : decode cX12_findDrive 117 = .ok (.ldc_w 507, 3) := by decide +kernel
theorem dX12_findDrive_120 : decode cX12_findDrive 120 = .ok (.goto 5, 3) := by decide +kernel
theorem dX12_findDrive_123 : decode cX12_findDrive 123 = .ok (.iload 7, 2) := by decide +kernel
theorem dX12_findDrive_125 : decode cX12_findDrive 125 = .ok (.iastore, 1) := by decide +kernel
theorem dX12_findDrive_126 : decode cX12_findDrive 126 = .ok (.iinc 6 1, 3) := by decide +kernel
theorem dX12_findDrive_129 : decode cX12_findDrive 129 = .ok (.goto (-117), 3) := by decide +kernel
theorem dX12_findDrive_132 : decode cX12_findDrive 132 = .ok (.iinc 5 (-1), 3) := by decide +kernel
theorem dX12_findDrive_135 : decode cX12_findDrive 135 = .ok (.goto (-131), 3) := by decide +kernel
theorem dX12_findDrive_138 : decode cX12_findDrive 138 = .ok (.return_, 1) := by decide +kernel
def w_X12_findDrive (a0 a1 a2 a3 : Int) (X : XT) (Q : XT → Prop) : Prop :=
  ∃ (I3 : Int → XT → Prop) (m4 : Int → XT → Nat), I3 a3 X ∧ ∀ (x1 : Int) (X2 : XT), I3 x1 X2 → R32 x1 ∧ (x1 < 0 → Q X2) ∧ (¬ x1 < 0 → ∃ (I19 : Int → XT → Prop) (m20 : Int → XT → Nat), I19 0 X2 ∧ ∀ (x17 : Int) (X18 : XT), I19 x17 X18 → R32 x17 ∧ (576 ≤ x17 → I3 (x1 + (-1)) X18 ∧ m4 (x1 + (-1)) X18 < m4 x1 X2) ∧ (¬ 576 ≤ x17 → ∀ J34 : Int → Prop, (∀ (v33 : Int), (∃ (I37 : Int → Int → Prop) (m38 : Int → Int → Nat), I37 v33 0 ∧ ∀ (x35 : Int) (x36 : Int), I37 x35 x36 → ∀ J46 : Prop, ((∀ J47 : Prop, (((0 ≤ ((576 * x1) + x17) ∧ ((576 * x1) + x17) < 6912) ∧ I19 (x17 + 1) (x_st X18 97 ((576 * x1) + x17) x35) ∧ m20 (x17 + 1) (x_st X18 97 ((576 * x1) + x17) x35) < m20 x17 X18) → J47) → R32 a2 ∧ (x1 < a2 → J47 ) ∧ (¬ x1 < a2 → w_X12_shades  a0 x17 a1 X18 (fun (v56 : Int) => R32 v56 ∧ (¬ v56 = 0 → J47 ) ∧ (v56 = 0 → (0 ≤ ((576 * x1) + x17) ∧ ((576 * x1) + x17) < 6912) ∧ I19 (x17 + 1) (x_st X18 97 ((576 * x1) + x17) 100000000) ∧ m20 (x17 + 1) (x_st X18 97 ((576 * x1) + x17) 100000000) < m20 x17 X18)))) → J46) → R32 x36 ∧ (5 ≤ x36 → J46 ) ∧ (¬ 5 ≤ x36 → R32 a3 ∧ (a3 ≤ x1 → J46 ) ∧ (¬ a3 ≤ x1 → w_X12_fewestBy  a0 x1 x17 x36 X18 (fun (v74 : Int) => R32 v74 ∧ R32 x35 ∧ (x35 ≤ v74 → I37 x35 (x36 + 1) ∧ m38 x35 (x36 + 1) < m38 x35 x36) ∧ (¬ x35 ≤ v74 → I37 v74 (x36 + 1) ∧ m38 v74 (x36 + 1) < m38 x35 x36))))) → J34 v33) → R32 a3 ∧ (¬ x1 = a3 → J34 100000000) ∧ (x1 = a3 → J34 0)))
set_option maxRecDepth 20000 in
theorem so_X12_findDrive {n : Nat} {h : Nat → sE} {X : XT} {a0 a1 a2 a3 : Int} {Q : XT → Prop} (hn : 115 ≤ n) (hp : Pic X h) (w : w_X12_findDrive  a0 a1 a2 a3 X Q) : Sp m_X12_findDrive 6 0 0 [.ref 77, .int (iI a0), .int (iI a1), .int (iI a2), .int (iI a3)] n h (pVw n h Q) := by
  unfold w_X12_findDrive at w
  refine Sp.ofV (by decide +kernel) (Nat.le_of_ble_eq_true rfl) ?_
  have hf : Fr h h := fun _ _ => rfl
  refine v_iload dX12_findDrive_0 rfl ?_
  refine v_istore dX12_findDrive_2 (Nat.le_of_ble_eq_true rfl) ?_
  refine v_pick [1, 2, 3, 4, 5, 0] rfl ?_
  obtain ⟨I3, m4, wi7, wl6⟩ := w
  have hL8 : ∀ (N11 : Nat) (x1 : Int) (X2 : XT) (h12 : Nat → sE), m4 x1 X2 < N11 → I3 x1 X2 → Pic X2 h12 → Fr h h12 → V (m_X12_findDrive, 6, 0, 0, n, pVw n h Q, s_G0) 0 0 n h12 4 [(0, .ref 77), (1, .int (iI a0)), (2, .int (iI a1)), (3, .int (iI a2)), (4, .int (iI a3)), (5, .int (iI x1))] [] := by
    intro N11
    induction N11 with
    | zero => intro x1 X2 h12 hm9; exact absurd hm9 (Nat.not_lt_zero _)
    | succ N11 ih5 =>
      intro x1 X2 h12 hm9 hI10 hp13 hf14
      have w := wl6 x1 X2 hI10
      refine v_iload dX12_findDrive_4 rfl ?_
      obtain ⟨q15, w⟩ := w
      refine v_if_ltI (tgt := 138) dX12_findDrive_6 (by decide) q15.1 q15.2 (fun c16 => ?_) (fun c16 => ?_)
      · replace w := w.1 c16
        exact v_vret dX12_findDrive_138 rfl (Nat.zero_le _) (Nat.zero_le _) ⟨rfl, hf14, _, rfl, hp13, w⟩
      · replace w := w.2 c16
        refine v_iconstI dX12_findDrive_9 ?_
        refine v_istore dX12_findDrive_10 (Nat.le_of_ble_eq_true rfl) ?_
        refine v_pick [1, 2, 3, 4, 5, 6, 0] rfl ?_
        obtain ⟨I19, m20, wi23, wl22⟩ := w
        have hL24 : ∀ (N27 : Nat) (x17 : Int) (X18 : XT) (h28 : Nat → sE), m20 x17 X18 < N27 → I19 x17 X18 → Pic X18 h28 → Fr h h28 → V (m_X12_findDrive, 6, 0, 0, n, pVw n h Q, s_G0) 0 0 n h28 12 [(0, .ref 77), (1, .int (iI a0)), (2, .int (iI a1)), (3, .int (iI a2)), (4, .int (iI a3)), (5, .int (iI x1)), (6, .int (iI x17))] [] := by
          intro N27
          induction N27 with
          | zero => intro x17 X18 h28 hm25; exact absurd hm25 (Nat.not_lt_zero _)
          | succ N27 ih21 =>
            intro x17 X18 h28 hm25 hI26 hp29 hf30
            have w := wl22 x17 X18 hI26
            refine v_iload dX12_findDrive_12 rfl ?_
            refine v_sipushI dX12_findDrive_14 rfl ?_
            obtain ⟨q31, w⟩ := w
            refine v_icmp_geI (tgt := 132) dX12_findDrive_17 (by decide) q31.1 q31.2 (by decide) (by decide) (fun c32 => ?_) (fun c32 => ?_)
            · replace w := w.1 c32
              refine v_iincI dX12_findDrive_132 rfl (Nat.le_of_ble_eq_true rfl) ?_
              refine v_goto (tgt := 4) dX12_findDrive_135 (by decide) ?_
              refine v_pick [1, 2, 3, 4, 5, 0] rfl ?_
              exact ih5 _ _ _ (Nat.lt_of_lt_of_le w.2 (Nat.le_of_lt_succ hm9)) w.1 hp29 hf30
            · replace w := w.2 c32
              refine v_iload dX12_findDrive_20 rfl ?_
              refine v_iload dX12_findDrive_22 rfl ?_
              replace w := w (fun (v33 : Int) => V (m_X12_findDrive, 6, 0, 0, n, pVw n h Q, s_G0) 0 0 n h28 34 [(0, .ref 77), (1, .int (iI a0)), (2, .int (iI a1)), (3, .int (iI a2)), (4, .int (iI a3)), (5, .int (iI x1)), (6, .int (iI x17))] [.int (iI v33)]) (by
                intro v33 w
                refine v_istore dX12_findDrive_34 (Nat.le_of_ble_eq_true rfl) ?_
                refine v_iconstI dX12_findDrive_36 ?_
                refine v_istore dX12_findDrive_37 (Nat.le_of_ble_eq_true rfl) ?_
                refine v_pick [2, 3, 4, 5, 6, 7, 8, 1, 0] rfl ?_
                obtain ⟨I37, m38, wi41, wl40⟩ := w
                have hL42 : ∀ (N45 : Nat) (x35 : Int) (x36 : Int), m38 x35 x36 < N45 → I37 x35 x36 → V (m_X12_findDrive, 6, 0, 0, n, pVw n h Q, s_G0) 0 0 n h28 39 [(0, .ref 77), (1, .int (iI a0)), (2, .int (iI a1)), (3, .int (iI a2)), (4, .int (iI a3)), (5, .int (iI x1)), (6, .int (iI x17)), (7, .int (iI x35)), (8, .int (iI x36))] [] := by
                  intro N45
                  induction N45 with
                  | zero => intro x35 x36  hm43; exact absurd hm43 (Nat.not_lt_zero _)
                  | succ N45 ih39 =>
                    intro x35 x36  hm43 hI44
                    have w := wl40 x35 x36 hI44
                    refine v_iload dX12_findDrive_39 rfl ?_
                    refine v_iconstI dX12_findDrive_41 ?_
                    replace w := w (V (m_X12_findDrive, 6, 0, 0, n, pVw n h Q, s_G0) 0 0 n h28 87 [(0, .ref 77), (1, .int (iI a0)), (2, .int (iI a1)), (3, .int (iI a2)), (4, .int (iI a3)), (5, .int (iI x1)), (6, .int (iI x17)), (7, .int (iI x35))] []) (by
                      intro  w
                      refine v_aload_n dX12_findDrive_87 rfl ?_
                      refine v_get dX12_findDrive_88 fl_X12_111 ((hp29 77 (by decide)).trans (ent_77 _)) rfl (s_lt hn rfl) ?_
                      refine v_sipushI dX12_findDrive_91 rfl ?_
                      refine v_iload dX12_findDrive_94 rfl ?_
                      refine v_imulI dX12_findDrive_96 ?_
                      refine v_iload dX12_findDrive_97 rfl ?_
                      refine v_iaddI dX12_findDrive_99 ?_
                      refine v_iload dX12_findDrive_100 rfl ?_
                      refine v_iload_n dX12_findDrive_102 rfl ?_
                      replace w := w (V (m_X12_findDrive, 6, 0, 0, n, pVw n h Q, s_G0) 0 0 n h28 123 [(0, .ref 77), (1, .int (iI a0)), (2, .int (iI a1)), (3, .int (iI a2)), (4, .int (iI a3)), (5, .int (iI x1)), (6, .int (iI x17)), (7, .int (iI x35))] [.int (iI ((576 * x1) + x17)), .ref 97]) (by
                        intro  w
                        refine v_iload dX12_findDrive_123 rfl ?_
                        obtain ⟨q48, w⟩ := w
                        refine v_iastI dX12_findDrive_125 ((hp29 97 (by decide)).trans (ent_97 _)) (s_lt hn rfl) q48.1 q48.2 (ix_le q48.2 (by decide)) (fun h49 E50 F51 => ?_)
                        have hp52 := pic_st hp29 (show h49 97 = ent 97 (uI _ ((576 * x1) + x17) x35) from E50) F51
                        have hf53 := Fr.up (c := 97) hf30 F51 rfl
                        refine v_iincI dX12_findDrive_126 rfl (Nat.le_of_ble_eq_true rfl) ?_
                        refine v_goto (tgt := 12) dX12_findDrive_129 (by decide) ?_
                        refine v_pick [1, 2, 3, 4, 5, 6, 0] rfl ?_
                        exact ih21 _ _ _ (Nat.lt_of_lt_of_le w.2 (Nat.le_of_lt_succ hm25)) w.1 hp52 hf53
                      )
                      obtain ⟨q54, w⟩ := w
                      refine v_icmp_ltI (tgt := 123) dX12_findDrive_103 (by decide) q15.1 q15.2 q54.1 q54.2 (fun c55 => ?_) (fun c55 => ?_)
                      · replace w := w.1 c55
                        exact w
                      · replace w := w.2 c55
                        refine v_aload_n dX12_findDrive_106 rfl ?_
                        refine v_iload_n dX12_findDrive_107 rfl ?_
                        refine v_iload dX12_findDrive_108 rfl ?_
                        refine v_iload_n dX12_findDrive_110 rfl ?_
                        refine v_callVIr dX12_findDrive_111 ml_X12_475 (so_X12_shades hn hp29  w) ((hp29 77 (by decide)).trans (ent_77 _)) rfl (s_lt hn rfl) rfl rfl (Nat.le_of_ble_eq_true rfl) (Nat.le_of_ble_eq_true rfl) (Nat.zero_le _) (Nat.zero_le _) (fun v56 w => ?_)
                        obtain ⟨q62, w⟩ := w
                        refine v_if_neI (tgt := 123) dX12_findDrive_114 (by decide) q62.1 q62.2 (fun c63 => ?_) (fun c63 => ?_)
                        · replace w := w.1 c63
                          exact w
                        · replace w := w.2 c63
                          refine v_ldcwI 100000000 dX12_findDrive_117 k_X12_507 rfl ?_
                          refine v_goto (tgt := 125) dX12_findDrive_120 (by decide) ?_
                          obtain ⟨q64, w⟩ := w
                          refine v_iastI dX12_findDrive_125 ((hp29 97 (by decide)).trans (ent_97 _)) (s_lt hn rfl) q64.1 q64.2 (ix_le q64.2 (by decide)) (fun h65 E66 F67 => ?_)
                          have hp68 := pic_st hp29 (show h65 97 = ent 97 (uI _ ((576 * x1) + x17) 100000000) from E66) F67
                          have hf69 := Fr.up (c := 97) hf30 F67 rfl
                          refine v_iincI dX12_findDrive_126 rfl (Nat.le_of_ble_eq_true rfl) ?_
                          refine v_goto (tgt := 12) dX12_findDrive_129 (by decide) ?_
                          refine v_pick [1, 2, 3, 4, 5, 6, 0] rfl ?_
                          exact ih21 _ _ _ (Nat.lt_of_lt_of_le w.2 (Nat.le_of_lt_succ hm25)) w.1 hp68 hf69
                    )
                    obtain ⟨q70, w⟩ := w
                    refine v_icmp_geI (tgt := 87) dX12_findDrive_42 (by decide) q70.1 q70.2 (by decide) (by decide) (fun c71 => ?_) (fun c71 => ?_)
                    · replace w := w.1 c71
                      refine v_pick [0, 1, 2, 3, 4, 5, 6, 7] rfl ?_
                      exact w
                    · replace w := w.2 c71
                      refine v_iload dX12_findDrive_45 rfl ?_
                      refine v_iload dX12_findDrive_47 rfl ?_
                      obtain ⟨q72, w⟩ := w
                      refine v_icmp_geI (tgt := 87) dX12_findDrive_49 (by decide) q15.1 q15.2 q72.1 q72.2 (fun c73 => ?_) (fun c73 => ?_)
                      · replace w := w.1 c73
                        refine v_pick [0, 1, 2, 3, 4, 5, 6, 7] rfl ?_
                        exact w
                      · replace w := w.2 c73
                        refine v_aload_n dX12_findDrive_52 rfl ?_
                        refine v_iload_n dX12_findDrive_53 rfl ?_
                        refine v_iload dX12_findDrive_54 rfl ?_
                        refine v_iload dX12_findDrive_56 rfl ?_
                        refine v_iload dX12_findDrive_58 rfl ?_
                        refine v_callVIr dX12_findDrive_60 ml_X12_511 (so_X12_fewestBy hn hp29  w) ((hp29 77 (by decide)).trans (ent_77 _)) rfl (s_lt hn rfl) rfl rfl (Nat.le_of_ble_eq_true rfl) (Nat.le_of_ble_eq_true rfl) (Nat.zero_le _) (Nat.zero_le _) (fun v74 w => ?_)
                        refine v_istore dX12_findDrive_63 (Nat.le_of_ble_eq_true rfl) ?_
                        refine v_iload dX12_findDrive_65 rfl ?_
                        refine v_iload dX12_findDrive_67 rfl ?_
                        obtain ⟨q80, q81, w⟩ := w
                        refine v_icmp_geI (tgt := 77) dX12_findDrive_69 (by decide) q80.1 q80.2 q81.1 q81.2 (fun c82 => ?_) (fun c82 => ?_)
                        · replace w := w.1 c82
                          refine v_iload dX12_findDrive_77 rfl ?_
                          refine v_istore dX12_findDrive_79 (Nat.le_of_ble_eq_true rfl) ?_
                          refine v_iincI dX12_findDrive_81 rfl (Nat.le_of_ble_eq_true rfl) ?_
                          refine v_goto (tgt := 39) dX12_findDrive_84 (by decide) ?_
                          refine v_pick [3, 4, 5, 6, 7, 8, 9, 1, 0] rfl ?_
                          exact ih39 _ _ (Nat.lt_of_lt_of_le w.2 (Nat.le_of_lt_succ hm43)) w.1
                        · replace w := w.2 c82
                          refine v_iload dX12_findDrive_72 rfl ?_
                          refine v_goto (tgt := 79) dX12_findDrive_74 (by decide) ?_
                          refine v_istore dX12_findDrive_79 (Nat.le_of_ble_eq_true rfl) ?_
                          refine v_iincI dX12_findDrive_81 rfl (Nat.le_of_ble_eq_true rfl) ?_
                          refine v_goto (tgt := 39) dX12_findDrive_84 (by decide) ?_
                          refine v_pick [3, 4, 5, 6, 7, 8, 9, 1, 0] rfl ?_
                          exact ih39 _ _ (Nat.lt_of_lt_of_le w.2 (Nat.le_of_lt_succ hm43)) w.1
                exact hL42 _ _ _ (Nat.lt_succ_self _) wi41
              )
              obtain ⟨q83, w⟩ := w
              refine v_icmp_neI (tgt := 31) dX12_findDrive_24 (by decide) q15.1 q15.2 q83.1 q83.2 (fun c84 => ?_) (fun c84 => ?_)
              · replace w := w.1 c84
                refine v_ldcwI 100000000 dX12_findDrive_31 k_X12_507 rfl ?_
                exact w
              · replace w := w.2 c84
                refine v_iconstI dX12_findDrive_27 ?_
                refine v_goto (tgt := 34) dX12_findDrive_28 (by decide) ?_
                exact w
        exact hL24 _ _ _ _ (Nat.lt_succ_self _) wi23 hp13 hf14
  exact hL8 _ _ _ _ (Nat.lt_succ_self _) wi7 hp hf
theorem dX12_drive_0 : decode cX12_drive 0 = .ok (.aload_n 0, 1) := by decide +kernel
theorem dX12_drive_1 : decode cX12_drive 1 = .ok (.iconst 0, 1) := by decide +kernel
theorem dX12_drive_2 : decode cX12_drive 2 = .ok (.putfield 169, 3) := by decide +kernel
theorem dX12_drive_5 : decode cX12_drive 5 = .ok (.aload_n 0, 1) := by decide +kernel
theorem dX12_drive_6 : decode cX12_drive 6 = .ok (.iload_n 1, 1) := by decide +kernel
theorem dX12_drive_7 : decode cX12_drive 7 = .ok (.invokevirtual 219, 3) := by decide +kernel
theorem dX12_drive_10 : decode cX12_drive 10 = .ok (.ifCond .eq 48, 3) := by decide +kernel
theorem dX12_drive_13 : decode cX12_drive 13 = .ok (.iload_n 2, 1) := by decide +kernel
theorem dX12_drive_14 : decode cX12_drive 14 = .ok (.invokestatic 195, 3) := by decide +kernel
theorem dX12_drive_17 : decode cX12_drive 17 = .ok (.ifCond .eq 41, 3) := by decide +kernel
theorem dX12_drive_20 : decode cX12_drive 20 = .ok (.iload_n 3, 1) := by decide +kernel
theorem dX12_drive_21 : decode cX12_drive 21 = .ok (.invokestatic 236, 3) := by decide +kernel
theorem dX12_drive_24 : decode cX12_drive 24 = .ok (.ifCond .eq 34, 3) := by decide +kernel
theorem dX12_drive_27 : decode cX12_drive 27 = .ok (.iload 4, 2) := by decide +kernel
theorem dX12_drive_29 : decode cX12_drive 29 = .ok (.invokestatic 236, 3) := by decide +kernel
theorem dX12_drive_32 : decode cX12_drive 32 = .ok (.ifCond .eq 26, 3) := by decide +kernel
theorem dX12_drive_35 : decode cX12_drive 35 = .ok (.iload 4, 2) := by decide +kernel
theorem dX12_drive_37 : decode cX12_drive 37 = .ok (.iload_n 3, 1) := by decide +kernel
theorem dX12_drive_38 : decode cX12_drive 38 = .ok (.if_icmp .lt 20, 3) := by decide +kernel
theorem dX12_drive_41 : decode cX12_drive 41 = .ok (.iload 5, 2) := by decide +kernel
theorem dX12_drive_43 : decode cX12_drive 43 = .ok (.i2l, 1) := by decide +kernel
theorem dX12_drive_44 : decode cX12_drive 44 = .ok (.ldc2_w 208, 3) := by decide +kernel
theorem dX12_drive_47 : decode cX12_drive 47 = .ok (.iload 4, 2) := by decide +kernel
theorem dX12_drive_49 : decode cX12_drive 49 = .ok (.i2l, 1) := by decide +kernel
theorem dX12_drive_50 : decode cX12_drive 50 = .ok (.lconst 1, 1) := by decide +kernel
theorem dX12_drive_51 : decode cX12_drive 51 = .ok (.lsub, 1) := by decide +kernel
theorem dX12_drive_52 : decode cX12_drive 52 = .ok (.invokestatic 175, 3) := by decide +kernel
theorem dX12_drive_55 : decode cX12_drive 55 = .ok (.ifCond .ne 5, 3) := by decide +kernel
theorem dX12_drive_58 : decode cX12_drive 58 = .ok (.iconst (-1), 1) := by decide +kernel
theorem dX12_drive_59 : decode cX12_drive 59 = .ok (.ireturn, 1) := by decide +kernel
theorem dX12_drive_60 : decode cX12_drive 60 = .ok (.aload_n 0, 1) := by decide +kernel
theorem dX12_drive_61 : decode cX12_drive 61 = .ok (.iload_n 1, 1) := by decide +kernel
theorem dX12_drive_62 : decode cX12_drive 62 = .ok (.invokevirtual 515, 3) := by decide +kernel
theorem dX12_drive_65 : decode cX12_drive 65 = .ok (.aload_n 0, 1) := by decide +kernel
theorem dX12_drive_66 : decode cX12_drive 66 = .ok (.iload_n 1, 1) := by decide +kernel
theorem dX12_drive_67 : decode cX12_drive 67 = .ok (.iload_n 2, 1) := by decide +kernel
theorem dX12_drive_68 : decode cX12_drive 68 = .ok (.iload_n 3, 1) := by decide +kernel
theorem dX12_drive_69 : decode cX12_drive 69 = .ok (.iload 4, 2) := by decide +kernel
theorem dX12_drive_71 : decode cX12_drive 71 = .ok (.invokevirtual 518, 3) := by decide +kernel
theorem dX12_drive_74 : decode cX12_drive 74 = .ok (.aload_n 0, 1) := by decide +kernel
theorem dX12_drive_75 : decode cX12_drive 75 = .ok (.iload_n 1, 1) := by decide +kernel
theorem dX12_drive_76 : decode cX12_drive 76 = .ok (.invokevirtual 464, 3) := by decide +kernel
theorem dX12_drive_79 : decode cX12_drive 79 = .ok (.istore 6, 2) := by decide +kernel
theorem dX12_drive_81 : decode cX12_drive 81 = .ok (.aload_n 0, 1) := by decide +kernel
theorem dX12_drive_82 : decode cX12_drive 82 = .ok (.getfield 111, 3) := by decide +kernel
theorem dX12_drive_85 : decode cX12_drive 85 = .ok (.iload 6, 2) := by decide +kernel
theorem dX12_drive_87 : decode cX12_drive 87 = .ok (.iaload, 1) := by decide +kernel
theorem dX12_drive_88 : decode cX12_drive 88 = .ok (.ldc_w 507, 3) := by decide +kernel
theorem dX12_drive_91 : decode cX12_drive 91 = .ok (.if_icmp .lt 5, 3) := by decide +kernel
theorem dX12_drive_94 : decode cX12_drive 94 = .ok (.iconst (-1), 1) := by decide +kernel
theorem dX12_drive_95 : decode cX12_drive 95 = .ok (.ireturn, 1) := by decide +kernel
theorem dX12_drive_96 : decode cX12_drive 96 = .ok (.iload 5, 2) := by decide +kernel
theorem dX12_drive_98 : decode cX12_drive 98 = .ok (.iconst (-1), 1) := by decide +kernel
theorem dX12_drive_99 : decode cX12_drive 99 = .ok (.if_icmp .ne 11, 3) := by decide +kernel
theorem dX12_drive_102 : decode cX12_drive 102 = .ok (.aload_n 0, 1) := by decide +kernel
theorem dX12_drive_103 : decode cX12_drive 103 = .ok (.getfield 111, 3) := by decide +kernel
theorem dX12_drive_106 : decode cX12_drive 106 = .ok (.iload 6, 2) := by decide +kernel
theorem dX12_drive_108 : decode cX12_drive 108 = .ok (.iaload, 1) := by decide +kernel
theorem dX12_drive_109 : decode cX12_drive 109 = .ok (.ireturn, 1) := by decide +kernel
theorem dX12_drive_110 : decode cX12_drive 110 = .ok (.iconst 0, 1) := by decide +kernel
theorem dX12_drive_111 : decode cX12_drive 111 = .ok (.istore 7, 2) := by decide +kernel
theorem dX12_drive_113 : decode cX12_drive 113 = .ok (.iconst 0, 1) := by decide +kernel
theorem dX12_drive_114 : decode cX12_drive 114 = .ok (.istore 8, 2) := by decide +kernel
theorem dX12_drive_116 : decode cX12_drive 116 = .ok (.iload 8, 2) := by decide +kernel
theorem dX12_drive_118 : decode cX12_drive 118 = .ok (.iload 5, 2) := by decide +kernel
theorem dX12_drive_120 : decode cX12_drive 120 = .ok (.if_icmp .gt 60, 3) := by decide +kernel
theorem dX12_drive_123 : decode cX12_drive 123 = .ok (.iconst 0, 1) := by decide +kernel
theorem dX12_drive_124 : decode cX12_drive 124 = .ok (.istore 7, 2) := by decide +kernel
theorem dX12_drive_126 : decode cX12_drive 126 = .ok (.aload_n 0, 1) := by decide +kernel
theorem dX12_drive_127 : decode cX12_drive 127 = .ok (.iload_n 1, 1) := by decide +kernel
theorem dX12_drive_128 : decode cX12_drive 128 = .ok (.iload 8, 2) := by decide +kernel
theorem dX12_drive_130 : decode cX12_drive 130 = .ok (.iload 6, 2) := by decide +kernel
theorem dX12_drive_132 : decode cX12_drive 132 = .ok (.iload 7, 2) := by decide +kernel
theorem dX12_drive_134 : decode cX12_drive 134 = .ok (.invokevirtual 511, 3) := by decide +kernel
theorem dX12_drive_137 : decode cX12_drive 137 = .ok (.aload_n 0, 1) := by decide +kernel
theorem dX12_drive_138 : decode cX12_drive 138 = .ok (.getfield 111, 3) := by decide +kernel
theorem dX12_drive_141 : decode cX12_drive 141 = .ok (.sipush 576, 3) := by decide +kernel
theorem dX12_drive_144 : decode cX12_drive 144 = .ok (.iload 8, 2) := by decide +kernel
theorem dX12_drive_146 : decode cX12_drive 146 = .ok (.imul, 1) := by decide +kernel
theorem dX12_drive_147 : decode cX12_drive 147 = .ok (.iload 6, 2) := by decide +kernel
theorem dX12_drive_149 : decode cX12_drive 149 = .ok (.iadd, 1) := by decide +kernel
theorem dX12_drive_150 : decode cX12_drive 150 = .ok (.iaload, 1) := by decide +kernel
theorem dX12_drive_151 : decode cX12_drive 151 = .ok (.if_icmp .eq 9, 3) := by decide +kernel
theorem dX12_drive_154 : decode cX12_drive 154 = .ok (.iinc 7 1, 3) := by decide +kernel
theorem dX12_drive_157 : decode cX12_drive 157 = .ok (.goto (-31), 3) := by decide +kernel
theorem dX12_drive_160 : decode cX12_drive 160 = .ok (.aload_n 0, 1) := by decide +kernel
theorem dX12_drive_161 : decode cX12_drive 161 = .ok (.iload_n 1, 1) := by decide +kernel
theorem dX12_drive_162 : decode cX12_drive 162 = .ok (.iload 8, 2) := by decide +kernel
theorem dX12_drive_164 : decode cX12_drive 164 = .ok (.iload 6, 2) := by decide +kernel
theorem dX12_drive_166 : decode cX12_drive 166 = .ok (.iconst 0, 1) := by decide +kernel
theorem dX12_drive_167 : decode cX12_drive 167 = .ok (.iload 7, 2) := by decide +kernel
theorem dX12_drive_169 : decode cX12_drive 169 = .ok (.invokevirtual 508, 3) := by decide +kernel
theorem dX12_drive_172 : decode cX12_drive 172 = .ok (.istore 6, 2) := by decide +kernel
theorem dX12_drive_174 : decode cX12_drive 174 = .ok (.iinc 8 1, 3) := by decide +kernel
theorem dX12_drive_177 : decode cX12_drive 177 = .ok (.goto (-61), 3) := by decide +kernel
theorem dX12_drive_180 : decode cX12_drive 180 = .ok (.iload 7, 2) := by decide +kernel
theorem dX12_drive_182 : decode cX12_drive 182 = .ok (.ireturn, 1) := by decide +kernel
def w_X12_drive (a0 a1 a2 a3 a4 : Int) (X : XT) (Q : Int → XT → Prop) : Prop :=
  R32 a0 ∧ (0 ≤ (x_st X 77 0 0) 79 0 ∧ (x_st X 77 0 0) 79 0 ≤ 5) ∧ (¬ (0 ≤ a0 ∧ a0 ≤ (x_st X 77 0 0) 79 0 - 1) → Q (-1) (x_st X 77 0 0)) ∧ ((0 ≤ a0 ∧ a0 ≤ (x_st X 77 0 0) 79 0 - 1) → R32 a1 ∧ (¬ (0 ≤ a1 ∧ a1 ≤ 63) → Q (-1) (x_st X 77 0 0)) ∧ ((0 ≤ a1 ∧ a1 ≤ 63) → R32 a2 ∧ (¬ (0 ≤ a2 ∧ a2 ≤ 11) → Q (-1) (x_st X 77 0 0)) ∧ ((0 ≤ a2 ∧ a2 ≤ 11) → R32 a3 ∧ (¬ (0 ≤ a3 ∧ a3 ≤ 11) → Q (-1) (x_st X 77 0 0)) ∧ ((0 ≤ a3 ∧ a3 ≤ 11) → (a3 < a2 → Q (-1) (x_st X 77 0 0)) ∧ (¬ a3 < a2 → R32 a4 ∧ R64 (a3 - 1) ∧ (((-1) ≤ a4 ∧ a4 ≤ (a3 - 1)) → w_X12_layWorks  a0 (x_st X 77 0 0) (fun (X20 : XT) => w_X12_findDrive  a0 a1 a2 a3 X20 (fun (X26 : XT) => w_X12_beginsAt  a0 X26 (fun (v31 : Int) => (0 ≤ v31 ∧ v31 < 6912) ∧ R32 (X26 97 v31) ∧ ((X26 97 v31) < 100000000 → (¬ a4 = (-1) → ∃ (I44 : Int → Int → Int → Prop) (m45 : Int → Int → Int → Nat), I44 v31 0 0 ∧ ∀ (x41 : Int) (x42 : Int) (x43 : Int), I44 x41 x42 x43 → R32 x43 ∧ (a4 < x43 → Q x42 X26) ∧ (¬ a4 < x43 → ∃ (I56 : Int → Prop) (m57 : Int → Nat), I56 0 ∧ ∀ (x55 : Int), I56 x55 → w_X12_fewestBy  a0 x43 x41 x55 X26 (fun (v65 : Int) => (0 ≤ ((576 * x43) + x41) ∧ ((576 * x43) + x41) < 6912) ∧ R32 v65 ∧ R32 (X26 97 ((576 * x43) + x41)) ∧ (v65 = (X26 97 ((576 * x43) + x41)) → w_X12_nextOf  a0 x43 x41 0 x55 X26 (fun (v75 : Int) => I44 v75 x55 (x43 + 1) ∧ m45 v75 x55 (x43 + 1) < m45 x41 x42 x43)) ∧ (¬ v65 = (X26 97 ((576 * x43) + x41)) → I56 (x55 + 1) ∧ m57 (x55 + 1) < m57 x55)))) ∧ (a4 = (-1) → Q (X26 97 v31) X26)) ∧ (¬ (X26 97 v31) < 100000000 → Q (-1) X26))))) ∧ (¬ ((-1) ≤ a4 ∧ a4 ≤ (a3 - 1)) → Q (-1) (x_st X 77 0 0)))))))
set_option maxRecDepth 20000 in
theorem so_X12_drive {n : Nat} {h : Nat → sE} {X : XT} {a0 a1 a2 a3 a4 : Int} {Q : Int → XT → Prop} (hn : 115 ≤ n) (hp : Pic X h) (w : w_X12_drive  a0 a1 a2 a3 a4 X Q) : Sp m_X12_drive 9 0 0 [.ref 77, .int (iI a0), .int (iI a1), .int (iI a2), .int (iI a3), .int (iI a4)] n h (pIw n h Q) := by
  unfold w_X12_drive at w
  refine Sp.ofV (by decide +kernel) (Nat.le_of_ble_eq_true rfl) ?_
  have hf : Fr h h := fun _ _ => rfl
  refine v_aload_n dX12_drive_0 rfl ?_
  refine v_iconstI dX12_drive_1 ?_
  refine v_put dX12_drive_2 fl_X12_169 ((hp 77 (by decide)).trans (ent_77 _)) (s_lt hn rfl) (Nat.le_of_ble_eq_true rfl) (fun _ => ⟨rfl, rfl⟩) trivial (fun h1 E2 F3 => ?_)
  have hp4 := pic_st hp (show h1 77 = ent 77 (uI _ 0 0) from E2) F3
  have hf5 := Fr.up (c := 77) hf F3 rfl
  refine v_aload_n dX12_drive_5 rfl ?_
  refine v_iload_n dX12_drive_6 rfl ?_
  obtain ⟨q6, q7, w⟩ := w
  refine v_callVp dX12_drive_7 ml_X12_219 (sp_X12_isCloud (a := a0) (g77 := (x_st X 77 0 0) 77) (g79 := (x_st X 77 0 0) 79) hn (hp4 77 (by decide)) (hp4 79 (by decide)) q6 q7) ((hp4 77 (by decide)).trans (ent_77 _)) rfl (s_lt hn rfl) rfl rfl (Nat.le_of_ble_eq_true rfl) (Nat.le_of_ble_eq_true rfl) (Nat.zero_le _) (Nat.zero_le _) ?_
  refine v_ifeqB (tgt := 58) dX12_drive_10 (by decide) (fun c8 => ?_) (fun c8 => ?_)
  · replace w := w.1 c8
    refine v_iconstI dX12_drive_58 ?_
    exact v_iret dX12_drive_59 rfl (Nat.zero_le _) (Nat.zero_le _) ⟨rfl, hf5, _, _, rfl, hp4, w⟩
  · replace w := w.2 c8
    refine v_iload_n dX12_drive_13 rfl ?_
    obtain ⟨q9, w⟩ := w
    refine v_callSp dX12_drive_14 ml_X12_195 (sp_X12_isField (a := a1) q9) rfl rfl (Nat.le_of_ble_eq_true rfl) (Nat.le_of_ble_eq_true rfl) (Nat.zero_le _) (Nat.zero_le _) ?_
    refine v_ifeqB (tgt := 58) dX12_drive_17 (by decide) (fun c10 => ?_) (fun c10 => ?_)
    · replace w := w.1 c10
      refine v_iconstI dX12_drive_58 ?_
      exact v_iret dX12_drive_59 rfl (Nat.zero_le _) (Nat.zero_le _) ⟨rfl, hf5, _, _, rfl, hp4, w⟩
    · replace w := w.2 c10
      refine v_iload_n dX12_drive_20 rfl ?_
      obtain ⟨q11, w⟩ := w
      refine v_callSp dX12_drive_21 ml_X12_236 (sp_X12_isHour (a := a2) q11) rfl rfl (Nat.le_of_ble_eq_true rfl) (Nat.le_of_ble_eq_true rfl) (Nat.zero_le _) (Nat.zero_le _) ?_
      refine v_ifeqB (tgt := 58) dX12_drive_24 (by decide) (fun c12 => ?_) (fun c12 => ?_)
      · replace w := w.1 c12
        refine v_iconstI dX12_drive_58 ?_
        exact v_iret dX12_drive_59 rfl (Nat.zero_le _) (Nat.zero_le _) ⟨rfl, hf5, _, _, rfl, hp4, w⟩
      · replace w := w.2 c12
        refine v_iload dX12_drive_27 rfl ?_
        obtain ⟨q13, w⟩ := w
        refine v_callSp dX12_drive_29 ml_X12_236 (sp_X12_isHour (a := a3) q13) rfl rfl (Nat.le_of_ble_eq_true rfl) (Nat.le_of_ble_eq_true rfl) (Nat.zero_le _) (Nat.zero_le _) ?_
        refine v_ifeqB (tgt := 58) dX12_drive_32 (by decide) (fun c14 => ?_) (fun c14 => ?_)
        · replace w := w.1 c14
          refine v_iconstI dX12_drive_58 ?_
          exact v_iret dX12_drive_59 rfl (Nat.zero_le _) (Nat.zero_le _) ⟨rfl, hf5, _, _, rfl, hp4, w⟩
        · replace w := w.2 c14
          refine v_iload dX12_drive_35 rfl ?_
          refine v_iload_n dX12_drive_37 rfl ?_
          refine v_icmp_ltI (tgt := 58) dX12_drive_38 (by decide) q13.1 q13.2 q11.1 q11.2 (fun c15 => ?_) (fun c15 => ?_)
          · replace w := w.1 c15
            refine v_iconstI dX12_drive_58 ?_
            exact v_iret dX12_drive_59 rfl (Nat.zero_le _) (Nat.zero_le _) ⟨rfl, hf5, _, _, rfl, hp4, w⟩
          · replace w := w.2 c15
            refine v_iload dX12_drive_41 rfl ?_
            obtain ⟨q16, w⟩ := w
            refine v_i2lI dX12_drive_43 q16.1 q16.2 ?_
            refine v_ldc2I (-1) dX12_drive_44 k_X12_208 rfl ?_
            refine v_iload dX12_drive_47 rfl ?_
            refine v_i2lI dX12_drive_49 q13.1 q13.2 ?_
            refine v_lconstI (w := 1) dX12_drive_50 rfl ?_
            refine v_lsubI dX12_drive_51 ?_
            obtain ⟨q17, w⟩ := w
            refine v_callSp dX12_drive_52 ml_X12_175 (sp_X12_in (v := a4) (lo := (-1)) (hi := (a3 - 1)) (r32_64 q16) (by decide) q17) rfl rfl (Nat.le_of_ble_eq_true rfl) (Nat.le_of_ble_eq_true rfl) (Nat.zero_le _) (Nat.zero_le _) ?_
            refine v_ifneB (tgt := 60) dX12_drive_55 (by decide) (fun c18 => ?_) (fun c18 => ?_)
            · replace w := w.1 c18
              refine v_aload_n dX12_drive_60 rfl ?_
              refine v_iload_n dX12_drive_61 rfl ?_
              refine v_callVVw dX12_drive_62 ml_X12_515 (so_X12_layWorks hn hp4  w) ((hp4 77 (by decide)).trans (ent_77 _)) rfl (s_lt hn rfl) rfl rfl (Nat.le_of_ble_eq_true rfl) (Nat.le_of_ble_eq_true rfl) (Nat.zero_le _) (Nat.zero_le _) (fun X20 h21 hp23 hf22 w => ?_)
              have hf24 := Fr.trans hf5 hf22
              refine v_aload_n dX12_drive_65 rfl ?_
              refine v_iload_n dX12_drive_66 rfl ?_
              refine v_iload_n dX12_drive_67 rfl ?_
              refine v_iload_n dX12_drive_68 rfl ?_
              refine v_iload dX12_drive_69 rfl ?_
              refine v_callVVw dX12_drive_71 ml_X12_518 (so_X12_findDrive hn hp23  w) ((hp23 77 (by decide)).trans (ent_77 _)) rfl (s_lt hn rfl) rfl rfl (Nat.le_of_ble_eq_true rfl) (Nat.le_of_ble_eq_true rfl) (Nat.zero_le _) (Nat.zero_le _) (fun X26 h27 hp29 hf28 w => ?_)
              have hf30 := Fr.trans hf24 hf28
              refine v_aload_n dX12_drive_74 rfl ?_
              refine v_iload_n dX12_drive_75 rfl ?_
              refine v_callVIr dX12_drive_76 ml_X12_464 (so_X12_beginsAt hn hp29  w) ((hp29 77 (by decide)).trans (ent_77 _)) rfl (s_lt hn rfl) rfl rfl (Nat.le_of_ble_eq_true rfl) (Nat.le_of_ble_eq_true rfl) (Nat.zero_le _) (Nat.zero_le _) (fun v31 w => ?_)
              refine v_istore dX12_drive_79 (Nat.le_of_ble_eq_true rfl) ?_
              refine v_aload_n dX12_drive_81 rfl ?_
              refine v_get dX12_drive_82 fl_X12_111 ((hp29 77 (by decide)).trans (ent_77 _)) rfl (s_lt hn rfl) ?_
              refine v_iload dX12_drive_85 rfl ?_
              obtain ⟨q37, w⟩ := w
              refine v_ialdI dX12_drive_87 ((hp29 97 (by decide)).trans (ent_97 _)) (s_lt hn rfl) q37.1 q37.2 (ix_le q37.2 (by decide)) ?_
              refine v_ldcwI 100000000 dX12_drive_88 k_X12_507 rfl ?_
              obtain ⟨q38, w⟩ := w
              refine v_icmp_ltI (tgt := 96) dX12_drive_91 (by decide) q38.1 q38.2 (by decide) (by decide) (fun c39 => ?_) (fun c39 => ?_)
              · replace w := w.1 c39
                refine v_iload dX12_drive_96 rfl ?_
                refine v_iconstI dX12_drive_98 ?_
                refine v_icmp_neI (tgt := 110) dX12_drive_99 (by decide) q16.1 q16.2 (by decide) (by decide) (fun c40 => ?_) (fun c40 => ?_)
                · replace w := w.1 c40
                  refine v_iconstI dX12_drive_110 ?_
                  refine v_istore dX12_drive_111 (Nat.le_of_ble_eq_true rfl) ?_
                  refine v_iconstI dX12_drive_113 ?_
                  refine v_istore dX12_drive_114 (Nat.le_of_ble_eq_true rfl) ?_
                  refine v_pick [3, 4, 8, 2, 1, 0] rfl ?_
                  obtain ⟨I44, m45, wi48, wl47⟩ := w
                  have hL49 : ∀ (N52 : Nat) (x41 : Int) (x42 : Int) (x43 : Int), m45 x41 x42 x43 < N52 → I44 x41 x42 x43 → V (m_X12_drive, 9, 0, 0, n, pIw n h Q, s_G0) 0 0 n h27 116 [(0, .ref 77), (1, .int (iI a0)), (5, .int (iI a4)), (6, .int (iI x41)), (7, .int (iI x42)), (8, .int (iI x43))] [] := by
                    intro N52
                    induction N52 with
                    | zero => intro x41 x42 x43  hm50; exact absurd hm50 (Nat.not_lt_zero _)
                    | succ N52 ih46 =>
                      intro x41 x42 x43  hm50 hI51
                      have w := wl47 x41 x42 x43 hI51
                      refine v_iload dX12_drive_116 rfl ?_
                      refine v_iload dX12_drive_118 rfl ?_
                      obtain ⟨q53, w⟩ := w
                      refine v_icmp_gtI (tgt := 180) dX12_drive_120 (by decide) q53.1 q53.2 q16.1 q16.2 (fun c54 => ?_) (fun c54 => ?_)
                      · replace w := w.1 c54
                        refine v_iload dX12_drive_180 rfl ?_
                        exact v_iret dX12_drive_182 rfl (Nat.zero_le _) (Nat.zero_le _) ⟨rfl, hf30, _, _, rfl, hp29, w⟩
                      · replace w := w.2 c54
                        refine v_iconstI dX12_drive_123 ?_
                        refine v_istore dX12_drive_124 (Nat.le_of_ble_eq_true rfl) ?_
                        refine v_pick [1, 2, 3, 4, 0, 5] rfl ?_
                        obtain ⟨I56, m57, wi60, wl59⟩ := w
                        have hL61 : ∀ (N64 : Nat) (x55 : Int), m57 x55 < N64 → I56 x55 → V (m_X12_drive, 9, 0, 0, n, pIw n h Q, s_G0) 0 0 n h27 126 [(0, .ref 77), (1, .int (iI a0)), (5, .int (iI a4)), (6, .int (iI x41)), (7, .int (iI x55)), (8, .int (iI x43))] [] := by
                          intro N64
                          induction N64 with
                          | zero => intro x55  hm62; exact absurd hm62 (Nat.not_lt_zero _)
                          | succ N64 ih58 =>
                            intro x55  hm62 hI63
                            have w := wl59 x55 hI63
                            refine v_aload_n dX12_drive_126 rfl ?_
                            refine v_iload_n dX12_drive_127 rfl ?_
                            refine v_iload dX12_drive_128 rfl ?_
                            refine v_iload dX12_drive_130 rfl ?_
                            refine v_iload dX12_drive_132 rfl ?_
                            refine v_callVIr dX12_drive_134 ml_X12_511 (so_X12_fewestBy hn hp29  w) ((hp29 77 (by decide)).trans (ent_77 _)) rfl (s_lt hn rfl) rfl rfl (Nat.le_of_ble_eq_true rfl) (Nat.le_of_ble_eq_true rfl) (Nat.zero_le _) (Nat.zero_le _) (fun v65 w => ?_)
                            refine v_aload_n dX12_drive_137 rfl ?_
                            refine v_get dX12_drive_138 fl_X12_111 ((hp29 77 (by decide)).trans (ent_77 _)) rfl (s_lt hn rfl) ?_
                            refine v_sipushI dX12_drive_141 rfl ?_
                            refine v_iload dX12_drive_144 rfl ?_
                            refine v_imulI dX12_drive_146 ?_
                            refine v_iload dX12_drive_147 rfl ?_
                            refine v_iaddI dX12_drive_149 ?_
                            obtain ⟨q71, w⟩ := w
                            refine v_ialdI dX12_drive_150 ((hp29 97 (by decide)).trans (ent_97 _)) (s_lt hn rfl) q71.1 q71.2 (ix_le q71.2 (by decide)) ?_
                            obtain ⟨q72, q73, w⟩ := w
                            refine v_icmp_eqI (tgt := 160) dX12_drive_151 (by decide) q72.1 q72.2 q73.1 q73.2 (fun c74 => ?_) (fun c74 => ?_)
                            · replace w := w.1 c74
                              refine v_aload_n dX12_drive_160 rfl ?_
                              refine v_iload_n dX12_drive_161 rfl ?_
                              refine v_iload dX12_drive_162 rfl ?_
                              refine v_iload dX12_drive_164 rfl ?_
                              refine v_iconstI dX12_drive_166 ?_
                              refine v_iload dX12_drive_167 rfl ?_
                              refine v_callVIr dX12_drive_169 ml_X12_508 (so_X12_nextOf hn hp29  w) ((hp29 77 (by decide)).trans (ent_77 _)) rfl (s_lt hn rfl) rfl rfl (Nat.le_of_ble_eq_true rfl) (Nat.le_of_ble_eq_true rfl) (Nat.zero_le _) (Nat.zero_le _) (fun v75 w => ?_)
                              refine v_istore dX12_drive_172 (Nat.le_of_ble_eq_true rfl) ?_
                              refine v_iincI dX12_drive_174 rfl (Nat.le_of_ble_eq_true rfl) ?_
                              refine v_goto (tgt := 116) dX12_drive_177 (by decide) ?_
                              refine v_pick [2, 3, 4, 1, 5, 0] rfl ?_
                              exact ih46 _ _ _ (Nat.lt_of_lt_of_le w.2 (Nat.le_of_lt_succ hm50)) w.1
                            · replace w := w.2 c74
                              refine v_iincI dX12_drive_154 rfl (Nat.le_of_ble_eq_true rfl) ?_
                              refine v_goto (tgt := 126) dX12_drive_157 (by decide) ?_
                              refine v_pick [1, 2, 3, 4, 0, 5] rfl ?_
                              exact ih58 _ (Nat.lt_of_lt_of_le w.2 (Nat.le_of_lt_succ hm62)) w.1
                        exact hL61 _ _ (Nat.lt_succ_self _) wi60
                  exact hL49 _ _ _ _ (Nat.lt_succ_self _) wi48
                · replace w := w.2 c40
                  refine v_aload_n dX12_drive_102 rfl ?_
                  refine v_get dX12_drive_103 fl_X12_111 ((hp29 77 (by decide)).trans (ent_77 _)) rfl (s_lt hn rfl) ?_
                  refine v_iload dX12_drive_106 rfl ?_
                  refine v_ialdI dX12_drive_108 ((hp29 97 (by decide)).trans (ent_97 _)) (s_lt hn rfl) q37.1 q37.2 (ix_le q37.2 (by decide)) ?_
                  exact v_iret dX12_drive_109 rfl (Nat.zero_le _) (Nat.zero_le _) ⟨rfl, hf30, _, _, rfl, hp29, w⟩
              · replace w := w.2 c39
                refine v_iconstI dX12_drive_94 ?_
                exact v_iret dX12_drive_95 rfl (Nat.zero_le _) (Nat.zero_le _) ⟨rfl, hf30, _, _, rfl, hp29, w⟩
            · replace w := w.2 c18
              refine v_iconstI dX12_drive_58 ?_
              exact v_iret dX12_drive_59 rfl (Nat.zero_le _) (Nat.zero_le _) ⟨rfl, hf5, _, _, rfl, hp4, w⟩
theorem dX12_worthAt_0 : decode cX12_worthAt 0 = .ok (.iconst 0, 1) := by decide +kernel
theorem dX12_worthAt_1 : decode cX12_worthAt 1 = .ok (.istore 4, 2) := by decide +kernel
theorem dX12_worthAt_3 : decode cX12_worthAt 3 = .ok (.iload_n 3, 1) := by decide +kernel
theorem dX12_worthAt_4 : decode cX12_worthAt 4 = .ok (.invokestatic 417, 3) := by decide +kernel
theorem dX12_worthAt_7 : decode cX12_worthAt 7 = .ok (.istore 5, 2) := by decide +kernel
theorem dX12_worthAt_9 : decode cX12_worthAt 9 = .ok (.iload_n 3, 1) := by decide +kernel
theorem dX12_worthAt_10 : decode cX12_worthAt 10 = .ok (.invokestatic 420, 3) := by decide +kernel
theorem dX12_worthAt_13 : decode cX12_worthAt 13 = .ok (.istore 6, 2) := by decide +kernel
theorem dX12_worthAt_15 : decode cX12_worthAt 15 = .ok (.iconst 0, 1) := by decide +kernel
theorem dX12_worthAt_16 : decode cX12_worthAt 16 = .ok (.istore 7, 2) := by decide +kernel
theorem dX12_worthAt_18 : decode cX12_worthAt 18 = .ok (.iload 7, 2) := by decide +kernel
theorem dX12_worthAt_20 : decode cX12_worthAt 20 = .ok (.bipush 9, 2) := by decide +kernel
theorem dX12_worthAt_22 : decode cX12_worthAt 22 = .ok (.if_icmp .ge 120, 3) := by decide +kernel
theorem dX12_worthAt_25 : decode cX12_worthAt 25 = .ok (.iload 7, 2) := by decide +kernel
theorem dX12_worthAt_27 : decode cX12_worthAt 27 = .ok (.iconst 3, 1) := by decide +kernel
theorem dX12_worthAt_28 : decode cX12_worthAt 28 = .ok (.irem, 1) := by decide +kernel
theorem dX12_worthAt_29 : decode cX12_worthAt 29 = .ok (.aload_n 0, 1) := by decide +kernel
theorem dX12_worthAt_30 : decode cX12_worthAt 30 = .ok (.iload_n 1, 1) := by decide +kernel
theorem dX12_worthAt_31 : decode cX12_worthAt 31 = .ok (.iconst 0, 1) := by decide +kernel
theorem dX12_worthAt_32 : decode cX12_worthAt 32 = .ok (.invokevirtual 224, 3) := by decide +kernel
theorem dX12_worthAt_35 : decode cX12_worthAt 35 = .ok (.if_icmp .ge 56, 3) := by decide +kernel
theorem dX12_worthAt_38 : decode cX12_worthAt 38 = .ok (.iload 7, 2) := by decide +kernel
theorem dX12_worthAt_40 : decode cX12_worthAt 40 = .ok (.iconst 3, 1) := by decide +kernel
theorem dX12_worthAt_41 : decode cX12_worthAt 41 = .ok (.idiv, 1) := by decide +kernel
theorem dX12_worthAt_42 : decode cX12_worthAt 42 = .ok (.aload_n 0, 1) := by decide +kernel
theorem dX12_worthAt_43 : decode cX12_worthAt 43 = .ok (.iload_n 1, 1) := by decide +kernel
theorem dX12_worthAt_44 : decode cX12_worthAt 44 = .ok (.iconst 1, 1) := by decide +kernel
theorem dX12_worthAt_45 : decode cX12_worthAt 45 = .ok (.invokevirtual 224, 3) := by decide +kernel
theorem dX12_worthAt_48 : decode cX12_worthAt 48 = .ok (.if_icmp .ge 43, 3) := by decide +kernel
theorem dX12_worthAt_51 : decode cX12_worthAt 51 = .ok (.iload 5, 2) := by decide +kernel
theorem dX12_worthAt_53 : decode cX12_worthAt 53 = .ok (.iload 7, 2) := by decide +kernel
theorem dX12_worthAt_55 : decode cX12_worthAt 55 = .ok (.iconst 3, 1) := by decide +kernel
theorem dX12_worthAt_56 : decode cX12_worthAt 56 = .ok (.irem, 1) := by decide +kernel
theorem dX12_worthAt_57 : decode cX12_worthAt 57 = .ok (.iadd, 1) := by decide +kernel
theorem dX12_worthAt_58 : decode cX12_worthAt 58 = .ok (.i2l, 1) := by decide +kernel
theorem dX12_worthAt_59 : decode cX12_worthAt 59 = .ok (.lconst 0, 1) := by decide +kernel
theorem dX12_worthAt_60 : decode cX12_worthAt 60 = .ok (.ldc2_w 440, 3) := by decide +kernel
theorem dX12_worthAt_63 : decode cX12_worthAt 63 = .ok (.invokestatic 175, 3) := by decide +kernel
theorem dX12_worthAt_66 : decode cX12_worthAt 66 = .ok (.ifCond .eq 25, 3) := by decide +kernel
theorem dX12_worthAt_69 : decode cX12_worthAt 69 = .ok (.iload 6, 2) := by decide +kernel
theorem dX12_worthAt_71 : decode cX12_worthAt 71 = .ok (.iload 7, 2) := by decide +kernel
theorem dX12_worthAt_73 : decode cX12_worthAt 73 = .ok (.iconst 3, 1) := by decide +kernel
theorem dX12_worthAt_74 : decode cX12_worthAt 74 = .ok (.idiv, 1) := by decide +kernel
theorem dX12_worthAt_75 : decode cX12_worthAt 75 = .ok (.iadd, 1) := by decide +kernel
theorem dX12_worthAt_76 : decode cX12_worthAt 76 = .ok (.i2l, 1) := by decide +kernel
theorem dX12_worthAt_77 : decode cX12_worthAt 77 = .ok (.lconst 0, 1) := by decide +kernel
theorem dX12_worthAt_78 : decode cX12_worthAt 78 = .ok (.ldc2_w 440, 3) := by decide +kernel
theorem dX12_worthAt_81 : decode cX12_worthAt 81 = .ok (.invokestatic 175, 3) := by decide +kernel
theorem dX12_worthAt_84 : decode cX12_worthAt 84 = .ok (.ifCond .eq 7, 3) := by decide +kernel
theorem dX12_worthAt_87 : decode cX12_worthAt 87 = .ok (.iconst 1, 1) := by decide +kernel
theorem dX12_worthAt_88 : decode cX12_worthAt 88 = .ok (.goto 4, 3) := by decide +kernel
theorem dX12_worthAt_91 : decode cX12_worthAt 91 = .ok (.iconst 0, 1) := by decide +kernel
theorem dX12_worthAt_92 : decode cX12_worthAt 92 = .ok (.istore 8, 2) := by decide +kernel
theorem dX12_worthAt_94 : decode cX12_worthAt 94 = .ok (.iload 4, 2) := by decide +kernel
theorem dX12_worthAt_96 : decode cX12_worthAt 96 = .ok (.iload 8, 2) := by decide +kernel
theorem dX12_worthAt_98 : decode cX12_worthAt 98 = .ok (.ifCond .eq 34, 3) := by decide +kernel
theorem dX12_worthAt_101 : decode cX12_worthAt 101 = .ok (.aload_n 0, 1) := by decide +kernel
theorem dX12_worthAt_102 : decode cX12_worthAt 102 = .ok (.getfield 118, 3) := by decide +kernel
theorem dX12_worthAt_105 : decode cX12_worthAt 105 = .ok (.bipush 64, 2) := by decide +kernel
theorem dX12_worthAt_107 : decode cX12_worthAt 107 = .ok (.iload_n 2, 1) := by decide +kernel
theorem dX12_worthAt_108 : decode cX12_worthAt 108 = .ok (.imul, 1) := by decide +kernel
theorem dX12_worthAt_109 : decode cX12_worthAt 109 = .ok (.bipush 8, 2) := by decide +kernel
theorem dX12_worthAt_111 : decode cX12_worthAt 111 = .ok (.iload 6, 2) := by decide +kernel
theorem dX12_worthAt_113 : decode cX12_worthAt 113 = .ok (.iload 7, 2) := by decide +kernel
theorem dX12_worthAt_115 : decode cX12_worthAt 115 = .ok (.iconst 3, 1) := by decide +kernel
theorem dX12_worthAt_116 : decode cX12_worthAt 116 = .ok (.idiv, 1) := by decide +kernel
theorem dX12_worthAt_117 : decode cX12_worthAt 117 = .ok (.iadd, 1) := by decide +kernel
theorem dX12_worthAt_118 : decode cX12_worthAt 118 = .ok (.imul, 1) := by decide +kernel
theorem dX12_worthAt_119 : decode cX12_worthAt 119 = .ok (.iadd, 1) := by decide +kernel
theorem dX12_worthAt_120 : decode cX12_worthAt 120 = .ok (.iload 5, 2) := by decide +kernel
theorem dX12_worthAt_122 : decode cX12_worthAt 122 = .ok (.iadd, 1) := by decide +kernel
theorem dX12_worthAt_123 : decode cX12_worthAt 123 = .ok (.iload 7, 2) := by decide +kernel
theorem dX12_worthAt_125 : decode cX12_worthAt 125 = .ok (.iconst 3, 1) := by decide +kernel
theorem dX12_worthAt_126 : decode cX12_worthAt 126 = .ok (.irem, 1) := by decide +kernel
theorem dX12_worthAt_127 : decode cX12_worthAt 127 = .ok (.iadd, 1) := by decide +kernel
theorem dX12_worthAt_128 : decode cX12_worthAt 128 = .ok (.iaload, 1) := by decide +kernel
theorem dX12_worthAt_129 : decode cX12_worthAt 129 = .ok (.goto 4, 3) := by decide +kernel
theorem dX12_worthAt_132 : decode cX12_worthAt 132 = .ok (.iconst 0, 1) := by decide +kernel
theorem dX12_worthAt_133 : decode cX12_worthAt 133 = .ok (.iadd, 1) := by decide +kernel
theorem dX12_worthAt_134 : decode cX12_worthAt 134 = .ok (.istore 4, 2) := by decide +kernel
theorem dX12_worthAt_136 : decode cX12_worthAt 136 = .ok (.iinc 7 1, 3) := by decide +kernel
theorem dX12_worthAt_139 : decode cX12_worthAt 139 = .ok (.goto (-121), 3) := by decide +kernel
theorem dX12_worthAt_142 : decode cX12_worthAt 142 = .ok (.iload 4, 2) := by decide +kernel
theorem dX12_worthAt_144 : decode cX12_worthAt 144 = .ok (.ireturn, 1) := by decide +kernel
def w_X12_worthAt (a0 a1 a2 : Int) (X : XT) (Q : Int → Prop) : Prop :=
  (0 ≤ a2 ∧ a2 ≤ 2147483647) ∧ ∃ (I4 : Int → Int → Prop) (m5 : Int → Int → Nat), I4 0 0 ∧ ∀ (x2 : Int) (x3 : Int), I4 x2 x3 → R32 x3 ∧ (9 ≤ x3 → Q x2) ∧ (¬ 9 ≤ x3 → (0 ≤ x3) ∧ (0 ≤ a0 ∧ a0 ≤ 4) ∧ ∀ J18 : Int → Prop, (∀ (v17 : Int), (∀ J20 : Int → Prop, (∀ (v19 : Int), (I4 (x2 + v19) (x3 + 1) ∧ m5 (x2 + v19) (x3 + 1) < m5 x2 x3) → J20 v19) → R32 v17 ∧ (v17 = 0 → J20 0) ∧ (¬ v17 = 0 → (0 ≤ ((((64 * a1) + (8 * ((a2 / 24 - 8) + (x3 / 3)))) + (a2 % 24 - 8)) + (x3 % 3)) ∧ ((((64 * a1) + (8 * ((a2 / 24 - 8) + (x3 / 3)))) + (a2 % 24 - 8)) + (x3 % 3)) < 768) ∧ J20 (X 99 ((((64 * a1) + (8 * ((a2 / 24 - 8) + (x3 / 3)))) + (a2 % 24 - 8)) + (x3 % 3))))) → J18 v17) → R32 (x3 % 3) ∧ R32 (X 79 (15 + 5 * a0 + 0)) ∧ ((X 79 (15 + 5 * a0 + 0)) ≤ (x3 % 3) → J18 0) ∧ (¬ (X 79 (15 + 5 * a0 + 0)) ≤ (x3 % 3) → R32 (x3 / 3) ∧ R32 (X 79 (15 + 5 * a0 + 1)) ∧ ((X 79 (15 + 5 * a0 + 1)) ≤ (x3 / 3) → J18 0) ∧ (¬ (X 79 (15 + 5 * a0 + 1)) ≤ (x3 / 3) → R32 ((a2 % 24 - 8) + (x3 % 3)) ∧ (¬ (0 ≤ ((a2 % 24 - 8) + (x3 % 3)) ∧ ((a2 % 24 - 8) + (x3 % 3)) ≤ 7) → J18 0) ∧ ((0 ≤ ((a2 % 24 - 8) + (x3 % 3)) ∧ ((a2 % 24 - 8) + (x3 % 3)) ≤ 7) → R32 ((a2 / 24 - 8) + (x3 / 3)) ∧ (¬ (0 ≤ ((a2 / 24 - 8) + (x3 / 3)) ∧ ((a2 / 24 - 8) + (x3 / 3)) ≤ 7) → J18 0) ∧ ((0 ≤ ((a2 / 24 - 8) + (x3 / 3)) ∧ ((a2 / 24 - 8) + (x3 / 3)) ≤ 7) → J18 1)))))
set_option maxRecDepth 20000 in
theorem so_X12_worthAt {n : Nat} {h : Nat → sE} {X : XT} {a0 a1 a2 : Int} {Q : Int → Prop} (hn : 115 ≤ n) (hp : Pic X h) (w : w_X12_worthAt  a0 a1 a2 X Q) : Sp m_X12_worthAt 1 0 0 [.ref 77, .int (iI a0), .int (iI a1), .int (iI a2)] n h (pIr n h Q) := by
  unfold w_X12_worthAt at w
  refine Sp.ofV (by decide +kernel) (Nat.le_of_ble_eq_true rfl) ?_
  have hf : Fr h h := fun _ _ => rfl
  refine v_iconstI dX12_worthAt_0 ?_
  refine v_istore dX12_worthAt_1 (Nat.le_of_ble_eq_true rfl) ?_
  refine v_iload_n dX12_worthAt_3 rfl ?_
  obtain ⟨q1, w⟩ := w
  refine v_callSp dX12_worthAt_4 ml_X12_417 (sp_X12_xOf (a := a2) q1) rfl rfl (Nat.le_of_ble_eq_true rfl) (Nat.le_of_ble_eq_true rfl) (Nat.zero_le _) (Nat.zero_le _) ?_
  refine v_istore dX12_worthAt_7 (Nat.le_of_ble_eq_true rfl) ?_
  refine v_iload_n dX12_worthAt_9 rfl ?_
  refine v_callSp dX12_worthAt_10 ml_X12_420 (sp_X12_yOf (a := a2) q1) rfl rfl (Nat.le_of_ble_eq_true rfl) (Nat.le_of_ble_eq_true rfl) (Nat.zero_le _) (Nat.zero_le _) ?_
  refine v_istore dX12_worthAt_13 (Nat.le_of_ble_eq_true rfl) ?_
  refine v_iconstI dX12_worthAt_15 ?_
  refine v_istore dX12_worthAt_16 (Nat.le_of_ble_eq_true rfl) ?_
  refine v_pick [4, 5, 6, 3, 2, 1, 0] rfl ?_
  obtain ⟨I4, m5, wi8, wl7⟩ := w
  have hL9 : ∀ (N12 : Nat) (x2 : Int) (x3 : Int), m5 x2 x3 < N12 → I4 x2 x3 → V (m_X12_worthAt, 1, 0, 0, n, pIr n h Q, s_G0) 0 0 n h 18 [(0, .ref 77), (1, .int (iI a0)), (2, .int (iI a1)), (4, .int (iI x2)), (5, .int (iI (a2 % 24 - 8))), (6, .int (iI (a2 / 24 - 8))), (7, .int (iI x3))] [] := by
    intro N12
    induction N12 with
    | zero => intro x2 x3  hm10; exact absurd hm10 (Nat.not_lt_zero _)
    | succ N12 ih6 =>
      intro x2 x3  hm10 hI11
      have w := wl7 x2 x3 hI11
      refine v_iload dX12_worthAt_18 rfl ?_
      refine v_bipushI dX12_worthAt_20 rfl ?_
      obtain ⟨q13, w⟩ := w
      refine v_icmp_geI (tgt := 142) dX12_worthAt_22 (by decide) q13.1 q13.2 (by decide) (by decide) (fun c14 => ?_) (fun c14 => ?_)
      · replace w := w.1 c14
        refine v_iload dX12_worthAt_142 rfl ?_
        exact v_iret dX12_worthAt_144 rfl (Nat.zero_le _) (Nat.zero_le _) ⟨rfl, rfl, _, rfl, w⟩
      · replace w := w.2 c14
        refine v_iload dX12_worthAt_25 rfl ?_
        refine v_iconstI dX12_worthAt_27 ?_
        obtain ⟨q15, w⟩ := w
        refine v_iremI dX12_worthAt_28 q15 q13.2 (by decide) (by decide) ?_
        refine v_aload_n dX12_worthAt_29 rfl ?_
        refine v_iload_n dX12_worthAt_30 rfl ?_
        refine v_iconstI dX12_worthAt_31 ?_
        obtain ⟨q16, w⟩ := w
        refine v_callVp dX12_worthAt_32 ml_X12_224 (sv_X12_ofCloud (a := a0) (b := 0) (g77 := X 77) (g79 := X 79) hn (hp 77 (by decide)) (hp 79 (by decide)) q16 (by decide)) ((hp 77 (by decide)).trans (ent_77 _)) rfl (s_lt hn rfl) rfl rfl (Nat.le_of_ble_eq_true rfl) (Nat.le_of_ble_eq_true rfl) (Nat.zero_le _) (Nat.zero_le _) ?_
        replace w := w (fun (v17 : Int) => V (m_X12_worthAt, 1, 0, 0, n, pIr n h Q, s_G0) 0 0 n h 92 [(0, .ref 77), (1, .int (iI a0)), (2, .int (iI a1)), (4, .int (iI x2)), (5, .int (iI (a2 % 24 - 8))), (6, .int (iI (a2 / 24 - 8))), (7, .int (iI x3))] [.int (iI v17)]) (by
          intro v17 w
          refine v_istore dX12_worthAt_92 (Nat.le_of_ble_eq_true rfl) ?_
          refine v_iload dX12_worthAt_94 rfl ?_
          refine v_iload dX12_worthAt_96 rfl ?_
          replace w := w (fun (v19 : Int) => V (m_X12_worthAt, 1, 0, 0, n, pIr n h Q, s_G0) 0 0 n h 133 [(0, .ref 77), (1, .int (iI a0)), (2, .int (iI a1)), (5, .int (iI (a2 % 24 - 8))), (6, .int (iI (a2 / 24 - 8))), (7, .int (iI x3))] [.int (iI v19), .int (iI x2)]) (by
            intro v19 w
            refine v_iaddI dX12_worthAt_133 ?_
            refine v_istore dX12_worthAt_134 (Nat.le_of_ble_eq_true rfl) ?_
            refine v_iincI dX12_worthAt_136 rfl (Nat.le_of_ble_eq_true rfl) ?_
            refine v_goto (tgt := 18) dX12_worthAt_139 (by decide) ?_
            refine v_pick [2, 3, 4, 1, 5, 6, 0] rfl ?_
            exact ih6 _ _ (Nat.lt_of_lt_of_le w.2 (Nat.le_of_lt_succ hm10)) w.1
          )
          obtain ⟨q21, w⟩ := w
          refine v_if_eqI (tgt := 132) dX12_worthAt_98 (by decide) q21.1 q21.2 (fun c22 => ?_) (fun c22 => ?_)
          · replace w := w.1 c22
            refine v_iconstI dX12_worthAt_132 ?_
            refine v_pick [1, 2, 3, 5, 6, 7] rfl ?_
            exact w
          · replace w := w.2 c22
            refine v_aload_n dX12_worthAt_101 rfl ?_
            refine v_get dX12_worthAt_102 fl_X12_118 ((hp 77 (by decide)).trans (ent_77 _)) rfl (s_lt hn rfl) ?_
            refine v_bipushI dX12_worthAt_105 rfl ?_
            refine v_iload_n dX12_worthAt_107 rfl ?_
            refine v_imulI dX12_worthAt_108 ?_
            refine v_bipushI dX12_worthAt_109 rfl ?_
            refine v_iload dX12_worthAt_111 rfl ?_
            refine v_iload dX12_worthAt_113 rfl ?_
            refine v_iconstI dX12_worthAt_115 ?_
            refine v_idivI dX12_worthAt_116 q15 q13.2 (by decide) (by decide) ?_
            refine v_iaddI dX12_worthAt_117 ?_
            refine v_imulI dX12_worthAt_118 ?_
            refine v_iaddI dX12_worthAt_119 ?_
            refine v_iload dX12_worthAt_120 rfl ?_
            refine v_iaddI dX12_worthAt_122 ?_
            refine v_iload dX12_worthAt_123 rfl ?_
            refine v_iconstI dX12_worthAt_125 ?_
            refine v_iremI dX12_worthAt_126 q15 q13.2 (by decide) (by decide) ?_
            refine v_iaddI dX12_worthAt_127 ?_
            obtain ⟨q23, w⟩ := w
            refine v_ialdI dX12_worthAt_128 ((hp 99 (by decide)).trans (ent_99 _)) (s_lt hn rfl) q23.1 q23.2 (ix_le q23.2 (by decide)) ?_
            refine v_goto (tgt := 133) dX12_worthAt_129 (by decide) ?_
            refine v_pick [1, 2, 3, 5, 6, 7] rfl ?_
            exact w
        )
        obtain ⟨q24, q25, w⟩ := w
        refine v_icmp_geI (tgt := 91) dX12_worthAt_35 (by decide) q24.1 q24.2 q25.1 q25.2 (fun c26 => ?_) (fun c26 => ?_)
        · replace w := w.1 c26
          refine v_iconstI dX12_worthAt_91 ?_
          exact w
        · replace w := w.2 c26
          refine v_iload dX12_worthAt_38 rfl ?_
          refine v_iconstI dX12_worthAt_40 ?_
          refine v_idivI dX12_worthAt_41 q15 q13.2 (by decide) (by decide) ?_
          refine v_aload_n dX12_worthAt_42 rfl ?_
          refine v_iload_n dX12_worthAt_43 rfl ?_
          refine v_iconstI dX12_worthAt_44 ?_
          refine v_callVp dX12_worthAt_45 ml_X12_224 (sv_X12_ofCloud (a := a0) (b := 1) (g77 := X 77) (g79 := X 79) hn (hp 77 (by decide)) (hp 79 (by decide)) q16 (by decide)) ((hp 77 (by decide)).trans (ent_77 _)) rfl (s_lt hn rfl) rfl rfl (Nat.le_of_ble_eq_true rfl) (Nat.le_of_ble_eq_true rfl) (Nat.zero_le _) (Nat.zero_le _) ?_
          obtain ⟨q27, q28, w⟩ := w
          refine v_icmp_geI (tgt := 91) dX12_worthAt_48 (by decide) q27.1 q27.2 q28.1 q28.2 (fun c29 => ?_) (fun c29 => ?_)
          · replace w := w.1 c29
            refine v_iconstI dX12_worthAt_91 ?_
            exact w
          · replace w := w.2 c29
            refine v_iload dX12_worthAt_51 rfl ?_
            refine v_iload dX12_worthAt_53 rfl ?_
            refine v_iconstI dX12_worthAt_55 ?_
            refine v_iremI dX12_worthAt_56 q15 q13.2 (by decide) (by decide) ?_
            refine v_iaddI dX12_worthAt_57 ?_
            obtain ⟨q30, w⟩ := w
            refine v_i2lI dX12_worthAt_58 q30.1 q30.2 ?_
            refine v_lconstI (w := 0) dX12_worthAt_59 rfl ?_
            refine v_ldc2I 7 dX12_worthAt_60 k_X12_440 rfl ?_
            refine v_callSp dX12_worthAt_63 ml_X12_175 (sp_X12_in (v := ((a2 % 24 - 8) + (x3 % 3))) (lo := 0) (hi := 7) (r32_64 q30) (by decide) (by decide)) rfl rfl (Nat.le_of_ble_eq_true rfl) (Nat.le_of_ble_eq_true rfl) (Nat.zero_le _) (Nat.zero_le _) ?_
            refine v_ifeqB (tgt := 91) dX12_worthAt_66 (by decide) (fun c31 => ?_) (fun c31 => ?_)
            · replace w := w.1 c31
              refine v_iconstI dX12_worthAt_91 ?_
              exact w
            · replace w := w.2 c31
              refine v_iload dX12_worthAt_69 rfl ?_
              refine v_iload dX12_worthAt_71 rfl ?_
              refine v_iconstI dX12_worthAt_73 ?_
              refine v_idivI dX12_worthAt_74 q15 q13.2 (by decide) (by decide) ?_
              refine v_iaddI dX12_worthAt_75 ?_
              obtain ⟨q32, w⟩ := w
              refine v_i2lI dX12_worthAt_76 q32.1 q32.2 ?_
              refine v_lconstI (w := 0) dX12_worthAt_77 rfl ?_
              refine v_ldc2I 7 dX12_worthAt_78 k_X12_440 rfl ?_
              refine v_callSp dX12_worthAt_81 ml_X12_175 (sp_X12_in (v := ((a2 / 24 - 8) + (x3 / 3))) (lo := 0) (hi := 7) (r32_64 q32) (by decide) (by decide)) rfl rfl (Nat.le_of_ble_eq_true rfl) (Nat.le_of_ble_eq_true rfl) (Nat.zero_le _) (Nat.zero_le _) ?_
              refine v_ifeqB (tgt := 91) dX12_worthAt_84 (by decide) (fun c33 => ?_) (fun c33 => ?_)
              · replace w := w.1 c33
                refine v_iconstI dX12_worthAt_91 ?_
                exact w
              · replace w := w.2 c33
                refine v_iconstI dX12_worthAt_87 ?_
                refine v_goto (tgt := 92) dX12_worthAt_88 (by decide) ?_
                exact w
  exact hL9 _ _ _ (Nat.lt_succ_self _) wi8
theorem dX12_pastureBy_0 : decode cX12_pastureBy 0 = .ok (.aload_n 0, 1) := by decide +kernel
theorem dX12_pastureBy_1 : decode cX12_pastureBy 1 = .ok (.iload_n 1, 1) := by decide +kernel
theorem dX12_pastureBy_2 : decode cX12_pastureBy 2 = .ok (.iload_n 2, 1) := by decide +kernel
theorem dX12_pastureBy_3 : decode cX12_pastureBy 3 = .ok (.iload_n 3, 1) := by decide +kernel
theorem dX12_pastureBy_4 : decode cX12_pastureBy 4 = .ok (.iconst 0, 1) := by decide +kernel
theorem dX12_pastureBy_5 : decode cX12_pastureBy 5 = .ok (.iload 5, 2) := by decide +kernel
theorem dX12_pastureBy_7 : decode cX12_pastureBy 7 = .ok (.invokevirtual 508, 3) := by decide +kernel
theorem dX12_pastureBy_10 : decode cX12_pastureBy 10 = .ok (.istore 6, 2) := by decide +kernel
theorem dX12_pastureBy_12 : decode cX12_pastureBy 12 = .ok (.iload 5, 2) := by decide +kernel
theorem dX12_pastureBy_14 : decode cX12_pastureBy 14 = .ok (.iconst 4, 1) := by decide +kernel
theorem dX12_pastureBy_15 : decode cX12_pastureBy 15 = .ok (.if_icmp .ge 10, 3) := by decide +kernel
theorem dX12_pastureBy_18 : decode cX12_pastureBy 18 = .ok (.iload 4, 2) := by decide +kernel
theorem dX12_pastureBy_20 : decode cX12_pastureBy 20 = .ok (.iconst 1, 1) := by decide +kernel
theorem dX12_pastureBy_21 : decode cX12_pastureBy 21 = .ok (.isub, 1) := by decide +kernel
theorem dX12_pastureBy_22 : decode cX12_pastureBy 22 = .ok (.goto 5, 3) := by decide +kernel
theorem dX12_pastureBy_25 : decode cX12_pastureBy 25 = .ok (.iload 4, 2) := by decide +kernel
theorem dX12_pastureBy_27 : decode cX12_pastureBy 27 = .ok (.istore 7, 2) := by decide +kernel
theorem dX12_pastureBy_29 : decode cX12_pastureBy 29 = .ok (.iload 7, 2) := by decide +kernel
theorem dX12_pastureBy_31 : decode cX12_pastureBy 31 = .ok (.ifCond .ge 7, 3) := by decide +kernel
theorem dX12_pastureBy_34 : decode cX12_pastureBy 34 = .ok (.iconst (-1), 1) := by decide +kernel
theorem dX12_pastureBy_35 : decode cX12_pastureBy 35 = .ok (.goto 34, 3) := by decide +kernel
theorem dX12_pastureBy_38 : decode cX12_pastureBy 38 = .ok (.iload 6, 2) := by decide +kernel
theorem dX12_pastureBy_40 : decode cX12_pastureBy 40 = .ok (.iconst (-1), 1) := by decide +kernel
theorem dX12_pastureBy_41 : decode cX12_pastureBy 41 = .ok (.if_icmp .ne 7, 3) := by decide +kernel
theorem dX12_pastureBy_44 : decode cX12_pastureBy 44 = .ok (.iconst 0, 1) := by decide +kernel
theorem dX12_pastureBy_45 : decode cX12_pastureBy 45 = .ok (.goto 24, 3) := by decide +kernel
theorem dX12_pastureBy_48 : decode cX12_pastureBy 48 = .ok (.aload_n 0, 1) := by decide +kernel
theorem dX12_pastureBy_49 : decode cX12_pastureBy 49 = .ok (.getfield 115, 3) := by decide +kernel
theorem dX12_pastureBy_52 : decode cX12_pastureBy 52 = .ok (.bipush 12, 2) := by decide +kernel
theorem dX12_pastureBy_54 : decode cX12_pastureBy 54 = .ok (.sipush 576, 3) := by decide +kernel
theorem dX12_pastureBy_57 : decode cX12_pastureBy 57 = .ok (.iload_n 2, 1) := by decide +kernel
theorem dX12_pastureBy_58 : decode cX12_pastureBy 58 = .ok (.iconst 1, 1) := by decide +kernel
theorem dX12_pastureBy_59 : decode cX12_pastureBy 59 = .ok (.iadd, 1) := by decide +kernel
theorem dX12_pastureBy_60 : decode cX12_pastureBy 60 = .ok (.imul, 1) := by decide +kernel
theorem dX12_pastureBy_61 : decode cX12_pastureBy 61 = .ok (.iload 6, 2) := by decide +kernel
theorem dX12_pastureBy_63 : decode cX12_pastureBy 63 = .ok (.iadd, 1) := by decide +kernel
theorem dX12_pastureBy_64 : decode cX12_pastureBy 64 = .ok (.imul, 1) := by decide +kernel
theorem dX12_pastureBy_65 : decode cX12_pastureBy 65 = .ok (.iload 7, 2) := by decide +kernel
theorem dX12_pastureBy_67 : decode cX12_pastureBy 67 = .ok (.iadd, 1) := by decide +kernel
theorem dX12_pastureBy_68 : decode cX12_pastureBy 68 = .ok (.iaload, 1) := by decide +kernel
theorem dX12_pastureBy_69 : decode cX12_pastureBy 69 = .ok (.ireturn, 1) := by decide +kernel
def w_X12_pastureBy (a0 a1 a2 a3 a4 : Int) (X : XT) (Q : Int → Prop) : Prop :=
  w_X12_nextOf  a0 a1 a2 0 a4 X (fun (v1 : Int) => ∀ J8 : Int → Prop, (∀ (v7 : Int), (R32 v7 ∧ (0 ≤ v7 → R32 v1 ∧ (¬ v1 = (-1) → (0 ≤ ((12 * ((576 * (a1 + 1)) + v1)) + v7) ∧ ((12 * ((576 * (a1 + 1)) + v1)) + v7) < 82944) ∧ Q (X 98 ((12 * ((576 * (a1 + 1)) + v1)) + v7))) ∧ (v1 = (-1) → Q 0)) ∧ (¬ 0 ≤ v7 → Q (-1))) → J8 v7) → R32 a4 ∧ (4 ≤ a4 → J8 a3) ∧ (¬ 4 ≤ a4 → J8 (a3 - 1)))
set_option maxRecDepth 20000 in
theorem so_X12_pastureBy {n : Nat} {h : Nat → sE} {X : XT} {a0 a1 a2 a3 a4 : Int} {Q : Int → Prop} (hn : 115 ≤ n) (hp : Pic X h) (w : w_X12_pastureBy  a0 a1 a2 a3 a4 X Q) : Sp m_X12_pastureBy 5 0 0 [.ref 77, .int (iI a0), .int (iI a1), .int (iI a2), .int (iI a3), .int (iI a4)] n h (pIr n h Q) := by
  unfold w_X12_pastureBy at w
  refine Sp.ofV (by decide +kernel) (Nat.le_of_ble_eq_true rfl) ?_
  have hf : Fr h h := fun _ _ => rfl
  refine v_aload_n dX12_pastureBy_0 rfl ?_
  refine v_iload_n dX12_pastureBy_1 rfl ?_
  refine v_iload_n dX12_pastureBy_2 rfl ?_
  refine v_iload_n dX12_pastureBy_3 rfl ?_
  refine v_iconstI dX12_pastureBy_4 ?_
  refine v_iload dX12_pastureBy_5 rfl ?_
  refine v_callVIr dX12_pastureBy_7 ml_X12_508 (so_X12_nextOf hn hp  w) ((hp 77 (by decide)).trans (ent_77 _)) rfl (s_lt hn rfl) rfl rfl (Nat.le_of_ble_eq_true rfl) (Nat.le_of_ble_eq_true rfl) (Nat.zero_le _) (Nat.zero_le _) (fun v1 w => ?_)
  refine v_istore dX12_pastureBy_10 (Nat.le_of_ble_eq_true rfl) ?_
  refine v_iload dX12_pastureBy_12 rfl ?_
  refine v_iconstI dX12_pastureBy_14 ?_
  replace w := w (fun (v7 : Int) => V (m_X12_pastureBy, 5, 0, 0, n, pIr n h Q, s_G0) 0 0 n h 27 [(0, .ref 77), (2, .int (iI a1)), (6, .int (iI v1))] [.int (iI v7)]) (by
    intro v7 w
    refine v_istore dX12_pastureBy_27 (Nat.le_of_ble_eq_true rfl) ?_
    refine v_iload dX12_pastureBy_29 rfl ?_
    obtain ⟨q9, w⟩ := w
    refine v_if_geI (tgt := 38) dX12_pastureBy_31 (by decide) q9.1 q9.2 (fun c10 => ?_) (fun c10 => ?_)
    · replace w := w.1 c10
      refine v_iload dX12_pastureBy_38 rfl ?_
      refine v_iconstI dX12_pastureBy_40 ?_
      obtain ⟨q11, w⟩ := w
      refine v_icmp_neI (tgt := 48) dX12_pastureBy_41 (by decide) q11.1 q11.2 (by decide) (by decide) (fun c12 => ?_) (fun c12 => ?_)
      · replace w := w.1 c12
        refine v_aload_n dX12_pastureBy_48 rfl ?_
        refine v_get dX12_pastureBy_49 fl_X12_115 ((hp 77 (by decide)).trans (ent_77 _)) rfl (s_lt hn rfl) ?_
        refine v_bipushI dX12_pastureBy_52 rfl ?_
        refine v_sipushI dX12_pastureBy_54 rfl ?_
        refine v_iload_n dX12_pastureBy_57 rfl ?_
        refine v_iconstI dX12_pastureBy_58 ?_
        refine v_iaddI dX12_pastureBy_59 ?_
        refine v_imulI dX12_pastureBy_60 ?_
        refine v_iload dX12_pastureBy_61 rfl ?_
        refine v_iaddI dX12_pastureBy_63 ?_
        refine v_imulI dX12_pastureBy_64 ?_
        refine v_iload dX12_pastureBy_65 rfl ?_
        refine v_iaddI dX12_pastureBy_67 ?_
        obtain ⟨q13, w⟩ := w
        refine v_ialdI dX12_pastureBy_68 ((hp 98 (by decide)).trans (ent_98 _)) (s_lt hn rfl) q13.1 q13.2 (ix_le q13.2 (by decide)) ?_
        exact v_iret dX12_pastureBy_69 rfl (Nat.zero_le _) (Nat.zero_le _) ⟨rfl, rfl, _, rfl, w⟩
      · replace w := w.2 c12
        refine v_iconstI dX12_pastureBy_44 ?_
        refine v_goto (tgt := 69) dX12_pastureBy_45 (by decide) ?_
        exact v_iret dX12_pastureBy_69 rfl (Nat.zero_le _) (Nat.zero_le _) ⟨rfl, rfl, _, rfl, w⟩
    · replace w := w.2 c10
      refine v_iconstI dX12_pastureBy_34 ?_
      refine v_goto (tgt := 69) dX12_pastureBy_35 (by decide) ?_
      exact v_iret dX12_pastureBy_69 rfl (Nat.zero_le _) (Nat.zero_le _) ⟨rfl, rfl, _, rfl, w⟩
  )
  obtain ⟨q14, w⟩ := w
  refine v_icmp_geI (tgt := 25) dX12_pastureBy_15 (by decide) q14.1 q14.2 (by decide) (by decide) (fun c15 => ?_) (fun c15 => ?_)
  · replace w := w.1 c15
    refine v_iload dX12_pastureBy_25 rfl ?_
    refine v_pick [1, 3, 0] rfl ?_
    exact w
  · replace w := w.2 c15
    refine v_iload dX12_pastureBy_18 rfl ?_
    refine v_iconstI dX12_pastureBy_20 ?_
    refine v_isubI dX12_pastureBy_21 ?_
    refine v_goto (tgt := 27) dX12_pastureBy_22 (by decide) ?_
    refine v_pick [1, 3, 0] rfl ?_
    exact w
theorem dX12_findPasture_0 : decode cX12_findPasture 0 = .ok (.iconst 0, 1) := by decide +kernel
theorem dX12_findPasture_1 : decode cX12_findPasture 1 = .ok (.istore_n 2, 1) := by decide +kernel
theorem dX12_findPasture_2 : decode cX12_findPasture 2 = .ok (.iload_n 2, 1) := by decide +kernel
theorem dX12_findPasture_3 : decode cX12_findPasture 3 = .ok (.sipush 768, 3) := by decide +kernel
theorem dX12_findPasture_6 : decode cX12_findPasture 6 = .ok (.if_icmp .ge 30, 3) := by decide +kernel
theorem dX12_findPasture_9 : decode cX12_findPasture 9 = .ok (.aload_n 0, 1) := by decide +kernel
theorem dX12_findPasture_10 : decode cX12_findPasture 10 = .ok (.getfield 118, 3) := by decide +kernel
theorem dX12_findPasture_13 : decode cX12_findPasture 13 = .ok (.iload_n 2, 1) := by decide +kernel
theorem dX12_findPasture_14 : decode cX12_findPasture 14 = .ok (.aload_n 0, 1) := by decide +kernel
theorem dX12_findPasture_15 : decode cX12_findPasture 15 = .ok (.iconst 2, 1) := by decide +kernel
theorem dX12_findPasture_16 : decode cX12_findPasture 16 = .ok (.iload_n 2, 1) := by decide +kernel
theorem dX12_findPasture_17 : decode cX12_findPasture 17 = .ok (.bipush 64, 2) := by decide +kernel
theorem dX12_findPasture_19 : decode cX12_findPasture 19 = .ok (.irem, 1) := by decide +kernel
theorem dX12_findPasture_20 : decode cX12_findPasture 20 = .ok (.iload_n 2, 1) := by decide +kernel
theorem dX12_findPasture_21 : decode cX12_findPasture 21 = .ok (.bipush 64, 2) := by decide +kernel
theorem dX12_findPasture_23 : decode cX12_findPasture 23 = .ok (.idiv, 1) := by decide +kernel
theorem dX12_findPasture_24 : decode cX12_findPasture 24 = .ok (.iconst (-1), 1) := by decide +kernel
theorem dX12_findPasture_25 : decode cX12_findPasture 25 = .ok (.lconst 1, 1) := by decide +kernel
theorem dX12_findPasture_26 : decode cX12_findPasture 26 = .ok (.invokevirtual 486, 3) := by decide +kernel
theorem dX12_findPasture_29 : decode cX12_findPasture 29 = .ok (.iastore, 1) := by decide +kernel
theorem dX12_findPasture_30 : decode cX12_findPasture 30 = .ok (.iinc 2 1, 3) := by decide +kernel
theorem dX12_findPasture_33 : decode cX12_findPasture 33 = .ok (.goto (-31), 3) := by decide +kernel
theorem dX12_findPasture_36 : decode cX12_findPasture 36 = .ok (.bipush 11, 2) := by decide +kernel
theorem dX12_findPasture_38 : decode cX12_findPasture 38 = .ok (.istore_n 2, 1) := by decide +kernel
theorem dX12_findPasture_39 : decode cX12_findPasture 39 = .ok (.iload_n 2, 1) := by decide +kernel
theorem dX12_findPasture_40 : decode cX12_findPasture 40 = .ok (.ifCond .lt 125, 3) := by decide +kernel
theorem dX12_findPasture_43 : decode cX12_findPasture 43 = .ok (.iconst 0, 1) := by decide +kernel
theorem dX12_findPasture_44 : decode cX12_findPasture 44 = .ok (.istore_n 3, 1) := by decide +kernel
theorem dX12_findPasture_45 : decode cX12_findPasture 45 = .ok (.iload_n 3, 1) := by decide +kernel
theorem dX12_findPasture_46 : decode cX12_findPasture 46 = .ok (.sipush 576, 3) := by decide +kernel
theorem dX12_findPasture_49 : decode cX12_findPasture 49 = .ok (.if_icmp .ge 110, 3) := by decide +kernel
theorem dX12_findPasture_52 : decode cX12_findPasture 52 = .ok (.aload_n 0, 1) := by decide +kernel
theorem dX12_findPasture_53 : decode cX12_findPasture 53 = .ok (.iload_n 1, 1) := by decide +kernel
theorem dX12_findPasture_54 : decode cX12_findPasture 54 = .ok (.iload_n 2, 1) := by decide +kernel
theorem dX12_findPasture_55 : decode cX12_findPasture 55 = .ok (.iload_n 3, 1) := by decide +kernel
theorem dX12_findPasture_56 : decode cX12_findPasture 56 = .ok (.invokevirtual 522, 3) := by decide +kernel
theorem dX12_findPasture_59 : decode cX12_findPasture 59 = .ok (.istore 4, 2) := by decide +kernel
theorem dX12_findPasture_61 : decode cX12_findPasture 61 = .ok (.iconst 0, 1) := by decide +kernel
theorem dX12_findPasture_62 : decode cX12_findPasture 62 = .ok (.istore 5, 2) := by decide +kernel
theorem dX12_findPasture_64 : decode cX12_findPasture 64 = .ok (.iload 5, 2) := by decide +kernel
theorem dX12_findPasture_66 : decode cX12_findPasture 66 = .ok (.bipush 12, 2) := by decide +kernel
theorem dX12_findPasture_68 : decode cX12_findPasture 68 = .ok (.if_icmp .ge 85, 3) := by decide +kernel
theorem dX12_findPasture_71 : decode cX12_findPasture 71 = .ok (.iconst 0, 1) := by decide +kernel
theorem dX12_findPasture_72 : decode cX12_findPasture 72 = .ok (.istore 6, 2) := by decide +kernel
theorem dX12_findPasture_74 : decode cX12_findPasture 74 = .ok (.iconst 0, 1) := by decide +kernel
theorem dX12_findPasture_75 : decode cX12_findPasture 75 = .ok (.istore 7, 2) := by decide +kernel
theorem dX12_findPasture_77 : decode cX12_findPasture 77 = .ok (.iload 7, 2) := by decide +kernel
theorem dX12_findPasture_79 : decode cX12_findPasture 79 = .ok (.iconst 5, 1) := by decide +kernel
theorem dX12_findPasture_80 : decode cX12_findPasture 80 = .ok (.if_icmp .ge 44, 3) := by decide +kernel
theorem dX12_findPasture_83 : decode cX12_findPasture 83 = .ok (.iload_n 2, 1) := by decide +kernel
theorem dX12_findPasture_84 : decode cX12_findPasture 84 = .ok (.bipush 11, 2) := by decide +kernel
theorem dX12_findPasture_86 : decode cX12_findPasture 86 = .ok (.if_icmp .ge 38, 3) := by decide +kernel
theorem dX12_findPasture_89 : decode cX12_findPasture 89 = .ok (.aload_n 0, 1) := by decide +kernel
theorem dX12_findPasture_90 : decode cX12_findPasture 90 = .ok (.iload_n 1, 1) := by decide +kernel
theorem dX12_findPasture_91 : decode cX12_findPasture 91 = .ok (.iload_n 2, 1) := by decide +kernel
theorem dX12_findPasture_92 : decode cX12_findPasture 92 = .ok (.iload_n 3, 1) := by decide +kernel
theorem dX12_findPasture_93 : decode cX12_findPasture 93 = .ok (.iload 5, 2) := by decide +kernel
theorem dX12_findPasture_95 : decode cX12_findPasture 95 = .ok (.iload 7, 2) := by decide +kernel
theorem dX12_findPasture_97 : decode cX12_findPasture 97 = .ok (.invokevirtual 525, 3) := by decide +kernel
theorem dX12_findPasture_100 : decode cX12_findPasture 100 = .ok (.istore 8, 2) := by decide +kernel
theorem dX12_findPasture_102 : decode cX12_findPasture 102 = .ok (.iload 8, 2) := by decide +kernel
theorem dX12_findPasture_104 : decode cX12_findPasture 104 = .ok (.iload 6, 2) := by decide +kernel
theorem dX12_findPasture_106 : decode cX12_findPasture 106 = .ok (.if_icmp .le 8, 3) := by decide +kernel
theorem dX12_findPasture_109 : decode cX12_findPasture 109 = .ok (.iload 8, 2) := by decide +kernel
theorem dX12_findPasture_111 : decode cX12_findPasture 111 = .ok (.goto 5, 3) := by decide +kernel
theorem dX12_findPasture_114 : decode cX12_findPasture 114 = .ok (.iload 6, 2) := by decide +kernel
theorem dX12_findPasture_116 : decode cX12_findPasture 116 = .ok (.istore 6, 2) := by decide +kernel
theorem dX12_findPasture_118 : decode cX12_findPasture 118 = .ok (.iinc 7 1, 3) := by decide +kernel
theorem dX12_findPasture_121 : decode cX12_findPasture 121 = .ok (.goto (-44), 3) := by decide +kernel
theorem dX12_findPasture_124 : decode cX12_findPasture 124 = .ok (.aload_n 0, 1) := by decide +kernel
theorem dX12_findPasture_125 : decode cX12_findPasture 125 = .ok (.getfield 115, 3) := by decide +kernel
theorem dX12_findPasture_128 : decode cX12_findPasture 128 = .ok (.bipush 12, 2) := by decide +kernel
theorem dX12_findPasture_130 : decode cX12_findPasture 130 = .ok (.sipush 576, 3) := by decide +kernel
theorem dX12_findPasture_133 : decode cX12_findPasture 133 = .ok (.iload_n 2, 1) := by decide +kernel
theorem dX12_findPasture_134 : decode cX12_findPasture 134 = .ok (.imul, 1) := by decide +kernel
theorem dX12_findPasture_135 : decode cX12_findPasture 135 = .ok (.iload_n 3, 1) := by decide +kernel
theorem dX12_findPasture_136 : decode cX12_findPasture 136 = .ok (.iadd, 1) := by decide +kernel
theorem dX12_findPasture_137 : decode cX12_findPasture 137 = .ok (.imul, 1) := by decide +kernel
theorem dX12_findPasture_138 : decode cX12_findPasture 138 = .ok (.iload 5, 2) := by decide +kernel
theorem dX12_findPasture_140 : decode cX12_findPasture 140 = .ok (.iadd, 1) := by decide +kernel
theorem dX12_findPasture_141 : decode cX12_findPasture 141 = .ok (.iload 4, 2) := by decide +kernel
theorem dX12_findPasture_143 : decode cX12_findPasture 143 = .ok (.iload 6, 2) := by decide +kernel
theorem dX12_findPasture_145 : decode cX12_findPasture 145 = .ok (.iadd, 1) := by decide +kernel
theorem dX12_findPasture_146 : decode cX12_findPasture 146 = .ok (.iastore, 1) := by decide +kernel
theorem dX12_findPasture_147 : decode cX12_findPasture 147 = .ok (.iinc 5 1, 3) := by decide +kernel
theorem dX12_findPasture_150 : decode cX12_findPasture 150 = .ok (.goto (-86), 3) := by decide +kernel
theorem dX12_findPasture_153 : decode cX12_findPasture 153 = .ok (.iinc 3 1, 3) := by decide +kernel
theorem dX12_findPasture_156 : decode cX12_findPasture 156 = .ok (.goto (-111), 3) := by decide +kernel
theorem dX12_findPasture_159 : decode cX12_findPasture 159 = .ok (.iinc 2 (-1), 3) := by decide +kernel
theorem dX12_findPasture_162 : decode cX12_findPasture 162 = .ok (.goto (-123), 3) := by decide +kernel
theorem dX12_findPasture_165 : decode cX12_findPasture 165 = .ok (.return_, 1) := by decide +kernel
def w_X12_findPasture (a0 : Int) (X : XT) (Q : XT → Prop) : Prop :=
  ∃ (I3 : Int → XT → Prop) (m4 : Int → XT → Nat), I3 0 X ∧ ∀ (x1 : Int) (X2 : XT), I3 x1 X2 → R32 x1 ∧ (768 ≤ x1 → ∃ (I19 : Int → XT → Prop) (m20 : Int → XT → Nat), I19 11 X2 ∧ ∀ (x17 : Int) (X18 : XT), I19 x17 X18 → R32 x17 ∧ (x17 < 0 → Q X18) ∧ (¬ x17 < 0 → ∃ (I35 : Int → XT → Prop) (m36 : Int → XT → Nat), I35 0 X18 ∧ ∀ (x33 : Int) (X34 : XT), I35 x33 X34 → R32 x33 ∧ (576 ≤ x33 → I19 (x17 + (-1)) X34 ∧ m20 (x17 + (-1)) X34 < m20 x17 X18) ∧ (¬ 576 ≤ x33 → w_X12_worthAt  a0 x17 x33 X34 (fun (v49 : Int) => ∃ (I57 : Int → XT → Prop) (m58 : Int → XT → Nat), I57 0 X34 ∧ ∀ (x55 : Int) (X56 : XT), I57 x55 X56 → R32 x55 ∧ (12 ≤ x55 → I35 (x33 + 1) X56 ∧ m36 (x33 + 1) X56 < m36 x33 X34) ∧ (¬ 12 ≤ x55 → ∃ (I73 : Int → Int → Prop) (m74 : Int → Int → Nat), I73 0 0 ∧ ∀ (x71 : Int) (x72 : Int), I73 x71 x72 → ∀ J82 : Prop, (((0 ≤ ((12 * ((576 * x17) + x33)) + x55) ∧ ((12 * ((576 * x17) + x33)) + x55) < 82944) ∧ I57 (x55 + 1) (x_st X56 98 ((12 * ((576 * x17) + x33)) + x55) (v49 + x71)) ∧ m58 (x55 + 1) (x_st X56 98 ((12 * ((576 * x17) + x33)) + x55) (v49 + x71)) < m58 x55 X56) → J82) → R32 x72 ∧ (5 ≤ x72 → J82 ) ∧ (¬ 5 ≤ x72 → (11 ≤ x17 → J82 ) ∧ (¬ 11 ≤ x17 → w_X12_pastureBy  a0 x17 x33 x55 x72 X56 (fun (v92 : Int) => R32 v92 ∧ R32 x71 ∧ (v92 ≤ x71 → I73 x71 (x72 + 1) ∧ m74 x71 (x72 + 1) < m74 x71 x72) ∧ (¬ v92 ≤ x71 → I73 v92 (x72 + 1) ∧ m74 v92 (x72 + 1) < m74 x71 x72))))))))) ∧ (¬ 768 ≤ x1 → (0 ≤ x1) ∧ w_X12_fieldTells  2 (x1 % 64) (x1 / 64) (-1) 1 X2 (fun (v102 : Int) (X103 : XT) => (0 ≤ x1 ∧ x1 < 768) ∧ I3 (x1 + 1) (x_st X103 99 x1 v102) ∧ m4 (x1 + 1) (x_st X103 99 x1 v102) < m4 x1 X2))
set_option maxRecDepth 20000 in
theorem so_X12_findPasture {n : Nat} {h : Nat → sE} {X : XT} {a0 : Int} {Q : XT → Prop} (hn : 115 ≤ n) (hp : Pic X h) (w : w_X12_findPasture  a0 X Q) : Sp m_X12_findPasture 7 0 0 [.ref 77, .int (iI a0)] n h (pVw n h Q) := by
  unfold w_X12_findPasture at w
  refine Sp.ofV (by decide +kernel) (Nat.le_of_ble_eq_true rfl) ?_
  have hf : Fr h h := fun _ _ => rfl
  refine v_iconstI dX12_findPasture_0 ?_
  refine v_istore_n dX12_findPasture_1 (Nat.le_of_ble_eq_true rfl) ?_
  refine v_pick [1, 2, 0] rfl ?_
  obtain ⟨I3, m4, wi7, wl6⟩ := w
  have hL8 : ∀ (N11 : Nat) (x1 : Int) (X2 : XT) (h12 : Nat → sE), m4 x1 X2 < N11 → I3 x1 X2 → Pic X2 h12 → Fr h h12 → V (m_X12_findPasture, 7, 0, 0, n, pVw n h Q, s_G0) 0 0 n h12 2 [(0, .ref 77), (1, .int (iI a0)), (2, .int (iI x1))] [] := by
    intro N11
    induction N11 with
    | zero => intro x1 X2 h12 hm9; exact absurd hm9 (Nat.not_lt_zero _)
    | succ N11 ih5 =>
      intro x1 X2 h12 hm9 hI10 hp13 hf14
      have w := wl6 x1 X2 hI10
      refine v_iload_n dX12_findPasture_2 rfl ?_
      refine v_sipushI dX12_findPasture_3 rfl ?_
      obtain ⟨q15, w⟩ := w
      refine v_icmp_geI (tgt := 36) dX12_findPasture_6 (by decide) q15.1 q15.2 (by decide) (by decide) (fun c16 => ?_) (fun c16 => ?_)
      · replace w := w.1 c16
        refine v_bipushI dX12_findPasture_36 rfl ?_
        refine v_istore_n dX12_findPasture_38 (Nat.le_of_ble_eq_true rfl) ?_
        refine v_pick [1, 2, 0] rfl ?_
        obtain ⟨I19, m20, wi23, wl22⟩ := w
        have hL24 : ∀ (N27 : Nat) (x17 : Int) (X18 : XT) (h28 : Nat → sE), m20 x17 X18 < N27 → I19 x17 X18 → Pic X18 h28 → Fr h h28 → V (m_X12_findPasture, 7, 0, 0, n, pVw n h Q, s_G0) 0 0 n h28 39 [(0, .ref 77), (1, .int (iI a0)), (2, .int (iI x17))] [] := by
          intro N27
          induction N27 with
          | zero => intro x17 X18 h28 hm25; exact absurd hm25 (Nat.not_lt_zero _)
          | succ N27 ih21 =>
            intro x17 X18 h28 hm25 hI26 hp29 hf30
            have w := wl22 x17 X18 hI26
            refine v_iload_n dX12_findPasture_39 rfl ?_
            obtain ⟨q31, w⟩ := w
            refine v_if_ltI (tgt := 165) dX12_findPasture_40 (by decide) q31.1 q31.2 (fun c32 => ?_) (fun c32 => ?_)
            · replace w := w.1 c32
              exact v_vret dX12_findPasture_165 rfl (Nat.zero_le _) (Nat.zero_le _) ⟨rfl, hf30, _, rfl, hp29, w⟩
            · replace w := w.2 c32
              refine v_iconstI dX12_findPasture_43 ?_
              refine v_istore_n dX12_findPasture_44 (Nat.le_of_ble_eq_true rfl) ?_
              refine v_pick [1, 2, 3, 0] rfl ?_
              obtain ⟨I35, m36, wi39, wl38⟩ := w
              have hL40 : ∀ (N43 : Nat) (x33 : Int) (X34 : XT) (h44 : Nat → sE), m36 x33 X34 < N43 → I35 x33 X34 → Pic X34 h44 → Fr h h44 → V (m_X12_findPasture, 7, 0, 0, n, pVw n h Q, s_G0) 0 0 n h44 45 [(0, .ref 77), (1, .int (iI a0)), (2, .int (iI x17)), (3, .int (iI x33))] [] := by
                intro N43
                induction N43 with
                | zero => intro x33 X34 h44 hm41; exact absurd hm41 (Nat.not_lt_zero _)
                | succ N43 ih37 =>
                  intro x33 X34 h44 hm41 hI42 hp45 hf46
                  have w := wl38 x33 X34 hI42
                  refine v_iload_n dX12_findPasture_45 rfl ?_
                  refine v_sipushI dX12_findPasture_46 rfl ?_
                  obtain ⟨q47, w⟩ := w
                  refine v_icmp_geI (tgt := 159) dX12_findPasture_49 (by decide) q47.1 q47.2 (by decide) (by decide) (fun c48 => ?_) (fun c48 => ?_)
                  · replace w := w.1 c48
                    refine v_iincI dX12_findPasture_159 rfl (Nat.le_of_ble_eq_true rfl) ?_
                    refine v_goto (tgt := 39) dX12_findPasture_162 (by decide) ?_
                    refine v_pick [1, 2, 0] rfl ?_
                    exact ih21 _ _ _ (Nat.lt_of_lt_of_le w.2 (Nat.le_of_lt_succ hm25)) w.1 hp45 hf46
                  · replace w := w.2 c48
                    refine v_aload_n dX12_findPasture_52 rfl ?_
                    refine v_iload_n dX12_findPasture_53 rfl ?_
                    refine v_iload_n dX12_findPasture_54 rfl ?_
                    refine v_iload_n dX12_findPasture_55 rfl ?_
                    refine v_callVIr dX12_findPasture_56 ml_X12_522 (so_X12_worthAt hn hp45  w) ((hp45 77 (by decide)).trans (ent_77 _)) rfl (s_lt hn rfl) rfl rfl (Nat.le_of_ble_eq_true rfl) (Nat.le_of_ble_eq_true rfl) (Nat.zero_le _) (Nat.zero_le _) (fun v49 w => ?_)
                    refine v_istore dX12_findPasture_59 (Nat.le_of_ble_eq_true rfl) ?_
                    refine v_iconstI dX12_findPasture_61 ?_
                    refine v_istore dX12_findPasture_62 (Nat.le_of_ble_eq_true rfl) ?_
                    refine v_pick [2, 3, 4, 5, 1, 0] rfl ?_
                    obtain ⟨I57, m58, wi61, wl60⟩ := w
                    have hL62 : ∀ (N65 : Nat) (x55 : Int) (X56 : XT) (h66 : Nat → sE), m58 x55 X56 < N65 → I57 x55 X56 → Pic X56 h66 → Fr h h66 → V (m_X12_findPasture, 7, 0, 0, n, pVw n h Q, s_G0) 0 0 n h66 64 [(0, .ref 77), (1, .int (iI a0)), (2, .int (iI x17)), (3, .int (iI x33)), (4, .int (iI v49)), (5, .int (iI x55))] [] := by
                      intro N65
                      induction N65 with
                      | zero => intro x55 X56 h66 hm63; exact absurd hm63 (Nat.not_lt_zero _)
                      | succ N65 ih59 =>
                        intro x55 X56 h66 hm63 hI64 hp67 hf68
                        have w := wl60 x55 X56 hI64
                        refine v_iload dX12_findPasture_64 rfl ?_
                        refine v_bipushI dX12_findPasture_66 rfl ?_
                        obtain ⟨q69, w⟩ := w
                        refine v_icmp_geI (tgt := 153) dX12_findPasture_68 (by decide) q69.1 q69.2 (by decide) (by decide) (fun c70 => ?_) (fun c70 => ?_)
                        · replace w := w.1 c70
                          refine v_iincI dX12_findPasture_153 rfl (Nat.le_of_ble_eq_true rfl) ?_
                          refine v_goto (tgt := 45) dX12_findPasture_156 (by decide) ?_
                          refine v_pick [1, 2, 3, 0] rfl ?_
                          exact ih37 _ _ _ (Nat.lt_of_lt_of_le w.2 (Nat.le_of_lt_succ hm41)) w.1 hp67 hf68
                        · replace w := w.2 c70
                          refine v_iconstI dX12_findPasture_71 ?_
                          refine v_istore dX12_findPasture_72 (Nat.le_of_ble_eq_true rfl) ?_
                          refine v_iconstI dX12_findPasture_74 ?_
                          refine v_istore dX12_findPasture_75 (Nat.le_of_ble_eq_true rfl) ?_
                          refine v_pick [2, 3, 4, 5, 6, 7, 1, 0] rfl ?_
                          obtain ⟨I73, m74, wi77, wl76⟩ := w
                          have hL78 : ∀ (N81 : Nat) (x71 : Int) (x72 : Int), m74 x71 x72 < N81 → I73 x71 x72 → V (m_X12_findPasture, 7, 0, 0, n, pVw n h Q, s_G0) 0 0 n h66 77 [(0, .ref 77), (1, .int (iI a0)), (2, .int (iI x17)), (3, .int (iI x33)), (4, .int (iI v49)), (5, .int (iI x55)), (6, .int (iI x71)), (7, .int (iI x72))] [] := by
                            intro N81
                            induction N81 with
                            | zero => intro x71 x72  hm79; exact absurd hm79 (Nat.not_lt_zero _)
                            | succ N81 ih75 =>
                              intro x71 x72  hm79 hI80
                              have w := wl76 x71 x72 hI80
                              refine v_iload dX12_findPasture_77 rfl ?_
                              refine v_iconstI dX12_findPasture_79 ?_
                              replace w := w (V (m_X12_findPasture, 7, 0, 0, n, pVw n h Q, s_G0) 0 0 n h66 124 [(0, .ref 77), (1, .int (iI a0)), (2, .int (iI x17)), (3, .int (iI x33)), (4, .int (iI v49)), (5, .int (iI x55)), (6, .int (iI x71))] []) (by
                                intro  w
                                refine v_aload_n dX12_findPasture_124 rfl ?_
                                refine v_get dX12_findPasture_125 fl_X12_115 ((hp67 77 (by decide)).trans (ent_77 _)) rfl (s_lt hn rfl) ?_
                                refine v_bipushI dX12_findPasture_128 rfl ?_
                                refine v_sipushI dX12_findPasture_130 rfl ?_
                                refine v_iload_n dX12_findPasture_133 rfl ?_
                                refine v_imulI dX12_findPasture_134 ?_
                                refine v_iload_n dX12_findPasture_135 rfl ?_
                                refine v_iaddI dX12_findPasture_136 ?_
                                refine v_imulI dX12_findPasture_137 ?_
                                refine v_iload dX12_findPasture_138 rfl ?_
                                refine v_iaddI dX12_findPasture_140 ?_
                                refine v_iload dX12_findPasture_141 rfl ?_
                                refine v_iload dX12_findPasture_143 rfl ?_
                                refine v_iaddI dX12_findPasture_145 ?_
                                obtain ⟨q83, w⟩ := w
                                refine v_iastI dX12_findPasture_146 ((hp67 98 (by decide)).trans (ent_98 _)) (s_lt hn rfl) q83.1 q83.2 (ix_le q83.2 (by decide)) (fun h84 E85 F86 => ?_)
                                have hp87 := pic_st hp67 (show h84 98 = ent 98 (uI _ ((12 * ((576 * x17) + x33)) + x55) (v49 + x71)) from E85) F86
                                have hf88 := Fr.up (c := 98) hf68 F86 rfl
                                refine v_iincI dX12_findPasture_147 rfl (Nat.le_of_ble_eq_true rfl) ?_
                                refine v_goto (tgt := 64) dX12_findPasture_150 (by decide) ?_
                                refine v_pick [1, 2, 3, 4, 5, 0] rfl ?_
                                exact ih59 _ _ _ (Nat.lt_of_lt_of_le w.2 (Nat.le_of_lt_succ hm63)) w.1 hp87 hf88
                              )
                              obtain ⟨q89, w⟩ := w
                              refine v_icmp_geI (tgt := 124) dX12_findPasture_80 (by decide) q89.1 q89.2 (by decide) (by decide) (fun c90 => ?_) (fun c90 => ?_)
                              · replace w := w.1 c90
                                refine v_pick [0, 1, 2, 3, 4, 5, 6] rfl ?_
                                exact w
                              · replace w := w.2 c90
                                refine v_iload_n dX12_findPasture_83 rfl ?_
                                refine v_bipushI dX12_findPasture_84 rfl ?_
                                refine v_icmp_geI (tgt := 124) dX12_findPasture_86 (by decide) q31.1 q31.2 (by decide) (by decide) (fun c91 => ?_) (fun c91 => ?_)
                                · replace w := w.1 c91
                                  refine v_pick [0, 1, 2, 3, 4, 5, 6] rfl ?_
                                  exact w
                                · replace w := w.2 c91
                                  refine v_aload_n dX12_findPasture_89 rfl ?_
                                  refine v_iload_n dX12_findPasture_90 rfl ?_
                                  refine v_iload_n dX12_findPasture_91 rfl ?_
                                  refine v_iload_n dX12_findPasture_92 rfl ?_
                                  refine v_iload dX12_findPasture_93 rfl ?_
                                  refine v_iload dX12_findPasture_95 rfl ?_
                                  refine v_callVIr dX12_findPasture_97 ml_X12_525 (so_X12_pastureBy hn hp67  w) ((hp67 77 (by decide)).trans (ent_77 _)) rfl (s_lt hn rfl) rfl rfl (Nat.le_of_ble_eq_true rfl) (Nat.le_of_ble_eq_true rfl) (Nat.zero_le _) (Nat.zero_le _) (fun v92 w => ?_)
                                  refine v_istore dX12_findPasture_100 (Nat.le_of_ble_eq_true rfl) ?_
                                  refine v_iload dX12_findPasture_102 rfl ?_
                                  refine v_iload dX12_findPasture_104 rfl ?_
                                  obtain ⟨q98, q99, w⟩ := w
                                  refine v_icmp_leI (tgt := 114) dX12_findPasture_106 (by decide) q98.1 q98.2 q99.1 q99.2 (fun c100 => ?_) (fun c100 => ?_)
                                  · replace w := w.1 c100
                                    refine v_iload dX12_findPasture_114 rfl ?_
                                    refine v_istore dX12_findPasture_116 (Nat.le_of_ble_eq_true rfl) ?_
                                    refine v_iincI dX12_findPasture_118 rfl (Nat.le_of_ble_eq_true rfl) ?_
                                    refine v_goto (tgt := 77) dX12_findPasture_121 (by decide) ?_
                                    refine v_pick [3, 4, 5, 6, 7, 8, 1, 0] rfl ?_
                                    exact ih75 _ _ (Nat.lt_of_lt_of_le w.2 (Nat.le_of_lt_succ hm79)) w.1
                                  · replace w := w.2 c100
                                    refine v_iload dX12_findPasture_109 rfl ?_
                                    refine v_goto (tgt := 116) dX12_findPasture_111 (by decide) ?_
                                    refine v_istore dX12_findPasture_116 (Nat.le_of_ble_eq_true rfl) ?_
                                    refine v_iincI dX12_findPasture_118 rfl (Nat.le_of_ble_eq_true rfl) ?_
                                    refine v_goto (tgt := 77) dX12_findPasture_121 (by decide) ?_
                                    refine v_pick [3, 4, 5, 6, 7, 8, 1, 0] rfl ?_
                                    exact ih75 _ _ (Nat.lt_of_lt_of_le w.2 (Nat.le_of_lt_succ hm79)) w.1
                          exact hL78 _ _ _ (Nat.lt_succ_self _) wi77
                    exact hL62 _ _ _ _ (Nat.lt_succ_self _) wi61 hp45 hf46
              exact hL40 _ _ _ _ (Nat.lt_succ_self _) wi39 hp29 hf30
        exact hL24 _ _ _ _ (Nat.lt_succ_self _) wi23 hp13 hf14
      · replace w := w.2 c16
        refine v_aload_n dX12_findPasture_9 rfl ?_
        refine v_get dX12_findPasture_10 fl_X12_118 ((hp13 77 (by decide)).trans (ent_77 _)) rfl (s_lt hn rfl) ?_
        refine v_iload_n dX12_findPasture_13 rfl ?_
        refine v_aload_n dX12_findPasture_14 rfl ?_
        refine v_iconstI dX12_findPasture_15 ?_
        refine v_iload_n dX12_findPasture_16 rfl ?_
        refine v_bipushI dX12_findPasture_17 rfl ?_
        obtain ⟨q101, w⟩ := w
        refine v_iremI dX12_findPasture_19 q101 q15.2 (by decide) (by decide) ?_
        refine v_iload_n dX12_findPasture_20 rfl ?_
        refine v_bipushI dX12_findPasture_21 rfl ?_
        refine v_idivI dX12_findPasture_23 q101 q15.2 (by decide) (by decide) ?_
        refine v_iconstI dX12_findPasture_24 ?_
        refine v_lconstI (w := 1) dX12_findPasture_25 rfl ?_
        refine v_callVIw dX12_findPasture_26 ml_X12_486 (so_X12_fieldTells hn hp13  w) ((hp13 77 (by decide)).trans (ent_77 _)) rfl (s_lt hn rfl) rfl rfl (Nat.le_of_ble_eq_true rfl) (Nat.le_of_ble_eq_true rfl) (Nat.zero_le _) (Nat.zero_le _) (fun v102 X103 h104 hp106 hf105 w => ?_)
        have hf107 := Fr.trans hf14 hf105
        obtain ⟨q108, w⟩ := w
        refine v_iastI dX12_findPasture_29 ((hp106 99 (by decide)).trans (ent_99 _)) (s_lt hn rfl) q108.1 q108.2 (ix_le q108.2 (by decide)) (fun h109 E110 F111 => ?_)
        have hp112 := pic_st hp106 (show h109 99 = ent 99 (uI _ x1 v102) from E110) F111
        have hf113 := Fr.up (c := 99) hf107 F111 rfl
        refine v_iincI dX12_findPasture_30 rfl (Nat.le_of_ble_eq_true rfl) ?_
        refine v_goto (tgt := 2) dX12_findPasture_33 (by decide) ?_
        refine v_pick [1, 2, 0] rfl ?_
        exact ih5 _ _ _ (Nat.lt_of_lt_of_le w.2 (Nat.le_of_lt_succ hm9)) w.1 hp112 hf113
  exact hL8 _ _ _ _ (Nat.lt_succ_self _) wi7 hp hf
theorem dX12_pasture_0 : decode cX12_pasture 0 = .ok (.aload_n 0, 1) := by decide +kernel
theorem dX12_pasture_1 : decode cX12_pasture 1 = .ok (.iconst 0, 1) := by decide +kernel
theorem dX12_pasture_2 : decode cX12_pasture 2 = .ok (.putfield 169, 3) := by decide +kernel
theorem dX12_pasture_5 : decode cX12_pasture 5 = .ok (.aload_n 0, 1) := by decide +kernel
theorem dX12_pasture_6 : decode cX12_pasture 6 = .ok (.iload_n 1, 1) := by decide +kernel
theorem dX12_pasture_7 : decode cX12_pasture 7 = .ok (.invokevirtual 219, 3) := by decide +kernel
theorem dX12_pasture_10 : decode cX12_pasture 10 = .ok (.ifCond .eq 29, 3) := by decide +kernel
theorem dX12_pasture_13 : decode cX12_pasture 13 = .ok (.iload_n 2, 1) := by decide +kernel
theorem dX12_pasture_14 : decode cX12_pasture 14 = .ok (.i2l, 1) := by decide +kernel
theorem dX12_pasture_15 : decode cX12_pasture 15 = .ok (.lconst 0, 1) := by decide +kernel
theorem dX12_pasture_16 : decode cX12_pasture 16 = .ok (.ldc2_w 185, 3) := by decide +kernel
theorem dX12_pasture_19 : decode cX12_pasture 19 = .ok (.invokestatic 175, 3) := by decide +kernel
theorem dX12_pasture_22 : decode cX12_pasture 22 = .ok (.ifCond .eq 17, 3) := by decide +kernel
theorem dX12_pasture_25 : decode cX12_pasture 25 = .ok (.iload_n 3, 1) := by decide +kernel
theorem dX12_pasture_26 : decode cX12_pasture 26 = .ok (.i2l, 1) := by decide +kernel
theorem dX12_pasture_27 : decode cX12_pasture 27 = .ok (.ldc2_w 208, 3) := by decide +kernel
theorem dX12_pasture_30 : decode cX12_pasture 30 = .ok (.ldc2_w 227, 3) := by decide +kernel
theorem dX12_pasture_33 : decode cX12_pasture 33 = .ok (.invokestatic 175, 3) := by decide +kernel
theorem dX12_pasture_36 : decode cX12_pasture 36 = .ok (.ifCond .ne 5, 3) := by decide +kernel
theorem dX12_pasture_39 : decode cX12_pasture 39 = .ok (.iconst (-1), 1) := by decide +kernel
theorem dX12_pasture_40 : decode cX12_pasture 40 = .ok (.ireturn, 1) := by decide +kernel
theorem dX12_pasture_41 : decode cX12_pasture 41 = .ok (.aload_n 0, 1) := by decide +kernel
theorem dX12_pasture_42 : decode cX12_pasture 42 = .ok (.iload_n 1, 1) := by decide +kernel
theorem dX12_pasture_43 : decode cX12_pasture 43 = .ok (.invokevirtual 515, 3) := by decide +kernel
theorem dX12_pasture_46 : decode cX12_pasture 46 = .ok (.aload_n 0, 1) := by decide +kernel
theorem dX12_pasture_47 : decode cX12_pasture 47 = .ok (.iload_n 1, 1) := by decide +kernel
theorem dX12_pasture_48 : decode cX12_pasture 48 = .ok (.invokevirtual 529, 3) := by decide +kernel
theorem dX12_pasture_51 : decode cX12_pasture 51 = .ok (.aload_n 0, 1) := by decide +kernel
theorem dX12_pasture_52 : decode cX12_pasture 52 = .ok (.iload_n 1, 1) := by decide +kernel
theorem dX12_pasture_53 : decode cX12_pasture 53 = .ok (.invokevirtual 464, 3) := by decide +kernel
theorem dX12_pasture_56 : decode cX12_pasture 56 = .ok (.istore 4, 2) := by decide +kernel
theorem dX12_pasture_58 : decode cX12_pasture 58 = .ok (.iload_n 2, 1) := by decide +kernel
theorem dX12_pasture_59 : decode cX12_pasture 59 = .ok (.istore 5, 2) := by decide +kernel
theorem dX12_pasture_61 : decode cX12_pasture 61 = .ok (.iload_n 3, 1) := by decide +kernel
theorem dX12_pasture_62 : decode cX12_pasture 62 = .ok (.iconst (-1), 1) := by decide +kernel
theorem dX12_pasture_63 : decode cX12_pasture 63 = .ok (.if_icmp .ne 17, 3) := by decide +kernel
theorem dX12_pasture_66 : decode cX12_pasture 66 = .ok (.aload_n 0, 1) := by decide +kernel
theorem dX12_pasture_67 : decode cX12_pasture 67 = .ok (.getfield 115, 3) := by decide +kernel
theorem dX12_pasture_70 : decode cX12_pasture 70 = .ok (.bipush 12, 2) := by decide +kernel
theorem dX12_pasture_72 : decode cX12_pasture 72 = .ok (.iload 4, 2) := by decide +kernel
theorem dX12_pasture_74 : decode cX12_pasture 74 = .ok (.imul, 1) := by decide +kernel
theorem dX12_pasture_75 : decode cX12_pasture 75 = .ok (.iload 5, 2) := by decide +kernel
theorem dX12_pasture_77 : decode cX12_pasture 77 = .ok (.iadd, 1) := by decide +kernel
theorem dX12_pasture_78 : decode cX12_pasture 78 = .ok (.iaload, 1) := by decide +kernel
theorem dX12_pasture_79 : decode cX12_pasture 79 = .ok (.ireturn, 1) := by decide +kernel
theorem dX12_pasture_80 : decode cX12_pasture 80 = .ok (.iconst 0, 1) := by decide +kernel
theorem dX12_pasture_81 : decode cX12_pasture 81 = .ok (.istore 6, 2) := by decide +kernel
theorem dX12_pasture_83 : decode cX12_pasture 83 = .ok (.iconst 0, 1) := by decide +kernel
theorem dX12_pasture_84 : decode cX12_pasture 84 = .ok (.istore 7, 2) := by decide +kernel
theorem dX12_pasture_86 : decode cX12_pasture 86 = .ok (.iload 7, 2) := by decide +kernel
theorem dX12_pasture_88 : decode cX12_pasture 88 = .ok (.iload_n 3, 1) := by decide +kernel
theorem dX12_pasture_89 : decode cX12_pasture 89 = .ok (.if_icmp .gt 119, 3) := by decide +kernel
theorem dX12_pasture_92 : decode cX12_pasture 92 = .ok (.iconst 0, 1) := by decide +kernel
theorem dX12_pasture_93 : decode cX12_pasture 93 = .ok (.istore 6, 2) := by decide +kernel
theorem dX12_pasture_95 : decode cX12_pasture 95 = .ok (.iload 4, 2) := by decide +kernel
theorem dX12_pasture_97 : decode cX12_pasture 97 = .ok (.iconst (-1), 1) := by decide +kernel
theorem dX12_pasture_98 : decode cX12_pasture 98 = .ok (.if_icmp .ne 18, 3) := by decide +kernel
theorem dX12_pasture_101 : decode cX12_pasture 101 = .ok (.iload 5, 2) := by decide +kernel
theorem dX12_pasture_103 : decode cX12_pasture 103 = .ok (.ifCond .le 7, 3) := by decide +kernel
theorem dX12_pasture_106 : decode cX12_pasture 106 = .ok (.iconst 0, 1) := by decide +kernel
theorem dX12_pasture_107 : decode cX12_pasture 107 = .ok (.goto 4, 3) := by decide +kernel
theorem dX12_pasture_110 : decode cX12_pasture 110 = .ok (.iconst 4, 1) := by decide +kernel
theorem dX12_pasture_111 : decode cX12_pasture 111 = .ok (.istore 6, 2) := by decide +kernel
theorem dX12_pasture_113 : decode cX12_pasture 113 = .ok (.goto 73, 3) := by decide +kernel
theorem dX12_pasture_116 : decode cX12_pasture 116 = .ok (.aload_n 0, 1) := by decide +kernel
theorem dX12_pasture_117 : decode cX12_pasture 117 = .ok (.getfield 115, 3) := by decide +kernel
theorem dX12_pasture_120 : decode cX12_pasture 120 = .ok (.bipush 12, 2) := by decide +kernel
theorem dX12_pasture_122 : decode cX12_pasture 122 = .ok (.sipush 576, 3) := by decide +kernel
theorem dX12_pasture_125 : decode cX12_pasture 125 = .ok (.iload 7, 2) := by decide +kernel
theorem dX12_pasture_127 : decode cX12_pasture 127 = .ok (.imul, 1) := by decide +kernel
theorem dX12_pasture_128 : decode cX12_pasture 128 = .ok (.iload 4, 2) := by decide +kernel
theorem dX12_pasture_130 : decode cX12_pasture 130 = .ok (.iadd, 1) := by decide +kernel
theorem dX12_pasture_131 : decode cX12_pasture 131 = .ok (.imul, 1) := by decide +kernel
theorem dX12_pasture_132 : decode cX12_pasture 132 = .ok (.iload 5, 2) := by decide +kernel
theorem dX12_pasture_134 : decode cX12_pasture 134 = .ok (.iadd, 1) := by decide +kernel
theorem dX12_pasture_135 : decode cX12_pasture 135 = .ok (.iaload, 1) := by decide +kernel
theorem dX12_pasture_136 : decode cX12_pasture 136 = .ok (.aload_n 0, 1) := by decide +kernel
theorem dX12_pasture_137 : decode cX12_pasture 137 = .ok (.iload_n 1, 1) := by decide +kernel
theorem dX12_pasture_138 : decode cX12_pasture 138 = .ok (.iload 7, 2) := by decide +kernel
theorem dX12_pasture_140 : decode cX12_pasture 140 = .ok (.iload 4, 2) := by decide +kernel
theorem dX12_pasture_142 : decode cX12_pasture 142 = .ok (.invokevirtual 522, 3) := by decide +kernel
theorem dX12_pasture_145 : decode cX12_pasture 145 = .ok (.isub, 1) := by decide +kernel
theorem dX12_pasture_146 : decode cX12_pasture 146 = .ok (.istore 8, 2) := by decide +kernel
theorem dX12_pasture_148 : decode cX12_pasture 148 = .ok (.aload_n 0, 1) := by decide +kernel
theorem dX12_pasture_149 : decode cX12_pasture 149 = .ok (.iload_n 1, 1) := by decide +kernel
theorem dX12_pasture_150 : decode cX12_pasture 150 = .ok (.iload 7, 2) := by decide +kernel
theorem dX12_pasture_152 : decode cX12_pasture 152 = .ok (.iload 4, 2) := by decide +kernel
theorem dX12_pasture_154 : decode cX12_pasture 154 = .ok (.iload 5, 2) := by decide +kernel
theorem dX12_pasture_156 : decode cX12_pasture 156 = .ok (.iload 6, 2) := by decide +kernel
theorem dX12_pasture_158 : decode cX12_pasture 158 = .ok (.invokevirtual 525, 3) := by decide +kernel
theorem dX12_pasture_161 : decode cX12_pasture 161 = .ok (.iload 8, 2) := by decide +kernel
theorem dX12_pasture_163 : decode cX12_pasture 163 = .ok (.if_icmp .eq 9, 3) := by decide +kernel
theorem dX12_pasture_166 : decode cX12_pasture 166 = .ok (.iinc 6 1, 3) := by decide +kernel
theorem dX12_pasture_169 : decode cX12_pasture 169 = .ok (.goto (-21), 3) := by decide +kernel
theorem dX12_pasture_172 : decode cX12_pasture 172 = .ok (.aload_n 0, 1) := by decide +kernel
theorem dX12_pasture_173 : decode cX12_pasture 173 = .ok (.iload_n 1, 1) := by decide +kernel
theorem dX12_pasture_174 : decode cX12_pasture 174 = .ok (.iload 7, 2) := by decide +kernel
theorem dX12_pasture_176 : decode cX12_pasture 176 = .ok (.iload 4, 2) := by decide +kernel
theorem dX12_pasture_178 : decode cX12_pasture 178 = .ok (.iconst 0, 1) := by decide +kernel
theorem dX12_pasture_179 : decode cX12_pasture 179 = .ok (.iload 6, 2) := by decide +kernel
theorem dX12_pasture_181 : decode cX12_pasture 181 = .ok (.invokevirtual 508, 3) := by decide +kernel
theorem dX12_pasture_184 : decode cX12_pasture 184 = .ok (.istore 4, 2) := by decide +kernel
theorem dX12_pasture_186 : decode cX12_pasture 186 = .ok (.iload 5, 2) := by decide +kernel
theorem dX12_pasture_188 : decode cX12_pasture 188 = .ok (.iload 6, 2) := by decide +kernel
theorem dX12_pasture_190 : decode cX12_pasture 190 = .ok (.iconst 4, 1) := by decide +kernel
theorem dX12_pasture_191 : decode cX12_pasture 191 = .ok (.if_icmp .ge 7, 3) := by decide +kernel
theorem dX12_pasture_194 : decode cX12_pasture 194 = .ok (.iconst 1, 1) := by decide +kernel
theorem dX12_pasture_195 : decode cX12_pasture 195 = .ok (.goto 4, 3) := by decide +kernel
theorem dX12_pasture_198 : decode cX12_pasture 198 = .ok (.iconst 0, 1) := by decide +kernel
theorem dX12_pasture_199 : decode cX12_pasture 199 = .ok (.isub, 1) := by decide +kernel
theorem dX12_pasture_200 : decode cX12_pasture 200 = .ok (.istore 5, 2) := by decide +kernel
theorem dX12_pasture_202 : decode cX12_pasture 202 = .ok (.iinc 7 1, 3) := by decide +kernel
theorem dX12_pasture_205 : decode cX12_pasture 205 = .ok (.goto (-119), 3) := by decide +kernel
theorem dX12_pasture_208 : decode cX12_pasture 208 = .ok (.iload 6, 2) := by decide +kernel
theorem dX12_pasture_210 : decode cX12_pasture 210 = .ok (.ireturn, 1) := by decide +kernel
def w_X12_pasture (a0 a1 a2 : Int) (X : XT) (Q : Int → XT → Prop) : Prop :=
  R32 a0 ∧ (0 ≤ (x_st X 77 0 0) 79 0 ∧ (x_st X 77 0 0) 79 0 ≤ 5) ∧ (¬ (0 ≤ a0 ∧ a0 ≤ (x_st X 77 0 0) 79 0 - 1) → Q (-1) (x_st X 77 0 0)) ∧ ((0 ≤ a0 ∧ a0 ≤ (x_st X 77 0 0) 79 0 - 1) → R32 a1 ∧ (¬ (0 ≤ a1 ∧ a1 ≤ 11) → Q (-1) (x_st X 77 0 0)) ∧ ((0 ≤ a1 ∧ a1 ≤ 11) → R32 a2 ∧ (((-1) ≤ a2 ∧ a2 ≤ 10) → w_X12_layWorks  a0 (x_st X 77 0 0) (fun (X14 : XT) => w_X12_findPasture  a0 X14 (fun (X20 : XT) => w_X12_beginsAt  a0 X20 (fun (v25 : Int) => (¬ a2 = (-1) → ∃ (I36 : Int → Int → Int → Int → Prop) (m37 : Int → Int → Int → Int → Nat), I36 v25 a1 0 0 ∧ ∀ (x32 : Int) (x33 : Int) (x34 : Int) (x35 : Int), I36 x32 x33 x34 x35 → R32 x35 ∧ (a2 < x35 → Q x34 X20) ∧ (¬ a2 < x35 → ∀ J49 : Int → Int → Prop, (∀ (v47 : Int) (v48 : Int), (∀ J51 : Int → Prop, (∀ (v50 : Int), (I36 v47 (x33 - v50) v48 (x35 + 1) ∧ m37 v47 (x33 - v50) v48 (x35 + 1) < m37 x32 x33 x34 x35) → J51 v50) → R32 v48 ∧ (4 ≤ v48 → J51 0) ∧ (¬ 4 ≤ v48 → J51 1)) → J49 v47 v48) → R32 x32 ∧ (¬ x32 = (-1) → (0 ≤ ((12 * ((576 * x35) + x32)) + x33) ∧ ((12 * ((576 * x35) + x32)) + x33) < 82944) ∧ w_X12_worthAt  a0 x35 x32 X20 (fun (v57 : Int) => ∃ (I64 : Int → Prop) (m65 : Int → Nat), I64 0 ∧ ∀ (x63 : Int), I64 x63 → w_X12_pastureBy  a0 x35 x32 x33 x63 X20 (fun (v73 : Int) => R32 v73 ∧ R32 ((X20 98 ((12 * ((576 * x35) + x32)) + x33)) - v57) ∧ (v73 = ((X20 98 ((12 * ((576 * x35) + x32)) + x33)) - v57) → w_X12_nextOf  a0 x35 x32 0 x63 X20 (fun (v82 : Int) => J49 v82 x63)) ∧ (¬ v73 = ((X20 98 ((12 * ((576 * x35) + x32)) + x33)) - v57) → I64 (x63 + 1) ∧ m65 (x63 + 1) < m65 x63)))) ∧ (x32 = (-1) → R32 x33 ∧ (x33 ≤ 0 → J49 x32 4) ∧ (¬ x33 ≤ 0 → J49 x32 0)))) ∧ (a2 = (-1) → (0 ≤ ((12 * v25) + a1) ∧ ((12 * v25) + a1) < 82944) ∧ Q (X20 98 ((12 * v25) + a1)) X20))))) ∧ (¬ ((-1) ≤ a2 ∧ a2 ≤ 10) → Q (-1) (x_st X 77 0 0))))
set_option maxRecDepth 20000 in
theorem so_X12_pasture {n : Nat} {h : Nat → sE} {X : XT} {a0 a1 a2 : Int} {Q : Int → XT → Prop} (hn : 115 ≤ n) (hp : Pic X h) (w : w_X12_pasture  a0 a1 a2 X Q) : Sp m_X12_pasture 9 0 0 [.ref 77, .int (iI a0), .int (iI a1), .int (iI a2)] n h (pIw n h Q) := by
  unfold w_X12_pasture at w
  refine Sp.ofV (by decide +kernel) (Nat.le_of_ble_eq_true rfl) ?_
  have hf : Fr h h := fun _ _ => rfl
  refine v_aload_n dX12_pasture_0 rfl ?_
  refine v_iconstI dX12_pasture_1 ?_
  refine v_put dX12_pasture_2 fl_X12_169 ((hp 77 (by decide)).trans (ent_77 _)) (s_lt hn rfl) (Nat.le_of_ble_eq_true rfl) (fun _ => ⟨rfl, rfl⟩) trivial (fun h1 E2 F3 => ?_)
  have hp4 := pic_st hp (show h1 77 = ent 77 (uI _ 0 0) from E2) F3
  have hf5 := Fr.up (c := 77) hf F3 rfl
  refine v_aload_n dX12_pasture_5 rfl ?_
  refine v_iload_n dX12_pasture_6 rfl ?_
  obtain ⟨q6, q7, w⟩ := w
  refine v_callVp dX12_pasture_7 ml_X12_219 (sp_X12_isCloud (a := a0) (g77 := (x_st X 77 0 0) 77) (g79 := (x_st X 77 0 0) 79) hn (hp4 77 (by decide)) (hp4 79 (by decide)) q6 q7) ((hp4 77 (by decide)).trans (ent_77 _)) rfl (s_lt hn rfl) rfl rfl (Nat.le_of_ble_eq_true rfl) (Nat.le_of_ble_eq_true rfl) (Nat.zero_le _) (Nat.zero_le _) ?_
  refine v_ifeqB (tgt := 39) dX12_pasture_10 (by decide) (fun c8 => ?_) (fun c8 => ?_)
  · replace w := w.1 c8
    refine v_iconstI dX12_pasture_39 ?_
    exact v_iret dX12_pasture_40 rfl (Nat.zero_le _) (Nat.zero_le _) ⟨rfl, hf5, _, _, rfl, hp4, w⟩
  · replace w := w.2 c8
    refine v_iload_n dX12_pasture_13 rfl ?_
    obtain ⟨q9, w⟩ := w
    refine v_i2lI dX12_pasture_14 q9.1 q9.2 ?_
    refine v_lconstI (w := 0) dX12_pasture_15 rfl ?_
    refine v_ldc2I 11 dX12_pasture_16 k_X12_185 rfl ?_
    refine v_callSp dX12_pasture_19 ml_X12_175 (sp_X12_in (v := a1) (lo := 0) (hi := 11) (r32_64 q9) (by decide) (by decide)) rfl rfl (Nat.le_of_ble_eq_true rfl) (Nat.le_of_ble_eq_true rfl) (Nat.zero_le _) (Nat.zero_le _) ?_
    refine v_ifeqB (tgt := 39) dX12_pasture_22 (by decide) (fun c10 => ?_) (fun c10 => ?_)
    · replace w := w.1 c10
      refine v_iconstI dX12_pasture_39 ?_
      exact v_iret dX12_pasture_40 rfl (Nat.zero_le _) (Nat.zero_le _) ⟨rfl, hf5, _, _, rfl, hp4, w⟩
    · replace w := w.2 c10
      refine v_iload_n dX12_pasture_25 rfl ?_
      obtain ⟨q11, w⟩ := w
      refine v_i2lI dX12_pasture_26 q11.1 q11.2 ?_
      refine v_ldc2I (-1) dX12_pasture_27 k_X12_208 rfl ?_
      refine v_ldc2I 10 dX12_pasture_30 k_X12_227 rfl ?_
      refine v_callSp dX12_pasture_33 ml_X12_175 (sp_X12_in (v := a2) (lo := (-1)) (hi := 10) (r32_64 q11) (by decide) (by decide)) rfl rfl (Nat.le_of_ble_eq_true rfl) (Nat.le_of_ble_eq_true rfl) (Nat.zero_le _) (Nat.zero_le _) ?_
      refine v_ifneB (tgt := 41) dX12_pasture_36 (by decide) (fun c12 => ?_) (fun c12 => ?_)
      · replace w := w.1 c12
        refine v_aload_n dX12_pasture_41 rfl ?_
        refine v_iload_n dX12_pasture_42 rfl ?_
        refine v_callVVw dX12_pasture_43 ml_X12_515 (so_X12_layWorks hn hp4  w) ((hp4 77 (by decide)).trans (ent_77 _)) rfl (s_lt hn rfl) rfl rfl (Nat.le_of_ble_eq_true rfl) (Nat.le_of_ble_eq_true rfl) (Nat.zero_le _) (Nat.zero_le _) (fun X14 h15 hp17 hf16 w => ?_)
        have hf18 := Fr.trans hf5 hf16
        refine v_aload_n dX12_pasture_46 rfl ?_
        refine v_iload_n dX12_pasture_47 rfl ?_
        refine v_callVVw dX12_pasture_48 ml_X12_529 (so_X12_findPasture hn hp17  w) ((hp17 77 (by decide)).trans (ent_77 _)) rfl (s_lt hn rfl) rfl rfl (Nat.le_of_ble_eq_true rfl) (Nat.le_of_ble_eq_true rfl) (Nat.zero_le _) (Nat.zero_le _) (fun X20 h21 hp23 hf22 w => ?_)
        have hf24 := Fr.trans hf18 hf22
        refine v_aload_n dX12_pasture_51 rfl ?_
        refine v_iload_n dX12_pasture_52 rfl ?_
        refine v_callVIr dX12_pasture_53 ml_X12_464 (so_X12_beginsAt hn hp23  w) ((hp23 77 (by decide)).trans (ent_77 _)) rfl (s_lt hn rfl) rfl rfl (Nat.le_of_ble_eq_true rfl) (Nat.le_of_ble_eq_true rfl) (Nat.zero_le _) (Nat.zero_le _) (fun v25 w => ?_)
        refine v_istore dX12_pasture_56 (Nat.le_of_ble_eq_true rfl) ?_
        refine v_iload_n dX12_pasture_58 rfl ?_
        refine v_istore dX12_pasture_59 (Nat.le_of_ble_eq_true rfl) ?_
        refine v_iload_n dX12_pasture_61 rfl ?_
        refine v_iconstI dX12_pasture_62 ?_
        refine v_icmp_neI (tgt := 80) dX12_pasture_63 (by decide) q11.1 q11.2 (by decide) (by decide) (fun c31 => ?_) (fun c31 => ?_)
        · replace w := w.1 c31
          refine v_iconstI dX12_pasture_80 ?_
          refine v_istore dX12_pasture_81 (Nat.le_of_ble_eq_true rfl) ?_
          refine v_iconstI dX12_pasture_83 ?_
          refine v_istore dX12_pasture_84 (Nat.le_of_ble_eq_true rfl) ?_
          refine v_pick [4, 5, 7, 3, 2, 1, 0] rfl ?_
          obtain ⟨I36, m37, wi40, wl39⟩ := w
          have hL41 : ∀ (N44 : Nat) (x32 : Int) (x33 : Int) (x34 : Int) (x35 : Int), m37 x32 x33 x34 x35 < N44 → I36 x32 x33 x34 x35 → V (m_X12_pasture, 9, 0, 0, n, pIw n h Q, s_G0) 0 0 n h21 86 [(0, .ref 77), (1, .int (iI a0)), (3, .int (iI a2)), (4, .int (iI x32)), (5, .int (iI x33)), (6, .int (iI x34)), (7, .int (iI x35))] [] := by
            intro N44
            induction N44 with
            | zero => intro x32 x33 x34 x35  hm42; exact absurd hm42 (Nat.not_lt_zero _)
            | succ N44 ih38 =>
              intro x32 x33 x34 x35  hm42 hI43
              have w := wl39 x32 x33 x34 x35 hI43
              refine v_iload dX12_pasture_86 rfl ?_
              refine v_iload_n dX12_pasture_88 rfl ?_
              obtain ⟨q45, w⟩ := w
              refine v_icmp_gtI (tgt := 208) dX12_pasture_89 (by decide) q45.1 q45.2 q11.1 q11.2 (fun c46 => ?_) (fun c46 => ?_)
              · replace w := w.1 c46
                refine v_iload dX12_pasture_208 rfl ?_
                exact v_iret dX12_pasture_210 rfl (Nat.zero_le _) (Nat.zero_le _) ⟨rfl, hf24, _, _, rfl, hp23, w⟩
              · replace w := w.2 c46
                refine v_iconstI dX12_pasture_92 ?_
                refine v_istore dX12_pasture_93 (Nat.le_of_ble_eq_true rfl) ?_
                refine v_iload dX12_pasture_95 rfl ?_
                refine v_iconstI dX12_pasture_97 ?_
                replace w := w (fun (v47 : Int) (v48 : Int) => V (m_X12_pasture, 9, 0, 0, n, pIw n h Q, s_G0) 0 0 n h21 186 [(0, .ref 77), (1, .int (iI a0)), (3, .int (iI a2)), (4, .int (iI v47)), (5, .int (iI x33)), (6, .int (iI v48)), (7, .int (iI x35))] []) (by
                  intro v47 v48 w
                  refine v_iload dX12_pasture_186 rfl ?_
                  refine v_iload dX12_pasture_188 rfl ?_
                  refine v_iconstI dX12_pasture_190 ?_
                  replace w := w (fun (v50 : Int) => V (m_X12_pasture, 9, 0, 0, n, pIw n h Q, s_G0) 0 0 n h21 199 [(0, .ref 77), (1, .int (iI a0)), (3, .int (iI a2)), (4, .int (iI v47)), (6, .int (iI v48)), (7, .int (iI x35))] [.int (iI v50), .int (iI x33)]) (by
                    intro v50 w
                    refine v_isubI dX12_pasture_199 ?_
                    refine v_istore dX12_pasture_200 (Nat.le_of_ble_eq_true rfl) ?_
                    refine v_iincI dX12_pasture_202 rfl (Nat.le_of_ble_eq_true rfl) ?_
                    refine v_goto (tgt := 86) dX12_pasture_205 (by decide) ?_
                    refine v_pick [2, 3, 4, 5, 1, 6, 0] rfl ?_
                    exact ih38 _ _ _ _ (Nat.lt_of_lt_of_le w.2 (Nat.le_of_lt_succ hm42)) w.1
                  )
                  obtain ⟨q52, w⟩ := w
                  refine v_icmp_geI (tgt := 198) dX12_pasture_191 (by decide) q52.1 q52.2 (by decide) (by decide) (fun c53 => ?_) (fun c53 => ?_)
                  · replace w := w.1 c53
                    refine v_iconstI dX12_pasture_198 ?_
                    refine v_pick [0, 1, 2, 3, 5, 6] rfl ?_
                    exact w
                  · replace w := w.2 c53
                    refine v_iconstI dX12_pasture_194 ?_
                    refine v_goto (tgt := 199) dX12_pasture_195 (by decide) ?_
                    refine v_pick [0, 1, 2, 3, 5, 6] rfl ?_
                    exact w
                )
                obtain ⟨q54, w⟩ := w
                refine v_icmp_neI (tgt := 116) dX12_pasture_98 (by decide) q54.1 q54.2 (by decide) (by decide) (fun c55 => ?_) (fun c55 => ?_)
                · replace w := w.1 c55
                  refine v_aload_n dX12_pasture_116 rfl ?_
                  refine v_get dX12_pasture_117 fl_X12_115 ((hp23 77 (by decide)).trans (ent_77 _)) rfl (s_lt hn rfl) ?_
                  refine v_bipushI dX12_pasture_120 rfl ?_
                  refine v_sipushI dX12_pasture_122 rfl ?_
                  refine v_iload dX12_pasture_125 rfl ?_
                  refine v_imulI dX12_pasture_127 ?_
                  refine v_iload dX12_pasture_128 rfl ?_
                  refine v_iaddI dX12_pasture_130 ?_
                  refine v_imulI dX12_pasture_131 ?_
                  refine v_iload dX12_pasture_132 rfl ?_
                  refine v_iaddI dX12_pasture_134 ?_
                  obtain ⟨q56, w⟩ := w
                  refine v_ialdI dX12_pasture_135 ((hp23 98 (by decide)).trans (ent_98 _)) (s_lt hn rfl) q56.1 q56.2 (ix_le q56.2 (by decide)) ?_
                  refine v_aload_n dX12_pasture_136 rfl ?_
                  refine v_iload_n dX12_pasture_137 rfl ?_
                  refine v_iload dX12_pasture_138 rfl ?_
                  refine v_iload dX12_pasture_140 rfl ?_
                  refine v_callVIr dX12_pasture_142 ml_X12_522 (so_X12_worthAt hn hp23  w) ((hp23 77 (by decide)).trans (ent_77 _)) rfl (s_lt hn rfl) rfl rfl (Nat.le_of_ble_eq_true rfl) (Nat.le_of_ble_eq_true rfl) (Nat.zero_le _) (Nat.zero_le _) (fun v57 w => ?_)
                  refine v_isubI dX12_pasture_145 ?_
                  refine v_istore dX12_pasture_146 (Nat.le_of_ble_eq_true rfl) ?_
                  refine v_pick [2, 3, 4, 5, 6, 1, 7, 0] rfl ?_
                  obtain ⟨I64, m65, wi68, wl67⟩ := w
                  have hL69 : ∀ (N72 : Nat) (x63 : Int), m65 x63 < N72 → I64 x63 → V (m_X12_pasture, 9, 0, 0, n, pIw n h Q, s_G0) 0 0 n h21 148 [(0, .ref 77), (1, .int (iI a0)), (3, .int (iI a2)), (4, .int (iI x32)), (5, .int (iI x33)), (6, .int (iI x63)), (7, .int (iI x35)), (8, .int (iI ((X20 98 ((12 * ((576 * x35) + x32)) + x33)) - v57)))] [] := by
                    intro N72
                    induction N72 with
                    | zero => intro x63  hm70; exact absurd hm70 (Nat.not_lt_zero _)
                    | succ N72 ih66 =>
                      intro x63  hm70 hI71
                      have w := wl67 x63 hI71
                      refine v_aload_n dX12_pasture_148 rfl ?_
                      refine v_iload_n dX12_pasture_149 rfl ?_
                      refine v_iload dX12_pasture_150 rfl ?_
                      refine v_iload dX12_pasture_152 rfl ?_
                      refine v_iload dX12_pasture_154 rfl ?_
                      refine v_iload dX12_pasture_156 rfl ?_
                      refine v_callVIr dX12_pasture_158 ml_X12_525 (so_X12_pastureBy hn hp23  w) ((hp23 77 (by decide)).trans (ent_77 _)) rfl (s_lt hn rfl) rfl rfl (Nat.le_of_ble_eq_true rfl) (Nat.le_of_ble_eq_true rfl) (Nat.zero_le _) (Nat.zero_le _) (fun v73 w => ?_)
                      refine v_iload dX12_pasture_161 rfl ?_
                      obtain ⟨q79, q80, w⟩ := w
                      refine v_icmp_eqI (tgt := 172) dX12_pasture_163 (by decide) q79.1 q79.2 q80.1 q80.2 (fun c81 => ?_) (fun c81 => ?_)
                      · replace w := w.1 c81
                        refine v_aload_n dX12_pasture_172 rfl ?_
                        refine v_iload_n dX12_pasture_173 rfl ?_
                        refine v_iload dX12_pasture_174 rfl ?_
                        refine v_iload dX12_pasture_176 rfl ?_
                        refine v_iconstI dX12_pasture_178 ?_
                        refine v_iload dX12_pasture_179 rfl ?_
                        refine v_callVIr dX12_pasture_181 ml_X12_508 (so_X12_nextOf hn hp23  w) ((hp23 77 (by decide)).trans (ent_77 _)) rfl (s_lt hn rfl) rfl rfl (Nat.le_of_ble_eq_true rfl) (Nat.le_of_ble_eq_true rfl) (Nat.zero_le _) (Nat.zero_le _) (fun v82 w => ?_)
                        refine v_istore dX12_pasture_184 (Nat.le_of_ble_eq_true rfl) ?_
                        refine v_pick [1, 2, 3, 0, 4, 5, 6] rfl ?_
                        exact w
                      · replace w := w.2 c81
                        refine v_iincI dX12_pasture_166 rfl (Nat.le_of_ble_eq_true rfl) ?_
                        refine v_goto (tgt := 148) dX12_pasture_169 (by decide) ?_
                        refine v_pick [1, 2, 3, 4, 5, 0, 6, 7] rfl ?_
                        exact ih66 _ (Nat.lt_of_lt_of_le w.2 (Nat.le_of_lt_succ hm70)) w.1
                  exact hL69 _ _ (Nat.lt_succ_self _) wi68
                · replace w := w.2 c55
                  refine v_iload dX12_pasture_101 rfl ?_
                  obtain ⟨q88, w⟩ := w
                  refine v_if_leI (tgt := 110) dX12_pasture_103 (by decide) q88.1 q88.2 (fun c89 => ?_) (fun c89 => ?_)
                  · replace w := w.1 c89
                    refine v_iconstI dX12_pasture_110 ?_
                    refine v_istore dX12_pasture_111 (Nat.le_of_ble_eq_true rfl) ?_
                    refine v_goto (tgt := 186) dX12_pasture_113 (by decide) ?_
                    refine v_pick [1, 2, 3, 4, 5, 0, 6] rfl ?_
                    exact w
                  · replace w := w.2 c89
                    refine v_iconstI dX12_pasture_106 ?_
                    refine v_goto (tgt := 111) dX12_pasture_107 (by decide) ?_
                    refine v_istore dX12_pasture_111 (Nat.le_of_ble_eq_true rfl) ?_
                    refine v_goto (tgt := 186) dX12_pasture_113 (by decide) ?_
                    refine v_pick [1, 2, 3, 4, 5, 0, 6] rfl ?_
                    exact w
          exact hL41 _ _ _ _ _ (Nat.lt_succ_self _) wi40
        · replace w := w.2 c31
          refine v_aload_n dX12_pasture_66 rfl ?_
          refine v_get dX12_pasture_67 fl_X12_115 ((hp23 77 (by decide)).trans (ent_77 _)) rfl (s_lt hn rfl) ?_
          refine v_bipushI dX12_pasture_70 rfl ?_
          refine v_iload dX12_pasture_72 rfl ?_
          refine v_imulI dX12_pasture_74 ?_
          refine v_iload dX12_pasture_75 rfl ?_
          refine v_iaddI dX12_pasture_77 ?_
          obtain ⟨q90, w⟩ := w
          refine v_ialdI dX12_pasture_78 ((hp23 98 (by decide)).trans (ent_98 _)) (s_lt hn rfl) q90.1 q90.2 (ix_le q90.2 (by decide)) ?_
          exact v_iret dX12_pasture_79 rfl (Nat.zero_le _) (Nat.zero_le _) ⟨rfl, hf24, _, _, rfl, hp23, w⟩
      · replace w := w.2 c12
        refine v_iconstI dX12_pasture_39 ?_
        exact v_iret dX12_pasture_40 rfl (Nat.zero_le _) (Nat.zero_le _) ⟨rfl, hf5, _, _, rfl, hp4, w⟩
theorem dX12_is_0 : decode cX12_is 0 = .ok (.iload_n 0, 1) := by decide +kernel
theorem dX12_is_1 : decode cX12_is 1 = .ok (.iload_n 1, 1) := by decide +kernel
theorem dX12_is_2 : decode cX12_is 2 = .ok (.ishr, 1) := by decide +kernel
theorem dX12_is_3 : decode cX12_is 3 = .ok (.iconst 1, 1) := by decide +kernel
theorem dX12_is_4 : decode cX12_is 4 = .ok (.iand, 1) := by decide +kernel
theorem dX12_is_5 : decode cX12_is 5 = .ok (.iconst 1, 1) := by decide +kernel
theorem dX12_is_6 : decode cX12_is 6 = .ok (.if_icmp .ne 7, 3) := by decide +kernel
theorem dX12_is_9 : decode cX12_is 9 = .ok (.iconst 1, 1) := by decide +kernel
theorem dX12_is_10 : decode cX12_is 10 = .ok (.goto 4, 3) := by decide +kernel
theorem dX12_is_13 : decode cX12_is 13 = .ok (.iconst 0, 1) := by decide +kernel
theorem dX12_is_14 : decode cX12_is 14 = .ok (.ireturn, 1) := by decide +kernel
def w_X12_is (a0 a1 : Int) (X : XT) (Q : Int → Prop) : Prop :=
  R32 (oAnd (oShr a0 a1) 1) ∧ (¬ (oAnd (oShr a0 a1) 1) = 1 → Q 0) ∧ ((oAnd (oShr a0 a1) 1) = 1 → Q 1)
set_option maxRecDepth 20000 in
theorem so_X12_is {n : Nat} {h : Nat → sE} {X : XT} {a0 a1 : Int} {Q : Int → Prop} (hn : 115 ≤ n) (hp : Pic X h) (w : w_X12_is  a0 a1 X Q) : Sp m_X12_is 0 0 0 [.int (iI a0), .int (iI a1)] n h (pIr n h Q) := by
  unfold w_X12_is at w
  refine Sp.ofV (by decide +kernel) (Nat.le_of_ble_eq_true rfl) ?_
  have hf : Fr h h := fun _ _ => rfl
  refine v_iload_n dX12_is_0 rfl ?_
  refine v_iload_n dX12_is_1 rfl ?_
  refine v_ishrI dX12_is_2 ?_
  refine v_iconstI dX12_is_3 ?_
  refine v_iandI dX12_is_4 ?_
  refine v_iconstI dX12_is_5 ?_
  obtain ⟨q1, w⟩ := w
  refine v_icmp_neI (tgt := 13) dX12_is_6 (by decide) q1.1 q1.2 (by decide) (by decide) (fun c2 => ?_) (fun c2 => ?_)
  · replace w := w.1 c2
    refine v_iconstI dX12_is_13 ?_
    exact v_z0 dX12_is_14 rfl (Nat.zero_le _) (Nat.zero_le _) ⟨rfl, rfl, _, rfl, w⟩
  · replace w := w.2 c2
    refine v_iconstI dX12_is_9 ?_
    refine v_goto (tgt := 14) dX12_is_10 (by decide) ?_
    exact v_z1 dX12_is_14 rfl (Nat.zero_le _) (Nat.zero_le _) ⟨rfl, rfl, _, rfl, w⟩
theorem dX12_isOver_0 : decode cX12_isOver 0 = .ok (.iconst 1, 1) := by decide +kernel
theorem dX12_isOver_1 : decode cX12_isOver 1 = .ok (.istore_n 3, 1) := by decide +kernel
theorem dX12_isOver_2 : decode cX12_isOver 2 = .ok (.iconst 0, 1) := by decide +kernel
theorem dX12_isOver_3 : decode cX12_isOver 3 = .ok (.istore 4, 2) := by decide +kernel
theorem dX12_isOver_5 : decode cX12_isOver 5 = .ok (.iload 4, 2) := by decide +kernel
theorem dX12_isOver_7 : decode cX12_isOver 7 = .ok (.aload_n 0, 1) := by decide +kernel
theorem dX12_isOver_8 : decode cX12_isOver 8 = .ok (.getfield 13, 3) := by decide +kernel
theorem dX12_isOver_11 : decode cX12_isOver 11 = .ok (.iconst 2, 1) := by decide +kernel
theorem dX12_isOver_12 : decode cX12_isOver 12 = .ok (.iaload, 1) := by decide +kernel
theorem dX12_isOver_13 : decode cX12_isOver 13 = .ok (.if_icmp .ge 39, 3) := by decide +kernel
theorem dX12_isOver_16 : decode cX12_isOver 16 = .ok (.iload_n 3, 1) := by decide +kernel
theorem dX12_isOver_17 : decode cX12_isOver 17 = .ok (.ifCond .eq 27, 3) := by decide +kernel
theorem dX12_isOver_20 : decode cX12_isOver 20 = .ok (.iload_n 1, 1) := by decide +kernel
theorem dX12_isOver_21 : decode cX12_isOver 21 = .ok (.iload 4, 2) := by decide +kernel
theorem dX12_isOver_23 : decode cX12_isOver 23 = .ok (.invokestatic 532, 3) := by decide +kernel
theorem dX12_isOver_26 : decode cX12_isOver 26 = .ok (.ifCond .eq 14, 3) := by decide +kernel
theorem dX12_isOver_29 : decode cX12_isOver 29 = .ok (.aload_n 0, 1) := by decide +kernel
theorem dX12_isOver_30 : decode cX12_isOver 30 = .ok (.iload 4, 2) := by decide +kernel
theorem dX12_isOver_32 : decode cX12_isOver 32 = .ok (.iconst 2, 1) := by decide +kernel
theorem dX12_isOver_33 : decode cX12_isOver 33 = .ok (.invokevirtual 501, 3) := by decide +kernel
theorem dX12_isOver_36 : decode cX12_isOver 36 = .ok (.iload_n 2, 1) := by decide +kernel
theorem dX12_isOver_37 : decode cX12_isOver 37 = .ok (.if_icmp .ge 7, 3) := by decide +kernel
theorem dX12_isOver_40 : decode cX12_isOver 40 = .ok (.iconst 1, 1) := by decide +kernel
theorem dX12_isOver_41 : decode cX12_isOver 41 = .ok (.goto 4, 3) := by decide +kernel
theorem dX12_isOver_44 : decode cX12_isOver 44 = .ok (.iconst 0, 1) := by decide +kernel
theorem dX12_isOver_45 : decode cX12_isOver 45 = .ok (.istore_n 3, 1) := by decide +kernel
theorem dX12_isOver_46 : decode cX12_isOver 46 = .ok (.iinc 4 1, 3) := by decide +kernel
theorem dX12_isOver_49 : decode cX12_isOver 49 = .ok (.goto (-44), 3) := by decide +kernel
theorem dX12_isOver_52 : decode cX12_isOver 52 = .ok (.iload_n 3, 1) := by decide +kernel
theorem dX12_isOver_53 : decode cX12_isOver 53 = .ok (.ireturn, 1) := by decide +kernel
def w_X12_isOver (a0 a1 : Int) (X : XT) (Q : Int → Prop) : Prop :=
  ∃ (I3 : Int → Int → Prop) (m4 : Int → Int → Nat), I3 1 0 ∧ ∀ (x1 : Int) (x2 : Int), I3 x1 x2 → R32 x2 ∧ R32 (X 79 2) ∧ ((X 79 2) ≤ x2 → (x1 = 0 ∨ x1 = 1) ∧ Q x1) ∧ (¬ (X 79 2) ≤ x2 → ∀ J16 : Prop, ((I3 0 (x2 + 1) ∧ m4 0 (x2 + 1) < m4 x1 x2) → J16) → R32 x1 ∧ (x1 = 0 → J16 ) ∧ (¬ x1 = 0 → w_X12_is  a0 x2 X (fun (v19 : Int) => ∀ J25 : Prop, ((I3 1 (x2 + 1) ∧ m4 1 (x2 + 1) < m4 x1 x2) → J25) → R32 v19 ∧ (v19 = 0 → J25 ) ∧ (¬ v19 = 0 → (0 ≤ x2 ∧ x2 ≤ 7) ∧ R32 (X 79 (304 + 5 * x2 + 2)) ∧ R32 a1 ∧ (a1 ≤ (X 79 (304 + 5 * x2 + 2)) → J16 ) ∧ (¬ a1 ≤ (X 79 (304 + 5 * x2 + 2)) → J25 )))))
set_option maxRecDepth 20000 in
theorem so_X12_isOver {n : Nat} {h : Nat → sE} {X : XT} {a0 a1 : Int} {Q : Int → Prop} (hn : 115 ≤ n) (hp : Pic X h) (w : w_X12_isOver  a0 a1 X Q) : Sp m_X12_isOver 1 0 0 [.ref 77, .int (iI a0), .int (iI a1)] n h (pIr n h Q) := by
  unfold w_X12_isOver at w
  refine Sp.ofV (by decide +kernel) (Nat.le_of_ble_eq_true rfl) ?_
  have hf : Fr h h := fun _ _ => rfl
  refine v_iconstI dX12_isOver_0 ?_
  refine v_istore_n dX12_isOver_1 (Nat.le_of_ble_eq_true rfl) ?_
  refine v_iconstI dX12_isOver_2 ?_
  refine v_istore dX12_isOver_3 (Nat.le_of_ble_eq_true rfl) ?_
  refine v_pick [2, 3, 4, 1, 0] rfl ?_
  obtain ⟨I3, m4, wi7, wl6⟩ := w
  have hL8 : ∀ (N11 : Nat) (x1 : Int) (x2 : Int), m4 x1 x2 < N11 → I3 x1 x2 → V (m_X12_isOver, 1, 0, 0, n, pIr n h Q, s_G0) 0 0 n h 5 [(0, .ref 77), (1, .int (iI a0)), (2, .int (iI a1)), (3, .int (iI x1)), (4, .int (iI x2))] [] := by
    intro N11
    induction N11 with
    | zero => intro x1 x2  hm9; exact absurd hm9 (Nat.not_lt_zero _)
    | succ N11 ih5 =>
      intro x1 x2  hm9 hI10
      have w := wl6 x1 x2 hI10
      refine v_iload dX12_isOver_5 rfl ?_
      refine v_aload_n dX12_isOver_7 rfl ?_
      refine v_get dX12_isOver_8 fl_X12_13 ((hp 77 (by decide)).trans (ent_77 _)) rfl (s_lt hn rfl) ?_
      refine v_iconstI dX12_isOver_11 ?_
      refine v_ialdI dX12_isOver_12 ((hp 79 (by decide)).trans (ent_79 _)) (s_lt hn rfl) (by decide) (by decide) (by decide) ?_
      obtain ⟨q12, q13, w⟩ := w
      refine v_icmp_geI (tgt := 52) dX12_isOver_13 (by decide) q12.1 q12.2 q13.1 q13.2 (fun c14 => ?_) (fun c14 => ?_)
      · replace w := w.1 c14
        refine v_iload_n dX12_isOver_52 rfl ?_
        obtain ⟨q15, w⟩ := w
        exact v_zretZ dX12_isOver_53 rfl q15 (Nat.zero_le _) (Nat.zero_le _) ⟨rfl, rfl, _, rfl, w⟩
      · replace w := w.2 c14
        refine v_iload_n dX12_isOver_16 rfl ?_
        replace w := w (V (m_X12_isOver, 1, 0, 0, n, pIr n h Q, s_G0) 0 0 n h 44 [(0, .ref 77), (1, .int (iI a0)), (2, .int (iI a1)), (4, .int (iI x2))] []) (by
          intro  w
          refine v_iconstI dX12_isOver_44 ?_
          refine v_istore_n dX12_isOver_45 (Nat.le_of_ble_eq_true rfl) ?_
          refine v_iincI dX12_isOver_46 rfl (Nat.le_of_ble_eq_true rfl) ?_
          refine v_goto (tgt := 5) dX12_isOver_49 (by decide) ?_
          refine v_pick [2, 3, 4, 1, 0] rfl ?_
          exact ih5 _ _ (Nat.lt_of_lt_of_le w.2 (Nat.le_of_lt_succ hm9)) w.1
        )
        obtain ⟨q17, w⟩ := w
        refine v_if_eqI (tgt := 44) dX12_isOver_17 (by decide) q17.1 q17.2 (fun c18 => ?_) (fun c18 => ?_)
        · replace w := w.1 c18
          refine v_pick [0, 1, 2, 4] rfl ?_
          exact w
        · replace w := w.2 c18
          refine v_iload_n dX12_isOver_20 rfl ?_
          refine v_iload dX12_isOver_21 rfl ?_
          refine v_callSIr dX12_isOver_23 ml_X12_532 (so_X12_is hn hp  w) rfl rfl (Nat.le_of_ble_eq_true rfl) (Nat.le_of_ble_eq_true rfl) (Nat.zero_le _) (Nat.zero_le _) (fun v19 w => ?_)
          replace w := w (V (m_X12_isOver, 1, 0, 0, n, pIr n h Q, s_G0) 0 0 n h 40 [(0, .ref 77), (1, .int (iI a0)), (2, .int (iI a1)), (4, .int (iI x2))] []) (by
            intro  w
            refine v_iconstI dX12_isOver_40 ?_
            refine v_goto (tgt := 45) dX12_isOver_41 (by decide) ?_
            refine v_istore_n dX12_isOver_45 (Nat.le_of_ble_eq_true rfl) ?_
            refine v_iincI dX12_isOver_46 rfl (Nat.le_of_ble_eq_true rfl) ?_
            refine v_goto (tgt := 5) dX12_isOver_49 (by decide) ?_
            refine v_pick [2, 3, 4, 1, 0] rfl ?_
            exact ih5 _ _ (Nat.lt_of_lt_of_le w.2 (Nat.le_of_lt_succ hm9)) w.1
          )
          obtain ⟨q26, w⟩ := w
          refine v_if_eqI (tgt := 40) dX12_isOver_26 (by decide) q26.1 q26.2 (fun c27 => ?_) (fun c27 => ?_)
          · replace w := w.1 c27
            refine v_pick [0, 1, 2, 4] rfl ?_
            exact w
          · replace w := w.2 c27
            refine v_aload_n dX12_isOver_29 rfl ?_
            refine v_iload dX12_isOver_30 rfl ?_
            refine v_iconstI dX12_isOver_32 ?_
            obtain ⟨q28, w⟩ := w
            refine v_callVp dX12_isOver_33 ml_X12_501 (sv_X12_ofContract (a := x2) (b := 2) (g77 := X 77) (g79 := X 79) hn (hp 77 (by decide)) (hp 79 (by decide)) q28 (by decide)) ((hp 77 (by decide)).trans (ent_77 _)) rfl (s_lt hn rfl) rfl rfl (Nat.le_of_ble_eq_true rfl) (Nat.le_of_ble_eq_true rfl) (Nat.zero_le _) (Nat.zero_le _) ?_
            refine v_iload_n dX12_isOver_36 rfl ?_
            obtain ⟨q29, q30, w⟩ := w
            refine v_icmp_geI (tgt := 44) dX12_isOver_37 (by decide) q29.1 q29.2 q30.1 q30.2 (fun c31 => ?_) (fun c31 => ?_)
            · replace w := w.1 c31
              refine v_pick [0, 1, 2, 4] rfl ?_
              exact w
            · replace w := w.2 c31
              refine v_pick [0, 1, 2, 4] rfl ?_
              exact w
  exact hL8 _ _ _ (Nat.lt_succ_self _) wi7
theorem dX12_serves_0 : decode cX12_serves 0 = .ok (.iconst 1, 1) := by decide +kernel
theorem dX12_serves_1 : decode cX12_serves 1 = .ok (.istore 5, 2) := by decide +kernel
theorem dX12_serves_3 : decode cX12_serves 3 = .ok (.iconst 0, 1) := by decide +kernel
theorem dX12_serves_4 : decode cX12_serves 4 = .ok (.istore 6, 2) := by decide +kernel
theorem dX12_serves_6 : decode cX12_serves 6 = .ok (.iload 6, 2) := by decide +kernel
theorem dX12_serves_8 : decode cX12_serves 8 = .ok (.aload_n 0, 1) := by decide +kernel
theorem dX12_serves_9 : decode cX12_serves 9 = .ok (.getfield 13, 3) := by decide +kernel
theorem dX12_serves_12 : decode cX12_serves 12 = .ok (.iconst 2, 1) := by decide +kernel
theorem dX12_serves_13 : decode cX12_serves 13 = .ok (.iaload, 1) := by decide +kernel
theorem dX12_serves_14 : decode cX12_serves 14 = .ok (.if_icmp .ge 71, 3) := by decide +kernel
theorem dX12_serves_17 : decode cX12_serves 17 = .ok (.iload_n 2, 1) := by decide +kernel
theorem dX12_serves_18 : decode cX12_serves 18 = .ok (.iload 6, 2) := by decide +kernel
theorem dX12_serves_20 : decode cX12_serves 20 = .ok (.invokestatic 532, 3) := by decide +kernel
theorem dX12_serves_23 : decode cX12_serves 23 = .ok (.ifCond .eq 56, 3) := by decide +kernel
theorem dX12_serves_26 : decode cX12_serves 26 = .ok (.iload_n 3, 1) := by decide +kernel
theorem dX12_serves_27 : decode cX12_serves 27 = .ok (.i2l, 1) := by decide +kernel
theorem dX12_serves_28 : decode cX12_serves 28 = .ok (.aload_n 0, 1) := by decide +kernel
theorem dX12_serves_29 : decode cX12_serves 29 = .ok (.iload 6, 2) := by decide +kernel
theorem dX12_serves_31 : decode cX12_serves 31 = .ok (.iconst 1, 1) := by decide +kernel
theorem dX12_serves_32 : decode cX12_serves 32 = .ok (.invokevirtual 501, 3) := by decide +kernel
theorem dX12_serves_35 : decode cX12_serves 35 = .ok (.i2l, 1) := by decide +kernel
theorem dX12_serves_36 : decode cX12_serves 36 = .ok (.aload_n 0, 1) := by decide +kernel
theorem dX12_serves_37 : decode cX12_serves 37 = .ok (.iload 6, 2) := by decide +kernel
theorem dX12_serves_39 : decode cX12_serves 39 = .ok (.iconst 2, 1) := by decide +kernel
theorem dX12_serves_40 : decode cX12_serves 40 = .ok (.invokevirtual 501, 3) := by decide +kernel
theorem dX12_serves_43 : decode cX12_serves 43 = .ok (.i2l, 1) := by decide +kernel
theorem dX12_serves_44 : decode cX12_serves 44 = .ok (.invokestatic 175, 3) := by decide +kernel
theorem dX12_serves_47 : decode cX12_serves 47 = .ok (.ifCond .eq 32, 3) := by decide +kernel
theorem dX12_serves_50 : decode cX12_serves 50 = .ok (.iload 5, 2) := by decide +kernel
theorem dX12_serves_52 : decode cX12_serves 52 = .ok (.ifCond .eq 24, 3) := by decide +kernel
theorem dX12_serves_55 : decode cX12_serves 55 = .ok (.aload_n 0, 1) := by decide +kernel
theorem dX12_serves_56 : decode cX12_serves 56 = .ok (.iload_n 1, 1) := by decide +kernel
theorem dX12_serves_57 : decode cX12_serves 57 = .ok (.iload 4, 2) := by decide +kernel
theorem dX12_serves_59 : decode cX12_serves 59 = .ok (.aload_n 0, 1) := by decide +kernel
theorem dX12_serves_60 : decode cX12_serves 60 = .ok (.iload 6, 2) := by decide +kernel
theorem dX12_serves_62 : decode cX12_serves 62 = .ok (.iconst 0, 1) := by decide +kernel
theorem dX12_serves_63 : decode cX12_serves 63 = .ok (.invokevirtual 501, 3) := by decide +kernel
theorem dX12_serves_66 : decode cX12_serves 66 = .ok (.invokevirtual 475, 3) := by decide +kernel
theorem dX12_serves_69 : decode cX12_serves 69 = .ok (.ifCond .eq 7, 3) := by decide +kernel
theorem dX12_serves_72 : decode cX12_serves 72 = .ok (.iconst 1, 1) := by decide +kernel
theorem dX12_serves_73 : decode cX12_serves 73 = .ok (.goto 4, 3) := by decide +kernel
theorem dX12_serves_76 : decode cX12_serves 76 = .ok (.iconst 0, 1) := by decide +kernel
theorem dX12_serves_77 : decode cX12_serves 77 = .ok (.istore 5, 2) := by decide +kernel
theorem dX12_serves_79 : decode cX12_serves 79 = .ok (.iinc 6 1, 3) := by decide +kernel
theorem dX12_serves_82 : decode cX12_serves 82 = .ok (.goto (-76), 3) := by decide +kernel
theorem dX12_serves_85 : decode cX12_serves 85 = .ok (.iload 5, 2) := by decide +kernel
theorem dX12_serves_87 : decode cX12_serves 87 = .ok (.ireturn, 1) := by decide +kernel
def w_X12_serves (a0 a1 a2 a3 : Int) (X : XT) (Q : Int → Prop) : Prop :=
  ∃ (I3 : Int → Int → Prop) (m4 : Int → Int → Nat), I3 1 0 ∧ ∀ (x1 : Int) (x2 : Int), I3 x1 x2 → R32 x2 ∧ R32 (X 79 2) ∧ ((X 79 2) ≤ x2 → (x1 = 0 ∨ x1 = 1) ∧ Q x1) ∧ (¬ (X 79 2) ≤ x2 → w_X12_is  a1 x2 X (fun (v16 : Int) => R32 v16 ∧ (v16 = 0 → I3 x1 (x2 + 1) ∧ m4 x1 (x2 + 1) < m4 x1 x2) ∧ (¬ v16 = 0 → R32 a2 ∧ (0 ≤ x2 ∧ x2 ≤ 7) ∧ R32 (X 79 (304 + 5 * x2 + 1)) ∧ R32 (X 79 (304 + 5 * x2 + 2)) ∧ (¬ ((X 79 (304 + 5 * x2 + 1)) ≤ a2 ∧ a2 ≤ (X 79 (304 + 5 * x2 + 2))) → I3 x1 (x2 + 1) ∧ m4 x1 (x2 + 1) < m4 x1 x2) ∧ (((X 79 (304 + 5 * x2 + 1)) ≤ a2 ∧ a2 ≤ (X 79 (304 + 5 * x2 + 2))) → ∀ J29 : Prop, ((I3 0 (x2 + 1) ∧ m4 0 (x2 + 1) < m4 x1 x2) → J29) → R32 x1 ∧ (x1 = 0 → J29 ) ∧ (¬ x1 = 0 → w_X12_shades  a0 a3 (X 79 (304 + 5 * x2 + 0)) X (fun (v32 : Int) => R32 v32 ∧ (v32 = 0 → J29 ) ∧ (¬ v32 = 0 → I3 1 (x2 + 1) ∧ m4 1 (x2 + 1) < m4 x1 x2)))))))
set_option maxRecDepth 20000 in
theorem so_X12_serves {n : Nat} {h : Nat → sE} {X : XT} {a0 a1 a2 a3 : Int} {Q : Int → Prop} (hn : 115 ≤ n) (hp : Pic X h) (w : w_X12_serves  a0 a1 a2 a3 X Q) : Sp m_X12_serves 3 0 0 [.ref 77, .int (iI a0), .int (iI a1), .int (iI a2), .int (iI a3)] n h (pIr n h Q) := by
  unfold w_X12_serves at w
  refine Sp.ofV (by decide +kernel) (Nat.le_of_ble_eq_true rfl) ?_
  have hf : Fr h h := fun _ _ => rfl
  refine v_iconstI dX12_serves_0 ?_
  refine v_istore dX12_serves_1 (Nat.le_of_ble_eq_true rfl) ?_
  refine v_iconstI dX12_serves_3 ?_
  refine v_istore dX12_serves_4 (Nat.le_of_ble_eq_true rfl) ?_
  refine v_pick [2, 3, 4, 5, 6, 1, 0] rfl ?_
  obtain ⟨I3, m4, wi7, wl6⟩ := w
  have hL8 : ∀ (N11 : Nat) (x1 : Int) (x2 : Int), m4 x1 x2 < N11 → I3 x1 x2 → V (m_X12_serves, 3, 0, 0, n, pIr n h Q, s_G0) 0 0 n h 6 [(0, .ref 77), (1, .int (iI a0)), (2, .int (iI a1)), (3, .int (iI a2)), (4, .int (iI a3)), (5, .int (iI x1)), (6, .int (iI x2))] [] := by
    intro N11
    induction N11 with
    | zero => intro x1 x2  hm9; exact absurd hm9 (Nat.not_lt_zero _)
    | succ N11 ih5 =>
      intro x1 x2  hm9 hI10
      have w := wl6 x1 x2 hI10
      refine v_iload dX12_serves_6 rfl ?_
      refine v_aload_n dX12_serves_8 rfl ?_
      refine v_get dX12_serves_9 fl_X12_13 ((hp 77 (by decide)).trans (ent_77 _)) rfl (s_lt hn rfl) ?_
      refine v_iconstI dX12_serves_12 ?_
      refine v_ialdI dX12_serves_13 ((hp 79 (by decide)).trans (ent_79 _)) (s_lt hn rfl) (by decide) (by decide) (by decide) ?_
      obtain ⟨q12, q13, w⟩ := w
      refine v_icmp_geI (tgt := 85) dX12_serves_14 (by decide) q12.1 q12.2 q13.1 q13.2 (fun c14 => ?_) (fun c14 => ?_)
      · replace w := w.1 c14
        refine v_iload dX12_serves_85 rfl ?_
        obtain ⟨q15, w⟩ := w
        exact v_zretZ dX12_serves_87 rfl q15 (Nat.zero_le _) (Nat.zero_le _) ⟨rfl, rfl, _, rfl, w⟩
      · replace w := w.2 c14
        refine v_iload_n dX12_serves_17 rfl ?_
        refine v_iload dX12_serves_18 rfl ?_
        refine v_callSIr dX12_serves_20 ml_X12_532 (so_X12_is hn hp  w) rfl rfl (Nat.le_of_ble_eq_true rfl) (Nat.le_of_ble_eq_true rfl) (Nat.zero_le _) (Nat.zero_le _) (fun v16 w => ?_)
        obtain ⟨q22, w⟩ := w
        refine v_if_eqI (tgt := 79) dX12_serves_23 (by decide) q22.1 q22.2 (fun c23 => ?_) (fun c23 => ?_)
        · replace w := w.1 c23
          refine v_iincI dX12_serves_79 rfl (Nat.le_of_ble_eq_true rfl) ?_
          refine v_goto (tgt := 6) dX12_serves_82 (by decide) ?_
          refine v_pick [1, 2, 3, 4, 5, 6, 0] rfl ?_
          exact ih5 _ _ (Nat.lt_of_lt_of_le w.2 (Nat.le_of_lt_succ hm9)) w.1
        · replace w := w.2 c23
          refine v_iload_n dX12_serves_26 rfl ?_
          obtain ⟨q24, w⟩ := w
          refine v_i2lI dX12_serves_27 q24.1 q24.2 ?_
          refine v_aload_n dX12_serves_28 rfl ?_
          refine v_iload dX12_serves_29 rfl ?_
          refine v_iconstI dX12_serves_31 ?_
          obtain ⟨q25, w⟩ := w
          refine v_callVp dX12_serves_32 ml_X12_501 (sv_X12_ofContract (a := x2) (b := 1) (g77 := X 77) (g79 := X 79) hn (hp 77 (by decide)) (hp 79 (by decide)) q25 (by decide)) ((hp 77 (by decide)).trans (ent_77 _)) rfl (s_lt hn rfl) rfl rfl (Nat.le_of_ble_eq_true rfl) (Nat.le_of_ble_eq_true rfl) (Nat.zero_le _) (Nat.zero_le _) ?_
          obtain ⟨q26, w⟩ := w
          refine v_i2lI dX12_serves_35 q26.1 q26.2 ?_
          refine v_aload_n dX12_serves_36 rfl ?_
          refine v_iload dX12_serves_37 rfl ?_
          refine v_iconstI dX12_serves_39 ?_
          refine v_callVp dX12_serves_40 ml_X12_501 (sv_X12_ofContract (a := x2) (b := 2) (g77 := X 77) (g79 := X 79) hn (hp 77 (by decide)) (hp 79 (by decide)) q25 (by decide)) ((hp 77 (by decide)).trans (ent_77 _)) rfl (s_lt hn rfl) rfl rfl (Nat.le_of_ble_eq_true rfl) (Nat.le_of_ble_eq_true rfl) (Nat.zero_le _) (Nat.zero_le _) ?_
          obtain ⟨q27, w⟩ := w
          refine v_i2lI dX12_serves_43 q27.1 q27.2 ?_
          refine v_callSp dX12_serves_44 ml_X12_175 (sp_X12_in (v := a2) (lo := (X 79 (304 + 5 * x2 + 1))) (hi := (X 79 (304 + 5 * x2 + 2))) (r32_64 q24) (r32_64 q26) (r32_64 q27)) rfl rfl (Nat.le_of_ble_eq_true rfl) (Nat.le_of_ble_eq_true rfl) (Nat.zero_le _) (Nat.zero_le _) ?_
          refine v_ifeqB (tgt := 79) dX12_serves_47 (by decide) (fun c28 => ?_) (fun c28 => ?_)
          · replace w := w.1 c28
            refine v_iincI dX12_serves_79 rfl (Nat.le_of_ble_eq_true rfl) ?_
            refine v_goto (tgt := 6) dX12_serves_82 (by decide) ?_
            refine v_pick [1, 2, 3, 4, 5, 6, 0] rfl ?_
            exact ih5 _ _ (Nat.lt_of_lt_of_le w.2 (Nat.le_of_lt_succ hm9)) w.1
          · replace w := w.2 c28
            refine v_iload dX12_serves_50 rfl ?_
            replace w := w (V (m_X12_serves, 3, 0, 0, n, pIr n h Q, s_G0) 0 0 n h 76 [(0, .ref 77), (1, .int (iI a0)), (2, .int (iI a1)), (3, .int (iI a2)), (4, .int (iI a3)), (6, .int (iI x2))] []) (by
              intro  w
              refine v_iconstI dX12_serves_76 ?_
              refine v_istore dX12_serves_77 (Nat.le_of_ble_eq_true rfl) ?_
              refine v_iincI dX12_serves_79 rfl (Nat.le_of_ble_eq_true rfl) ?_
              refine v_goto (tgt := 6) dX12_serves_82 (by decide) ?_
              refine v_pick [2, 3, 4, 5, 6, 1, 0] rfl ?_
              exact ih5 _ _ (Nat.lt_of_lt_of_le w.2 (Nat.le_of_lt_succ hm9)) w.1
            )
            obtain ⟨q30, w⟩ := w
            refine v_if_eqI (tgt := 76) dX12_serves_52 (by decide) q30.1 q30.2 (fun c31 => ?_) (fun c31 => ?_)
            · replace w := w.1 c31
              refine v_pick [0, 1, 2, 3, 4, 6] rfl ?_
              exact w
            · replace w := w.2 c31
              refine v_aload_n dX12_serves_55 rfl ?_
              refine v_iload_n dX12_serves_56 rfl ?_
              refine v_iload dX12_serves_57 rfl ?_
              refine v_aload_n dX12_serves_59 rfl ?_
              refine v_iload dX12_serves_60 rfl ?_
              refine v_iconstI dX12_serves_62 ?_
              refine v_callVp dX12_serves_63 ml_X12_501 (sv_X12_ofContract (a := x2) (b := 0) (g77 := X 77) (g79 := X 79) hn (hp 77 (by decide)) (hp 79 (by decide)) q25 (by decide)) ((hp 77 (by decide)).trans (ent_77 _)) rfl (s_lt hn rfl) rfl rfl (Nat.le_of_ble_eq_true rfl) (Nat.le_of_ble_eq_true rfl) (Nat.zero_le _) (Nat.zero_le _) ?_
              refine v_callVIr dX12_serves_66 ml_X12_475 (so_X12_shades hn hp  w) ((hp 77 (by decide)).trans (ent_77 _)) rfl (s_lt hn rfl) rfl rfl (Nat.le_of_ble_eq_true rfl) (Nat.le_of_ble_eq_true rfl) (Nat.zero_le _) (Nat.zero_le _) (fun v32 w => ?_)
              obtain ⟨q38, w⟩ := w
              refine v_if_eqI (tgt := 76) dX12_serves_69 (by decide) q38.1 q38.2 (fun c39 => ?_) (fun c39 => ?_)
              · replace w := w.1 c39
                refine v_pick [0, 1, 2, 3, 4, 6] rfl ?_
                exact w
              · replace w := w.2 c39
                refine v_iconstI dX12_serves_72 ?_
                refine v_goto (tgt := 77) dX12_serves_73 (by decide) ?_
                refine v_istore dX12_serves_77 (Nat.le_of_ble_eq_true rfl) ?_
                refine v_iincI dX12_serves_79 rfl (Nat.le_of_ble_eq_true rfl) ?_
                refine v_goto (tgt := 6) dX12_serves_82 (by decide) ?_
                refine v_pick [2, 3, 4, 5, 6, 1, 0] rfl ?_
                exact ih5 _ _ (Nat.lt_of_lt_of_le w.2 (Nat.le_of_lt_succ hm9)) w.1
  exact hL8 _ _ _ (Nat.lt_succ_self _) wi7
theorem dX12_canServe_0 : decode cX12_canServe 0 = .ok (.iconst 0, 1) := by decide +kernel
theorem dX12_canServe_1 : decode cX12_canServe 1 = .ok (.istore_n 3, 1) := by decide +kernel
theorem dX12_canServe_2 : decode cX12_canServe 2 = .ok (.iload_n 3, 1) := by decide +kernel
theorem dX12_canServe_3 : decode cX12_canServe 3 = .ok (.sipush 576, 3) := by decide +kernel
theorem dX12_canServe_6 : decode cX12_canServe 6 = .ok (.if_icmp .ge 16, 3) := by decide +kernel
theorem dX12_canServe_9 : decode cX12_canServe 9 = .ok (.aload_n 0, 1) := by decide +kernel
theorem dX12_canServe_10 : decode cX12_canServe 10 = .ok (.getfield 121, 3) := by decide +kernel
theorem dX12_canServe_13 : decode cX12_canServe 13 = .ok (.iload_n 3, 1) := by decide +kernel
theorem dX12_canServe_14 : decode cX12_canServe 14 = .ok (.iconst 0, 1) := by decide +kernel
theorem dX12_canServe_15 : decode cX12_canServe 15 = .ok (.bastore, 1) := by decide +kernel
theorem dX12_canServe_16 : decode cX12_canServe 16 = .ok (.iinc 3 1, 3) := by decide +kernel
theorem dX12_canServe_19 : decode cX12_canServe 19 = .ok (.goto (-17), 3) := by decide +kernel
theorem dX12_canServe_22 : decode cX12_canServe 22 = .ok (.aload_n 0, 1) := by decide +kernel
theorem dX12_canServe_23 : decode cX12_canServe 23 = .ok (.getfield 121, 3) := by decide +kernel
theorem dX12_canServe_26 : decode cX12_canServe 26 = .ok (.aload_n 0, 1) := by decide +kernel
theorem dX12_canServe_27 : decode cX12_canServe 27 = .ok (.iload_n 1, 1) := by decide +kernel
theorem dX12_canServe_28 : decode cX12_canServe 28 = .ok (.invokevirtual 464, 3) := by decide +kernel
theorem dX12_canServe_31 : decode cX12_canServe 31 = .ok (.iconst 1, 1) := by decide +kernel
theorem dX12_canServe_32 : decode cX12_canServe 32 = .ok (.bastore, 1) := by decide +kernel
theorem dX12_canServe_33 : decode cX12_canServe 33 = .ok (.iconst 0, 1) := by decide +kernel
theorem dX12_canServe_34 : decode cX12_canServe 34 = .ok (.istore_n 3, 1) := by decide +kernel
theorem dX12_canServe_35 : decode cX12_canServe 35 = .ok (.iload_n 3, 1) := by decide +kernel
theorem dX12_canServe_36 : decode cX12_canServe 36 = .ok (.bipush 12, 2) := by decide +kernel
theorem dX12_canServe_38 : decode cX12_canServe 38 = .ok (.if_icmp .ge 220, 3) := by decide +kernel
theorem dX12_canServe_41 : decode cX12_canServe 41 = .ok (.aload_n 0, 1) := by decide +kernel
theorem dX12_canServe_42 : decode cX12_canServe 42 = .ok (.iload_n 2, 1) := by decide +kernel
theorem dX12_canServe_43 : decode cX12_canServe 43 = .ok (.iload_n 3, 1) := by decide +kernel
theorem dX12_canServe_44 : decode cX12_canServe 44 = .ok (.invokevirtual 536, 3) := by decide +kernel
theorem dX12_canServe_47 : decode cX12_canServe 47 = .ok (.ifCond .ne 211, 3) := by decide +kernel
theorem dX12_canServe_50 : decode cX12_canServe 50 = .ok (.iconst 0, 1) := by decide +kernel
theorem dX12_canServe_51 : decode cX12_canServe 51 = .ok (.istore 4, 2) := by decide +kernel
theorem dX12_canServe_53 : decode cX12_canServe 53 = .ok (.iconst 0, 1) := by decide +kernel
theorem dX12_canServe_54 : decode cX12_canServe 54 = .ok (.istore 5, 2) := by decide +kernel
theorem dX12_canServe_56 : decode cX12_canServe 56 = .ok (.iload 5, 2) := by decide +kernel
theorem dX12_canServe_58 : decode cX12_canServe 58 = .ok (.sipush 576, 3) := by decide +kernel
theorem dX12_canServe_61 : decode cX12_canServe 61 = .ok (.if_icmp .ge 73, 3) := by decide +kernel
theorem dX12_canServe_64 : decode cX12_canServe 64 = .ok (.aload_n 0, 1) := by decide +kernel
theorem dX12_canServe_65 : decode cX12_canServe 65 = .ok (.getfield 124, 3) := by decide +kernel
theorem dX12_canServe_68 : decode cX12_canServe 68 = .ok (.iload 5, 2) := by decide +kernel
theorem dX12_canServe_70 : decode cX12_canServe 70 = .ok (.iconst 0, 1) := by decide +kernel
theorem dX12_canServe_71 : decode cX12_canServe 71 = .ok (.bastore, 1) := by decide +kernel
theorem dX12_canServe_72 : decode cX12_canServe 72 = .ok (.aload_n 0, 1) := by decide +kernel
theorem dX12_canServe_73 : decode cX12_canServe 73 = .ok (.getfield 121, 3) := by decide +kernel
theorem dX12_canServe_76 : decode cX12_canServe 76 = .ok (.iload 5, 2) := by decide +kernel
theorem dX12_canServe_78 : decode cX12_canServe 78 = .ok (.aload_n 0, 1) := by decide +kernel
theorem dX12_canServe_79 : decode cX12_canServe 79 = .ok (.getfield 121, 3) := by decide +kernel
theorem dX12_canServe_82 : decode cX12_canServe 82 = .ok (.iload 5, 2) := by decide +kernel
theorem dX12_canServe_84 : decode cX12_canServe 84 = .ok (.baload, 1) := by decide +kernel
theorem dX12_canServe_85 : decode cX12_canServe 85 = .ok (.ifCond .eq 19, 3) := by decide +kernel
theorem dX12_canServe_88 : decode cX12_canServe 88 = .ok (.aload_n 0, 1) := by decide +kernel
theorem dX12_canServe_89 : decode cX12_canServe 89 = .ok (.iload_n 1, 1) := by decide +kernel
theorem dX12_canServe_90 : decode cX12_canServe 90 = .ok (.iload_n 2, 1) := by decide +kernel
theorem dX12_canServe_91 : decode cX12_canServe 91 = .ok (.iload_n 3, 1) := by decide +kernel
theorem dX12_canServe_92 : decode cX12_canServe 92 = .ok (.iload 5, 2) := by decide +kernel
theorem dX12_canServe_94 : decode cX12_canServe 94 = .ok (.invokevirtual 539, 3) := by decide +kernel
theorem dX12_canServe_97 : decode cX12_canServe 97 = .ok (.ifCond .eq 7, 3) := by decide +kernel
theorem dX12_canServe_100 : decode cX12_canServe 100 = .ok (.iconst 1, 1) := by decide +kernel
theorem dX12_canServe_101 : decode cX12_canServe 101 = .ok (.goto 4, 3) := by decide +kernel
theorem dX12_canServe_104 : decode cX12_canServe 104 = .ok (.iconst 0, 1) := by decide +kernel
theorem dX12_canServe_105 : decode cX12_canServe 105 = .ok (.bastore, 1) := by decide +kernel
theorem dX12_canServe_106 : decode cX12_canServe 106 = .ok (.iload 4, 2) := by decide +kernel
theorem dX12_canServe_108 : decode cX12_canServe 108 = .ok (.ifCond .ne 13, 3) := by decide +kernel
theorem dX12_canServe_111 : decode cX12_canServe 111 = .ok (.aload_n 0, 1) := by decide +kernel
theorem dX12_canServe_112 : decode cX12_canServe 112 = .ok (.getfield 121, 3) := by decide +kernel
theorem dX12_canServe_115 : decode cX12_canServe 115 = .ok (.iload 5, 2) := by decide +kernel
theorem dX12_canServe_117 : decode cX12_canServe 117 = .ok (.baload, 1) := by decide +kernel
theorem dX12_canServe_118 : decode cX12_canServe 118 = .ok (.ifCond .eq 7, 3) := by decide +kernel
theorem dX12_canServe_121 : decode cX12_canServe 121 = .ok (.iconst 1, 1) := by decide +kernel
theorem dX12_canServe_122 : decode cX12_canServe 122 = .ok (.goto 4, 3) := by decide +kernel
theorem dX12_canServe_125 : decode cX12_canServe 125 = .ok (.iconst 0, 1) := by decide +kernel
theorem dX12_canServe_126 : decode cX12_canServe 126 = .ok (.istore 4, 2) := by decide +kernel
theorem dX12_canServe_128 : decode cX12_canServe 128 = .ok (.iinc 5 1, 3) := by decide +kernel
theorem dX12_canServe_131 : decode cX12_canServe 131 = .ok (.goto (-75), 3) := by decide +kernel
theorem dX12_canServe_134 : decode cX12_canServe 134 = .ok (.iload 4, 2) := by decide +kernel
theorem dX12_canServe_136 : decode cX12_canServe 136 = .ok (.ifCond .ne 5, 3) := by decide +kernel
theorem dX12_canServe_139 : decode cX12_canServe 139 = .ok (.iconst 0, 1) := by decide +kernel
theorem dX12_canServe_140 : decode cX12_canServe 140 = .ok (.ireturn, 1) := by decide +kernel
theorem dX12_canServe_141 : decode cX12_canServe 141 = .ok (.iconst 0, 1) := by decide +kernel
theorem dX12_canServe_142 : decode cX12_canServe 142 = .ok (.istore 5, 2) := by decide +kernel
theorem dX12_canServe_144 : decode cX12_canServe 144 = .ok (.iload 5, 2) := by decide +kernel
theorem dX12_canServe_146 : decode cX12_canServe 146 = .ok (.sipush 576, 3) := by decide +kernel
theorem dX12_canServe_149 : decode cX12_canServe 149 = .ok (.if_icmp .ge 72, 3) := by decide +kernel
theorem dX12_canServe_152 : decode cX12_canServe 152 = .ok (.aload_n 0, 1) := by decide +kernel
theorem dX12_canServe_153 : decode cX12_canServe 153 = .ok (.iload_n 2, 1) := by decide +kernel
theorem dX12_canServe_154 : decode cX12_canServe 154 = .ok (.iload_n 3, 1) := by decide +kernel
theorem dX12_canServe_155 : decode cX12_canServe 155 = .ok (.iconst 1, 1) := by decide +kernel
theorem dX12_canServe_156 : decode cX12_canServe 156 = .ok (.iadd, 1) := by decide +kernel
theorem dX12_canServe_157 : decode cX12_canServe 157 = .ok (.invokevirtual 536, 3) := by decide +kernel
theorem dX12_canServe_160 : decode cX12_canServe 160 = .ok (.ifCond .ne 61, 3) := by decide +kernel
theorem dX12_canServe_163 : decode cX12_canServe 163 = .ok (.iconst 0, 1) := by decide +kernel
theorem dX12_canServe_164 : decode cX12_canServe 164 = .ok (.istore 6, 2) := by decide +kernel
theorem dX12_canServe_166 : decode cX12_canServe 166 = .ok (.iload 6, 2) := by decide +kernel
theorem dX12_canServe_168 : decode cX12_canServe 168 = .ok (.iconst 5, 1) := by decide +kernel
theorem dX12_canServe_169 : decode cX12_canServe 169 = .ok (.if_icmp .ge 46, 3) := by decide +kernel
theorem dX12_canServe_172 : decode cX12_canServe 172 = .ok (.aload_n 0, 1) := by decide +kernel
theorem dX12_canServe_173 : decode cX12_canServe 173 = .ok (.getfield 121, 3) := by decide +kernel
theorem dX12_canServe_176 : decode cX12_canServe 176 = .ok (.iload 5, 2) := by decide +kernel
theorem dX12_canServe_178 : decode cX12_canServe 178 = .ok (.baload, 1) := by decide +kernel
theorem dX12_canServe_179 : decode cX12_canServe 179 = .ok (.ifCond .eq 36, 3) := by decide +kernel
theorem dX12_canServe_182 : decode cX12_canServe 182 = .ok (.aload_n 0, 1) := by decide +kernel
theorem dX12_canServe_183 : decode cX12_canServe 183 = .ok (.iload_n 1, 1) := by decide +kernel
theorem dX12_canServe_184 : decode cX12_canServe 184 = .ok (.iload_n 3, 1) := by decide +kernel
theorem dX12_canServe_185 : decode cX12_canServe 185 = .ok (.iload 5, 2) := by decide +kernel
theorem dX12_canServe_187 : decode cX12_canServe 187 = .ok (.iconst 0, 1) := by decide +kernel
theorem dX12_canServe_188 : decode cX12_canServe 188 = .ok (.iload 6, 2) := by decide +kernel
theorem dX12_canServe_190 : decode cX12_canServe 190 = .ok (.invokevirtual 508, 3) := by decide +kernel
theorem dX12_canServe_193 : decode cX12_canServe 193 = .ok (.istore 7, 2) := by decide +kernel
theorem dX12_canServe_195 : decode cX12_canServe 195 = .ok (.iload 7, 2) := by decide +kernel
theorem dX12_canServe_197 : decode cX12_canServe 197 = .ok (.iconst (-1), 1) := by decide +kernel
theorem dX12_canServe_198 : decode cX12_canServe 198 = .ok (.if_icmp .eq 11, 3) := by decide +kernel
theorem dX12_canServe_201 : decode cX12_canServe 201 = .ok (.aload_n 0, 1) := by decide +kernel
theorem dX12_canServe_202 : decode cX12_canServe 202 = .ok (.getfield 124, 3) := by decide +kernel
theorem dX12_canServe_205 : decode cX12_canServe 205 = .ok (.iload 7, 2) := by decide +kernel
theorem dX12_canServe_207 : decode cX12_canServe 207 = .ok (.iconst 1, 1) := by decide +kernel
theorem dX12_canServe_208 : decode cX12_canServe 208 = .ok (.bastore, 1) := by decide +kernel
theorem dX12_canServe_209 : decode cX12_canServe 209 = .ok (.iinc 6 1, 3) := by decide +kernel
theorem dX12_canServe_212 : decode cX12_canServe 212 = .ok (.goto (-46), 3) := by decide +kernel
theorem dX12_canServe_215 : decode cX12_canServe 215 = .ok (.iinc 5 1, 3) := by decide +kernel
theorem dX12_canServe_218 : decode cX12_canServe 218 = .ok (.goto (-74), 3) := by decide +kernel
theorem dX12_canServe_221 : decode cX12_canServe 221 = .ok (.iconst 0, 1) := by decide +kernel
theorem dX12_canServe_222 : decode cX12_canServe 222 = .ok (.istore 5, 2) := by decide +kernel
theorem dX12_canServe_224 : decode cX12_canServe 224 = .ok (.iload 5, 2) := by decide +kernel
theorem dX12_canServe_226 : decode cX12_canServe 226 = .ok (.sipush 576, 3) := by decide +kernel
theorem dX12_canServe_229 : decode cX12_canServe 229 = .ok (.if_icmp .ge 23, 3) := by decide +kernel
theorem dX12_canServe_232 : decode cX12_canServe 232 = .ok (.aload_n 0, 1) := by decide +kernel
theorem dX12_canServe_233 : decode cX12_canServe 233 = .ok (.getfield 121, 3) := by decide +kernel
theorem dX12_canServe_236 : decode cX12_canServe 236 = .ok (.iload 5, 2) := by decide +kernel
theorem dX12_canServe_238 : decode cX12_canServe 238 = .ok (.aload_n 0, 1) := by decide +kernel
theorem dX12_canServe_239 : decode cX12_canServe 239 = .ok (.getfield 124, 3) := by decide +kernel
theorem dX12_canServe_242 : decode cX12_canServe 242 = .ok (.iload 5, 2) := by decide +kernel
theorem dX12_canServe_244 : decode cX12_canServe 244 = .ok (.baload, 1) := by decide +kernel
theorem dX12_canServe_245 : decode cX12_canServe 245 = .ok (.bastore, 1) := by decide +kernel
theorem dX12_canServe_246 : decode cX12_canServe 246 = .ok (.iinc 5 1, 3) := by decide +kernel
theorem dX12_canServe_249 : decode cX12_canServe 249 = .ok (.goto (-25), 3) := by decide +kernel
theorem dX12_canServe_252 : decode cX12_canServe 252 = .ok (.iinc 3 1, 3) := by decide +kernel
theorem dX12_canServe_255 : decode cX12_canServe 255 = .ok (.goto (-220), 3) := by decide +kernel
theorem dX12_canServe_258 : decode cX12_canServe 258 = .ok (.iconst 1, 1) := by decide +kernel
theorem dX12_canServe_259 : decode cX12_canServe 259 = .ok (.ireturn, 1) := by decide +kernel
def w_X12_canServe (a0 a1 : Int) (X : XT) (Q : Int → XT → Prop) : Prop :=
  ∃ (I3 : Int → XT → Prop) (m4 : Int → XT → Nat), I3 0 X ∧ ∀ (x1 : Int) (X2 : XT), I3 x1 X2 → R32 x1 ∧ (576 ≤ x1 → w_X12_beginsAt  a0 X2 (fun (v17 : Int) => (0 ≤ v17 ∧ v17 < 576) ∧ ∃ (I31 : Int → XT → Prop) (m32 : Int → XT → Nat), I31 0 (x_st X2 100 v17 1) ∧ ∀ (x29 : Int) (X30 : XT), I31 x29 X30 → R32 x29 ∧ (12 ≤ x29 → Q 1 X30) ∧ (¬ 12 ≤ x29 → w_X12_isOver  a1 x29 X30 (fun (v45 : Int) => R32 v45 ∧ (¬ v45 = 0 → Q 1 X30) ∧ (v45 = 0 → ∃ (I56 : Int → Int → XT → Prop) (m57 : Int → Int → XT → Nat), I56 0 0 X30 ∧ ∀ (x53 : Int) (x54 : Int) (X55 : XT), I56 x53 x54 X55 → R32 x54 ∧ (576 ≤ x54 → R32 x53 ∧ (¬ x53 = 0 → ∃ (I74 : Int → XT → Prop) (m75 : Int → XT → Nat), I74 0 X55 ∧ ∀ (x72 : Int) (X73 : XT), I74 x72 X73 → ∀ J86 : Prop, ((∃ (I89 : Int → XT → Prop) (m90 : Int → XT → Nat), I89 0 X73 ∧ ∀ (x87 : Int) (X88 : XT), I89 x87 X88 → R32 x87 ∧ (576 ≤ x87 → I31 (x29 + 1) X88 ∧ m32 (x29 + 1) X88 < m32 x29 X30) ∧ (¬ 576 ≤ x87 → (0 ≤ x87 ∧ x87 < 576) ∧ ((X88 101 x87) = 0 ∨ (X88 101 x87) = 1) ∧ I89 (x87 + 1) (x_st X88 100 x87 (X88 101 x87)) ∧ m90 (x87 + 1) (x_st X88 100 x87 (X88 101 x87)) < m90 x87 X88)) → J86) → R32 x72 ∧ (576 ≤ x72 → J86 ) ∧ (¬ 576 ≤ x72 → w_X12_isOver  a1 (x29 + 1) X73 (fun (v112 : Int) => R32 v112 ∧ (¬ v112 = 0 → J86 ) ∧ (v112 = 0 → ∃ (I122 : Int → XT → Prop) (m123 : Int → XT → Nat), I122 0 X73 ∧ ∀ (x120 : Int) (X121 : XT), I122 x120 X121 → R32 x120 ∧ (5 ≤ x120 → I74 (x72 + 1) X121 ∧ m75 (x72 + 1) X121 < m75 x72 X73) ∧ (¬ 5 ≤ x120 → (0 ≤ x72 ∧ x72 < 576) ∧ R32 (X121 100 x72) ∧ ((X121 100 x72) = 0 → I74 (x72 + 1) X121 ∧ m75 (x72 + 1) X121 < m75 x72 X73) ∧ (¬ (X121 100 x72) = 0 → w_X12_nextOf  a0 x29 x72 0 x120 X121 (fun (v139 : Int) => R32 v139 ∧ (v139 = (-1) → I122 (x120 + 1) X121 ∧ m123 (x120 + 1) X121 < m123 x120 X121) ∧ (¬ v139 = (-1) → (0 ≤ v139 ∧ v139 < 576) ∧ I122 (x120 + 1) (x_st X121 101 v139 1) ∧ m123 (x120 + 1) (x_st X121 101 v139 1) < m123 x120 X121)))))))) ∧ (x53 = 0 → Q 0 X55)) ∧ (¬ 576 ≤ x54 → (0 ≤ x54 ∧ x54 < 576) ∧ ∀ J160 : Int → Prop, (∀ (v159 : Int), ((v159 = 0 ∨ v159 = 1) ∧ ∀ J167 : Prop, ((I56 1 (x54 + 1) (x_st (x_st X55 101 x54 0) 100 x54 v159) ∧ m57 1 (x54 + 1) (x_st (x_st X55 101 x54 0) 100 x54 v159) < m57 x53 x54 X55) → J167) → R32 x53 ∧ (¬ x53 = 0 → J167 ) ∧ (x53 = 0 → R32 ((x_st (x_st X55 101 x54 0) 100 x54 v159) 100 x54) ∧ (((x_st (x_st X55 101 x54 0) 100 x54 v159) 100 x54) = 0 → I56 0 (x54 + 1) (x_st (x_st X55 101 x54 0) 100 x54 v159) ∧ m57 0 (x54 + 1) (x_st (x_st X55 101 x54 0) 100 x54 v159) < m57 x53 x54 X55) ∧ (¬ ((x_st (x_st X55 101 x54 0) 100 x54 v159) 100 x54) = 0 → J167 ))) → J160 v159) → R32 ((x_st X55 101 x54 0) 100 x54) ∧ (((x_st X55 101 x54 0) 100 x54) = 0 → J160 0) ∧ (¬ ((x_st X55 101 x54 0) 100 x54) = 0 → w_X12_serves  a0 a1 x29 x54 (x_st X55 101 x54 0) (fun (v174 : Int) => R32 v174 ∧ (v174 = 0 → J160 0) ∧ (¬ v174 = 0 → J160 1))))))))) ∧ (¬ 576 ≤ x1 → (0 ≤ x1 ∧ x1 < 576) ∧ I3 (x1 + 1) (x_st X2 100 x1 0) ∧ m4 (x1 + 1) (x_st X2 100 x1 0) < m4 x1 X2)
set_option maxRecDepth 20000 in
theorem so_X12_canServe {n : Nat} {h : Nat → sE} {X : XT} {a0 a1 : Int} {Q : Int → XT → Prop} (hn : 115 ≤ n) (hp : Pic X h) (w : w_X12_canServe  a0 a1 X Q) : Sp m_X12_canServe 5 0 0 [.ref 77, .int (iI a0), .int (iI a1)] n h (pIw n h Q) := by
  unfold w_X12_canServe at w
  refine Sp.ofV (by decide +kernel) (Nat.le_of_ble_eq_true rfl) ?_
  have hf : Fr h h := fun _ _ => rfl
  refine v_iconstI dX12_canServe_0 ?_
  refine v_istore_n dX12_canServe_1 (Nat.le_of_ble_eq_true rfl) ?_
  refine v_pick [1, 2, 3, 0] rfl ?_
  obtain ⟨I3, m4, wi7, wl6⟩ := w
  have hL8 : ∀ (N11 : Nat) (x1 : Int) (X2 : XT) (h12 : Nat → sE), m4 x1 X2 < N11 → I3 x1 X2 → Pic X2 h12 → Fr h h12 → V (m_X12_canServe, 5, 0, 0, n, pIw n h Q, s_G0) 0 0 n h12 2 [(0, .ref 77), (1, .int (iI a0)), (2, .int (iI a1)), (3, .int (iI x1))] [] := by
    intro N11
    induction N11 with
    | zero => intro x1 X2 h12 hm9; exact absurd hm9 (Nat.not_lt_zero _)
    | succ N11 ih5 =>
      intro x1 X2 h12 hm9 hI10 hp13 hf14
      have w := wl6 x1 X2 hI10
      refine v_iload_n dX12_canServe_2 rfl ?_
      refine v_sipushI dX12_canServe_3 rfl ?_
      obtain ⟨q15, w⟩ := w
      refine v_icmp_geI (tgt := 22) dX12_canServe_6 (by decide) q15.1 q15.2 (by decide) (by decide) (fun c16 => ?_) (fun c16 => ?_)
      · replace w := w.1 c16
        refine v_aload_n dX12_canServe_22 rfl ?_
        refine v_get dX12_canServe_23 fl_X12_121 ((hp13 77 (by decide)).trans (ent_77 _)) rfl (s_lt hn rfl) ?_
        refine v_aload_n dX12_canServe_26 rfl ?_
        refine v_iload_n dX12_canServe_27 rfl ?_
        refine v_callVIr dX12_canServe_28 ml_X12_464 (so_X12_beginsAt hn hp13  w) ((hp13 77 (by decide)).trans (ent_77 _)) rfl (s_lt hn rfl) rfl rfl (Nat.le_of_ble_eq_true rfl) (Nat.le_of_ble_eq_true rfl) (Nat.zero_le _) (Nat.zero_le _) (fun v17 w => ?_)
        refine v_iconstI dX12_canServe_31 ?_
        obtain ⟨q23, w⟩ := w
        refine v_zastI dX12_canServe_32 ((hp13 100 (by decide)).trans (ent_100 _)) (s_lt hn rfl) q23.1 q23.2 (ix_le q23.2 (by decide)) (by decide) (fun h24 E25 F26 => ?_)
        have hp27 := pic_st hp13 (show h24 100 = ent 100 (uI _ v17 1) from E25) F26
        have hf28 := Fr.up (c := 100) hf14 F26 rfl
        refine v_iconstI dX12_canServe_33 ?_
        refine v_istore_n dX12_canServe_34 (Nat.le_of_ble_eq_true rfl) ?_
        refine v_pick [1, 2, 3, 0] rfl ?_
        obtain ⟨I31, m32, wi35, wl34⟩ := w
        have hL36 : ∀ (N39 : Nat) (x29 : Int) (X30 : XT) (h40 : Nat → sE), m32 x29 X30 < N39 → I31 x29 X30 → Pic X30 h40 → Fr h h40 → V (m_X12_canServe, 5, 0, 0, n, pIw n h Q, s_G0) 0 0 n h40 35 [(0, .ref 77), (1, .int (iI a0)), (2, .int (iI a1)), (3, .int (iI x29))] [] := by
          intro N39
          induction N39 with
          | zero => intro x29 X30 h40 hm37; exact absurd hm37 (Nat.not_lt_zero _)
          | succ N39 ih33 =>
            intro x29 X30 h40 hm37 hI38 hp41 hf42
            have w := wl34 x29 X30 hI38
            refine v_iload_n dX12_canServe_35 rfl ?_
            refine v_bipushI dX12_canServe_36 rfl ?_
            obtain ⟨q43, w⟩ := w
            refine v_icmp_geI (tgt := 258) dX12_canServe_38 (by decide) q43.1 q43.2 (by decide) (by decide) (fun c44 => ?_) (fun c44 => ?_)
            · replace w := w.1 c44
              refine v_iconstI dX12_canServe_258 ?_
              exact v_z1 dX12_canServe_259 rfl (Nat.zero_le _) (Nat.zero_le _) ⟨rfl, hf42, _, _, rfl, hp41, w⟩
            · replace w := w.2 c44
              refine v_aload_n dX12_canServe_41 rfl ?_
              refine v_iload_n dX12_canServe_42 rfl ?_
              refine v_iload_n dX12_canServe_43 rfl ?_
              refine v_callVIr dX12_canServe_44 ml_X12_536 (so_X12_isOver hn hp41  w) ((hp41 77 (by decide)).trans (ent_77 _)) rfl (s_lt hn rfl) rfl rfl (Nat.le_of_ble_eq_true rfl) (Nat.le_of_ble_eq_true rfl) (Nat.zero_le _) (Nat.zero_le _) (fun v45 w => ?_)
              obtain ⟨q51, w⟩ := w
              refine v_if_neI (tgt := 258) dX12_canServe_47 (by decide) q51.1 q51.2 (fun c52 => ?_) (fun c52 => ?_)
              · replace w := w.1 c52
                refine v_iconstI dX12_canServe_258 ?_
                exact v_z1 dX12_canServe_259 rfl (Nat.zero_le _) (Nat.zero_le _) ⟨rfl, hf42, _, _, rfl, hp41, w⟩
              · replace w := w.2 c52
                refine v_iconstI dX12_canServe_50 ?_
                refine v_istore dX12_canServe_51 (Nat.le_of_ble_eq_true rfl) ?_
                refine v_iconstI dX12_canServe_53 ?_
                refine v_istore dX12_canServe_54 (Nat.le_of_ble_eq_true rfl) ?_
                refine v_pick [2, 3, 4, 5, 1, 0] rfl ?_
                obtain ⟨I56, m57, wi60, wl59⟩ := w
                have hL61 : ∀ (N64 : Nat) (x53 : Int) (x54 : Int) (X55 : XT) (h65 : Nat → sE), m57 x53 x54 X55 < N64 → I56 x53 x54 X55 → Pic X55 h65 → Fr h h65 → V (m_X12_canServe, 5, 0, 0, n, pIw n h Q, s_G0) 0 0 n h65 56 [(0, .ref 77), (1, .int (iI a0)), (2, .int (iI a1)), (3, .int (iI x29)), (4, .int (iI x53)), (5, .int (iI x54))] [] := by
                  intro N64
                  induction N64 with
                  | zero => intro x53 x54 X55 h65 hm62; exact absurd hm62 (Nat.not_lt_zero _)
                  | succ N64 ih58 =>
                    intro x53 x54 X55 h65 hm62 hI63 hp66 hf67
                    have w := wl59 x53 x54 X55 hI63
                    refine v_iload dX12_canServe_56 rfl ?_
                    refine v_sipushI dX12_canServe_58 rfl ?_
                    obtain ⟨q68, w⟩ := w
                    refine v_icmp_geI (tgt := 134) dX12_canServe_61 (by decide) q68.1 q68.2 (by decide) (by decide) (fun c69 => ?_) (fun c69 => ?_)
                    · replace w := w.1 c69
                      refine v_iload dX12_canServe_134 rfl ?_
                      obtain ⟨q70, w⟩ := w
                      refine v_if_neI (tgt := 141) dX12_canServe_136 (by decide) q70.1 q70.2 (fun c71 => ?_) (fun c71 => ?_)
                      · replace w := w.1 c71
                        refine v_iconstI dX12_canServe_141 ?_
                        refine v_istore dX12_canServe_142 (Nat.le_of_ble_eq_true rfl) ?_
                        refine v_pick [1, 2, 3, 4, 0] rfl ?_
                        obtain ⟨I74, m75, wi78, wl77⟩ := w
                        have hL79 : ∀ (N82 : Nat) (x72 : Int) (X73 : XT) (h83 : Nat → sE), m75 x72 X73 < N82 → I74 x72 X73 → Pic X73 h83 → Fr h h83 → V (m_X12_canServe, 5, 0, 0, n, pIw n h Q, s_G0) 0 0 n h83 144 [(0, .ref 77), (1, .int (iI a0)), (2, .int (iI a1)), (3, .int (iI x29)), (5, .int (iI x72))] [] := by
                          intro N82
                          induction N82 with
                          | zero => intro x72 X73 h83 hm80; exact absurd hm80 (Nat.not_lt_zero _)
                          | succ N82 ih76 =>
                            intro x72 X73 h83 hm80 hI81 hp84 hf85
                            have w := wl77 x72 X73 hI81
                            refine v_iload dX12_canServe_144 rfl ?_
                            refine v_sipushI dX12_canServe_146 rfl ?_
                            replace w := w (V (m_X12_canServe, 5, 0, 0, n, pIw n h Q, s_G0) 0 0 n h83 221 [(0, .ref 77), (1, .int (iI a0)), (2, .int (iI a1)), (3, .int (iI x29))] []) (by
                              intro  w
                              refine v_iconstI dX12_canServe_221 ?_
                              refine v_istore dX12_canServe_222 (Nat.le_of_ble_eq_true rfl) ?_
                              refine v_pick [1, 2, 3, 4, 0] rfl ?_
                              obtain ⟨I89, m90, wi93, wl92⟩ := w
                              have hL94 : ∀ (N97 : Nat) (x87 : Int) (X88 : XT) (h98 : Nat → sE), m90 x87 X88 < N97 → I89 x87 X88 → Pic X88 h98 → Fr h h98 → V (m_X12_canServe, 5, 0, 0, n, pIw n h Q, s_G0) 0 0 n h98 224 [(0, .ref 77), (1, .int (iI a0)), (2, .int (iI a1)), (3, .int (iI x29)), (5, .int (iI x87))] [] := by
                                intro N97
                                induction N97 with
                                | zero => intro x87 X88 h98 hm95; exact absurd hm95 (Nat.not_lt_zero _)
                                | succ N97 ih91 =>
                                  intro x87 X88 h98 hm95 hI96 hp99 hf100
                                  have w := wl92 x87 X88 hI96
                                  refine v_iload dX12_canServe_224 rfl ?_
                                  refine v_sipushI dX12_canServe_226 rfl ?_
                                  obtain ⟨q101, w⟩ := w
                                  refine v_icmp_geI (tgt := 252) dX12_canServe_229 (by decide) q101.1 q101.2 (by decide) (by decide) (fun c102 => ?_) (fun c102 => ?_)
                                  · replace w := w.1 c102
                                    refine v_iincI dX12_canServe_252 rfl (Nat.le_of_ble_eq_true rfl) ?_
                                    refine v_goto (tgt := 35) dX12_canServe_255 (by decide) ?_
                                    refine v_pick [1, 2, 3, 0] rfl ?_
                                    exact ih33 _ _ _ (Nat.lt_of_lt_of_le w.2 (Nat.le_of_lt_succ hm37)) w.1 hp99 hf100
                                  · replace w := w.2 c102
                                    refine v_aload_n dX12_canServe_232 rfl ?_
                                    refine v_get dX12_canServe_233 fl_X12_121 ((hp99 77 (by decide)).trans (ent_77 _)) rfl (s_lt hn rfl) ?_
                                    refine v_iload dX12_canServe_236 rfl ?_
                                    refine v_aload_n dX12_canServe_238 rfl ?_
                                    refine v_get dX12_canServe_239 fl_X12_124 ((hp99 77 (by decide)).trans (ent_77 _)) rfl (s_lt hn rfl) ?_
                                    refine v_iload dX12_canServe_242 rfl ?_
                                    obtain ⟨q103, w⟩ := w
                                    refine v_zaldI dX12_canServe_244 ((hp99 101 (by decide)).trans (ent_101 _)) (s_lt hn rfl) q103.1 q103.2 (ix_le q103.2 (by decide)) ?_
                                    obtain ⟨q104, w⟩ := w
                                    refine v_zastI dX12_canServe_245 ((hp99 100 (by decide)).trans (ent_100 _)) (s_lt hn rfl) q103.1 q103.2 (ix_le q103.2 (by decide)) q104 (fun h105 E106 F107 => ?_)
                                    have hp108 := pic_st hp99 (show h105 100 = ent 100 (uI _ x87 (X88 101 x87)) from E106) F107
                                    have hf109 := Fr.up (c := 100) hf100 F107 rfl
                                    refine v_iincI dX12_canServe_246 rfl (Nat.le_of_ble_eq_true rfl) ?_
                                    refine v_goto (tgt := 224) dX12_canServe_249 (by decide) ?_
                                    refine v_pick [1, 2, 3, 4, 0] rfl ?_
                                    exact ih91 _ _ _ (Nat.lt_of_lt_of_le w.2 (Nat.le_of_lt_succ hm95)) w.1 hp108 hf109
                              exact hL94 _ _ _ _ (Nat.lt_succ_self _) wi93 hp84 hf85
                            )
                            obtain ⟨q110, w⟩ := w
                            refine v_icmp_geI (tgt := 221) dX12_canServe_149 (by decide) q110.1 q110.2 (by decide) (by decide) (fun c111 => ?_) (fun c111 => ?_)
                            · replace w := w.1 c111
                              refine v_pick [0, 1, 2, 3] rfl ?_
                              exact w
                            · replace w := w.2 c111
                              refine v_aload_n dX12_canServe_152 rfl ?_
                              refine v_iload_n dX12_canServe_153 rfl ?_
                              refine v_iload_n dX12_canServe_154 rfl ?_
                              refine v_iconstI dX12_canServe_155 ?_
                              refine v_iaddI dX12_canServe_156 ?_
                              refine v_callVIr dX12_canServe_157 ml_X12_536 (so_X12_isOver hn hp84  w) ((hp84 77 (by decide)).trans (ent_77 _)) rfl (s_lt hn rfl) rfl rfl (Nat.le_of_ble_eq_true rfl) (Nat.le_of_ble_eq_true rfl) (Nat.zero_le _) (Nat.zero_le _) (fun v112 w => ?_)
                              obtain ⟨q118, w⟩ := w
                              refine v_if_neI (tgt := 221) dX12_canServe_160 (by decide) q118.1 q118.2 (fun c119 => ?_) (fun c119 => ?_)
                              · replace w := w.1 c119
                                refine v_pick [0, 1, 2, 3] rfl ?_
                                exact w
                              · replace w := w.2 c119
                                refine v_iconstI dX12_canServe_163 ?_
                                refine v_istore dX12_canServe_164 (Nat.le_of_ble_eq_true rfl) ?_
                                refine v_pick [1, 2, 3, 4, 5, 0] rfl ?_
                                obtain ⟨I122, m123, wi126, wl125⟩ := w
                                have hL127 : ∀ (N130 : Nat) (x120 : Int) (X121 : XT) (h131 : Nat → sE), m123 x120 X121 < N130 → I122 x120 X121 → Pic X121 h131 → Fr h h131 → V (m_X12_canServe, 5, 0, 0, n, pIw n h Q, s_G0) 0 0 n h131 166 [(0, .ref 77), (1, .int (iI a0)), (2, .int (iI a1)), (3, .int (iI x29)), (5, .int (iI x72)), (6, .int (iI x120))] [] := by
                                  intro N130
                                  induction N130 with
                                  | zero => intro x120 X121 h131 hm128; exact absurd hm128 (Nat.not_lt_zero _)
                                  | succ N130 ih124 =>
                                    intro x120 X121 h131 hm128 hI129 hp132 hf133
                                    have w := wl125 x120 X121 hI129
                                    refine v_iload dX12_canServe_166 rfl ?_
                                    refine v_iconstI dX12_canServe_168 ?_
                                    obtain ⟨q134, w⟩ := w
                                    refine v_icmp_geI (tgt := 215) dX12_canServe_169 (by decide) q134.1 q134.2 (by decide) (by decide) (fun c135 => ?_) (fun c135 => ?_)
                                    · replace w := w.1 c135
                                      refine v_iincI dX12_canServe_215 rfl (Nat.le_of_ble_eq_true rfl) ?_
                                      refine v_goto (tgt := 144) dX12_canServe_218 (by decide) ?_
                                      refine v_pick [1, 2, 3, 4, 0] rfl ?_
                                      exact ih76 _ _ _ (Nat.lt_of_lt_of_le w.2 (Nat.le_of_lt_succ hm80)) w.1 hp132 hf133
                                    · replace w := w.2 c135
                                      refine v_aload_n dX12_canServe_172 rfl ?_
                                      refine v_get dX12_canServe_173 fl_X12_121 ((hp132 77 (by decide)).trans (ent_77 _)) rfl (s_lt hn rfl) ?_
                                      refine v_iload dX12_canServe_176 rfl ?_
                                      obtain ⟨q136, w⟩ := w
                                      refine v_zaldI dX12_canServe_178 ((hp132 100 (by decide)).trans (ent_100 _)) (s_lt hn rfl) q136.1 q136.2 (ix_le q136.2 (by decide)) ?_
                                      obtain ⟨q137, w⟩ := w
                                      refine v_if_eqI (tgt := 215) dX12_canServe_179 (by decide) q137.1 q137.2 (fun c138 => ?_) (fun c138 => ?_)
                                      · replace w := w.1 c138
                                        refine v_iincI dX12_canServe_215 rfl (Nat.le_of_ble_eq_true rfl) ?_
                                        refine v_goto (tgt := 144) dX12_canServe_218 (by decide) ?_
                                        refine v_pick [1, 2, 3, 4, 0] rfl ?_
                                        exact ih76 _ _ _ (Nat.lt_of_lt_of_le w.2 (Nat.le_of_lt_succ hm80)) w.1 hp132 hf133
                                      · replace w := w.2 c138
                                        refine v_aload_n dX12_canServe_182 rfl ?_
                                        refine v_iload_n dX12_canServe_183 rfl ?_
                                        refine v_iload_n dX12_canServe_184 rfl ?_
                                        refine v_iload dX12_canServe_185 rfl ?_
                                        refine v_iconstI dX12_canServe_187 ?_
                                        refine v_iload dX12_canServe_188 rfl ?_
                                        refine v_callVIr dX12_canServe_190 ml_X12_508 (so_X12_nextOf hn hp132  w) ((hp132 77 (by decide)).trans (ent_77 _)) rfl (s_lt hn rfl) rfl rfl (Nat.le_of_ble_eq_true rfl) (Nat.le_of_ble_eq_true rfl) (Nat.zero_le _) (Nat.zero_le _) (fun v139 w => ?_)
                                        refine v_istore dX12_canServe_193 (Nat.le_of_ble_eq_true rfl) ?_
                                        refine v_iload dX12_canServe_195 rfl ?_
                                        refine v_iconstI dX12_canServe_197 ?_
                                        obtain ⟨q145, w⟩ := w
                                        refine v_icmp_eqI (tgt := 209) dX12_canServe_198 (by decide) q145.1 q145.2 (by decide) (by decide) (fun c146 => ?_) (fun c146 => ?_)
                                        · replace w := w.1 c146
                                          refine v_iincI dX12_canServe_209 rfl (Nat.le_of_ble_eq_true rfl) ?_
                                          refine v_goto (tgt := 166) dX12_canServe_212 (by decide) ?_
                                          refine v_pick [2, 3, 4, 5, 6, 0] rfl ?_
                                          exact ih124 _ _ _ (Nat.lt_of_lt_of_le w.2 (Nat.le_of_lt_succ hm128)) w.1 hp132 hf133
                                        · replace w := w.2 c146
                                          refine v_aload_n dX12_canServe_201 rfl ?_
                                          refine v_get dX12_canServe_202 fl_X12_124 ((hp132 77 (by decide)).trans (ent_77 _)) rfl (s_lt hn rfl) ?_
                                          refine v_iload dX12_canServe_205 rfl ?_
                                          refine v_iconstI dX12_canServe_207 ?_
                                          obtain ⟨q147, w⟩ := w
                                          refine v_zastI dX12_canServe_208 ((hp132 101 (by decide)).trans (ent_101 _)) (s_lt hn rfl) q147.1 q147.2 (ix_le q147.2 (by decide)) (by decide) (fun h148 E149 F150 => ?_)
                                          have hp151 := pic_st hp132 (show h148 101 = ent 101 (uI _ v139 1) from E149) F150
                                          have hf152 := Fr.up (c := 101) hf133 F150 rfl
                                          refine v_iincI dX12_canServe_209 rfl (Nat.le_of_ble_eq_true rfl) ?_
                                          refine v_goto (tgt := 166) dX12_canServe_212 (by decide) ?_
                                          refine v_pick [2, 3, 4, 5, 6, 0] rfl ?_
                                          exact ih124 _ _ _ (Nat.lt_of_lt_of_le w.2 (Nat.le_of_lt_succ hm128)) w.1 hp151 hf152
                                exact hL127 _ _ _ _ (Nat.lt_succ_self _) wi126 hp84 hf85
                        exact hL79 _ _ _ _ (Nat.lt_succ_self _) wi78 hp66 hf67
                      · replace w := w.2 c71
                        refine v_iconstI dX12_canServe_139 ?_
                        exact v_z0 dX12_canServe_140 rfl (Nat.zero_le _) (Nat.zero_le _) ⟨rfl, hf67, _, _, rfl, hp66, w⟩
                    · replace w := w.2 c69
                      refine v_aload_n dX12_canServe_64 rfl ?_
                      refine v_get dX12_canServe_65 fl_X12_124 ((hp66 77 (by decide)).trans (ent_77 _)) rfl (s_lt hn rfl) ?_
                      refine v_iload dX12_canServe_68 rfl ?_
                      refine v_iconstI dX12_canServe_70 ?_
                      obtain ⟨q153, w⟩ := w
                      refine v_zastI dX12_canServe_71 ((hp66 101 (by decide)).trans (ent_101 _)) (s_lt hn rfl) q153.1 q153.2 (ix_le q153.2 (by decide)) (by decide) (fun h154 E155 F156 => ?_)
                      have hp157 := pic_st hp66 (show h154 101 = ent 101 (uI _ x54 0) from E155) F156
                      have hf158 := Fr.up (c := 101) hf67 F156 rfl
                      refine v_aload_n dX12_canServe_72 rfl ?_
                      refine v_get dX12_canServe_73 fl_X12_121 ((hp157 77 (by decide)).trans (ent_77 _)) rfl (s_lt hn rfl) ?_
                      refine v_iload dX12_canServe_76 rfl ?_
                      refine v_aload_n dX12_canServe_78 rfl ?_
                      refine v_get dX12_canServe_79 fl_X12_121 ((hp157 77 (by decide)).trans (ent_77 _)) rfl (s_lt hn rfl) ?_
                      refine v_iload dX12_canServe_82 rfl ?_
                      refine v_zaldI dX12_canServe_84 ((hp157 100 (by decide)).trans (ent_100 _)) (s_lt hn rfl) q153.1 q153.2 (ix_le q153.2 (by decide)) ?_
                      replace w := w (fun (v159 : Int) => V (m_X12_canServe, 5, 0, 0, n, pIw n h Q, s_G0) 0 0 n h154 105 [(0, .ref 77), (1, .int (iI a0)), (2, .int (iI a1)), (3, .int (iI x29)), (4, .int (iI x53)), (5, .int (iI x54))] [.int (iI v159), .int (iI x54), .ref 100]) (by
                        intro v159 w
                        obtain ⟨q161, w⟩ := w
                        refine v_zastI dX12_canServe_105 ((hp157 100 (by decide)).trans (ent_100 _)) (s_lt hn rfl) q153.1 q153.2 (ix_le q153.2 (by decide)) q161 (fun h162 E163 F164 => ?_)
                        have hp165 := pic_st hp157 (show h162 100 = ent 100 (uI _ x54 v159) from E163) F164
                        have hf166 := Fr.up (c := 100) hf158 F164 rfl
                        refine v_iload dX12_canServe_106 rfl ?_
                        replace w := w (V (m_X12_canServe, 5, 0, 0, n, pIw n h Q, s_G0) 0 0 n h162 121 [(0, .ref 77), (1, .int (iI a0)), (2, .int (iI a1)), (3, .int (iI x29)), (5, .int (iI x54))] []) (by
                          intro  w
                          refine v_iconstI dX12_canServe_121 ?_
                          refine v_goto (tgt := 126) dX12_canServe_122 (by decide) ?_
                          refine v_istore dX12_canServe_126 (Nat.le_of_ble_eq_true rfl) ?_
                          refine v_iincI dX12_canServe_128 rfl (Nat.le_of_ble_eq_true rfl) ?_
                          refine v_goto (tgt := 56) dX12_canServe_131 (by decide) ?_
                          refine v_pick [2, 3, 4, 5, 1, 0] rfl ?_
                          exact ih58 _ _ _ _ (Nat.lt_of_lt_of_le w.2 (Nat.le_of_lt_succ hm62)) w.1 hp165 hf166
                        )
                        obtain ⟨q168, w⟩ := w
                        refine v_if_neI (tgt := 121) dX12_canServe_108 (by decide) q168.1 q168.2 (fun c169 => ?_) (fun c169 => ?_)
                        · replace w := w.1 c169
                          refine v_pick [0, 1, 2, 3, 5] rfl ?_
                          exact w
                        · replace w := w.2 c169
                          refine v_aload_n dX12_canServe_111 rfl ?_
                          refine v_get dX12_canServe_112 fl_X12_121 ((hp165 77 (by decide)).trans (ent_77 _)) rfl (s_lt hn rfl) ?_
                          refine v_iload dX12_canServe_115 rfl ?_
                          refine v_zaldI dX12_canServe_117 ((hp165 100 (by decide)).trans (ent_100 _)) (s_lt hn rfl) q153.1 q153.2 (ix_le q153.2 (by decide)) ?_
                          obtain ⟨q170, w⟩ := w
                          refine v_if_eqI (tgt := 125) dX12_canServe_118 (by decide) q170.1 q170.2 (fun c171 => ?_) (fun c171 => ?_)
                          · replace w := w.1 c171
                            refine v_iconstI dX12_canServe_125 ?_
                            refine v_istore dX12_canServe_126 (Nat.le_of_ble_eq_true rfl) ?_
                            refine v_iincI dX12_canServe_128 rfl (Nat.le_of_ble_eq_true rfl) ?_
                            refine v_goto (tgt := 56) dX12_canServe_131 (by decide) ?_
                            refine v_pick [2, 3, 4, 5, 1, 0] rfl ?_
                            exact ih58 _ _ _ _ (Nat.lt_of_lt_of_le w.2 (Nat.le_of_lt_succ hm62)) w.1 hp165 hf166
                          · replace w := w.2 c171
                            refine v_pick [0, 1, 2, 3, 5] rfl ?_
                            exact w
                      )
                      obtain ⟨q172, w⟩ := w
                      refine v_if_eqI (tgt := 104) dX12_canServe_85 (by decide) q172.1 q172.2 (fun c173 => ?_) (fun c173 => ?_)
                      · replace w := w.1 c173
                        refine v_iconstI dX12_canServe_104 ?_
                        exact w
                      · replace w := w.2 c173
                        refine v_aload_n dX12_canServe_88 rfl ?_
                        refine v_iload_n dX12_canServe_89 rfl ?_
                        refine v_iload_n dX12_canServe_90 rfl ?_
                        refine v_iload_n dX12_canServe_91 rfl ?_
                        refine v_iload dX12_canServe_92 rfl ?_
                        refine v_callVIr dX12_canServe_94 ml_X12_539 (so_X12_serves hn hp157  w) ((hp157 77 (by decide)).trans (ent_77 _)) rfl (s_lt hn rfl) rfl rfl (Nat.le_of_ble_eq_true rfl) (Nat.le_of_ble_eq_true rfl) (Nat.zero_le _) (Nat.zero_le _) (fun v174 w => ?_)
                        obtain ⟨q180, w⟩ := w
                        refine v_if_eqI (tgt := 104) dX12_canServe_97 (by decide) q180.1 q180.2 (fun c181 => ?_) (fun c181 => ?_)
                        · replace w := w.1 c181
                          refine v_iconstI dX12_canServe_104 ?_
                          exact w
                        · replace w := w.2 c181
                          refine v_iconstI dX12_canServe_100 ?_
                          refine v_goto (tgt := 105) dX12_canServe_101 (by decide) ?_
                          exact w
                exact hL61 _ _ _ _ _ (Nat.lt_succ_self _) wi60 hp41 hf42
        exact hL36 _ _ _ _ (Nat.lt_succ_self _) wi35 hp27 hf28
      · replace w := w.2 c16
        refine v_aload_n dX12_canServe_9 rfl ?_
        refine v_get dX12_canServe_10 fl_X12_121 ((hp13 77 (by decide)).trans (ent_77 _)) rfl (s_lt hn rfl) ?_
        refine v_iload_n dX12_canServe_13 rfl ?_
        refine v_iconstI dX12_canServe_14 ?_
        obtain ⟨q182, w⟩ := w
        refine v_zastI dX12_canServe_15 ((hp13 100 (by decide)).trans (ent_100 _)) (s_lt hn rfl) q182.1 q182.2 (ix_le q182.2 (by decide)) (by decide) (fun h183 E184 F185 => ?_)
        have hp186 := pic_st hp13 (show h183 100 = ent 100 (uI _ x1 0) from E184) F185
        have hf187 := Fr.up (c := 100) hf14 F185 rfl
        refine v_iincI dX12_canServe_16 rfl (Nat.le_of_ble_eq_true rfl) ?_
        refine v_goto (tgt := 2) dX12_canServe_19 (by decide) ?_
        refine v_pick [1, 2, 3, 0] rfl ?_
        exact ih5 _ _ _ (Nat.lt_of_lt_of_le w.2 (Nat.le_of_lt_succ hm9)) w.1 hp186 hf187
  exact hL8 _ _ _ _ (Nat.lt_succ_self _) wi7 hp hf
theorem dX12_serve_0 : decode cX12_serve 0 = .ok (.aload_n 0, 1) := by decide +kernel
theorem dX12_serve_1 : decode cX12_serve 1 = .ok (.iconst 0, 1) := by decide +kernel
theorem dX12_serve_2 : decode cX12_serve 2 = .ok (.putfield 169, 3) := by decide +kernel
theorem dX12_serve_5 : decode cX12_serve 5 = .ok (.aload_n 0, 1) := by decide +kernel
theorem dX12_serve_6 : decode cX12_serve 6 = .ok (.iload_n 1, 1) := by decide +kernel
theorem dX12_serve_7 : decode cX12_serve 7 = .ok (.invokevirtual 219, 3) := by decide +kernel
theorem dX12_serve_10 : decode cX12_serve 10 = .ok (.ifCond .eq 13, 3) := by decide +kernel
theorem dX12_serve_13 : decode cX12_serve 13 = .ok (.iload_n 2, 1) := by decide +kernel
theorem dX12_serve_14 : decode cX12_serve 14 = .ok (.i2l, 1) := by decide +kernel
theorem dX12_serve_15 : decode cX12_serve 15 = .ok (.lconst 0, 1) := by decide +kernel
theorem dX12_serve_16 : decode cX12_serve 16 = .ok (.lconst 1, 1) := by decide +kernel
theorem dX12_serve_17 : decode cX12_serve 17 = .ok (.invokestatic 175, 3) := by decide +kernel
theorem dX12_serve_20 : decode cX12_serve 20 = .ok (.ifCond .ne 5, 3) := by decide +kernel
theorem dX12_serve_23 : decode cX12_serve 23 = .ok (.iconst (-1), 1) := by decide +kernel
theorem dX12_serve_24 : decode cX12_serve 24 = .ok (.ireturn, 1) := by decide +kernel
theorem dX12_serve_25 : decode cX12_serve 25 = .ok (.aload_n 0, 1) := by decide +kernel
theorem dX12_serve_26 : decode cX12_serve 26 = .ok (.iload_n 1, 1) := by decide +kernel
theorem dX12_serve_27 : decode cX12_serve 27 = .ok (.invokevirtual 515, 3) := by decide +kernel
theorem dX12_serve_30 : decode cX12_serve 30 = .ok (.iconst (-1), 1) := by decide +kernel
theorem dX12_serve_31 : decode cX12_serve 31 = .ok (.istore_n 3, 1) := by decide +kernel
theorem dX12_serve_32 : decode cX12_serve 32 = .ok (.iconst 0, 1) := by decide +kernel
theorem dX12_serve_33 : decode cX12_serve 33 = .ok (.istore 4, 2) := by decide +kernel
theorem dX12_serve_35 : decode cX12_serve 35 = .ok (.iconst 0, 1) := by decide +kernel
theorem dX12_serve_36 : decode cX12_serve 36 = .ok (.istore 5, 2) := by decide +kernel
theorem dX12_serve_38 : decode cX12_serve 38 = .ok (.iload 5, 2) := by decide +kernel
theorem dX12_serve_40 : decode cX12_serve 40 = .ok (.iconst 1, 1) := by decide +kernel
theorem dX12_serve_41 : decode cX12_serve 41 = .ok (.aload_n 0, 1) := by decide +kernel
theorem dX12_serve_42 : decode cX12_serve 42 = .ok (.getfield 13, 3) := by decide +kernel
theorem dX12_serve_45 : decode cX12_serve 45 = .ok (.iconst 2, 1) := by decide +kernel
theorem dX12_serve_46 : decode cX12_serve 46 = .ok (.iaload, 1) := by decide +kernel
theorem dX12_serve_47 : decode cX12_serve 47 = .ok (.ishl, 1) := by decide +kernel
theorem dX12_serve_48 : decode cX12_serve 48 = .ok (.if_icmp .ge 122, 3) := by decide +kernel
theorem dX12_serve_51 : decode cX12_serve 51 = .ok (.iconst 0, 1) := by decide +kernel
theorem dX12_serve_52 : decode cX12_serve 52 = .ok (.istore 6, 2) := by decide +kernel
theorem dX12_serve_54 : decode cX12_serve 54 = .ok (.iconst 1, 1) := by decide +kernel
theorem dX12_serve_55 : decode cX12_serve 55 = .ok (.istore 7, 2) := by decide +kernel
theorem dX12_serve_57 : decode cX12_serve 57 = .ok (.iconst 0, 1) := by decide +kernel
theorem dX12_serve_58 : decode cX12_serve 58 = .ok (.istore 8, 2) := by decide +kernel
theorem dX12_serve_60 : decode cX12_serve 60 = .ok (.iload 8, 2) := by decide +kernel
theorem dX12_serve_62 : decode cX12_serve 62 = .ok (.aload_n 0, 1) := by decide +kernel
theorem dX12_serve_63 : decode cX12_serve 63 = .ok (.getfield 13, 3) := by decide +kernel
theorem dX12_serve_66 : decode cX12_serve 66 = .ok (.iconst 2, 1) := by decide +kernel
theorem dX12_serve_67 : decode cX12_serve 67 = .ok (.iaload, 1) := by decide +kernel
theorem dX12_serve_68 : decode cX12_serve 68 = .ok (.if_icmp .ge 68, 3) := by decide +kernel
theorem dX12_serve_71 : decode cX12_serve 71 = .ok (.iload 7, 2) := by decide +kernel
theorem dX12_serve_73 : decode cX12_serve 73 = .ok (.ifCond .eq 28, 3) := by decide +kernel
theorem dX12_serve_76 : decode cX12_serve 76 = .ok (.iload 5, 2) := by decide +kernel
theorem dX12_serve_78 : decode cX12_serve 78 = .ok (.iload 8, 2) := by decide +kernel
theorem dX12_serve_80 : decode cX12_serve 80 = .ok (.invokestatic 532, 3) := by decide +kernel
theorem dX12_serve_83 : decode cX12_serve 83 = .ok (.ifCond .eq 14, 3) := by decide +kernel
theorem dX12_serve_86 : decode cX12_serve 86 = .ok (.aload_n 0, 1) := by decide +kernel
theorem dX12_serve_87 : decode cX12_serve 87 = .ok (.iload 8, 2) := by decide +kernel
theorem dX12_serve_89 : decode cX12_serve 89 = .ok (.iconst 3, 1) := by decide +kernel
theorem dX12_serve_90 : decode cX12_serve 90 = .ok (.invokevirtual 501, 3) := by decide +kernel
theorem dX12_serve_93 : decode cX12_serve 93 = .ok (.iconst 1, 1) := by decide +kernel
theorem dX12_serve_94 : decode cX12_serve 94 = .ok (.if_icmp .ne 7, 3) := by decide +kernel
theorem dX12_serve_97 : decode cX12_serve 97 = .ok (.iconst 1, 1) := by decide +kernel
theorem dX12_serve_98 : decode cX12_serve 98 = .ok (.goto 4, 3) := by decide +kernel
theorem dX12_serve_101 : decode cX12_serve 101 = .ok (.iconst 0, 1) := by decide +kernel
theorem dX12_serve_102 : decode cX12_serve 102 = .ok (.istore 7, 2) := by decide +kernel
theorem dX12_serve_104 : decode cX12_serve 104 = .ok (.iload 6, 2) := by decide +kernel
theorem dX12_serve_106 : decode cX12_serve 106 = .ok (.iload 5, 2) := by decide +kernel
theorem dX12_serve_108 : decode cX12_serve 108 = .ok (.iload 8, 2) := by decide +kernel
theorem dX12_serve_110 : decode cX12_serve 110 = .ok (.invokestatic 532, 3) := by decide +kernel
theorem dX12_serve_113 : decode cX12_serve 113 = .ok (.ifCond .eq 13, 3) := by decide +kernel
theorem dX12_serve_116 : decode cX12_serve 116 = .ok (.aload_n 0, 1) := by decide +kernel
theorem dX12_serve_117 : decode cX12_serve 117 = .ok (.iload 8, 2) := by decide +kernel
theorem dX12_serve_119 : decode cX12_serve 119 = .ok (.iconst 4, 1) := by decide +kernel
theorem dX12_serve_120 : decode cX12_serve 120 = .ok (.invokevirtual 501, 3) := by decide +kernel
theorem dX12_serve_123 : decode cX12_serve 123 = .ok (.goto 4, 3) := by decide +kernel
theorem dX12_serve_126 : decode cX12_serve 126 = .ok (.iconst 0, 1) := by decide +kernel
theorem dX12_serve_127 : decode cX12_serve 127 = .ok (.iadd, 1) := by decide +kernel
theorem dX12_serve_128 : decode cX12_serve 128 = .ok (.istore 6, 2) := by decide +kernel
theorem dX12_serve_130 : decode cX12_serve 130 = .ok (.iinc 8 1, 3) := by decide +kernel
theorem dX12_serve_133 : decode cX12_serve 133 = .ok (.goto (-73), 3) := by decide +kernel
theorem dX12_serve_136 : decode cX12_serve 136 = .ok (.iload 7, 2) := by decide +kernel
theorem dX12_serve_138 : decode cX12_serve 138 = .ok (.ifCond .eq 26, 3) := by decide +kernel
theorem dX12_serve_141 : decode cX12_serve 141 = .ok (.iload 6, 2) := by decide +kernel
theorem dX12_serve_143 : decode cX12_serve 143 = .ok (.iload_n 3, 1) := by decide +kernel
theorem dX12_serve_144 : decode cX12_serve 144 = .ok (.if_icmp .le 20, 3) := by decide +kernel
theorem dX12_serve_147 : decode cX12_serve 147 = .ok (.aload_n 0, 1) := by decide +kernel
theorem dX12_serve_148 : decode cX12_serve 148 = .ok (.iload_n 1, 1) := by decide +kernel
theorem dX12_serve_149 : decode cX12_serve 149 = .ok (.iload 5, 2) := by decide +kernel
theorem dX12_serve_151 : decode cX12_serve 151 = .ok (.invokevirtual 542, 3) := by decide +kernel
theorem dX12_serve_154 : decode cX12_serve 154 = .ok (.ifCond .eq 10, 3) := by decide +kernel
theorem dX12_serve_157 : decode cX12_serve 157 = .ok (.iload 6, 2) := by decide +kernel
theorem dX12_serve_159 : decode cX12_serve 159 = .ok (.istore_n 3, 1) := by decide +kernel
theorem dX12_serve_160 : decode cX12_serve 160 = .ok (.iload 5, 2) := by decide +kernel
theorem dX12_serve_162 : decode cX12_serve 162 = .ok (.istore 4, 2) := by decide +kernel
theorem dX12_serve_164 : decode cX12_serve 164 = .ok (.iinc 5 1, 3) := by decide +kernel
theorem dX12_serve_167 : decode cX12_serve 167 = .ok (.goto (-129), 3) := by decide +kernel
theorem dX12_serve_170 : decode cX12_serve 170 = .ok (.iload_n 2, 1) := by decide +kernel
theorem dX12_serve_171 : decode cX12_serve 171 = .ok (.ifCond .ne 7, 3) := by decide +kernel
theorem dX12_serve_174 : decode cX12_serve 174 = .ok (.iload_n 3, 1) := by decide +kernel
theorem dX12_serve_175 : decode cX12_serve 175 = .ok (.goto 5, 3) := by decide +kernel
theorem dX12_serve_178 : decode cX12_serve 178 = .ok (.iload 4, 2) := by decide +kernel
theorem dX12_serve_180 : decode cX12_serve 180 = .ok (.ireturn, 1) := by decide +kernel
def w_X12_serve (a0 a1 : Int) (X : XT) (Q : Int → XT → Prop) : Prop :=
  R32 a0 ∧ (0 ≤ (x_st X 77 0 0) 79 0 ∧ (x_st X 77 0 0) 79 0 ≤ 5) ∧ (¬ (0 ≤ a0 ∧ a0 ≤ (x_st X 77 0 0) 79 0 - 1) → Q (-1) (x_st X 77 0 0)) ∧ ((0 ≤ a0 ∧ a0 ≤ (x_st X 77 0 0) 79 0 - 1) → R32 a1 ∧ ((0 ≤ a1 ∧ a1 ≤ 1) → w_X12_layWorks  a0 (x_st X 77 0 0) (fun (X12 : XT) => ∃ (I21 : Int → Int → Int → XT → Prop) (m22 : Int → Int → Int → XT → Nat), I21 (-1) 0 0 X12 ∧ ∀ (x17 : Int) (x18 : Int) (x19 : Int) (X20 : XT), I21 x17 x18 x19 X20 → R32 x19 ∧ R32 (oShl 1 (X20 79 2)) ∧ ((oShl 1 (X20 79 2)) ≤ x19 → (¬ a1 = 0 → Q x18 X20) ∧ (a1 = 0 → Q x17 X20)) ∧ (¬ (oShl 1 (X20 79 2)) ≤ x19 → ∃ (I40 : Int → Int → Int → Prop) (m41 : Int → Int → Int → Nat), I40 0 1 0 ∧ ∀ (x37 : Int) (x38 : Int) (x39 : Int), I40 x37 x38 x39 → R32 x39 ∧ R32 (X20 79 2) ∧ ((X20 79 2) ≤ x39 → R32 x38 ∧ (x38 = 0 → I21 x17 x18 (x19 + 1) X20 ∧ m22 x17 x18 (x19 + 1) X20 < m22 x17 x18 x19 X20) ∧ (¬ x38 = 0 → R32 x37 ∧ R32 x17 ∧ (x37 ≤ x17 → I21 x17 x18 (x19 + 1) X20 ∧ m22 x17 x18 (x19 + 1) X20 < m22 x17 x18 x19 X20) ∧ (¬ x37 ≤ x17 → w_X12_canServe  a0 x19 X20 (fun (v57 : Int) (X58 : XT) => R32 v57 ∧ (v57 = 0 → I21 x17 x18 (x19 + 1) X58 ∧ m22 x17 x18 (x19 + 1) X58 < m22 x17 x18 x19 X20) ∧ (¬ v57 = 0 → I21 x37 x19 (x19 + 1) X58 ∧ m22 x37 x19 (x19 + 1) X58 < m22 x17 x18 x19 X20))))) ∧ (¬ (X20 79 2) ≤ x39 → ∀ J66 : Int → Prop, (∀ (v65 : Int), (w_X12_is  x19 x39 X20 (fun (v67 : Int) => ∀ J74 : Int → Prop, (∀ (v73 : Int), (I40 (x37 + v73) v65 (x39 + 1) ∧ m41 (x37 + v73) v65 (x39 + 1) < m41 x37 x38 x39) → J74 v73) → R32 v67 ∧ (v67 = 0 → J74 0) ∧ (¬ v67 = 0 → (0 ≤ x39 ∧ x39 ≤ 7) ∧ J74 (X20 79 (304 + 5 * x39 + 4))))) → J66 v65) → R32 x38 ∧ (x38 = 0 → J66 0) ∧ (¬ x38 = 0 → w_X12_is  x19 x39 X20 (fun (v80 : Int) => R32 v80 ∧ (v80 = 0 → J66 1) ∧ (¬ v80 = 0 → (0 ≤ x39 ∧ x39 ≤ 7) ∧ R32 (X20 79 (304 + 5 * x39 + 3)) ∧ (¬ (X20 79 (304 + 5 * x39 + 3)) = 1 → J66 0) ∧ ((X20 79 (304 + 5 * x39 + 3)) = 1 → J66 1)))))))) ∧ (¬ (0 ≤ a1 ∧ a1 ≤ 1) → Q (-1) (x_st X 77 0 0)))
set_option maxRecDepth 20000 in
theorem so_X12_serve {n : Nat} {h : Nat → sE} {X : XT} {a0 a1 : Int} {Q : Int → XT → Prop} (hn : 115 ≤ n) (hp : Pic X h) (w : w_X12_serve  a0 a1 X Q) : Sp m_X12_serve 9 0 0 [.ref 77, .int (iI a0), .int (iI a1)] n h (pIw n h Q) := by
  unfold w_X12_serve at w
  refine Sp.ofV (by decide +kernel) (Nat.le_of_ble_eq_true rfl) ?_
  have hf : Fr h h := fun _ _ => rfl
  refine v_aload_n dX12_serve_0 rfl ?_
  refine v_iconstI dX12_serve_1 ?_
  refine v_put dX12_serve_2 fl_X12_169 ((hp 77 (by decide)).trans (ent_77 _)) (s_lt hn rfl) (Nat.le_of_ble_eq_true rfl) (fun _ => ⟨rfl, rfl⟩) trivial (fun h1 E2 F3 => ?_)
  have hp4 := pic_st hp (show h1 77 = ent 77 (uI _ 0 0) from E2) F3
  have hf5 := Fr.up (c := 77) hf F3 rfl
  refine v_aload_n dX12_serve_5 rfl ?_
  refine v_iload_n dX12_serve_6 rfl ?_
  obtain ⟨q6, q7, w⟩ := w
  refine v_callVp dX12_serve_7 ml_X12_219 (sp_X12_isCloud (a := a0) (g77 := (x_st X 77 0 0) 77) (g79 := (x_st X 77 0 0) 79) hn (hp4 77 (by decide)) (hp4 79 (by decide)) q6 q7) ((hp4 77 (by decide)).trans (ent_77 _)) rfl (s_lt hn rfl) rfl rfl (Nat.le_of_ble_eq_true rfl) (Nat.le_of_ble_eq_true rfl) (Nat.zero_le _) (Nat.zero_le _) ?_
  refine v_ifeqB (tgt := 23) dX12_serve_10 (by decide) (fun c8 => ?_) (fun c8 => ?_)
  · replace w := w.1 c8
    refine v_iconstI dX12_serve_23 ?_
    exact v_iret dX12_serve_24 rfl (Nat.zero_le _) (Nat.zero_le _) ⟨rfl, hf5, _, _, rfl, hp4, w⟩
  · replace w := w.2 c8
    refine v_iload_n dX12_serve_13 rfl ?_
    obtain ⟨q9, w⟩ := w
    refine v_i2lI dX12_serve_14 q9.1 q9.2 ?_
    refine v_lconstI (w := 0) dX12_serve_15 rfl ?_
    refine v_lconstI (w := 1) dX12_serve_16 rfl ?_
    refine v_callSp dX12_serve_17 ml_X12_175 (sp_X12_in (v := a1) (lo := 0) (hi := 1) (r32_64 q9) (by decide) (by decide)) rfl rfl (Nat.le_of_ble_eq_true rfl) (Nat.le_of_ble_eq_true rfl) (Nat.zero_le _) (Nat.zero_le _) ?_
    refine v_ifneB (tgt := 25) dX12_serve_20 (by decide) (fun c10 => ?_) (fun c10 => ?_)
    · replace w := w.1 c10
      refine v_aload_n dX12_serve_25 rfl ?_
      refine v_iload_n dX12_serve_26 rfl ?_
      refine v_callVVw dX12_serve_27 ml_X12_515 (so_X12_layWorks hn hp4  w) ((hp4 77 (by decide)).trans (ent_77 _)) rfl (s_lt hn rfl) rfl rfl (Nat.le_of_ble_eq_true rfl) (Nat.le_of_ble_eq_true rfl) (Nat.zero_le _) (Nat.zero_le _) (fun X12 h13 hp15 hf14 w => ?_)
      have hf16 := Fr.trans hf5 hf14
      refine v_iconstI dX12_serve_30 ?_
      refine v_istore_n dX12_serve_31 (Nat.le_of_ble_eq_true rfl) ?_
      refine v_iconstI dX12_serve_32 ?_
      refine v_istore dX12_serve_33 (Nat.le_of_ble_eq_true rfl) ?_
      refine v_iconstI dX12_serve_35 ?_
      refine v_istore dX12_serve_36 (Nat.le_of_ble_eq_true rfl) ?_
      refine v_pick [3, 4, 5, 2, 1, 0] rfl ?_
      obtain ⟨I21, m22, wi25, wl24⟩ := w
      have hL26 : ∀ (N29 : Nat) (x17 : Int) (x18 : Int) (x19 : Int) (X20 : XT) (h30 : Nat → sE), m22 x17 x18 x19 X20 < N29 → I21 x17 x18 x19 X20 → Pic X20 h30 → Fr h h30 → V (m_X12_serve, 9, 0, 0, n, pIw n h Q, s_G0) 0 0 n h30 38 [(0, .ref 77), (1, .int (iI a0)), (2, .int (iI a1)), (3, .int (iI x17)), (4, .int (iI x18)), (5, .int (iI x19))] [] := by
        intro N29
        induction N29 with
        | zero => intro x17 x18 x19 X20 h30 hm27; exact absurd hm27 (Nat.not_lt_zero _)
        | succ N29 ih23 =>
          intro x17 x18 x19 X20 h30 hm27 hI28 hp31 hf32
          have w := wl24 x17 x18 x19 X20 hI28
          refine v_iload dX12_serve_38 rfl ?_
          refine v_iconstI dX12_serve_40 ?_
          refine v_aload_n dX12_serve_41 rfl ?_
          refine v_get dX12_serve_42 fl_X12_13 ((hp31 77 (by decide)).trans (ent_77 _)) rfl (s_lt hn rfl) ?_
          refine v_iconstI dX12_serve_45 ?_
          refine v_ialdI dX12_serve_46 ((hp31 79 (by decide)).trans (ent_79 _)) (s_lt hn rfl) (by decide) (by decide) (by decide) ?_
          refine v_ishlI dX12_serve_47 ?_
          obtain ⟨q33, q34, w⟩ := w
          refine v_icmp_geI (tgt := 170) dX12_serve_48 (by decide) q33.1 q33.2 q34.1 q34.2 (fun c35 => ?_) (fun c35 => ?_)
          · replace w := w.1 c35
            refine v_iload_n dX12_serve_170 rfl ?_
            refine v_if_neI (tgt := 178) dX12_serve_171 (by decide) q9.1 q9.2 (fun c36 => ?_) (fun c36 => ?_)
            · replace w := w.1 c36
              refine v_iload dX12_serve_178 rfl ?_
              exact v_iret dX12_serve_180 rfl (Nat.zero_le _) (Nat.zero_le _) ⟨rfl, hf32, _, _, rfl, hp31, w⟩
            · replace w := w.2 c36
              refine v_iload_n dX12_serve_174 rfl ?_
              refine v_goto (tgt := 180) dX12_serve_175 (by decide) ?_
              exact v_iret dX12_serve_180 rfl (Nat.zero_le _) (Nat.zero_le _) ⟨rfl, hf32, _, _, rfl, hp31, w⟩
          · replace w := w.2 c35
            refine v_iconstI dX12_serve_51 ?_
            refine v_istore dX12_serve_52 (Nat.le_of_ble_eq_true rfl) ?_
            refine v_iconstI dX12_serve_54 ?_
            refine v_istore dX12_serve_55 (Nat.le_of_ble_eq_true rfl) ?_
            refine v_iconstI dX12_serve_57 ?_
            refine v_istore dX12_serve_58 (Nat.le_of_ble_eq_true rfl) ?_
            refine v_pick [3, 4, 5, 6, 7, 8, 2, 1, 0] rfl ?_
            obtain ⟨I40, m41, wi44, wl43⟩ := w
            have hL45 : ∀ (N48 : Nat) (x37 : Int) (x38 : Int) (x39 : Int), m41 x37 x38 x39 < N48 → I40 x37 x38 x39 → V (m_X12_serve, 9, 0, 0, n, pIw n h Q, s_G0) 0 0 n h30 60 [(0, .ref 77), (1, .int (iI a0)), (2, .int (iI a1)), (3, .int (iI x17)), (4, .int (iI x18)), (5, .int (iI x19)), (6, .int (iI x37)), (7, .int (iI x38)), (8, .int (iI x39))] [] := by
              intro N48
              induction N48 with
              | zero => intro x37 x38 x39  hm46; exact absurd hm46 (Nat.not_lt_zero _)
              | succ N48 ih42 =>
                intro x37 x38 x39  hm46 hI47
                have w := wl43 x37 x38 x39 hI47
                refine v_iload dX12_serve_60 rfl ?_
                refine v_aload_n dX12_serve_62 rfl ?_
                refine v_get dX12_serve_63 fl_X12_13 ((hp31 77 (by decide)).trans (ent_77 _)) rfl (s_lt hn rfl) ?_
                refine v_iconstI dX12_serve_66 ?_
                refine v_ialdI dX12_serve_67 ((hp31 79 (by decide)).trans (ent_79 _)) (s_lt hn rfl) (by decide) (by decide) (by decide) ?_
                obtain ⟨q49, q50, w⟩ := w
                refine v_icmp_geI (tgt := 136) dX12_serve_68 (by decide) q49.1 q49.2 q50.1 q50.2 (fun c51 => ?_) (fun c51 => ?_)
                · replace w := w.1 c51
                  refine v_iload dX12_serve_136 rfl ?_
                  obtain ⟨q52, w⟩ := w
                  refine v_if_eqI (tgt := 164) dX12_serve_138 (by decide) q52.1 q52.2 (fun c53 => ?_) (fun c53 => ?_)
                  · replace w := w.1 c53
                    refine v_iincI dX12_serve_164 rfl (Nat.le_of_ble_eq_true rfl) ?_
                    refine v_goto (tgt := 38) dX12_serve_167 (by decide) ?_
                    refine v_pick [1, 2, 3, 4, 5, 0] rfl ?_
                    exact ih23 _ _ _ _ _ (Nat.lt_of_lt_of_le w.2 (Nat.le_of_lt_succ hm27)) w.1 hp31 hf32
                  · replace w := w.2 c53
                    refine v_iload dX12_serve_141 rfl ?_
                    refine v_iload_n dX12_serve_143 rfl ?_
                    obtain ⟨q54, q55, w⟩ := w
                    refine v_icmp_leI (tgt := 164) dX12_serve_144 (by decide) q54.1 q54.2 q55.1 q55.2 (fun c56 => ?_) (fun c56 => ?_)
                    · replace w := w.1 c56
                      refine v_iincI dX12_serve_164 rfl (Nat.le_of_ble_eq_true rfl) ?_
                      refine v_goto (tgt := 38) dX12_serve_167 (by decide) ?_
                      refine v_pick [1, 2, 3, 4, 5, 0] rfl ?_
                      exact ih23 _ _ _ _ _ (Nat.lt_of_lt_of_le w.2 (Nat.le_of_lt_succ hm27)) w.1 hp31 hf32
                    · replace w := w.2 c56
                      refine v_aload_n dX12_serve_147 rfl ?_
                      refine v_iload_n dX12_serve_148 rfl ?_
                      refine v_iload dX12_serve_149 rfl ?_
                      refine v_callVIw dX12_serve_151 ml_X12_542 (so_X12_canServe hn hp31  w) ((hp31 77 (by decide)).trans (ent_77 _)) rfl (s_lt hn rfl) rfl rfl (Nat.le_of_ble_eq_true rfl) (Nat.le_of_ble_eq_true rfl) (Nat.zero_le _) (Nat.zero_le _) (fun v57 X58 h59 hp61 hf60 w => ?_)
                      have hf62 := Fr.trans hf32 hf60
                      obtain ⟨q63, w⟩ := w
                      refine v_if_eqI (tgt := 164) dX12_serve_154 (by decide) q63.1 q63.2 (fun c64 => ?_) (fun c64 => ?_)
                      · replace w := w.1 c64
                        refine v_iincI dX12_serve_164 rfl (Nat.le_of_ble_eq_true rfl) ?_
                        refine v_goto (tgt := 38) dX12_serve_167 (by decide) ?_
                        refine v_pick [1, 2, 3, 4, 5, 0] rfl ?_
                        exact ih23 _ _ _ _ _ (Nat.lt_of_lt_of_le w.2 (Nat.le_of_lt_succ hm27)) w.1 hp61 hf62
                      · replace w := w.2 c64
                        refine v_iload dX12_serve_157 rfl ?_
                        refine v_istore_n dX12_serve_159 (Nat.le_of_ble_eq_true rfl) ?_
                        refine v_iload dX12_serve_160 rfl ?_
                        refine v_istore dX12_serve_162 (Nat.le_of_ble_eq_true rfl) ?_
                        refine v_iincI dX12_serve_164 rfl (Nat.le_of_ble_eq_true rfl) ?_
                        refine v_goto (tgt := 38) dX12_serve_167 (by decide) ?_
                        refine v_pick [3, 4, 5, 2, 1, 0] rfl ?_
                        exact ih23 _ _ _ _ _ (Nat.lt_of_lt_of_le w.2 (Nat.le_of_lt_succ hm27)) w.1 hp61 hf62
                · replace w := w.2 c51
                  refine v_iload dX12_serve_71 rfl ?_
                  replace w := w (fun (v65 : Int) => V (m_X12_serve, 9, 0, 0, n, pIw n h Q, s_G0) 0 0 n h30 102 [(0, .ref 77), (1, .int (iI a0)), (2, .int (iI a1)), (3, .int (iI x17)), (4, .int (iI x18)), (5, .int (iI x19)), (6, .int (iI x37)), (8, .int (iI x39))] [.int (iI v65)]) (by
                    intro v65 w
                    refine v_istore dX12_serve_102 (Nat.le_of_ble_eq_true rfl) ?_
                    refine v_iload dX12_serve_104 rfl ?_
                    refine v_iload dX12_serve_106 rfl ?_
                    refine v_iload dX12_serve_108 rfl ?_
                    refine v_callSIr dX12_serve_110 ml_X12_532 (so_X12_is hn hp31  w) rfl rfl (Nat.le_of_ble_eq_true rfl) (Nat.le_of_ble_eq_true rfl) (Nat.zero_le _) (Nat.zero_le _) (fun v67 w => ?_)
                    replace w := w (fun (v73 : Int) => V (m_X12_serve, 9, 0, 0, n, pIw n h Q, s_G0) 0 0 n h30 127 [(0, .ref 77), (1, .int (iI a0)), (2, .int (iI a1)), (3, .int (iI x17)), (4, .int (iI x18)), (5, .int (iI x19)), (7, .int (iI v65)), (8, .int (iI x39))] [.int (iI v73), .int (iI x37)]) (by
                      intro v73 w
                      refine v_iaddI dX12_serve_127 ?_
                      refine v_istore dX12_serve_128 (Nat.le_of_ble_eq_true rfl) ?_
                      refine v_iincI dX12_serve_130 rfl (Nat.le_of_ble_eq_true rfl) ?_
                      refine v_goto (tgt := 60) dX12_serve_133 (by decide) ?_
                      refine v_pick [2, 3, 4, 5, 6, 7, 1, 8, 0] rfl ?_
                      exact ih42 _ _ _ (Nat.lt_of_lt_of_le w.2 (Nat.le_of_lt_succ hm46)) w.1
                    )
                    obtain ⟨q75, w⟩ := w
                    refine v_if_eqI (tgt := 126) dX12_serve_113 (by decide) q75.1 q75.2 (fun c76 => ?_) (fun c76 => ?_)
                    · replace w := w.1 c76
                      refine v_iconstI dX12_serve_126 ?_
                      refine v_pick [1, 2, 3, 4, 5, 6, 0, 8] rfl ?_
                      exact w
                    · replace w := w.2 c76
                      refine v_aload_n dX12_serve_116 rfl ?_
                      refine v_iload dX12_serve_117 rfl ?_
                      refine v_iconstI dX12_serve_119 ?_
                      obtain ⟨q77, w⟩ := w
                      refine v_callVp dX12_serve_120 ml_X12_501 (sv_X12_ofContract (a := x39) (b := 4) (g77 := X20 77) (g79 := X20 79) hn (hp31 77 (by decide)) (hp31 79 (by decide)) q77 (by decide)) ((hp31 77 (by decide)).trans (ent_77 _)) rfl (s_lt hn rfl) rfl rfl (Nat.le_of_ble_eq_true rfl) (Nat.le_of_ble_eq_true rfl) (Nat.zero_le _) (Nat.zero_le _) ?_
                      refine v_goto (tgt := 127) dX12_serve_123 (by decide) ?_
                      refine v_pick [1, 2, 3, 4, 5, 6, 0, 8] rfl ?_
                      exact w
                  )
                  obtain ⟨q78, w⟩ := w
                  refine v_if_eqI (tgt := 101) dX12_serve_73 (by decide) q78.1 q78.2 (fun c79 => ?_) (fun c79 => ?_)
                  · replace w := w.1 c79
                    refine v_iconstI dX12_serve_101 ?_
                    refine v_pick [0, 1, 2, 3, 4, 5, 6, 8] rfl ?_
                    exact w
                  · replace w := w.2 c79
                    refine v_iload dX12_serve_76 rfl ?_
                    refine v_iload dX12_serve_78 rfl ?_
                    refine v_callSIr dX12_serve_80 ml_X12_532 (so_X12_is hn hp31  w) rfl rfl (Nat.le_of_ble_eq_true rfl) (Nat.le_of_ble_eq_true rfl) (Nat.zero_le _) (Nat.zero_le _) (fun v80 w => ?_)
                    obtain ⟨q86, w⟩ := w
                    refine v_if_eqI (tgt := 97) dX12_serve_83 (by decide) q86.1 q86.2 (fun c87 => ?_) (fun c87 => ?_)
                    · replace w := w.1 c87
                      refine v_iconstI dX12_serve_97 ?_
                      refine v_goto (tgt := 102) dX12_serve_98 (by decide) ?_
                      refine v_pick [0, 1, 2, 3, 4, 5, 6, 8] rfl ?_
                      exact w
                    · replace w := w.2 c87
                      refine v_aload_n dX12_serve_86 rfl ?_
                      refine v_iload dX12_serve_87 rfl ?_
                      refine v_iconstI dX12_serve_89 ?_
                      obtain ⟨q88, w⟩ := w
                      refine v_callVp dX12_serve_90 ml_X12_501 (sv_X12_ofContract (a := x39) (b := 3) (g77 := X20 77) (g79 := X20 79) hn (hp31 77 (by decide)) (hp31 79 (by decide)) q88 (by decide)) ((hp31 77 (by decide)).trans (ent_77 _)) rfl (s_lt hn rfl) rfl rfl (Nat.le_of_ble_eq_true rfl) (Nat.le_of_ble_eq_true rfl) (Nat.zero_le _) (Nat.zero_le _) ?_
                      refine v_iconstI dX12_serve_93 ?_
                      obtain ⟨q89, w⟩ := w
                      refine v_icmp_neI (tgt := 101) dX12_serve_94 (by decide) q89.1 q89.2 (by decide) (by decide) (fun c90 => ?_) (fun c90 => ?_)
                      · replace w := w.1 c90
                        refine v_iconstI dX12_serve_101 ?_
                        refine v_pick [0, 1, 2, 3, 4, 5, 6, 8] rfl ?_
                        exact w
                      · replace w := w.2 c90
                        refine v_iconstI dX12_serve_97 ?_
                        refine v_goto (tgt := 102) dX12_serve_98 (by decide) ?_
                        refine v_pick [0, 1, 2, 3, 4, 5, 6, 8] rfl ?_
                        exact w
            exact hL45 _ _ _ _ (Nat.lt_succ_self _) wi44
      exact hL26 _ _ _ _ _ _ (Nat.lt_succ_self _) wi25 hp15 hf16
    · replace w := w.2 c10
      refine v_iconstI dX12_serve_23 ?_
      exact v_iret dX12_serve_24 rfl (Nat.zero_le _) (Nat.zero_le _) ⟨rfl, hf5, _, _, rfl, hp4, w⟩
theorem dX12_common_0 : decode cX12_common 0 = .ok (.iconst 0, 1) := by decide +kernel
theorem dX12_common_1 : decode cX12_common 1 = .ok (.istore 5, 2) := by decide +kernel
theorem dX12_common_3 : decode cX12_common 3 = .ok (.iconst 0, 1) := by decide +kernel
theorem dX12_common_4 : decode cX12_common 4 = .ok (.istore 6, 2) := by decide +kernel
theorem dX12_common_6 : decode cX12_common 6 = .ok (.iload 6, 2) := by decide +kernel
theorem dX12_common_8 : decode cX12_common 8 = .ok (.bipush 64, 2) := by decide +kernel
theorem dX12_common_10 : decode cX12_common 10 = .ok (.if_icmp .ge 42, 3) := by decide +kernel
theorem dX12_common_13 : decode cX12_common 13 = .ok (.iload 5, 2) := by decide +kernel
theorem dX12_common_15 : decode cX12_common 15 = .ok (.aload_n 0, 1) := by decide +kernel
theorem dX12_common_16 : decode cX12_common 16 = .ok (.iload_n 1, 1) := by decide +kernel
theorem dX12_common_17 : decode cX12_common 17 = .ok (.iload_n 2, 1) := by decide +kernel
theorem dX12_common_18 : decode cX12_common 18 = .ok (.iload 6, 2) := by decide +kernel
theorem dX12_common_20 : decode cX12_common 20 = .ok (.invokevirtual 475, 3) := by decide +kernel
theorem dX12_common_23 : decode cX12_common 23 = .ok (.ifCond .eq 19, 3) := by decide +kernel
theorem dX12_common_26 : decode cX12_common 26 = .ok (.aload_n 0, 1) := by decide +kernel
theorem dX12_common_27 : decode cX12_common 27 = .ok (.iload_n 3, 1) := by decide +kernel
theorem dX12_common_28 : decode cX12_common 28 = .ok (.iload 4, 2) := by decide +kernel
theorem dX12_common_30 : decode cX12_common 30 = .ok (.iload 6, 2) := by decide +kernel
theorem dX12_common_32 : decode cX12_common 32 = .ok (.invokevirtual 475, 3) := by decide +kernel
theorem dX12_common_35 : decode cX12_common 35 = .ok (.ifCond .eq 7, 3) := by decide +kernel
theorem dX12_common_38 : decode cX12_common 38 = .ok (.iconst 1, 1) := by decide +kernel
theorem dX12_common_39 : decode cX12_common 39 = .ok (.goto 4, 3) := by decide +kernel
theorem dX12_common_42 : decode cX12_common 42 = .ok (.iconst 0, 1) := by decide +kernel
theorem dX12_common_43 : decode cX12_common 43 = .ok (.iadd, 1) := by decide +kernel
theorem dX12_common_44 : decode cX12_common 44 = .ok (.istore 5, 2) := by decide +kernel
theorem dX12_common_46 : decode cX12_common 46 = .ok (.iinc 6 1, 3) := by decide +kernel
theorem dX12_common_49 : decode cX12_common 49 = .ok (.goto (-43), 3) := by decide +kernel
theorem dX12_common_52 : decode cX12_common 52 = .ok (.iload 5, 2) := by decide +kernel
theorem dX12_common_54 : decode cX12_common 54 = .ok (.ireturn, 1) := by decide +kernel
def w_X12_common (a0 a1 a2 a3 : Int) (X : XT) (Q : Int → Prop) : Prop :=
  ∃ (I3 : Int → Int → Prop) (m4 : Int → Int → Nat), I3 0 0 ∧ ∀ (x1 : Int) (x2 : Int), I3 x1 x2 → R32 x2 ∧ (64 ≤ x2 → Q x1) ∧ (¬ 64 ≤ x2 → w_X12_shades  a0 a1 x2 X (fun (v14 : Int) => ∀ J21 : Int → Prop, (∀ (v20 : Int), (I3 (x1 + v20) (x2 + 1) ∧ m4 (x1 + v20) (x2 + 1) < m4 x1 x2) → J21 v20) → R32 v14 ∧ (v14 = 0 → J21 0) ∧ (¬ v14 = 0 → w_X12_shades  a2 a3 x2 X (fun (v24 : Int) => R32 v24 ∧ (v24 = 0 → J21 0) ∧ (¬ v24 = 0 → J21 1)))))
set_option maxRecDepth 20000 in
theorem so_X12_common {n : Nat} {h : Nat → sE} {X : XT} {a0 a1 a2 a3 : Int} {Q : Int → Prop} (hn : 115 ≤ n) (hp : Pic X h) (w : w_X12_common  a0 a1 a2 a3 X Q) : Sp m_X12_common 3 0 0 [.ref 77, .int (iI a0), .int (iI a1), .int (iI a2), .int (iI a3)] n h (pIr n h Q) := by
  unfold w_X12_common at w
  refine Sp.ofV (by decide +kernel) (Nat.le_of_ble_eq_true rfl) ?_
  have hf : Fr h h := fun _ _ => rfl
  refine v_iconstI dX12_common_0 ?_
  refine v_istore dX12_common_1 (Nat.le_of_ble_eq_true rfl) ?_
  refine v_iconstI dX12_common_3 ?_
  refine v_istore dX12_common_4 (Nat.le_of_ble_eq_true rfl) ?_
  refine v_pick [2, 3, 4, 5, 6, 1, 0] rfl ?_
  obtain ⟨I3, m4, wi7, wl6⟩ := w
  have hL8 : ∀ (N11 : Nat) (x1 : Int) (x2 : Int), m4 x1 x2 < N11 → I3 x1 x2 → V (m_X12_common, 3, 0, 0, n, pIr n h Q, s_G0) 0 0 n h 6 [(0, .ref 77), (1, .int (iI a0)), (2, .int (iI a1)), (3, .int (iI a2)), (4, .int (iI a3)), (5, .int (iI x1)), (6, .int (iI x2))] [] := by
    intro N11
    induction N11 with
    | zero => intro x1 x2  hm9; exact absurd hm9 (Nat.not_lt_zero _)
    | succ N11 ih5 =>
      intro x1 x2  hm9 hI10
      have w := wl6 x1 x2 hI10
      refine v_iload dX12_common_6 rfl ?_
      refine v_bipushI dX12_common_8 rfl ?_
      obtain ⟨q12, w⟩ := w
      refine v_icmp_geI (tgt := 52) dX12_common_10 (by decide) q12.1 q12.2 (by decide) (by decide) (fun c13 => ?_) (fun c13 => ?_)
      · replace w := w.1 c13
        refine v_iload dX12_common_52 rfl ?_
        exact v_iret dX12_common_54 rfl (Nat.zero_le _) (Nat.zero_le _) ⟨rfl, rfl, _, rfl, w⟩
      · replace w := w.2 c13
        refine v_iload dX12_common_13 rfl ?_
        refine v_aload_n dX12_common_15 rfl ?_
        refine v_iload_n dX12_common_16 rfl ?_
        refine v_iload_n dX12_common_17 rfl ?_
        refine v_iload dX12_common_18 rfl ?_
        refine v_callVIr dX12_common_20 ml_X12_475 (so_X12_shades hn hp  w) ((hp 77 (by decide)).trans (ent_77 _)) rfl (s_lt hn rfl) rfl rfl (Nat.le_of_ble_eq_true rfl) (Nat.le_of_ble_eq_true rfl) (Nat.zero_le _) (Nat.zero_le _) (fun v14 w => ?_)
        replace w := w (fun (v20 : Int) => V (m_X12_common, 3, 0, 0, n, pIr n h Q, s_G0) 0 0 n h 43 [(0, .ref 77), (1, .int (iI a0)), (2, .int (iI a1)), (3, .int (iI a2)), (4, .int (iI a3)), (6, .int (iI x2))] [.int (iI v20), .int (iI x1)]) (by
          intro v20 w
          refine v_iaddI dX12_common_43 ?_
          refine v_istore dX12_common_44 (Nat.le_of_ble_eq_true rfl) ?_
          refine v_iincI dX12_common_46 rfl (Nat.le_of_ble_eq_true rfl) ?_
          refine v_goto (tgt := 6) dX12_common_49 (by decide) ?_
          refine v_pick [2, 3, 4, 5, 6, 1, 0] rfl ?_
          exact ih5 _ _ (Nat.lt_of_lt_of_le w.2 (Nat.le_of_lt_succ hm9)) w.1
        )
        obtain ⟨q22, w⟩ := w
        refine v_if_eqI (tgt := 42) dX12_common_23 (by decide) q22.1 q22.2 (fun c23 => ?_) (fun c23 => ?_)
        · replace w := w.1 c23
          refine v_iconstI dX12_common_42 ?_
          refine v_pick [0, 1, 2, 3, 4, 6] rfl ?_
          exact w
        · replace w := w.2 c23
          refine v_aload_n dX12_common_26 rfl ?_
          refine v_iload_n dX12_common_27 rfl ?_
          refine v_iload dX12_common_28 rfl ?_
          refine v_iload dX12_common_30 rfl ?_
          refine v_callVIr dX12_common_32 ml_X12_475 (so_X12_shades hn hp  w) ((hp 77 (by decide)).trans (ent_77 _)) rfl (s_lt hn rfl) rfl rfl (Nat.le_of_ble_eq_true rfl) (Nat.le_of_ble_eq_true rfl) (Nat.zero_le _) (Nat.zero_le _) (fun v24 w => ?_)
          obtain ⟨q30, w⟩ := w
          refine v_if_eqI (tgt := 42) dX12_common_35 (by decide) q30.1 q30.2 (fun c31 => ?_) (fun c31 => ?_)
          · replace w := w.1 c31
            refine v_iconstI dX12_common_42 ?_
            refine v_pick [0, 1, 2, 3, 4, 6] rfl ?_
            exact w
          · replace w := w.2 c31
            refine v_iconstI dX12_common_38 ?_
            refine v_goto (tgt := 43) dX12_common_39 (by decide) ?_
            refine v_pick [0, 1, 2, 3, 4, 6] rfl ?_
            exact w
  exact hL8 _ _ _ (Nat.lt_succ_self _) wi7
theorem dX12_cross_0 : decode cX12_cross 0 = .ok (.aload_n 0, 1) := by decide +kernel
theorem dX12_cross_1 : decode cX12_cross 1 = .ok (.iconst 0, 1) := by decide +kernel
theorem dX12_cross_2 : decode cX12_cross 2 = .ok (.putfield 169, 3) := by decide +kernel
theorem dX12_cross_5 : decode cX12_cross 5 = .ok (.aload_n 0, 1) := by decide +kernel
theorem dX12_cross_6 : decode cX12_cross 6 = .ok (.iload_n 1, 1) := by decide +kernel
theorem dX12_cross_7 : decode cX12_cross 7 = .ok (.invokevirtual 219, 3) := by decide +kernel
theorem dX12_cross_10 : decode cX12_cross 10 = .ok (.ifCond .eq 26, 3) := by decide +kernel
theorem dX12_cross_13 : decode cX12_cross 13 = .ok (.aload_n 0, 1) := by decide +kernel
theorem dX12_cross_14 : decode cX12_cross 14 = .ok (.iload_n 2, 1) := by decide +kernel
theorem dX12_cross_15 : decode cX12_cross 15 = .ok (.invokevirtual 219, 3) := by decide +kernel
theorem dX12_cross_18 : decode cX12_cross 18 = .ok (.ifCond .eq 18, 3) := by decide +kernel
theorem dX12_cross_21 : decode cX12_cross 21 = .ok (.iload_n 1, 1) := by decide +kernel
theorem dX12_cross_22 : decode cX12_cross 22 = .ok (.iload_n 2, 1) := by decide +kernel
theorem dX12_cross_23 : decode cX12_cross 23 = .ok (.if_icmp .eq 13, 3) := by decide +kernel
theorem dX12_cross_26 : decode cX12_cross 26 = .ok (.iload_n 3, 1) := by decide +kernel
theorem dX12_cross_27 : decode cX12_cross 27 = .ok (.i2l, 1) := by decide +kernel
theorem dX12_cross_28 : decode cX12_cross 28 = .ok (.lconst 0, 1) := by decide +kernel
theorem dX12_cross_29 : decode cX12_cross 29 = .ok (.lconst 1, 1) := by decide +kernel
theorem dX12_cross_30 : decode cX12_cross 30 = .ok (.invokestatic 175, 3) := by decide +kernel
theorem dX12_cross_33 : decode cX12_cross 33 = .ok (.ifCond .ne 5, 3) := by decide +kernel
theorem dX12_cross_36 : decode cX12_cross 36 = .ok (.iconst (-1), 1) := by decide +kernel
theorem dX12_cross_37 : decode cX12_cross 37 = .ok (.ireturn, 1) := by decide +kernel
theorem dX12_cross_38 : decode cX12_cross 38 = .ok (.aload_n 0, 1) := by decide +kernel
theorem dX12_cross_39 : decode cX12_cross 39 = .ok (.invokevirtual 478, 3) := by decide +kernel
theorem dX12_cross_42 : decode cX12_cross 42 = .ok (.iconst 0, 1) := by decide +kernel
theorem dX12_cross_43 : decode cX12_cross 43 = .ok (.istore 4, 2) := by decide +kernel
theorem dX12_cross_45 : decode cX12_cross 45 = .ok (.iload 4, 2) := by decide +kernel
theorem dX12_cross_47 : decode cX12_cross 47 = .ok (.bipush 12, 2) := by decide +kernel
theorem dX12_cross_49 : decode cX12_cross 49 = .ok (.if_icmp .ge 58, 3) := by decide +kernel
theorem dX12_cross_52 : decode cX12_cross 52 = .ok (.aload_n 0, 1) := by decide +kernel
theorem dX12_cross_53 : decode cX12_cross 53 = .ok (.iload_n 1, 1) := by decide +kernel
theorem dX12_cross_54 : decode cX12_cross 54 = .ok (.aload_n 0, 1) := by decide +kernel
theorem dX12_cross_55 : decode cX12_cross 55 = .ok (.getfield 102, 3) := by decide +kernel
theorem dX12_cross_58 : decode cX12_cross 58 = .ok (.bipush 12, 2) := by decide +kernel
theorem dX12_cross_60 : decode cX12_cross 60 = .ok (.iload_n 1, 1) := by decide +kernel
theorem dX12_cross_61 : decode cX12_cross 61 = .ok (.imul, 1) := by decide +kernel
theorem dX12_cross_62 : decode cX12_cross 62 = .ok (.iload 4, 2) := by decide +kernel
theorem dX12_cross_64 : decode cX12_cross 64 = .ok (.iadd, 1) := by decide +kernel
theorem dX12_cross_65 : decode cX12_cross 65 = .ok (.iaload, 1) := by decide +kernel
theorem dX12_cross_66 : decode cX12_cross 66 = .ok (.iload_n 2, 1) := by decide +kernel
theorem dX12_cross_67 : decode cX12_cross 67 = .ok (.aload_n 0, 1) := by decide +kernel
theorem dX12_cross_68 : decode cX12_cross 68 = .ok (.getfield 102, 3) := by decide +kernel
theorem dX12_cross_71 : decode cX12_cross 71 = .ok (.bipush 12, 2) := by decide +kernel
theorem dX12_cross_73 : decode cX12_cross 73 = .ok (.iload_n 2, 1) := by decide +kernel
theorem dX12_cross_74 : decode cX12_cross 74 = .ok (.imul, 1) := by decide +kernel
theorem dX12_cross_75 : decode cX12_cross 75 = .ok (.iload 4, 2) := by decide +kernel
theorem dX12_cross_77 : decode cX12_cross 77 = .ok (.iadd, 1) := by decide +kernel
theorem dX12_cross_78 : decode cX12_cross 78 = .ok (.iaload, 1) := by decide +kernel
theorem dX12_cross_79 : decode cX12_cross 79 = .ok (.invokevirtual 545, 3) := by decide +kernel
theorem dX12_cross_82 : decode cX12_cross 82 = .ok (.istore 5, 2) := by decide +kernel
theorem dX12_cross_84 : decode cX12_cross 84 = .ok (.iload 5, 2) := by decide +kernel
theorem dX12_cross_86 : decode cX12_cross 86 = .ok (.ifCond .le 15, 3) := by decide +kernel
theorem dX12_cross_89 : decode cX12_cross 89 = .ok (.iload_n 3, 1) := by decide +kernel
theorem dX12_cross_90 : decode cX12_cross 90 = .ok (.ifCond .ne 8, 3) := by decide +kernel
theorem dX12_cross_93 : decode cX12_cross 93 = .ok (.iload 4, 2) := by decide +kernel
theorem dX12_cross_95 : decode cX12_cross 95 = .ok (.goto 5, 3) := by decide +kernel
theorem dX12_cross_98 : decode cX12_cross 98 = .ok (.iload 5, 2) := by decide +kernel
theorem dX12_cross_100 : decode cX12_cross 100 = .ok (.ireturn, 1) := by decide +kernel
theorem dX12_cross_101 : decode cX12_cross 101 = .ok (.iinc 4 1, 3) := by decide +kernel
theorem dX12_cross_104 : decode cX12_cross 104 = .ok (.goto (-59), 3) := by decide +kernel
theorem dX12_cross_107 : decode cX12_cross 107 = .ok (.iconst (-1), 1) := by decide +kernel
theorem dX12_cross_108 : decode cX12_cross 108 = .ok (.ireturn, 1) := by decide +kernel
def w_X12_cross (a0 a1 a2 : Int) (X : XT) (Q : Int → XT → Prop) : Prop :=
  R32 a0 ∧ (0 ≤ (x_st X 77 0 0) 79 0 ∧ (x_st X 77 0 0) 79 0 ≤ 5) ∧ (¬ (0 ≤ a0 ∧ a0 ≤ (x_st X 77 0 0) 79 0 - 1) → Q (-1) (x_st X 77 0 0)) ∧ ((0 ≤ a0 ∧ a0 ≤ (x_st X 77 0 0) 79 0 - 1) → R32 a1 ∧ (¬ (0 ≤ a1 ∧ a1 ≤ (x_st X 77 0 0) 79 0 - 1) → Q (-1) (x_st X 77 0 0)) ∧ ((0 ≤ a1 ∧ a1 ≤ (x_st X 77 0 0) 79 0 - 1) → (a0 = a1 → Q (-1) (x_st X 77 0 0)) ∧ (¬ a0 = a1 → R32 a2 ∧ ((0 ≤ a2 ∧ a2 ≤ 1) → w_X12_layCorners   (x_st X 77 0 0) (fun (X15 : XT) => ∃ (I21 : Int → Prop) (m22 : Int → Nat), I21 0 ∧ ∀ (x20 : Int), I21 x20 → R32 x20 ∧ (12 ≤ x20 → Q (-1) X15) ∧ (¬ 12 ≤ x20 → (0 ≤ ((12 * a0) + x20) ∧ ((12 * a0) + x20) < 60) ∧ (0 ≤ ((12 * a1) + x20) ∧ ((12 * a1) + x20) < 60) ∧ w_X12_common  a0 (X15 94 ((12 * a0) + x20)) a1 (X15 94 ((12 * a1) + x20)) X15 (fun (v34 : Int) => R32 v34 ∧ (v34 ≤ 0 → I21 (x20 + 1) ∧ m22 (x20 + 1) < m22 x20) ∧ (¬ v34 ≤ 0 → (¬ a2 = 0 → Q v34 X15) ∧ (a2 = 0 → Q x20 X15)))))) ∧ (¬ (0 ≤ a2 ∧ a2 ≤ 1) → Q (-1) (x_st X 77 0 0)))))
set_option maxRecDepth 20000 in
theorem so_X12_cross {n : Nat} {h : Nat → sE} {X : XT} {a0 a1 a2 : Int} {Q : Int → XT → Prop} (hn : 115 ≤ n) (hp : Pic X h) (w : w_X12_cross  a0 a1 a2 X Q) : Sp m_X12_cross 10 0 0 [.ref 77, .int (iI a0), .int (iI a1), .int (iI a2)] n h (pIw n h Q) := by
  unfold w_X12_cross at w
  refine Sp.ofV (by decide +kernel) (Nat.le_of_ble_eq_true rfl) ?_
  have hf : Fr h h := fun _ _ => rfl
  refine v_aload_n dX12_cross_0 rfl ?_
  refine v_iconstI dX12_cross_1 ?_
  refine v_put dX12_cross_2 fl_X12_169 ((hp 77 (by decide)).trans (ent_77 _)) (s_lt hn rfl) (Nat.le_of_ble_eq_true rfl) (fun _ => ⟨rfl, rfl⟩) trivial (fun h1 E2 F3 => ?_)
  have hp4 := pic_st hp (show h1 77 = ent 77 (uI _ 0 0) from E2) F3
  have hf5 := Fr.up (c := 77) hf F3 rfl
  refine v_aload_n dX12_cross_5 rfl ?_
  refine v_iload_n dX12_cross_6 rfl ?_
  obtain ⟨q6, q7, w⟩ := w
  refine v_callVp dX12_cross_7 ml_X12_219 (sp_X12_isCloud (a := a0) (g77 := (x_st X 77 0 0) 77) (g79 := (x_st X 77 0 0) 79) hn (hp4 77 (by decide)) (hp4 79 (by decide)) q6 q7) ((hp4 77 (by decide)).trans (ent_77 _)) rfl (s_lt hn rfl) rfl rfl (Nat.le_of_ble_eq_true rfl) (Nat.le_of_ble_eq_true rfl) (Nat.zero_le _) (Nat.zero_le _) ?_
  refine v_ifeqB (tgt := 36) dX12_cross_10 (by decide) (fun c8 => ?_) (fun c8 => ?_)
  · replace w := w.1 c8
    refine v_iconstI dX12_cross_36 ?_
    exact v_iret dX12_cross_37 rfl (Nat.zero_le _) (Nat.zero_le _) ⟨rfl, hf5, _, _, rfl, hp4, w⟩
  · replace w := w.2 c8
    refine v_aload_n dX12_cross_13 rfl ?_
    refine v_iload_n dX12_cross_14 rfl ?_
    obtain ⟨q9, w⟩ := w
    refine v_callVp dX12_cross_15 ml_X12_219 (sp_X12_isCloud (a := a1) (g77 := (x_st X 77 0 0) 77) (g79 := (x_st X 77 0 0) 79) hn (hp4 77 (by decide)) (hp4 79 (by decide)) q9 q7) ((hp4 77 (by decide)).trans (ent_77 _)) rfl (s_lt hn rfl) rfl rfl (Nat.le_of_ble_eq_true rfl) (Nat.le_of_ble_eq_true rfl) (Nat.zero_le _) (Nat.zero_le _) ?_
    refine v_ifeqB (tgt := 36) dX12_cross_18 (by decide) (fun c10 => ?_) (fun c10 => ?_)
    · replace w := w.1 c10
      refine v_iconstI dX12_cross_36 ?_
      exact v_iret dX12_cross_37 rfl (Nat.zero_le _) (Nat.zero_le _) ⟨rfl, hf5, _, _, rfl, hp4, w⟩
    · replace w := w.2 c10
      refine v_iload_n dX12_cross_21 rfl ?_
      refine v_iload_n dX12_cross_22 rfl ?_
      refine v_icmp_eqI (tgt := 36) dX12_cross_23 (by decide) q6.1 q6.2 q9.1 q9.2 (fun c11 => ?_) (fun c11 => ?_)
      · replace w := w.1 c11
        refine v_iconstI dX12_cross_36 ?_
        exact v_iret dX12_cross_37 rfl (Nat.zero_le _) (Nat.zero_le _) ⟨rfl, hf5, _, _, rfl, hp4, w⟩
      · replace w := w.2 c11
        refine v_iload_n dX12_cross_26 rfl ?_
        obtain ⟨q12, w⟩ := w
        refine v_i2lI dX12_cross_27 q12.1 q12.2 ?_
        refine v_lconstI (w := 0) dX12_cross_28 rfl ?_
        refine v_lconstI (w := 1) dX12_cross_29 rfl ?_
        refine v_callSp dX12_cross_30 ml_X12_175 (sp_X12_in (v := a2) (lo := 0) (hi := 1) (r32_64 q12) (by decide) (by decide)) rfl rfl (Nat.le_of_ble_eq_true rfl) (Nat.le_of_ble_eq_true rfl) (Nat.zero_le _) (Nat.zero_le _) ?_
        refine v_ifneB (tgt := 38) dX12_cross_33 (by decide) (fun c13 => ?_) (fun c13 => ?_)
        · replace w := w.1 c13
          refine v_aload_n dX12_cross_38 rfl ?_
          refine v_callVVw dX12_cross_39 ml_X12_478 (so_X12_layCorners hn hp4  w) ((hp4 77 (by decide)).trans (ent_77 _)) rfl (s_lt hn rfl) rfl rfl (Nat.le_of_ble_eq_true rfl) (Nat.le_of_ble_eq_true rfl) (Nat.zero_le _) (Nat.zero_le _) (fun X15 h16 hp18 hf17 w => ?_)
          have hf19 := Fr.trans hf5 hf17
          refine v_iconstI dX12_cross_42 ?_
          refine v_istore dX12_cross_43 (Nat.le_of_ble_eq_true rfl) ?_
          refine v_pick [1, 2, 3, 4, 0] rfl ?_
          obtain ⟨I21, m22, wi25, wl24⟩ := w
          have hL26 : ∀ (N29 : Nat) (x20 : Int), m22 x20 < N29 → I21 x20 → V (m_X12_cross, 10, 0, 0, n, pIw n h Q, s_G0) 0 0 n h16 45 [(0, .ref 77), (1, .int (iI a0)), (2, .int (iI a1)), (3, .int (iI a2)), (4, .int (iI x20))] [] := by
            intro N29
            induction N29 with
            | zero => intro x20  hm27; exact absurd hm27 (Nat.not_lt_zero _)
            | succ N29 ih23 =>
              intro x20  hm27 hI28
              have w := wl24 x20 hI28
              refine v_iload dX12_cross_45 rfl ?_
              refine v_bipushI dX12_cross_47 rfl ?_
              obtain ⟨q30, w⟩ := w
              refine v_icmp_geI (tgt := 107) dX12_cross_49 (by decide) q30.1 q30.2 (by decide) (by decide) (fun c31 => ?_) (fun c31 => ?_)
              · replace w := w.1 c31
                refine v_iconstI dX12_cross_107 ?_
                exact v_iret dX12_cross_108 rfl (Nat.zero_le _) (Nat.zero_le _) ⟨rfl, hf19, _, _, rfl, hp18, w⟩
              · replace w := w.2 c31
                refine v_aload_n dX12_cross_52 rfl ?_
                refine v_iload_n dX12_cross_53 rfl ?_
                refine v_aload_n dX12_cross_54 rfl ?_
                refine v_get dX12_cross_55 fl_X12_102 ((hp18 77 (by decide)).trans (ent_77 _)) rfl (s_lt hn rfl) ?_
                refine v_bipushI dX12_cross_58 rfl ?_
                refine v_iload_n dX12_cross_60 rfl ?_
                refine v_imulI dX12_cross_61 ?_
                refine v_iload dX12_cross_62 rfl ?_
                refine v_iaddI dX12_cross_64 ?_
                obtain ⟨q32, w⟩ := w
                refine v_ialdI dX12_cross_65 ((hp18 94 (by decide)).trans (ent_94 _)) (s_lt hn rfl) q32.1 q32.2 (ix_le q32.2 (by decide)) ?_
                refine v_iload_n dX12_cross_66 rfl ?_
                refine v_aload_n dX12_cross_67 rfl ?_
                refine v_get dX12_cross_68 fl_X12_102 ((hp18 77 (by decide)).trans (ent_77 _)) rfl (s_lt hn rfl) ?_
                refine v_bipushI dX12_cross_71 rfl ?_
                refine v_iload_n dX12_cross_73 rfl ?_
                refine v_imulI dX12_cross_74 ?_
                refine v_iload dX12_cross_75 rfl ?_
                refine v_iaddI dX12_cross_77 ?_
                obtain ⟨q33, w⟩ := w
                refine v_ialdI dX12_cross_78 ((hp18 94 (by decide)).trans (ent_94 _)) (s_lt hn rfl) q33.1 q33.2 (ix_le q33.2 (by decide)) ?_
                refine v_callVIr dX12_cross_79 ml_X12_545 (so_X12_common hn hp18  w) ((hp18 77 (by decide)).trans (ent_77 _)) rfl (s_lt hn rfl) rfl rfl (Nat.le_of_ble_eq_true rfl) (Nat.le_of_ble_eq_true rfl) (Nat.zero_le _) (Nat.zero_le _) (fun v34 w => ?_)
                refine v_istore dX12_cross_82 (Nat.le_of_ble_eq_true rfl) ?_
                refine v_iload dX12_cross_84 rfl ?_
                obtain ⟨q40, w⟩ := w
                refine v_if_leI (tgt := 101) dX12_cross_86 (by decide) q40.1 q40.2 (fun c41 => ?_) (fun c41 => ?_)
                · replace w := w.1 c41
                  refine v_iincI dX12_cross_101 rfl (Nat.le_of_ble_eq_true rfl) ?_
                  refine v_goto (tgt := 45) dX12_cross_104 (by decide) ?_
                  refine v_pick [2, 3, 4, 5, 0] rfl ?_
                  exact ih23 _ (Nat.lt_of_lt_of_le w.2 (Nat.le_of_lt_succ hm27)) w.1
                · replace w := w.2 c41
                  refine v_iload_n dX12_cross_89 rfl ?_
                  refine v_if_neI (tgt := 98) dX12_cross_90 (by decide) q12.1 q12.2 (fun c42 => ?_) (fun c42 => ?_)
                  · replace w := w.1 c42
                    refine v_iload dX12_cross_98 rfl ?_
                    exact v_iret dX12_cross_100 rfl (Nat.zero_le _) (Nat.zero_le _) ⟨rfl, hf19, _, _, rfl, hp18, w⟩
                  · replace w := w.2 c42
                    refine v_iload dX12_cross_93 rfl ?_
                    refine v_goto (tgt := 100) dX12_cross_95 (by decide) ?_
                    exact v_iret dX12_cross_100 rfl (Nat.zero_le _) (Nat.zero_le _) ⟨rfl, hf19, _, _, rfl, hp18, w⟩
          exact hL26 _ _ (Nat.lt_succ_self _) wi25
        · replace w := w.2 c13
          refine v_iconstI dX12_cross_36 ?_
          exact v_iret dX12_cross_37 rfl (Nat.zero_le _) (Nat.zero_le _) ⟨rfl, hf5, _, _, rfl, hp4, w⟩
theorem dX12_part_0 : decode cX12_part 0 = .ok (.aload_n 0, 1) := by decide +kernel
theorem dX12_part_1 : decode cX12_part 1 = .ok (.iconst 0, 1) := by decide +kernel
theorem dX12_part_2 : decode cX12_part 2 = .ok (.putfield 169, 3) := by decide +kernel
theorem dX12_part_5 : decode cX12_part 5 = .ok (.aload_n 0, 1) := by decide +kernel
theorem dX12_part_6 : decode cX12_part 6 = .ok (.iload_n 1, 1) := by decide +kernel
theorem dX12_part_7 : decode cX12_part 7 = .ok (.invokevirtual 219, 3) := by decide +kernel
theorem dX12_part_10 : decode cX12_part 10 = .ok (.ifCond .eq 16, 3) := by decide +kernel
theorem dX12_part_13 : decode cX12_part 13 = .ok (.aload_n 0, 1) := by decide +kernel
theorem dX12_part_14 : decode cX12_part 14 = .ok (.iload_n 2, 1) := by decide +kernel
theorem dX12_part_15 : decode cX12_part 15 = .ok (.invokevirtual 219, 3) := by decide +kernel
theorem dX12_part_18 : decode cX12_part 18 = .ok (.ifCond .eq 8, 3) := by decide +kernel
theorem dX12_part_21 : decode cX12_part 21 = .ok (.iload_n 1, 1) := by decide +kernel
theorem dX12_part_22 : decode cX12_part 22 = .ok (.iload_n 2, 1) := by decide +kernel
theorem dX12_part_23 : decode cX12_part 23 = .ok (.if_icmp .ne 5, 3) := by decide +kernel
theorem dX12_part_26 : decode cX12_part 26 = .ok (.iconst (-1), 1) := by decide +kernel
theorem dX12_part_27 : decode cX12_part 27 = .ok (.ireturn, 1) := by decide +kernel
theorem dX12_part_28 : decode cX12_part 28 = .ok (.aload_n 0, 1) := by decide +kernel
theorem dX12_part_29 : decode cX12_part 29 = .ok (.invokevirtual 478, 3) := by decide +kernel
theorem dX12_part_32 : decode cX12_part 32 = .ok (.aload_n 0, 1) := by decide +kernel
theorem dX12_part_33 : decode cX12_part 33 = .ok (.iload_n 1, 1) := by decide +kernel
theorem dX12_part_34 : decode cX12_part 34 = .ok (.invokevirtual 515, 3) := by decide +kernel
theorem dX12_part_37 : decode cX12_part 37 = .ok (.bipush 11, 2) := by decide +kernel
theorem dX12_part_39 : decode cX12_part 39 = .ok (.istore_n 3, 1) := by decide +kernel
theorem dX12_part_40 : decode cX12_part 40 = .ok (.iload_n 3, 1) := by decide +kernel
theorem dX12_part_41 : decode cX12_part 41 = .ok (.ifCond .lt 173, 3) := by decide +kernel
theorem dX12_part_44 : decode cX12_part 44 = .ok (.iconst 0, 1) := by decide +kernel
theorem dX12_part_45 : decode cX12_part 45 = .ok (.istore 4, 2) := by decide +kernel
theorem dX12_part_47 : decode cX12_part 47 = .ok (.iload 4, 2) := by decide +kernel
theorem dX12_part_49 : decode cX12_part 49 = .ok (.sipush 576, 3) := by decide +kernel
theorem dX12_part_52 : decode cX12_part 52 = .ok (.if_icmp .ge 156, 3) := by decide +kernel
theorem dX12_part_55 : decode cX12_part 55 = .ok (.iload_n 3, 1) := by decide +kernel
theorem dX12_part_56 : decode cX12_part 56 = .ok (.bipush 11, 2) := by decide +kernel
theorem dX12_part_58 : decode cX12_part 58 = .ok (.if_icmp .ne 7, 3) := by decide +kernel
theorem dX12_part_61 : decode cX12_part 61 = .ok (.iconst 0, 1) := by decide +kernel
theorem dX12_part_62 : decode cX12_part 62 = .ok (.goto 6, 3) := by decide +kernel
theorem dX12_part_65 : decode cX12_part 65 = .ok (.ldc_w 507, 3) := by decide +kernel
theorem dX12_part_68 : decode cX12_part 68 = .ok (.istore 5, 2) := by decide +kernel
theorem dX12_part_70 : decode cX12_part 70 = .ok (.iconst 0, 1) := by decide +kernel
theorem dX12_part_71 : decode cX12_part 71 = .ok (.istore 6, 2) := by decide +kernel
theorem dX12_part_73 : decode cX12_part 73 = .ok (.iload 6, 2) := by decide +kernel
theorem dX12_part_75 : decode cX12_part 75 = .ok (.iconst 5, 1) := by decide +kernel
theorem dX12_part_76 : decode cX12_part 76 = .ok (.if_icmp .ge 83, 3) := by decide +kernel
theorem dX12_part_79 : decode cX12_part 79 = .ok (.iload_n 3, 1) := by decide +kernel
theorem dX12_part_80 : decode cX12_part 80 = .ok (.bipush 11, 2) := by decide +kernel
theorem dX12_part_82 : decode cX12_part 82 = .ok (.if_icmp .ge 77, 3) := by decide +kernel
theorem dX12_part_85 : decode cX12_part 85 = .ok (.aload_n 0, 1) := by decide +kernel
theorem dX12_part_86 : decode cX12_part 86 = .ok (.iload_n 1, 1) := by decide +kernel
theorem dX12_part_87 : decode cX12_part 87 = .ok (.iload_n 3, 1) := by decide +kernel
theorem dX12_part_88 : decode cX12_part 88 = .ok (.iload 4, 2) := by decide +kernel
theorem dX12_part_90 : decode cX12_part 90 = .ok (.iconst 0, 1) := by decide +kernel
theorem dX12_part_91 : decode cX12_part 91 = .ok (.iload 6, 2) := by decide +kernel
theorem dX12_part_93 : decode cX12_part 93 = .ok (.invokevirtual 508, 3) := by decide +kernel
theorem dX12_part_96 : decode cX12_part 96 = .ok (.istore 7, 2) := by decide +kernel
theorem dX12_part_98 : decode cX12_part 98 = .ok (.iload 7, 2) := by decide +kernel
theorem dX12_part_100 : decode cX12_part 100 = .ok (.iconst (-1), 1) := by decide +kernel
theorem dX12_part_101 : decode cX12_part 101 = .ok (.if_icmp .ne 7, 3) := by decide +kernel
theorem dX12_part_104 : decode cX12_part 104 = .ok (.iconst 0, 1) := by decide +kernel
theorem dX12_part_105 : decode cX12_part 105 = .ok (.goto 18, 3) := by decide +kernel
theorem dX12_part_108 : decode cX12_part 108 = .ok (.aload_n 0, 1) := by decide +kernel
theorem dX12_part_109 : decode cX12_part 109 = .ok (.getfield 111, 3) := by decide +kernel
theorem dX12_part_112 : decode cX12_part 112 = .ok (.sipush 576, 3) := by decide +kernel
theorem dX12_part_115 : decode cX12_part 115 = .ok (.iload_n 3, 1) := by decide +kernel
theorem dX12_part_116 : decode cX12_part 116 = .ok (.iconst 1, 1) := by decide +kernel
theorem dX12_part_117 : decode cX12_part 117 = .ok (.iadd, 1) := by decide +kernel
theorem dX12_part_118 : decode cX12_part 118 = .ok (.imul, 1) := by decide +kernel
theorem dX12_part_119 : decode cX12_part 119 = .ok (.iload 7, 2) := by decide +kernel
theorem dX12_part_121 : decode cX12_part 121 = .ok (.iadd, 1) := by decide +kernel
theorem dX12_part_122 : decode cX12_part 122 = .ok (.iaload, 1) := by decide +kernel
theorem dX12_part_123 : decode cX12_part 123 = .ok (.iload 6, 2) := by decide +kernel
theorem dX12_part_125 : decode cX12_part 125 = .ok (.iconst 4, 1) := by decide +kernel
theorem dX12_part_126 : decode cX12_part 126 = .ok (.if_icmp .ge 7, 3) := by decide +kernel
theorem dX12_part_129 : decode cX12_part 129 = .ok (.iconst 1, 1) := by decide +kernel
theorem dX12_part_130 : decode cX12_part 130 = .ok (.goto 4, 3) := by decide +kernel
theorem dX12_part_133 : decode cX12_part 133 = .ok (.iconst 0, 1) := by decide +kernel
theorem dX12_part_134 : decode cX12_part 134 = .ok (.iadd, 1) := by decide +kernel
theorem dX12_part_135 : decode cX12_part 135 = .ok (.istore 8, 2) := by decide +kernel
theorem dX12_part_137 : decode cX12_part 137 = .ok (.iload 8, 2) := by decide +kernel
theorem dX12_part_139 : decode cX12_part 139 = .ok (.iload 5, 2) := by decide +kernel
theorem dX12_part_141 : decode cX12_part 141 = .ok (.if_icmp .ge 8, 3) := by decide +kernel
theorem dX12_part_144 : decode cX12_part 144 = .ok (.iload 8, 2) := by decide +kernel
theorem dX12_part_146 : decode cX12_part 146 = .ok (.goto 5, 3) := by decide +kernel
theorem dX12_part_149 : decode cX12_part 149 = .ok (.iload 5, 2) := by decide +kernel
theorem dX12_part_151 : decode cX12_part 151 = .ok (.istore 5, 2) := by decide +kernel
theorem dX12_part_153 : decode cX12_part 153 = .ok (.iinc 6 1, 3) := by decide +kernel
theorem dX12_part_156 : decode cX12_part 156 = .ok (.goto (-83), 3) := by decide +kernel
theorem dX12_part_159 : decode cX12_part 159 = .ok (.aload_n 0, 1) := by decide +kernel
theorem dX12_part_160 : decode cX12_part 160 = .ok (.getfield 111, 3) := by decide +kernel
theorem dX12_part_163 : decode cX12_part 163 = .ok (.sipush 576, 3) := by decide +kernel
theorem dX12_part_166 : decode cX12_part 166 = .ok (.iload_n 3, 1) := by decide +kernel
theorem dX12_part_167 : decode cX12_part 167 = .ok (.imul, 1) := by decide +kernel
theorem dX12_part_168 : decode cX12_part 168 = .ok (.iload 4, 2) := by decide +kernel
theorem dX12_part_170 : decode cX12_part 170 = .ok (.iadd, 1) := by decide +kernel
theorem dX12_part_171 : decode cX12_part 171 = .ok (.aload_n 0, 1) := by decide +kernel
theorem dX12_part_172 : decode cX12_part 172 = .ok (.iload_n 1, 1) := by decide +kernel
theorem dX12_part_173 : decode cX12_part 173 = .ok (.iload 4, 2) := by decide +kernel
theorem dX12_part_175 : decode cX12_part 175 = .ok (.iload_n 2, 1) := by decide +kernel
theorem dX12_part_176 : decode cX12_part 176 = .ok (.aload_n 0, 1) := by decide +kernel
theorem dX12_part_177 : decode cX12_part 177 = .ok (.getfield 102, 3) := by decide +kernel
theorem dX12_part_180 : decode cX12_part 180 = .ok (.bipush 12, 2) := by decide +kernel
theorem dX12_part_182 : decode cX12_part 182 = .ok (.iload_n 2, 1) := by decide +kernel
theorem dX12_part_183 : decode cX12_part 183 = .ok (.imul, 1) := by decide +kernel
theorem dX12_part_184 : decode cX12_part 184 = .ok (.iload_n 3, 1) := by decide +kernel
theorem dX12_part_185 : decode cX12_part 185 = .ok (.iadd, 1) := by decide +kernel
theorem dX12_part_186 : decode cX12_part 186 = .ok (.iaload, 1) := by decide +kernel
theorem dX12_part_187 : decode cX12_part 187 = .ok (.invokevirtual 545, 3) := by decide +kernel
theorem dX12_part_190 : decode cX12_part 190 = .ok (.ifCond .le 9, 3) := by decide +kernel
theorem dX12_part_193 : decode cX12_part 193 = .ok (.ldc_w 507, 3) := by decide +kernel
theorem dX12_part_196 : decode cX12_part 196 = .ok (.goto 5, 3) := by decide +kernel
theorem dX12_part_199 : decode cX12_part 199 = .ok (.iload 5, 2) := by decide +kernel
theorem dX12_part_201 : decode cX12_part 201 = .ok (.iastore, 1) := by decide +kernel
theorem dX12_part_202 : decode cX12_part 202 = .ok (.iinc 4 1, 3) := by decide +kernel
theorem dX12_part_205 : decode cX12_part 205 = .ok (.goto (-158), 3) := by decide +kernel
theorem dX12_part_208 : decode cX12_part 208 = .ok (.iinc 3 (-1), 3) := by decide +kernel
theorem dX12_part_211 : decode cX12_part 211 = .ok (.goto (-171), 3) := by decide +kernel
theorem dX12_part_214 : decode cX12_part 214 = .ok (.aload_n 0, 1) := by decide +kernel
theorem dX12_part_215 : decode cX12_part 215 = .ok (.getfield 111, 3) := by decide +kernel
theorem dX12_part_218 : decode cX12_part 218 = .ok (.aload_n 0, 1) := by decide +kernel
theorem dX12_part_219 : decode cX12_part 219 = .ok (.iload_n 1, 1) := by decide +kernel
theorem dX12_part_220 : decode cX12_part 220 = .ok (.invokevirtual 464, 3) := by decide +kernel
theorem dX12_part_223 : decode cX12_part 223 = .ok (.iaload, 1) := by decide +kernel
theorem dX12_part_224 : decode cX12_part 224 = .ok (.istore_n 3, 1) := by decide +kernel
theorem dX12_part_225 : decode cX12_part 225 = .ok (.iload_n 3, 1) := by decide +kernel
theorem dX12_part_226 : decode cX12_part 226 = .ok (.ldc_w 507, 3) := by decide +kernel
theorem dX12_part_229 : decode cX12_part 229 = .ok (.if_icmp .lt 7, 3) := by decide +kernel
theorem dX12_part_232 : decode cX12_part 232 = .ok (.iconst (-1), 1) := by decide +kernel
theorem dX12_part_233 : decode cX12_part 233 = .ok (.goto 4, 3) := by decide +kernel
theorem dX12_part_236 : decode cX12_part 236 = .ok (.iload_n 3, 1) := by decide +kernel
theorem dX12_part_237 : decode cX12_part 237 = .ok (.ireturn, 1) := by decide +kernel
def w_X12_part (a0 a1 : Int) (X : XT) (Q : Int → XT → Prop) : Prop :=
  R32 a0 ∧ (0 ≤ (x_st X 77 0 0) 79 0 ∧ (x_st X 77 0 0) 79 0 ≤ 5) ∧ (¬ (0 ≤ a0 ∧ a0 ≤ (x_st X 77 0 0) 79 0 - 1) → Q (-1) (x_st X 77 0 0)) ∧ ((0 ≤ a0 ∧ a0 ≤ (x_st X 77 0 0) 79 0 - 1) → R32 a1 ∧ (¬ (0 ≤ a1 ∧ a1 ≤ (x_st X 77 0 0) 79 0 - 1) → Q (-1) (x_st X 77 0 0)) ∧ ((0 ≤ a1 ∧ a1 ≤ (x_st X 77 0 0) 79 0 - 1) → (¬ a0 = a1 → w_X12_layCorners   (x_st X 77 0 0) (fun (X13 : XT) => w_X12_layWorks  a0 X13 (fun (X19 : XT) => ∃ (I26 : Int → XT → Prop) (m27 : Int → XT → Nat), I26 11 X19 ∧ ∀ (x24 : Int) (X25 : XT), I26 x24 X25 → R32 x24 ∧ (x24 < 0 → w_X12_beginsAt  a0 X25 (fun (v40 : Int) => (0 ≤ v40 ∧ v40 < 6912) ∧ R32 (X25 97 v40) ∧ ((X25 97 v40) < 100000000 → Q (X25 97 v40) X25) ∧ (¬ (X25 97 v40) < 100000000 → Q (-1) X25))) ∧ (¬ x24 < 0 → ∃ (I51 : Int → XT → Prop) (m52 : Int → XT → Nat), I51 0 X25 ∧ ∀ (x49 : Int) (X50 : XT), I51 x49 X50 → R32 x49 ∧ (576 ≤ x49 → I26 (x24 + (-1)) X50 ∧ m27 (x24 + (-1)) X50 < m27 x24 X25) ∧ (¬ 576 ≤ x49 → ∀ J66 : Int → Prop, (∀ (v65 : Int), (∃ (I69 : Int → Int → Prop) (m70 : Int → Int → Nat), I69 v65 0 ∧ ∀ (x67 : Int) (x68 : Int), I69 x67 x68 → ∀ J78 : Prop, (((0 ≤ ((12 * a1) + x24) ∧ ((12 * a1) + x24) < 60) ∧ w_X12_common  a0 x49 a1 (X50 94 ((12 * a1) + x24)) X50 (fun (v80 : Int) => R32 v80 ∧ (v80 ≤ 0 → (0 ≤ ((576 * x24) + x49) ∧ ((576 * x24) + x49) < 6912) ∧ I51 (x49 + 1) (x_st X50 97 ((576 * x24) + x49) x67) ∧ m52 (x49 + 1) (x_st X50 97 ((576 * x24) + x49) x67) < m52 x49 X50) ∧ (¬ v80 ≤ 0 → (0 ≤ ((576 * x24) + x49) ∧ ((576 * x24) + x49) < 6912) ∧ I51 (x49 + 1) (x_st X50 97 ((576 * x24) + x49) 100000000) ∧ m52 (x49 + 1) (x_st X50 97 ((576 * x24) + x49) 100000000) < m52 x49 X50))) → J78) → R32 x68 ∧ (5 ≤ x68 → J78 ) ∧ (¬ 5 ≤ x68 → (11 ≤ x24 → J78 ) ∧ (¬ 11 ≤ x24 → w_X12_nextOf  a0 x24 x49 0 x68 X50 (fun (v103 : Int) => ∀ J110 : Int → Prop, (∀ (v109 : Int), (∀ J112 : Int → Prop, (∀ (v111 : Int), (R32 (v109 + v111) ∧ R32 x67 ∧ (x67 ≤ (v109 + v111) → I69 x67 (x68 + 1) ∧ m70 x67 (x68 + 1) < m70 x67 x68) ∧ (¬ x67 ≤ (v109 + v111) → I69 (v109 + v111) (x68 + 1) ∧ m70 (v109 + v111) (x68 + 1) < m70 x67 x68)) → J112 v111) → (4 ≤ x68 → J112 0) ∧ (¬ 4 ≤ x68 → J112 1)) → J110 v109) → R32 v103 ∧ (¬ v103 = (-1) → (0 ≤ ((576 * (x24 + 1)) + v103) ∧ ((576 * (x24 + 1)) + v103) < 6912) ∧ J110 (X50 97 ((576 * (x24 + 1)) + v103))) ∧ (v103 = (-1) → J110 0))))) → J66 v65) → (¬ x24 = 11 → J66 100000000) ∧ (x24 = 11 → J66 0)))))) ∧ (a0 = a1 → Q (-1) (x_st X 77 0 0))))
set_option maxRecDepth 20000 in
theorem so_X12_part {n : Nat} {h : Nat → sE} {X : XT} {a0 a1 : Int} {Q : Int → XT → Prop} (hn : 115 ≤ n) (hp : Pic X h) (w : w_X12_part  a0 a1 X Q) : Sp m_X12_part 10 0 0 [.ref 77, .int (iI a0), .int (iI a1)] n h (pIw n h Q) := by
  unfold w_X12_part at w
  refine Sp.ofV (by decide +kernel) (Nat.le_of_ble_eq_true rfl) ?_
  have hf : Fr h h := fun _ _ => rfl
  refine v_aload_n dX12_part_0 rfl ?_
  refine v_iconstI dX12_part_1 ?_
  refine v_put dX12_part_2 fl_X12_169 ((hp 77 (by decide)).trans (ent_77 _)) (s_lt hn rfl) (Nat.le_of_ble_eq_true rfl) (fun _ => ⟨rfl, rfl⟩) trivial (fun h1 E2 F3 => ?_)
  have hp4 := pic_st hp (show h1 77 = ent 77 (uI _ 0 0) from E2) F3
  have hf5 := Fr.up (c := 77) hf F3 rfl
  refine v_aload_n dX12_part_5 rfl ?_
  refine v_iload_n dX12_part_6 rfl ?_
  obtain ⟨q6, q7, w⟩ := w
  refine v_callVp dX12_part_7 ml_X12_219 (sp_X12_isCloud (a := a0) (g77 := (x_st X 77 0 0) 77) (g79 := (x_st X 77 0 0) 79) hn (hp4 77 (by decide)) (hp4 79 (by decide)) q6 q7) ((hp4 77 (by decide)).trans (ent_77 _)) rfl (s_lt hn rfl) rfl rfl (Nat.le_of_ble_eq_true rfl) (Nat.le_of_ble_eq_true rfl) (Nat.zero_le _) (Nat.zero_le _) ?_
  refine v_ifeqB (tgt := 26) dX12_part_10 (by decide) (fun c8 => ?_) (fun c8 => ?_)
  · replace w := w.1 c8
    refine v_iconstI dX12_part_26 ?_
    exact v_iret dX12_part_27 rfl (Nat.zero_le _) (Nat.zero_le _) ⟨rfl, hf5, _, _, rfl, hp4, w⟩
  · replace w := w.2 c8
    refine v_aload_n dX12_part_13 rfl ?_
    refine v_iload_n dX12_part_14 rfl ?_
    obtain ⟨q9, w⟩ := w
    refine v_callVp dX12_part_15 ml_X12_219 (sp_X12_isCloud (a := a1) (g77 := (x_st X 77 0 0) 77) (g79 := (x_st X 77 0 0) 79) hn (hp4 77 (by decide)) (hp4 79 (by decide)) q9 q7) ((hp4 77 (by decide)).trans (ent_77 _)) rfl (s_lt hn rfl) rfl rfl (Nat.le_of_ble_eq_true rfl) (Nat.le_of_ble_eq_true rfl) (Nat.zero_le _) (Nat.zero_le _) ?_
    refine v_ifeqB (tgt := 26) dX12_part_18 (by decide) (fun c10 => ?_) (fun c10 => ?_)
    · replace w := w.1 c10
      refine v_iconstI dX12_part_26 ?_
      exact v_iret dX12_part_27 rfl (Nat.zero_le _) (Nat.zero_le _) ⟨rfl, hf5, _, _, rfl, hp4, w⟩
    · replace w := w.2 c10
      refine v_iload_n dX12_part_21 rfl ?_
      refine v_iload_n dX12_part_22 rfl ?_
      refine v_icmp_neI (tgt := 28) dX12_part_23 (by decide) q6.1 q6.2 q9.1 q9.2 (fun c11 => ?_) (fun c11 => ?_)
      · replace w := w.1 c11
        refine v_aload_n dX12_part_28 rfl ?_
        refine v_callVVw dX12_part_29 ml_X12_478 (so_X12_layCorners hn hp4  w) ((hp4 77 (by decide)).trans (ent_77 _)) rfl (s_lt hn rfl) rfl rfl (Nat.le_of_ble_eq_true rfl) (Nat.le_of_ble_eq_true rfl) (Nat.zero_le _) (Nat.zero_le _) (fun X13 h14 hp16 hf15 w => ?_)
        have hf17 := Fr.trans hf5 hf15
        refine v_aload_n dX12_part_32 rfl ?_
        refine v_iload_n dX12_part_33 rfl ?_
        refine v_callVVw dX12_part_34 ml_X12_515 (so_X12_layWorks hn hp16  w) ((hp16 77 (by decide)).trans (ent_77 _)) rfl (s_lt hn rfl) rfl rfl (Nat.le_of_ble_eq_true rfl) (Nat.le_of_ble_eq_true rfl) (Nat.zero_le _) (Nat.zero_le _) (fun X19 h20 hp22 hf21 w => ?_)
        have hf23 := Fr.trans hf17 hf21
        refine v_bipushI dX12_part_37 rfl ?_
        refine v_istore_n dX12_part_39 (Nat.le_of_ble_eq_true rfl) ?_
        refine v_pick [1, 2, 3, 0] rfl ?_
        obtain ⟨I26, m27, wi30, wl29⟩ := w
        have hL31 : ∀ (N34 : Nat) (x24 : Int) (X25 : XT) (h35 : Nat → sE), m27 x24 X25 < N34 → I26 x24 X25 → Pic X25 h35 → Fr h h35 → V (m_X12_part, 10, 0, 0, n, pIw n h Q, s_G0) 0 0 n h35 40 [(0, .ref 77), (1, .int (iI a0)), (2, .int (iI a1)), (3, .int (iI x24))] [] := by
          intro N34
          induction N34 with
          | zero => intro x24 X25 h35 hm32; exact absurd hm32 (Nat.not_lt_zero _)
          | succ N34 ih28 =>
            intro x24 X25 h35 hm32 hI33 hp36 hf37
            have w := wl29 x24 X25 hI33
            refine v_iload_n dX12_part_40 rfl ?_
            obtain ⟨q38, w⟩ := w
            refine v_if_ltI (tgt := 214) dX12_part_41 (by decide) q38.1 q38.2 (fun c39 => ?_) (fun c39 => ?_)
            · replace w := w.1 c39
              refine v_aload_n dX12_part_214 rfl ?_
              refine v_get dX12_part_215 fl_X12_111 ((hp36 77 (by decide)).trans (ent_77 _)) rfl (s_lt hn rfl) ?_
              refine v_aload_n dX12_part_218 rfl ?_
              refine v_iload_n dX12_part_219 rfl ?_
              refine v_callVIr dX12_part_220 ml_X12_464 (so_X12_beginsAt hn hp36  w) ((hp36 77 (by decide)).trans (ent_77 _)) rfl (s_lt hn rfl) rfl rfl (Nat.le_of_ble_eq_true rfl) (Nat.le_of_ble_eq_true rfl) (Nat.zero_le _) (Nat.zero_le _) (fun v40 w => ?_)
              obtain ⟨q46, w⟩ := w
              refine v_ialdI dX12_part_223 ((hp36 97 (by decide)).trans (ent_97 _)) (s_lt hn rfl) q46.1 q46.2 (ix_le q46.2 (by decide)) ?_
              refine v_istore_n dX12_part_224 (Nat.le_of_ble_eq_true rfl) ?_
              refine v_iload_n dX12_part_225 rfl ?_
              refine v_ldcwI 100000000 dX12_part_226 k_X12_507 rfl ?_
              obtain ⟨q47, w⟩ := w
              refine v_icmp_ltI (tgt := 236) dX12_part_229 (by decide) q47.1 q47.2 (by decide) (by decide) (fun c48 => ?_) (fun c48 => ?_)
              · replace w := w.1 c48
                refine v_iload_n dX12_part_236 rfl ?_
                exact v_iret dX12_part_237 rfl (Nat.zero_le _) (Nat.zero_le _) ⟨rfl, hf37, _, _, rfl, hp36, w⟩
              · replace w := w.2 c48
                refine v_iconstI dX12_part_232 ?_
                refine v_goto (tgt := 237) dX12_part_233 (by decide) ?_
                exact v_iret dX12_part_237 rfl (Nat.zero_le _) (Nat.zero_le _) ⟨rfl, hf37, _, _, rfl, hp36, w⟩
            · replace w := w.2 c39
              refine v_iconstI dX12_part_44 ?_
              refine v_istore dX12_part_45 (Nat.le_of_ble_eq_true rfl) ?_
              refine v_pick [1, 2, 3, 4, 0] rfl ?_
              obtain ⟨I51, m52, wi55, wl54⟩ := w
              have hL56 : ∀ (N59 : Nat) (x49 : Int) (X50 : XT) (h60 : Nat → sE), m52 x49 X50 < N59 → I51 x49 X50 → Pic X50 h60 → Fr h h60 → V (m_X12_part, 10, 0, 0, n, pIw n h Q, s_G0) 0 0 n h60 47 [(0, .ref 77), (1, .int (iI a0)), (2, .int (iI a1)), (3, .int (iI x24)), (4, .int (iI x49))] [] := by
                intro N59
                induction N59 with
                | zero => intro x49 X50 h60 hm57; exact absurd hm57 (Nat.not_lt_zero _)
                | succ N59 ih53 =>
                  intro x49 X50 h60 hm57 hI58 hp61 hf62
                  have w := wl54 x49 X50 hI58
                  refine v_iload dX12_part_47 rfl ?_
                  refine v_sipushI dX12_part_49 rfl ?_
                  obtain ⟨q63, w⟩ := w
                  refine v_icmp_geI (tgt := 208) dX12_part_52 (by decide) q63.1 q63.2 (by decide) (by decide) (fun c64 => ?_) (fun c64 => ?_)
                  · replace w := w.1 c64
                    refine v_iincI dX12_part_208 rfl (Nat.le_of_ble_eq_true rfl) ?_
                    refine v_goto (tgt := 40) dX12_part_211 (by decide) ?_
                    refine v_pick [1, 2, 3, 0] rfl ?_
                    exact ih28 _ _ _ (Nat.lt_of_lt_of_le w.2 (Nat.le_of_lt_succ hm32)) w.1 hp61 hf62
                  · replace w := w.2 c64
                    refine v_iload_n dX12_part_55 rfl ?_
                    refine v_bipushI dX12_part_56 rfl ?_
                    replace w := w (fun (v65 : Int) => V (m_X12_part, 10, 0, 0, n, pIw n h Q, s_G0) 0 0 n h60 68 [(0, .ref 77), (1, .int (iI a0)), (2, .int (iI a1)), (3, .int (iI x24)), (4, .int (iI x49))] [.int (iI v65)]) (by
                      intro v65 w
                      refine v_istore dX12_part_68 (Nat.le_of_ble_eq_true rfl) ?_
                      refine v_iconstI dX12_part_70 ?_
                      refine v_istore dX12_part_71 (Nat.le_of_ble_eq_true rfl) ?_
                      refine v_pick [2, 3, 4, 5, 6, 1, 0] rfl ?_
                      obtain ⟨I69, m70, wi73, wl72⟩ := w
                      have hL74 : ∀ (N77 : Nat) (x67 : Int) (x68 : Int), m70 x67 x68 < N77 → I69 x67 x68 → V (m_X12_part, 10, 0, 0, n, pIw n h Q, s_G0) 0 0 n h60 73 [(0, .ref 77), (1, .int (iI a0)), (2, .int (iI a1)), (3, .int (iI x24)), (4, .int (iI x49)), (5, .int (iI x67)), (6, .int (iI x68))] [] := by
                        intro N77
                        induction N77 with
                        | zero => intro x67 x68  hm75; exact absurd hm75 (Nat.not_lt_zero _)
                        | succ N77 ih71 =>
                          intro x67 x68  hm75 hI76
                          have w := wl72 x67 x68 hI76
                          refine v_iload dX12_part_73 rfl ?_
                          refine v_iconstI dX12_part_75 ?_
                          replace w := w (V (m_X12_part, 10, 0, 0, n, pIw n h Q, s_G0) 0 0 n h60 159 [(0, .ref 77), (1, .int (iI a0)), (2, .int (iI a1)), (3, .int (iI x24)), (4, .int (iI x49)), (5, .int (iI x67))] []) (by
                            intro  w
                            refine v_aload_n dX12_part_159 rfl ?_
                            refine v_get dX12_part_160 fl_X12_111 ((hp61 77 (by decide)).trans (ent_77 _)) rfl (s_lt hn rfl) ?_
                            refine v_sipushI dX12_part_163 rfl ?_
                            refine v_iload_n dX12_part_166 rfl ?_
                            refine v_imulI dX12_part_167 ?_
                            refine v_iload dX12_part_168 rfl ?_
                            refine v_iaddI dX12_part_170 ?_
                            refine v_aload_n dX12_part_171 rfl ?_
                            refine v_iload_n dX12_part_172 rfl ?_
                            refine v_iload dX12_part_173 rfl ?_
                            refine v_iload_n dX12_part_175 rfl ?_
                            refine v_aload_n dX12_part_176 rfl ?_
                            refine v_get dX12_part_177 fl_X12_102 ((hp61 77 (by decide)).trans (ent_77 _)) rfl (s_lt hn rfl) ?_
                            refine v_bipushI dX12_part_180 rfl ?_
                            refine v_iload_n dX12_part_182 rfl ?_
                            refine v_imulI dX12_part_183 ?_
                            refine v_iload_n dX12_part_184 rfl ?_
                            refine v_iaddI dX12_part_185 ?_
                            obtain ⟨q79, w⟩ := w
                            refine v_ialdI dX12_part_186 ((hp61 94 (by decide)).trans (ent_94 _)) (s_lt hn rfl) q79.1 q79.2 (ix_le q79.2 (by decide)) ?_
                            refine v_callVIr dX12_part_187 ml_X12_545 (so_X12_common hn hp61  w) ((hp61 77 (by decide)).trans (ent_77 _)) rfl (s_lt hn rfl) rfl rfl (Nat.le_of_ble_eq_true rfl) (Nat.le_of_ble_eq_true rfl) (Nat.zero_le _) (Nat.zero_le _) (fun v80 w => ?_)
                            obtain ⟨q86, w⟩ := w
                            refine v_if_leI (tgt := 199) dX12_part_190 (by decide) q86.1 q86.2 (fun c87 => ?_) (fun c87 => ?_)
                            · replace w := w.1 c87
                              refine v_iload dX12_part_199 rfl ?_
                              obtain ⟨q88, w⟩ := w
                              refine v_iastI dX12_part_201 ((hp61 97 (by decide)).trans (ent_97 _)) (s_lt hn rfl) q88.1 q88.2 (ix_le q88.2 (by decide)) (fun h89 E90 F91 => ?_)
                              have hp92 := pic_st hp61 (show h89 97 = ent 97 (uI _ ((576 * x24) + x49) x67) from E90) F91
                              have hf93 := Fr.up (c := 97) hf62 F91 rfl
                              refine v_iincI dX12_part_202 rfl (Nat.le_of_ble_eq_true rfl) ?_
                              refine v_goto (tgt := 47) dX12_part_205 (by decide) ?_
                              refine v_pick [1, 2, 3, 4, 0] rfl ?_
                              exact ih53 _ _ _ (Nat.lt_of_lt_of_le w.2 (Nat.le_of_lt_succ hm57)) w.1 hp92 hf93
                            · replace w := w.2 c87
                              refine v_ldcwI 100000000 dX12_part_193 k_X12_507 rfl ?_
                              refine v_goto (tgt := 201) dX12_part_196 (by decide) ?_
                              obtain ⟨q94, w⟩ := w
                              refine v_iastI dX12_part_201 ((hp61 97 (by decide)).trans (ent_97 _)) (s_lt hn rfl) q94.1 q94.2 (ix_le q94.2 (by decide)) (fun h95 E96 F97 => ?_)
                              have hp98 := pic_st hp61 (show h95 97 = ent 97 (uI _ ((576 * x24) + x49) 100000000) from E96) F97
                              have hf99 := Fr.up (c := 97) hf62 F97 rfl
                              refine v_iincI dX12_part_202 rfl (Nat.le_of_ble_eq_true rfl) ?_
                              refine v_goto (tgt := 47) dX12_part_205 (by decide) ?_
                              refine v_pick [1, 2, 3, 4, 0] rfl ?_
                              exact ih53 _ _ _ (Nat.lt_of_lt_of_le w.2 (Nat.le_of_lt_succ hm57)) w.1 hp98 hf99
                          )
                          obtain ⟨q100, w⟩ := w
                          refine v_icmp_geI (tgt := 159) dX12_part_76 (by decide) q100.1 q100.2 (by decide) (by decide) (fun c101 => ?_) (fun c101 => ?_)
                          · replace w := w.1 c101
                            refine v_pick [0, 1, 2, 3, 4, 5] rfl ?_
                            exact w
                          · replace w := w.2 c101
                            refine v_iload_n dX12_part_79 rfl ?_
                            refine v_bipushI dX12_part_80 rfl ?_
                            refine v_icmp_geI (tgt := 159) dX12_part_82 (by decide) q38.1 q38.2 (by decide) (by decide) (fun c102 => ?_) (fun c102 => ?_)
                            · replace w := w.1 c102
                              refine v_pick [0, 1, 2, 3, 4, 5] rfl ?_
                              exact w
                            · replace w := w.2 c102
                              refine v_aload_n dX12_part_85 rfl ?_
                              refine v_iload_n dX12_part_86 rfl ?_
                              refine v_iload_n dX12_part_87 rfl ?_
                              refine v_iload dX12_part_88 rfl ?_
                              refine v_iconstI dX12_part_90 ?_
                              refine v_iload dX12_part_91 rfl ?_
                              refine v_callVIr dX12_part_93 ml_X12_508 (so_X12_nextOf hn hp61  w) ((hp61 77 (by decide)).trans (ent_77 _)) rfl (s_lt hn rfl) rfl rfl (Nat.le_of_ble_eq_true rfl) (Nat.le_of_ble_eq_true rfl) (Nat.zero_le _) (Nat.zero_le _) (fun v103 w => ?_)
                              refine v_istore dX12_part_96 (Nat.le_of_ble_eq_true rfl) ?_
                              refine v_iload dX12_part_98 rfl ?_
                              refine v_iconstI dX12_part_100 ?_
                              replace w := w (fun (v109 : Int) => V (m_X12_part, 10, 0, 0, n, pIw n h Q, s_G0) 0 0 n h60 123 [(0, .ref 77), (1, .int (iI a0)), (2, .int (iI a1)), (3, .int (iI x24)), (4, .int (iI x49)), (5, .int (iI x67)), (6, .int (iI x68))] [.int (iI v109)]) (by
                                intro v109 w
                                refine v_iload dX12_part_123 rfl ?_
                                refine v_iconstI dX12_part_125 ?_
                                replace w := w (fun (v111 : Int) => V (m_X12_part, 10, 0, 0, n, pIw n h Q, s_G0) 0 0 n h60 134 [(0, .ref 77), (1, .int (iI a0)), (2, .int (iI a1)), (3, .int (iI x24)), (4, .int (iI x49)), (5, .int (iI x67)), (6, .int (iI x68))] [.int (iI v111), .int (iI v109)]) (by
                                  intro v111 w
                                  refine v_iaddI dX12_part_134 ?_
                                  refine v_istore dX12_part_135 (Nat.le_of_ble_eq_true rfl) ?_
                                  refine v_iload dX12_part_137 rfl ?_
                                  refine v_iload dX12_part_139 rfl ?_
                                  obtain ⟨q113, q114, w⟩ := w
                                  refine v_icmp_geI (tgt := 149) dX12_part_141 (by decide) q113.1 q113.2 q114.1 q114.2 (fun c115 => ?_) (fun c115 => ?_)
                                  · replace w := w.1 c115
                                    refine v_iload dX12_part_149 rfl ?_
                                    refine v_istore dX12_part_151 (Nat.le_of_ble_eq_true rfl) ?_
                                    refine v_iincI dX12_part_153 rfl (Nat.le_of_ble_eq_true rfl) ?_
                                    refine v_goto (tgt := 73) dX12_part_156 (by decide) ?_
                                    refine v_pick [3, 4, 5, 6, 7, 1, 0] rfl ?_
                                    exact ih71 _ _ (Nat.lt_of_lt_of_le w.2 (Nat.le_of_lt_succ hm75)) w.1
                                  · replace w := w.2 c115
                                    refine v_iload dX12_part_144 rfl ?_
                                    refine v_goto (tgt := 151) dX12_part_146 (by decide) ?_
                                    refine v_istore dX12_part_151 (Nat.le_of_ble_eq_true rfl) ?_
                                    refine v_iincI dX12_part_153 rfl (Nat.le_of_ble_eq_true rfl) ?_
                                    refine v_goto (tgt := 73) dX12_part_156 (by decide) ?_
                                    refine v_pick [3, 4, 5, 6, 7, 1, 0] rfl ?_
                                    exact ih71 _ _ (Nat.lt_of_lt_of_le w.2 (Nat.le_of_lt_succ hm75)) w.1
                                )
                                refine v_icmp_geI (tgt := 133) dX12_part_126 (by decide) q100.1 q100.2 (by decide) (by decide) (fun c116 => ?_) (fun c116 => ?_)
                                · replace w := w.1 c116
                                  refine v_iconstI dX12_part_133 ?_
                                  exact w
                                · replace w := w.2 c116
                                  refine v_iconstI dX12_part_129 ?_
                                  refine v_goto (tgt := 134) dX12_part_130 (by decide) ?_
                                  exact w
                              )
                              obtain ⟨q117, w⟩ := w
                              refine v_icmp_neI (tgt := 108) dX12_part_101 (by decide) q117.1 q117.2 (by decide) (by decide) (fun c118 => ?_) (fun c118 => ?_)
                              · replace w := w.1 c118
                                refine v_aload_n dX12_part_108 rfl ?_
                                refine v_get dX12_part_109 fl_X12_111 ((hp61 77 (by decide)).trans (ent_77 _)) rfl (s_lt hn rfl) ?_
                                refine v_sipushI dX12_part_112 rfl ?_
                                refine v_iload_n dX12_part_115 rfl ?_
                                refine v_iconstI dX12_part_116 ?_
                                refine v_iaddI dX12_part_117 ?_
                                refine v_imulI dX12_part_118 ?_
                                refine v_iload dX12_part_119 rfl ?_
                                refine v_iaddI dX12_part_121 ?_
                                obtain ⟨q119, w⟩ := w
                                refine v_ialdI dX12_part_122 ((hp61 97 (by decide)).trans (ent_97 _)) (s_lt hn rfl) q119.1 q119.2 (ix_le q119.2 (by decide)) ?_
                                refine v_pick [1, 2, 3, 4, 5, 6, 7] rfl ?_
                                exact w
                              · replace w := w.2 c118
                                refine v_iconstI dX12_part_104 ?_
                                refine v_goto (tgt := 123) dX12_part_105 (by decide) ?_
                                refine v_pick [1, 2, 3, 4, 5, 6, 7] rfl ?_
                                exact w
                      exact hL74 _ _ _ (Nat.lt_succ_self _) wi73
                    )
                    refine v_icmp_neI (tgt := 65) dX12_part_58 (by decide) q38.1 q38.2 (by decide) (by decide) (fun c120 => ?_) (fun c120 => ?_)
                    · replace w := w.1 c120
                      refine v_ldcwI 100000000 dX12_part_65 k_X12_507 rfl ?_
                      exact w
                    · replace w := w.2 c120
                      refine v_iconstI dX12_part_61 ?_
                      refine v_goto (tgt := 68) dX12_part_62 (by decide) ?_
                      exact w
              exact hL56 _ _ _ _ (Nat.lt_succ_self _) wi55 hp36 hf37
        exact hL31 _ _ _ _ (Nat.lt_succ_self _) wi30 hp22 hf23
      · replace w := w.2 c11
        refine v_iconstI dX12_part_26 ?_
        exact v_iret dX12_part_27 rfl (Nat.zero_le _) (Nat.zero_le _) ⟨rfl, hf5, _, _, rfl, hp4, w⟩

/-! THE CLASS'S METHODS, 2 of 3: texts over the picture, by program (tools/wp.py) -/
theorem dX4_reckonCosts_0 : decode cX4_reckonCosts 0 = .ok (.iload_n 1, 1) := by decide +kernel
theorem dX4_reckonCosts_1 : decode cX4_reckonCosts 1 = .ok (.istore_n 2, 1) := by decide +kernel
theorem dX4_reckonCosts_2 : decode cX4_reckonCosts 2 = .ok (.iload_n 2, 1) := by decide +kernel
theorem dX4_reckonCosts_3 : decode cX4_reckonCosts 3 = .ok (.ifCond .lt 60, 3) := by decide +kernel
theorem dX4_reckonCosts_6 : decode cX4_reckonCosts 6 = .ok (.iconst 0, 1) := by decide +kernel
theorem dX4_reckonCosts_7 : decode cX4_reckonCosts 7 = .ok (.istore_n 3, 1) := by decide +kernel
theorem dX4_reckonCosts_8 : decode cX4_reckonCosts 8 = .ok (.iload_n 3, 1) := by decide +kernel
theorem dX4_reckonCosts_9 : decode cX4_reckonCosts 9 = .ok (.sipush 577, 3) := by decide +kernel
theorem dX4_reckonCosts_12 : decode cX4_reckonCosts 12 = .ok (.if_icmp .ge 45, 3) := by decide +kernel
theorem dX4_reckonCosts_15 : decode cX4_reckonCosts 15 = .ok (.iload_n 2, 1) := by decide +kernel
theorem dX4_reckonCosts_16 : decode cX4_reckonCosts 16 = .ok (.iload_n 3, 1) := by decide +kernel
theorem dX4_reckonCosts_17 : decode cX4_reckonCosts 17 = .ok (.invokestatic 89, 3) := by decide +kernel
theorem dX4_reckonCosts_20 : decode cX4_reckonCosts 20 = .ok (.istore 4, 2) := by decide +kernel
theorem dX4_reckonCosts_22 : decode cX4_reckonCosts 22 = .ok (.iload 4, 2) := by decide +kernel
theorem dX4_reckonCosts_24 : decode cX4_reckonCosts 24 = .ok (.ifCond .lt 27, 3) := by decide +kernel
theorem dX4_reckonCosts_27 : decode cX4_reckonCosts 27 = .ok (.iload 4, 2) := by decide +kernel
theorem dX4_reckonCosts_29 : decode cX4_reckonCosts 29 = .ok (.aload_n 0, 1) := by decide +kernel
theorem dX4_reckonCosts_30 : decode cX4_reckonCosts 30 = .ok (.getfield 11, 3) := by decide +kernel
theorem dX4_reckonCosts_33 : decode cX4_reckonCosts 33 = .ok (.arraylength, 1) := by decide +kernel
theorem dX4_reckonCosts_34 : decode cX4_reckonCosts 34 = .ok (.if_icmp .ge 17, 3) := by decide +kernel
theorem dX4_reckonCosts_37 : decode cX4_reckonCosts 37 = .ok (.aload_n 0, 1) := by decide +kernel
theorem dX4_reckonCosts_38 : decode cX4_reckonCosts 38 = .ok (.getfield 11, 3) := by decide +kernel
theorem dX4_reckonCosts_41 : decode cX4_reckonCosts 41 = .ok (.iload 4, 2) := by decide +kernel
theorem dX4_reckonCosts_43 : decode cX4_reckonCosts 43 = .ok (.aload_n 0, 1) := by decide +kernel
theorem dX4_reckonCosts_44 : decode cX4_reckonCosts 44 = .ok (.iload_n 2, 1) := by decide +kernel
theorem dX4_reckonCosts_45 : decode cX4_reckonCosts 45 = .ok (.iload_n 3, 1) := by decide +kernel
theorem dX4_reckonCosts_46 : decode cX4_reckonCosts 46 = .ok (.iload_n 1, 1) := by decide +kernel
theorem dX4_reckonCosts_47 : decode cX4_reckonCosts 47 = .ok (.invokevirtual 92, 3) := by decide +kernel
theorem dX4_reckonCosts_50 : decode cX4_reckonCosts 50 = .ok (.iastore, 1) := by decide +kernel
theorem dX4_reckonCosts_51 : decode cX4_reckonCosts 51 = .ok (.iinc 3 1, 3) := by decide +kernel
theorem dX4_reckonCosts_54 : decode cX4_reckonCosts 54 = .ok (.goto (-46), 3) := by decide +kernel
theorem dX4_reckonCosts_57 : decode cX4_reckonCosts 57 = .ok (.iinc 2 (-1), 3) := by decide +kernel
theorem dX4_reckonCosts_60 : decode cX4_reckonCosts 60 = .ok (.goto (-58), 3) := by decide +kernel
theorem dX4_reckonCosts_63 : decode cX4_reckonCosts 63 = .ok (.return_, 1) := by decide +kernel
def w_X4_reckonCosts (a0 : Int) (X : XT) (Q : XT → Prop) : Prop :=
  ∃ (I3 : Int → XT → Prop) (m4 : Int → XT → Nat), I3 a0 X ∧ ∀ (x1 : Int) (X2 : XT), I3 x1 X2 → R32 x1 ∧ (x1 < 0 → Q X2) ∧ (¬ x1 < 0 → ∃ (I19 : Int → XT → Prop) (m20 : Int → XT → Nat), I19 0 X2 ∧ ∀ (x17 : Int) (X18 : XT), I19 x17 X18 → R32 x17 ∧ (577 ≤ x17 → I3 (x1 + (-1)) X18 ∧ m4 (x1 + (-1)) X18 < m4 x1 X2) ∧ (¬ 577 ≤ x17 → w_X2_slotOf  x1 x17 X18 (fun (v33 : Int) => R32 v33 ∧ (v33 < 0 → I19 (x17 + 1) X18 ∧ m20 (x17 + 1) X18 < m20 x17 X18) ∧ (¬ v33 < 0 → (6924 ≤ v33 → I19 (x17 + 1) X18 ∧ m20 (x17 + 1) X18 < m20 x17 X18) ∧ (¬ 6924 ≤ v33 → w_X4_cheapest  x1 x17 a0 X18 (fun (v42 : Int) => (0 ≤ v33 ∧ v33 < 6924) ∧ I19 (x17 + 1) (x_st X18 61 v33 v42) ∧ m20 (x17 + 1) (x_st X18 61 v33 v42) < m20 x17 X18))))))
set_option maxRecDepth 20000 in
theorem so_X4_reckonCosts {n : Nat} {h : Nat → sE} {X : XT} {a0 : Int} {Q : XT → Prop} (hn : 115 ≤ n) (hp : Pic X h) (w : w_X4_reckonCosts  a0 X Q) : Sp m_X4_reckonCosts 5 0 0 [.ref 60, .int (iI a0)] n h (pVw n h Q) := by
  unfold w_X4_reckonCosts at w
  refine Sp.ofV (by decide +kernel) (Nat.le_of_ble_eq_true rfl) ?_
  have hf : Fr h h := fun _ _ => rfl
  refine v_iload_n dX4_reckonCosts_0 rfl ?_
  refine v_istore_n dX4_reckonCosts_1 (Nat.le_of_ble_eq_true rfl) ?_
  refine v_pick [1, 2, 0] rfl ?_
  obtain ⟨I3, m4, wi7, wl6⟩ := w
  have hL8 : ∀ (N11 : Nat) (x1 : Int) (X2 : XT) (h12 : Nat → sE), m4 x1 X2 < N11 → I3 x1 X2 → Pic X2 h12 → Fr h h12 → V (m_X4_reckonCosts, 5, 0, 0, n, pVw n h Q, s_G0) 0 0 n h12 2 [(0, .ref 60), (1, .int (iI a0)), (2, .int (iI x1))] [] := by
    intro N11
    induction N11 with
    | zero => intro x1 X2 h12 hm9; exact absurd hm9 (Nat.not_lt_zero _)
    | succ N11 ih5 =>
      intro x1 X2 h12 hm9 hI10 hp13 hf14
      have w := wl6 x1 X2 hI10
      refine v_iload_n dX4_reckonCosts_2 rfl ?_
      obtain ⟨q15, w⟩ := w
      refine v_if_ltI (tgt := 63) dX4_reckonCosts_3 (by decide) q15.1 q15.2 (fun c16 => ?_) (fun c16 => ?_)
      · replace w := w.1 c16
        exact v_vret dX4_reckonCosts_63 rfl (Nat.zero_le _) (Nat.zero_le _) ⟨rfl, hf14, _, rfl, hp13, w⟩
      · replace w := w.2 c16
        refine v_iconstI dX4_reckonCosts_6 ?_
        refine v_istore_n dX4_reckonCosts_7 (Nat.le_of_ble_eq_true rfl) ?_
        refine v_pick [1, 2, 3, 0] rfl ?_
        obtain ⟨I19, m20, wi23, wl22⟩ := w
        have hL24 : ∀ (N27 : Nat) (x17 : Int) (X18 : XT) (h28 : Nat → sE), m20 x17 X18 < N27 → I19 x17 X18 → Pic X18 h28 → Fr h h28 → V (m_X4_reckonCosts, 5, 0, 0, n, pVw n h Q, s_G0) 0 0 n h28 8 [(0, .ref 60), (1, .int (iI a0)), (2, .int (iI x1)), (3, .int (iI x17))] [] := by
          intro N27
          induction N27 with
          | zero => intro x17 X18 h28 hm25; exact absurd hm25 (Nat.not_lt_zero _)
          | succ N27 ih21 =>
            intro x17 X18 h28 hm25 hI26 hp29 hf30
            have w := wl22 x17 X18 hI26
            refine v_iload_n dX4_reckonCosts_8 rfl ?_
            refine v_sipushI dX4_reckonCosts_9 rfl ?_
            obtain ⟨q31, w⟩ := w
            refine v_icmp_geI (tgt := 57) dX4_reckonCosts_12 (by decide) q31.1 q31.2 (by decide) (by decide) (fun c32 => ?_) (fun c32 => ?_)
            · replace w := w.1 c32
              refine v_iincI dX4_reckonCosts_57 rfl (Nat.le_of_ble_eq_true rfl) ?_
              refine v_goto (tgt := 2) dX4_reckonCosts_60 (by decide) ?_
              refine v_pick [1, 2, 0] rfl ?_
              exact ih5 _ _ _ (Nat.lt_of_lt_of_le w.2 (Nat.le_of_lt_succ hm9)) w.1 hp29 hf30
            · replace w := w.2 c32
              refine v_iload_n dX4_reckonCosts_15 rfl ?_
              refine v_iload_n dX4_reckonCosts_16 rfl ?_
              refine v_callSIr dX4_reckonCosts_17 ml_X4_89 (so_X2_slotOf hn hp29  w) rfl rfl (Nat.le_of_ble_eq_true rfl) (Nat.le_of_ble_eq_true rfl) (Nat.zero_le _) (Nat.zero_le _) (fun v33 w => ?_)
              refine v_istore dX4_reckonCosts_20 (Nat.le_of_ble_eq_true rfl) ?_
              refine v_iload dX4_reckonCosts_22 rfl ?_
              obtain ⟨q39, w⟩ := w
              refine v_if_ltI (tgt := 51) dX4_reckonCosts_24 (by decide) q39.1 q39.2 (fun c40 => ?_) (fun c40 => ?_)
              · replace w := w.1 c40
                refine v_iincI dX4_reckonCosts_51 rfl (Nat.le_of_ble_eq_true rfl) ?_
                refine v_goto (tgt := 8) dX4_reckonCosts_54 (by decide) ?_
                refine v_pick [2, 3, 4, 0] rfl ?_
                exact ih21 _ _ _ (Nat.lt_of_lt_of_le w.2 (Nat.le_of_lt_succ hm25)) w.1 hp29 hf30
              · replace w := w.2 c40
                refine v_iload dX4_reckonCosts_27 rfl ?_
                refine v_aload_n dX4_reckonCosts_29 rfl ?_
                refine v_get dX4_reckonCosts_30 fl_X4_11 ((hp29 60 (by decide)).trans (ent_60 _)) rfl (s_lt hn rfl) ?_
                refine v_alen_aI dX4_reckonCosts_33 ((hp29 61 (by decide)).trans (ent_61 _)) (s_lt hn rfl) ?_
                refine v_icmp_geI (tgt := 51) dX4_reckonCosts_34 (by decide) q39.1 q39.2 (by decide) (by decide) (fun c41 => ?_) (fun c41 => ?_)
                · replace w := w.1 c41
                  refine v_iincI dX4_reckonCosts_51 rfl (Nat.le_of_ble_eq_true rfl) ?_
                  refine v_goto (tgt := 8) dX4_reckonCosts_54 (by decide) ?_
                  refine v_pick [2, 3, 4, 0] rfl ?_
                  exact ih21 _ _ _ (Nat.lt_of_lt_of_le w.2 (Nat.le_of_lt_succ hm25)) w.1 hp29 hf30
                · replace w := w.2 c41
                  refine v_aload_n dX4_reckonCosts_37 rfl ?_
                  refine v_get dX4_reckonCosts_38 fl_X4_11 ((hp29 60 (by decide)).trans (ent_60 _)) rfl (s_lt hn rfl) ?_
                  refine v_iload dX4_reckonCosts_41 rfl ?_
                  refine v_aload_n dX4_reckonCosts_43 rfl ?_
                  refine v_iload_n dX4_reckonCosts_44 rfl ?_
                  refine v_iload_n dX4_reckonCosts_45 rfl ?_
                  refine v_iload_n dX4_reckonCosts_46 rfl ?_
                  refine v_callVIr dX4_reckonCosts_47 ml_X4_92 (so_X4_cheapest hn hp29  w) ((hp29 60 (by decide)).trans (ent_60 _)) rfl (s_lt hn rfl) rfl rfl (Nat.le_of_ble_eq_true rfl) (Nat.le_of_ble_eq_true rfl) (Nat.zero_le _) (Nat.zero_le _) (fun v42 w => ?_)
                  obtain ⟨q48, w⟩ := w
                  refine v_iastI dX4_reckonCosts_50 ((hp29 61 (by decide)).trans (ent_61 _)) (s_lt hn rfl) q48.1 q48.2 (ix_le q48.2 (by decide)) (fun h49 E50 F51 => ?_)
                  have hp52 := pic_st hp29 (show h49 61 = ent 61 (uI _ v33 v42) from E50) F51
                  have hf53 := Fr.up (c := 61) hf30 F51 rfl
                  refine v_iincI dX4_reckonCosts_51 rfl (Nat.le_of_ble_eq_true rfl) ?_
                  refine v_goto (tgt := 8) dX4_reckonCosts_54 (by decide) ?_
                  refine v_pick [2, 3, 4, 0] rfl ?_
                  exact ih21 _ _ _ (Nat.lt_of_lt_of_le w.2 (Nat.le_of_lt_succ hm25)) w.1 hp52 hf53
        exact hL24 _ _ _ _ (Nat.lt_succ_self _) wi23 hp13 hf14
  exact hL8 _ _ _ _ (Nat.lt_succ_self _) wi7 hp hf
theorem dX4_cheapStep_0 : decode cX4_cheapStep 0 = .ok (.iconst 0, 1) := by decide +kernel
theorem dX4_cheapStep_1 : decode cX4_cheapStep 1 = .ok (.istore_n 3, 1) := by decide +kernel
theorem dX4_cheapStep_2 : decode cX4_cheapStep 2 = .ok (.iload_n 3, 1) := by decide +kernel
theorem dX4_cheapStep_3 : decode cX4_cheapStep 3 = .ok (.iconst 4, 1) := by decide +kernel
theorem dX4_cheapStep_4 : decode cX4_cheapStep 4 = .ok (.if_icmp .ge 27, 3) := by decide +kernel
theorem dX4_cheapStep_7 : decode cX4_cheapStep 7 = .ok (.aload_n 0, 1) := by decide +kernel
theorem dX4_cheapStep_8 : decode cX4_cheapStep 8 = .ok (.iload_n 1, 1) := by decide +kernel
theorem dX4_cheapStep_9 : decode cX4_cheapStep 9 = .ok (.iload_n 2, 1) := by decide +kernel
theorem dX4_cheapStep_10 : decode cX4_cheapStep 10 = .ok (.iload_n 3, 1) := by decide +kernel
theorem dX4_cheapStep_11 : decode cX4_cheapStep 11 = .ok (.invokevirtual 99, 3) := by decide +kernel
theorem dX4_cheapStep_14 : decode cX4_cheapStep 14 = .ok (.aload_n 0, 1) := by decide +kernel
theorem dX4_cheapStep_15 : decode cX4_cheapStep 15 = .ok (.iload_n 1, 1) := by decide +kernel
theorem dX4_cheapStep_16 : decode cX4_cheapStep 16 = .ok (.iload_n 2, 1) := by decide +kernel
theorem dX4_cheapStep_17 : decode cX4_cheapStep 17 = .ok (.invokevirtual 73, 3) := by decide +kernel
theorem dX4_cheapStep_20 : decode cX4_cheapStep 20 = .ok (.if_icmp .ne 5, 3) := by decide +kernel
theorem dX4_cheapStep_23 : decode cX4_cheapStep 23 = .ok (.iload_n 3, 1) := by decide +kernel
theorem dX4_cheapStep_24 : decode cX4_cheapStep 24 = .ok (.ireturn, 1) := by decide +kernel
theorem dX4_cheapStep_25 : decode cX4_cheapStep 25 = .ok (.iinc 3 1, 3) := by decide +kernel
theorem dX4_cheapStep_28 : decode cX4_cheapStep 28 = .ok (.goto (-26), 3) := by decide +kernel
theorem dX4_cheapStep_31 : decode cX4_cheapStep 31 = .ok (.iconst 4, 1) := by decide +kernel
theorem dX4_cheapStep_32 : decode cX4_cheapStep 32 = .ok (.ireturn, 1) := by decide +kernel
def w_X4_cheapStep (a0 a1 : Int) (X : XT) (Q : Int → Prop) : Prop :=
  ∃ (I2 : Int → Prop) (m3 : Int → Nat), I2 0 ∧ ∀ (x1 : Int), I2 x1 → R32 x1 ∧ (4 ≤ x1 → Q 4) ∧ (¬ 4 ≤ x1 → w_X4_costBy  a0 a1 x1 X (fun (v13 : Int) => w_X4_costOf  a0 a1 X (fun (v19 : Int) => R32 v13 ∧ R32 v19 ∧ (¬ v13 = v19 → I2 (x1 + 1) ∧ m3 (x1 + 1) < m3 x1) ∧ (v13 = v19 → Q x1))))
set_option maxRecDepth 20000 in
theorem so_X4_cheapStep {n : Nat} {h : Nat → sE} {X : XT} {a0 a1 : Int} {Q : Int → Prop} (hn : 115 ≤ n) (hp : Pic X h) (w : w_X4_cheapStep  a0 a1 X Q) : Sp m_X4_cheapStep 4 0 0 [.ref 60, .int (iI a0), .int (iI a1)] n h (pIr n h Q) := by
  unfold w_X4_cheapStep at w
  refine Sp.ofV (by decide +kernel) (Nat.le_of_ble_eq_true rfl) ?_
  have hf : Fr h h := fun _ _ => rfl
  refine v_iconstI dX4_cheapStep_0 ?_
  refine v_istore_n dX4_cheapStep_1 (Nat.le_of_ble_eq_true rfl) ?_
  refine v_pick [1, 2, 3, 0] rfl ?_
  obtain ⟨I2, m3, wi6, wl5⟩ := w
  have hL7 : ∀ (N10 : Nat) (x1 : Int), m3 x1 < N10 → I2 x1 → V (m_X4_cheapStep, 4, 0, 0, n, pIr n h Q, s_G0) 0 0 n h 2 [(0, .ref 60), (1, .int (iI a0)), (2, .int (iI a1)), (3, .int (iI x1))] [] := by
    intro N10
    induction N10 with
    | zero => intro x1  hm8; exact absurd hm8 (Nat.not_lt_zero _)
    | succ N10 ih4 =>
      intro x1  hm8 hI9
      have w := wl5 x1 hI9
      refine v_iload_n dX4_cheapStep_2 rfl ?_
      refine v_iconstI dX4_cheapStep_3 ?_
      obtain ⟨q11, w⟩ := w
      refine v_icmp_geI (tgt := 31) dX4_cheapStep_4 (by decide) q11.1 q11.2 (by decide) (by decide) (fun c12 => ?_) (fun c12 => ?_)
      · replace w := w.1 c12
        refine v_iconstI dX4_cheapStep_31 ?_
        exact v_iret dX4_cheapStep_32 rfl (Nat.zero_le _) (Nat.zero_le _) ⟨rfl, rfl, _, rfl, w⟩
      · replace w := w.2 c12
        refine v_aload_n dX4_cheapStep_7 rfl ?_
        refine v_iload_n dX4_cheapStep_8 rfl ?_
        refine v_iload_n dX4_cheapStep_9 rfl ?_
        refine v_iload_n dX4_cheapStep_10 rfl ?_
        refine v_callVIr dX4_cheapStep_11 ml_X4_99 (so_X4_costBy hn hp  w) ((hp 60 (by decide)).trans (ent_60 _)) rfl (s_lt hn rfl) rfl rfl (Nat.le_of_ble_eq_true rfl) (Nat.le_of_ble_eq_true rfl) (Nat.zero_le _) (Nat.zero_le _) (fun v13 w => ?_)
        refine v_aload_n dX4_cheapStep_14 rfl ?_
        refine v_iload_n dX4_cheapStep_15 rfl ?_
        refine v_iload_n dX4_cheapStep_16 rfl ?_
        refine v_callVIr dX4_cheapStep_17 ml_X4_73 (so_X4_costOf hn hp  w) ((hp 60 (by decide)).trans (ent_60 _)) rfl (s_lt hn rfl) rfl rfl (Nat.le_of_ble_eq_true rfl) (Nat.le_of_ble_eq_true rfl) (Nat.zero_le _) (Nat.zero_le _) (fun v19 w => ?_)
        obtain ⟨q25, q26, w⟩ := w
        refine v_icmp_neI (tgt := 25) dX4_cheapStep_20 (by decide) q25.1 q25.2 q26.1 q26.2 (fun c27 => ?_) (fun c27 => ?_)
        · replace w := w.1 c27
          refine v_iincI dX4_cheapStep_25 rfl (Nat.le_of_ble_eq_true rfl) ?_
          refine v_goto (tgt := 2) dX4_cheapStep_28 (by decide) ?_
          refine v_pick [1, 2, 3, 0] rfl ?_
          exact ih4 _ (Nat.lt_of_lt_of_le w.2 (Nat.le_of_lt_succ hm8)) w.1
        · replace w := w.2 c27
          refine v_iload_n dX4_cheapStep_23 rfl ?_
          exact v_iret dX4_cheapStep_24 rfl (Nat.zero_le _) (Nat.zero_le _) ⟨rfl, rfl, _, rfl, w⟩
  exact hL7 _ _ (Nat.lt_succ_self _) wi6
theorem dX4_cheapStepIn_0 : decode cX4_cheapStepIn 0 = .ok (.iload_n 2, 1) := by decide +kernel
theorem dX4_cheapStepIn_1 : decode cX4_cheapStepIn 1 = .ok (.istore_n 3, 1) := by decide +kernel
theorem dX4_cheapStepIn_2 : decode cX4_cheapStepIn 2 = .ok (.iconst 4, 1) := by decide +kernel
theorem dX4_cheapStepIn_3 : decode cX4_cheapStepIn 3 = .ok (.istore 4, 2) := by decide +kernel
theorem dX4_cheapStepIn_5 : decode cX4_cheapStepIn 5 = .ok (.iconst 0, 1) := by decide +kernel
theorem dX4_cheapStepIn_6 : decode cX4_cheapStepIn 6 = .ok (.istore 5, 2) := by decide +kernel
theorem dX4_cheapStepIn_8 : decode cX4_cheapStepIn 8 = .ok (.iload 5, 2) := by decide +kernel
theorem dX4_cheapStepIn_10 : decode cX4_cheapStepIn 10 = .ok (.iload_n 1, 1) := by decide +kernel
theorem dX4_cheapStepIn_11 : decode cX4_cheapStepIn 11 = .ok (.if_icmp .gt 33, 3) := by decide +kernel
theorem dX4_cheapStepIn_14 : decode cX4_cheapStepIn 14 = .ok (.aload_n 0, 1) := by decide +kernel
theorem dX4_cheapStepIn_15 : decode cX4_cheapStepIn 15 = .ok (.iload 5, 2) := by decide +kernel
theorem dX4_cheapStepIn_17 : decode cX4_cheapStepIn 17 = .ok (.iload_n 3, 1) := by decide +kernel
theorem dX4_cheapStepIn_18 : decode cX4_cheapStepIn 18 = .ok (.invokevirtual 111, 3) := by decide +kernel
theorem dX4_cheapStepIn_21 : decode cX4_cheapStepIn 21 = .ok (.istore 4, 2) := by decide +kernel
theorem dX4_cheapStepIn_23 : decode cX4_cheapStepIn 23 = .ok (.aload_n 0, 1) := by decide +kernel
theorem dX4_cheapStepIn_24 : decode cX4_cheapStepIn 24 = .ok (.getfield 42, 3) := by decide +kernel
theorem dX4_cheapStepIn_27 : decode cX4_cheapStepIn 27 = .ok (.iload 5, 2) := by decide +kernel
theorem dX4_cheapStepIn_29 : decode cX4_cheapStepIn 29 = .ok (.iload_n 3, 1) := by decide +kernel
theorem dX4_cheapStepIn_30 : decode cX4_cheapStepIn 30 = .ok (.iload 4, 2) := by decide +kernel
theorem dX4_cheapStepIn_32 : decode cX4_cheapStepIn 32 = .ok (.iconst 4, 1) := by decide +kernel
theorem dX4_cheapStepIn_33 : decode cX4_cheapStepIn 33 = .ok (.iconst 0, 1) := by decide +kernel
theorem dX4_cheapStepIn_34 : decode cX4_cheapStepIn 34 = .ok (.invokevirtual 107, 3) := by decide +kernel
theorem dX4_cheapStepIn_37 : decode cX4_cheapStepIn 37 = .ok (.istore_n 3, 1) := by decide +kernel
theorem dX4_cheapStepIn_38 : decode cX4_cheapStepIn 38 = .ok (.iinc 5 1, 3) := by decide +kernel
theorem dX4_cheapStepIn_41 : decode cX4_cheapStepIn 41 = .ok (.goto (-33), 3) := by decide +kernel
theorem dX4_cheapStepIn_44 : decode cX4_cheapStepIn 44 = .ok (.iload 4, 2) := by decide +kernel
theorem dX4_cheapStepIn_46 : decode cX4_cheapStepIn 46 = .ok (.ireturn, 1) := by decide +kernel
def w_X4_cheapStepIn (a0 a1 : Int) (X : XT) (Q : Int → Prop) : Prop :=
  ∃ (I4 : Int → Int → Int → Prop) (m5 : Int → Int → Int → Nat), I4 a1 4 0 ∧ ∀ (x1 : Int) (x2 : Int) (x3 : Int), I4 x1 x2 x3 → R32 x3 ∧ R32 a0 ∧ (a0 < x3 → Q x2) ∧ (¬ a0 < x3 → w_X4_cheapStep  x3 x1 X (fun (v16 : Int) => w_X2_onward  x3 x1 v16 4 0 X (fun (v22 : Int) => I4 v22 v16 (x3 + 1) ∧ m5 v22 v16 (x3 + 1) < m5 x1 x2 x3)))
set_option maxRecDepth 20000 in
theorem so_X4_cheapStepIn {n : Nat} {h : Nat → sE} {X : XT} {a0 a1 : Int} {Q : Int → Prop} (hn : 115 ≤ n) (hp : Pic X h) (w : w_X4_cheapStepIn  a0 a1 X Q) : Sp m_X4_cheapStepIn 5 0 0 [.ref 60, .int (iI a0), .int (iI a1)] n h (pIr n h Q) := by
  unfold w_X4_cheapStepIn at w
  refine Sp.ofV (by decide +kernel) (Nat.le_of_ble_eq_true rfl) ?_
  have hf : Fr h h := fun _ _ => rfl
  refine v_iload_n dX4_cheapStepIn_0 rfl ?_
  refine v_istore_n dX4_cheapStepIn_1 (Nat.le_of_ble_eq_true rfl) ?_
  refine v_iconstI dX4_cheapStepIn_2 ?_
  refine v_istore dX4_cheapStepIn_3 (Nat.le_of_ble_eq_true rfl) ?_
  refine v_iconstI dX4_cheapStepIn_5 ?_
  refine v_istore dX4_cheapStepIn_6 (Nat.le_of_ble_eq_true rfl) ?_
  refine v_pick [3, 4, 2, 1, 0] rfl ?_
  obtain ⟨I4, m5, wi8, wl7⟩ := w
  have hL9 : ∀ (N12 : Nat) (x1 : Int) (x2 : Int) (x3 : Int), m5 x1 x2 x3 < N12 → I4 x1 x2 x3 → V (m_X4_cheapStepIn, 5, 0, 0, n, pIr n h Q, s_G0) 0 0 n h 8 [(0, .ref 60), (1, .int (iI a0)), (3, .int (iI x1)), (4, .int (iI x2)), (5, .int (iI x3))] [] := by
    intro N12
    induction N12 with
    | zero => intro x1 x2 x3  hm10; exact absurd hm10 (Nat.not_lt_zero _)
    | succ N12 ih6 =>
      intro x1 x2 x3  hm10 hI11
      have w := wl7 x1 x2 x3 hI11
      refine v_iload dX4_cheapStepIn_8 rfl ?_
      refine v_iload_n dX4_cheapStepIn_10 rfl ?_
      obtain ⟨q13, q14, w⟩ := w
      refine v_icmp_gtI (tgt := 44) dX4_cheapStepIn_11 (by decide) q13.1 q13.2 q14.1 q14.2 (fun c15 => ?_) (fun c15 => ?_)
      · replace w := w.1 c15
        refine v_iload dX4_cheapStepIn_44 rfl ?_
        exact v_iret dX4_cheapStepIn_46 rfl (Nat.zero_le _) (Nat.zero_le _) ⟨rfl, rfl, _, rfl, w⟩
      · replace w := w.2 c15
        refine v_aload_n dX4_cheapStepIn_14 rfl ?_
        refine v_iload dX4_cheapStepIn_15 rfl ?_
        refine v_iload_n dX4_cheapStepIn_17 rfl ?_
        refine v_callVIr dX4_cheapStepIn_18 ml_X4_111 (so_X4_cheapStep hn hp  w) ((hp 60 (by decide)).trans (ent_60 _)) rfl (s_lt hn rfl) rfl rfl (Nat.le_of_ble_eq_true rfl) (Nat.le_of_ble_eq_true rfl) (Nat.zero_le _) (Nat.zero_le _) (fun v16 w => ?_)
        refine v_istore dX4_cheapStepIn_21 (Nat.le_of_ble_eq_true rfl) ?_
        refine v_aload_n dX4_cheapStepIn_23 rfl ?_
        refine v_get dX4_cheapStepIn_24 fl_X4_42 ((hp 60 (by decide)).trans (ent_60 _)) rfl (s_lt hn rfl) ?_
        refine v_iload dX4_cheapStepIn_27 rfl ?_
        refine v_iload_n dX4_cheapStepIn_29 rfl ?_
        refine v_iload dX4_cheapStepIn_30 rfl ?_
        refine v_iconstI dX4_cheapStepIn_32 ?_
        refine v_iconstI dX4_cheapStepIn_33 ?_
        refine v_callVIr dX4_cheapStepIn_34 ml_X4_107 (so_X2_onward hn hp  w) ((hp 58 (by decide)).trans (ent_58 _)) rfl (s_lt hn rfl) rfl rfl (Nat.le_of_ble_eq_true rfl) (Nat.le_of_ble_eq_true rfl) (Nat.zero_le _) (Nat.zero_le _) (fun v22 w => ?_)
        refine v_istore_n dX4_cheapStepIn_37 (Nat.le_of_ble_eq_true rfl) ?_
        refine v_iincI dX4_cheapStepIn_38 rfl (Nat.le_of_ble_eq_true rfl) ?_
        refine v_goto (tgt := 8) dX4_cheapStepIn_41 (by decide) ?_
        refine v_pick [3, 4, 1, 2, 0] rfl ?_
        exact ih6 _ _ _ (Nat.lt_of_lt_of_le w.2 (Nat.le_of_lt_succ hm10)) w.1
  exact hL9 _ _ _ _ (Nat.lt_succ_self _) wi8
theorem dX4_driven_0 : decode cX4_driven 0 = .ok (.aload_n 0, 1) := by decide +kernel
theorem dX4_driven_1 : decode cX4_driven 1 = .ok (.getfield 34, 3) := by decide +kernel
theorem dX4_driven_4 : decode cX4_driven 4 = .ok (.iload_n 1, 1) := by decide +kernel
theorem dX4_driven_5 : decode cX4_driven 5 = .ok (.invokevirtual 46, 3) := by decide +kernel
theorem dX4_driven_8 : decode cX4_driven 8 = .ok (.istore 6, 2) := by decide +kernel
theorem dX4_driven_10 : decode cX4_driven 10 = .ok (.aload_n 0, 1) := by decide +kernel
theorem dX4_driven_11 : decode cX4_driven 11 = .ok (.getfield 42, 3) := by decide +kernel
theorem dX4_driven_14 : decode cX4_driven 14 = .ok (.iload_n 1, 1) := by decide +kernel
theorem dX4_driven_15 : decode cX4_driven 15 = .ok (.invokevirtual 52, 3) := by decide +kernel
theorem dX4_driven_18 : decode cX4_driven 18 = .ok (.aload_n 0, 1) := by decide +kernel
theorem dX4_driven_19 : decode cX4_driven 19 = .ok (.getfield 42, 3) := by decide +kernel
theorem dX4_driven_22 : decode cX4_driven 22 = .ok (.iconst 0, 1) := by decide +kernel
theorem dX4_driven_23 : decode cX4_driven 23 = .ok (.iload 6, 2) := by decide +kernel
theorem dX4_driven_25 : decode cX4_driven 25 = .ok (.iload 4, 2) := by decide +kernel
theorem dX4_driven_27 : decode cX4_driven 27 = .ok (.iconst 1, 1) := by decide +kernel
theorem dX4_driven_28 : decode cX4_driven 28 = .ok (.iconst 0, 1) := by decide +kernel
theorem dX4_driven_29 : decode cX4_driven 29 = .ok (.invokevirtual 58, 3) := by decide +kernel
theorem dX4_driven_32 : decode cX4_driven 32 = .ok (.iload_n 3, 1) := by decide +kernel
theorem dX4_driven_33 : decode cX4_driven 33 = .ok (.istore 7, 2) := by decide +kernel
theorem dX4_driven_35 : decode cX4_driven 35 = .ok (.iload 7, 2) := by decide +kernel
theorem dX4_driven_37 : decode cX4_driven 37 = .ok (.iload 4, 2) := by decide +kernel
theorem dX4_driven_39 : decode cX4_driven 39 = .ok (.if_icmp .gt 50, 3) := by decide +kernel
theorem dX4_driven_42 : decode cX4_driven 42 = .ok (.iconst 0, 1) := by decide +kernel
theorem dX4_driven_43 : decode cX4_driven 43 = .ok (.istore 8, 2) := by decide +kernel
theorem dX4_driven_45 : decode cX4_driven 45 = .ok (.iload 8, 2) := by decide +kernel
theorem dX4_driven_47 : decode cX4_driven 47 = .ok (.sipush 577, 3) := by decide +kernel
theorem dX4_driven_50 : decode cX4_driven 50 = .ok (.if_icmp .ge 33, 3) := by decide +kernel
theorem dX4_driven_53 : decode cX4_driven 53 = .ok (.aload_n 0, 1) := by decide +kernel
theorem dX4_driven_54 : decode cX4_driven 54 = .ok (.getfield 42, 3) := by decide +kernel
theorem dX4_driven_57 : decode cX4_driven 57 = .ok (.iload 8, 2) := by decide +kernel
theorem dX4_driven_59 : decode cX4_driven 59 = .ok (.iload_n 2, 1) := by decide +kernel
theorem dX4_driven_60 : decode cX4_driven 60 = .ok (.invokevirtual 62, 3) := by decide +kernel
theorem dX4_driven_63 : decode cX4_driven 63 = .ok (.ifCond .ne 14, 3) := by decide +kernel
theorem dX4_driven_66 : decode cX4_driven 66 = .ok (.aload_n 0, 1) := by decide +kernel
theorem dX4_driven_67 : decode cX4_driven 67 = .ok (.getfield 42, 3) := by decide +kernel
theorem dX4_driven_70 : decode cX4_driven 70 = .ok (.iload 7, 2) := by decide +kernel
theorem dX4_driven_72 : decode cX4_driven 72 = .ok (.iload 8, 2) := by decide +kernel
theorem dX4_driven_74 : decode cX4_driven 74 = .ok (.invokevirtual 66, 3) := by decide +kernel
theorem dX4_driven_77 : decode cX4_driven 77 = .ok (.iinc 8 1, 3) := by decide +kernel
theorem dX4_driven_80 : decode cX4_driven 80 = .ok (.goto (-35), 3) := by decide +kernel
theorem dX4_driven_83 : decode cX4_driven 83 = .ok (.iinc 7 1, 3) := by decide +kernel
theorem dX4_driven_86 : decode cX4_driven 86 = .ok (.goto (-51), 3) := by decide +kernel
theorem dX4_driven_89 : decode cX4_driven 89 = .ok (.aload_n 0, 1) := by decide +kernel
theorem dX4_driven_90 : decode cX4_driven 90 = .ok (.iload 4, 2) := by decide +kernel
theorem dX4_driven_92 : decode cX4_driven 92 = .ok (.invokevirtual 70, 3) := by decide +kernel
theorem dX4_driven_95 : decode cX4_driven 95 = .ok (.aload_n 0, 1) := by decide +kernel
theorem dX4_driven_96 : decode cX4_driven 96 = .ok (.iconst 0, 1) := by decide +kernel
theorem dX4_driven_97 : decode cX4_driven 97 = .ok (.iload 6, 2) := by decide +kernel
theorem dX4_driven_99 : decode cX4_driven 99 = .ok (.invokevirtual 73, 3) := by decide +kernel
theorem dX4_driven_102 : decode cX4_driven 102 = .ok (.istore 7, 2) := by decide +kernel
theorem dX4_driven_104 : decode cX4_driven 104 = .ok (.iload 7, 2) := by decide +kernel
theorem dX4_driven_106 : decode cX4_driven 106 = .ok (.sipush 1000, 3) := by decide +kernel
theorem dX4_driven_109 : decode cX4_driven 109 = .ok (.if_icmp .lt 5, 3) := by decide +kernel
theorem dX4_driven_112 : decode cX4_driven 112 = .ok (.iconst (-1), 1) := by decide +kernel
theorem dX4_driven_113 : decode cX4_driven 113 = .ok (.ireturn, 1) := by decide +kernel
theorem dX4_driven_114 : decode cX4_driven 114 = .ok (.iload 5, 2) := by decide +kernel
theorem dX4_driven_116 : decode cX4_driven 116 = .ok (.iconst (-1), 1) := by decide +kernel
theorem dX4_driven_117 : decode cX4_driven 117 = .ok (.if_icmp .ne 8, 3) := by decide +kernel
theorem dX4_driven_120 : decode cX4_driven 120 = .ok (.iload 7, 2) := by decide +kernel
theorem dX4_driven_122 : decode cX4_driven 122 = .ok (.goto 11, 3) := by decide +kernel
theorem dX4_driven_125 : decode cX4_driven 125 = .ok (.aload_n 0, 1) := by decide +kernel
theorem dX4_driven_126 : decode cX4_driven 126 = .ok (.iload 5, 2) := by decide +kernel
theorem dX4_driven_128 : decode cX4_driven 128 = .ok (.iload 6, 2) := by decide +kernel
theorem dX4_driven_130 : decode cX4_driven 130 = .ok (.invokevirtual 77, 3) := by decide +kernel
theorem dX4_driven_133 : decode cX4_driven 133 = .ok (.ireturn, 1) := by decide +kernel
def w_X4_driven (K : LK) (a0 a1 a2 a3 a4 : Int) (X : XT) (Q : Int → XT → Prop) : Prop :=
  w_X3_startOf  a0 X (fun (v1 : Int) => w_X2_take  a0 X (fun (X8 : XT) => w_X2_spread K  0 v1 a3 1 0 X8 (fun (X14 : XT) => ∃ (I21 : Int → XT → Prop) (m22 : Int → XT → Nat), I21 a2 X14 ∧ ∀ (x19 : Int) (X20 : XT), I21 x19 X20 → R32 x19 ∧ R32 a3 ∧ (a3 < x19 → w_X4_reckonCosts  a3 X20 (fun (X37 : XT) => w_X4_costOf  0 v1 X37 (fun (v42 : Int) => R32 v42 ∧ (v42 < 1000 → R32 a4 ∧ (¬ a4 = (-1) → w_X4_cheapStepIn  a4 v1 X37 (fun (v52 : Int) => Q v52 X37)) ∧ (a4 = (-1) → Q v42 X37)) ∧ (¬ v42 < 1000 → Q (-1) X37)))) ∧ (¬ a3 < x19 → ∃ (I60 : Int → XT → Prop) (m61 : Int → XT → Nat), I60 0 X20 ∧ ∀ (x58 : Int) (X59 : XT), I60 x58 X59 → R32 x58 ∧ (577 ≤ x58 → I21 (x19 + 1) X59 ∧ m22 (x19 + 1) X59 < m22 x19 X20) ∧ (¬ 577 ≤ x58 → w_X2_shades  x58 a1 X59 (fun (v74 : Int) => R32 v74 ∧ (¬ v74 = 0 → I60 (x58 + 1) X59 ∧ m61 (x58 + 1) X59 < m61 x58 X59) ∧ (v74 = 0 → w_X2_strike  x19 x58 X59 (fun (X83 : XT) => I60 (x58 + 1) X83 ∧ m61 (x58 + 1) X83 < m61 x58 X59))))))))
set_option maxRecDepth 20000 in
theorem so_X4_driven {n : Nat} {h : Nat → sE} {X : XT} {K : LK} {hk : Nat → sE} (hK : LKok K n hk) {a0 a1 a2 a3 a4 : Int} {Q : Int → XT → Prop} (hn : 115 ≤ n) (hp : Pic X h) (hf9 : Fr hk h) (w : w_X4_driven K  a0 a1 a2 a3 a4 X Q) : Sp m_X4_driven 6 0 0 [.ref 60, .int (iI a0), .int (iI a1), .int (iI a2), .int (iI a3), .int (iI a4)] n h (pIw n h Q) := by
  unfold w_X4_driven at w
  refine Sp.ofV (by decide +kernel) (Nat.le_of_ble_eq_true rfl) ?_
  have hf : Fr h h := fun _ _ => rfl
  refine v_aload_n dX4_driven_0 rfl ?_
  refine v_get dX4_driven_1 fl_X4_34 ((hp 60 (by decide)).trans (ent_60 _)) rfl (s_lt hn rfl) ?_
  refine v_iload_n dX4_driven_4 rfl ?_
  refine v_callVIr dX4_driven_5 ml_X4_46 (so_X3_startOf hn hp  w) ((hp 1 (by decide)).trans (ent_1 _)) rfl (s_lt hn rfl) rfl rfl (Nat.le_of_ble_eq_true rfl) (Nat.le_of_ble_eq_true rfl) (Nat.zero_le _) (Nat.zero_le _) (fun v1 w => ?_)
  refine v_istore dX4_driven_8 (Nat.le_of_ble_eq_true rfl) ?_
  refine v_aload_n dX4_driven_10 rfl ?_
  refine v_get dX4_driven_11 fl_X4_42 ((hp 60 (by decide)).trans (ent_60 _)) rfl (s_lt hn rfl) ?_
  refine v_iload_n dX4_driven_14 rfl ?_
  refine v_callVVw dX4_driven_15 ml_X4_52 (so_X2_take hn hp  w) ((hp 58 (by decide)).trans (ent_58 _)) rfl (s_lt hn rfl) rfl rfl (Nat.le_of_ble_eq_true rfl) (Nat.le_of_ble_eq_true rfl) (Nat.zero_le _) (Nat.zero_le _) (fun X8 h9 hp11 hf10 w => ?_)
  have hf12 := Fr.trans hf hf10
  refine v_aload_n dX4_driven_18 rfl ?_
  refine v_get dX4_driven_19 fl_X4_42 ((hp11 60 (by decide)).trans (ent_60 _)) rfl (s_lt hn rfl) ?_
  refine v_iconstI dX4_driven_22 ?_
  refine v_iload dX4_driven_23 rfl ?_
  refine v_iload dX4_driven_25 rfl ?_
  refine v_iconstI dX4_driven_27 ?_
  refine v_iconstI dX4_driven_28 ?_
  refine v_callVVw dX4_driven_29 ml_X4_58 (so_X2_spread hK hn hp11 (Fr.trans hf9 hf12) w) ((hp11 58 (by decide)).trans (ent_58 _)) rfl (s_lt hn rfl) rfl rfl (Nat.le_of_ble_eq_true rfl) (Nat.le_of_ble_eq_true rfl) (Nat.zero_le _) (Nat.zero_le _) (fun X14 h15 hp17 hf16 w => ?_)
  have hf18 := Fr.trans hf12 hf16
  refine v_iload_n dX4_driven_32 rfl ?_
  refine v_istore dX4_driven_33 (Nat.le_of_ble_eq_true rfl) ?_
  refine v_pick [2, 4, 6, 7, 1, 0] rfl ?_
  obtain ⟨I21, m22, wi25, wl24⟩ := w
  have hL26 : ∀ (N29 : Nat) (x19 : Int) (X20 : XT) (h30 : Nat → sE), m22 x19 X20 < N29 → I21 x19 X20 → Pic X20 h30 → Fr h h30 → V (m_X4_driven, 6, 0, 0, n, pIw n h Q, s_G0) 0 0 n h30 35 [(0, .ref 60), (2, .int (iI a1)), (4, .int (iI a3)), (5, .int (iI a4)), (6, .int (iI v1)), (7, .int (iI x19))] [] := by
    intro N29
    induction N29 with
    | zero => intro x19 X20 h30 hm27; exact absurd hm27 (Nat.not_lt_zero _)
    | succ N29 ih23 =>
      intro x19 X20 h30 hm27 hI28 hp31 hf32
      have w := wl24 x19 X20 hI28
      refine v_iload dX4_driven_35 rfl ?_
      refine v_iload dX4_driven_37 rfl ?_
      obtain ⟨q33, q34, w⟩ := w
      refine v_icmp_gtI (tgt := 89) dX4_driven_39 (by decide) q33.1 q33.2 q34.1 q34.2 (fun c35 => ?_) (fun c35 => ?_)
      · replace w := w.1 c35
        refine v_aload_n dX4_driven_89 rfl ?_
        refine v_iload dX4_driven_90 rfl ?_
        refine v_callVVw dX4_driven_92 ml_X4_70 (so_X4_reckonCosts hn hp31  w) ((hp31 60 (by decide)).trans (ent_60 _)) rfl (s_lt hn rfl) rfl rfl (Nat.le_of_ble_eq_true rfl) (Nat.le_of_ble_eq_true rfl) (Nat.zero_le _) (Nat.zero_le _) (fun X37 h38 hp40 hf39 w => ?_)
        have hf41 := Fr.trans hf32 hf39
        refine v_aload_n dX4_driven_95 rfl ?_
        refine v_iconstI dX4_driven_96 ?_
        refine v_iload dX4_driven_97 rfl ?_
        refine v_callVIr dX4_driven_99 ml_X4_73 (so_X4_costOf hn hp40  w) ((hp40 60 (by decide)).trans (ent_60 _)) rfl (s_lt hn rfl) rfl rfl (Nat.le_of_ble_eq_true rfl) (Nat.le_of_ble_eq_true rfl) (Nat.zero_le _) (Nat.zero_le _) (fun v42 w => ?_)
        refine v_istore dX4_driven_102 (Nat.le_of_ble_eq_true rfl) ?_
        refine v_iload dX4_driven_104 rfl ?_
        refine v_sipushI dX4_driven_106 rfl ?_
        obtain ⟨q48, w⟩ := w
        refine v_icmp_ltI (tgt := 114) dX4_driven_109 (by decide) q48.1 q48.2 (by decide) (by decide) (fun c49 => ?_) (fun c49 => ?_)
        · replace w := w.1 c49
          refine v_iload dX4_driven_114 rfl ?_
          refine v_iconstI dX4_driven_116 ?_
          obtain ⟨q50, w⟩ := w
          refine v_icmp_neI (tgt := 125) dX4_driven_117 (by decide) q50.1 q50.2 (by decide) (by decide) (fun c51 => ?_) (fun c51 => ?_)
          · replace w := w.1 c51
            refine v_aload_n dX4_driven_125 rfl ?_
            refine v_iload dX4_driven_126 rfl ?_
            refine v_iload dX4_driven_128 rfl ?_
            refine v_callVIr dX4_driven_130 ml_X4_77 (so_X4_cheapStepIn hn hp40  w) ((hp40 60 (by decide)).trans (ent_60 _)) rfl (s_lt hn rfl) rfl rfl (Nat.le_of_ble_eq_true rfl) (Nat.le_of_ble_eq_true rfl) (Nat.zero_le _) (Nat.zero_le _) (fun v52 w => ?_)
            exact v_iret dX4_driven_133 rfl (Nat.zero_le _) (Nat.zero_le _) ⟨rfl, hf41, _, _, rfl, hp40, w⟩
          · replace w := w.2 c51
            refine v_iload dX4_driven_120 rfl ?_
            refine v_goto (tgt := 133) dX4_driven_122 (by decide) ?_
            exact v_iret dX4_driven_133 rfl (Nat.zero_le _) (Nat.zero_le _) ⟨rfl, hf41, _, _, rfl, hp40, w⟩
        · replace w := w.2 c49
          refine v_iconstI dX4_driven_112 ?_
          exact v_iret dX4_driven_113 rfl (Nat.zero_le _) (Nat.zero_le _) ⟨rfl, hf41, _, _, rfl, hp40, w⟩
      · replace w := w.2 c35
        refine v_iconstI dX4_driven_42 ?_
        refine v_istore dX4_driven_43 (Nat.le_of_ble_eq_true rfl) ?_
        refine v_pick [1, 2, 3, 4, 5, 6, 0] rfl ?_
        obtain ⟨I60, m61, wi64, wl63⟩ := w
        have hL65 : ∀ (N68 : Nat) (x58 : Int) (X59 : XT) (h69 : Nat → sE), m61 x58 X59 < N68 → I60 x58 X59 → Pic X59 h69 → Fr h h69 → V (m_X4_driven, 6, 0, 0, n, pIw n h Q, s_G0) 0 0 n h69 45 [(0, .ref 60), (2, .int (iI a1)), (4, .int (iI a3)), (5, .int (iI a4)), (6, .int (iI v1)), (7, .int (iI x19)), (8, .int (iI x58))] [] := by
          intro N68
          induction N68 with
          | zero => intro x58 X59 h69 hm66; exact absurd hm66 (Nat.not_lt_zero _)
          | succ N68 ih62 =>
            intro x58 X59 h69 hm66 hI67 hp70 hf71
            have w := wl63 x58 X59 hI67
            refine v_iload dX4_driven_45 rfl ?_
            refine v_sipushI dX4_driven_47 rfl ?_
            obtain ⟨q72, w⟩ := w
            refine v_icmp_geI (tgt := 83) dX4_driven_50 (by decide) q72.1 q72.2 (by decide) (by decide) (fun c73 => ?_) (fun c73 => ?_)
            · replace w := w.1 c73
              refine v_iincI dX4_driven_83 rfl (Nat.le_of_ble_eq_true rfl) ?_
              refine v_goto (tgt := 35) dX4_driven_86 (by decide) ?_
              refine v_pick [1, 2, 3, 4, 5, 0] rfl ?_
              exact ih23 _ _ _ (Nat.lt_of_lt_of_le w.2 (Nat.le_of_lt_succ hm27)) w.1 hp70 hf71
            · replace w := w.2 c73
              refine v_aload_n dX4_driven_53 rfl ?_
              refine v_get dX4_driven_54 fl_X4_42 ((hp70 60 (by decide)).trans (ent_60 _)) rfl (s_lt hn rfl) ?_
              refine v_iload dX4_driven_57 rfl ?_
              refine v_iload_n dX4_driven_59 rfl ?_
              refine v_callVIr dX4_driven_60 ml_X4_62 (so_X2_shades hn hp70  w) ((hp70 58 (by decide)).trans (ent_58 _)) rfl (s_lt hn rfl) rfl rfl (Nat.le_of_ble_eq_true rfl) (Nat.le_of_ble_eq_true rfl) (Nat.zero_le _) (Nat.zero_le _) (fun v74 w => ?_)
              obtain ⟨q80, w⟩ := w
              refine v_if_neI (tgt := 77) dX4_driven_63 (by decide) q80.1 q80.2 (fun c81 => ?_) (fun c81 => ?_)
              · replace w := w.1 c81
                refine v_iincI dX4_driven_77 rfl (Nat.le_of_ble_eq_true rfl) ?_
                refine v_goto (tgt := 45) dX4_driven_80 (by decide) ?_
                refine v_pick [1, 2, 3, 4, 5, 6, 0] rfl ?_
                exact ih62 _ _ _ (Nat.lt_of_lt_of_le w.2 (Nat.le_of_lt_succ hm66)) w.1 hp70 hf71
              · replace w := w.2 c81
                refine v_aload_n dX4_driven_66 rfl ?_
                refine v_get dX4_driven_67 fl_X4_42 ((hp70 60 (by decide)).trans (ent_60 _)) rfl (s_lt hn rfl) ?_
                refine v_iload dX4_driven_70 rfl ?_
                refine v_iload dX4_driven_72 rfl ?_
                refine v_callVVw dX4_driven_74 ml_X4_66 (so_X2_strike hn hp70  w) ((hp70 58 (by decide)).trans (ent_58 _)) rfl (s_lt hn rfl) rfl rfl (Nat.le_of_ble_eq_true rfl) (Nat.le_of_ble_eq_true rfl) (Nat.zero_le _) (Nat.zero_le _) (fun X83 h84 hp86 hf85 w => ?_)
                have hf87 := Fr.trans hf71 hf85
                refine v_iincI dX4_driven_77 rfl (Nat.le_of_ble_eq_true rfl) ?_
                refine v_goto (tgt := 45) dX4_driven_80 (by decide) ?_
                refine v_pick [1, 2, 3, 4, 5, 6, 0] rfl ?_
                exact ih62 _ _ _ (Nat.lt_of_lt_of_le w.2 (Nat.le_of_lt_succ hm66)) w.1 hp86 hf87
        exact hL65 _ _ _ _ (Nat.lt_succ_self _) wi64 hp31 hf32
  exact hL26 _ _ _ _ (Nat.lt_succ_self _) wi25 hp17 hf18
theorem dX11_drive_0 : decode cX11_drive 0 = .ok (.aload_n 0, 1) := by decide +kernel
theorem dX11_drive_1 : decode cX11_drive 1 = .ok (.iload_n 1, 1) := by decide +kernel
theorem dX11_drive_2 : decode cX11_drive 2 = .ok (.iload_n 2, 1) := by decide +kernel
theorem dX11_drive_3 : decode cX11_drive 3 = .ok (.invokevirtual 293, 3) := by decide +kernel
theorem dX11_drive_6 : decode cX11_drive 6 = .ok (.ifCond .eq 25, 3) := by decide +kernel
theorem dX11_drive_9 : decode cX11_drive 9 = .ok (.iload_n 3, 1) := by decide +kernel
theorem dX11_drive_10 : decode cX11_drive 10 = .ok (.iload 4, 2) := by decide +kernel
theorem dX11_drive_12 : decode cX11_drive 12 = .ok (.invokestatic 170, 3) := by decide +kernel
theorem dX11_drive_15 : decode cX11_drive 15 = .ok (.ifCond .eq 16, 3) := by decide +kernel
theorem dX11_drive_18 : decode cX11_drive 18 = .ok (.iload 5, 2) := by decide +kernel
theorem dX11_drive_20 : decode cX11_drive 20 = .ok (.iconst (-1), 1) := by decide +kernel
theorem dX11_drive_21 : decode cX11_drive 21 = .ok (.iload 4, 2) := by decide +kernel
theorem dX11_drive_23 : decode cX11_drive 23 = .ok (.iconst 1, 1) := by decide +kernel
theorem dX11_drive_24 : decode cX11_drive 24 = .ok (.isub, 1) := by decide +kernel
theorem dX11_drive_25 : decode cX11_drive 25 = .ok (.invokestatic 115, 3) := by decide +kernel
theorem dX11_drive_28 : decode cX11_drive 28 = .ok (.ifCond .ne 5, 3) := by decide +kernel
theorem dX11_drive_31 : decode cX11_drive 31 = .ok (.iconst (-1), 1) := by decide +kernel
theorem dX11_drive_32 : decode cX11_drive 32 = .ok (.ireturn, 1) := by decide +kernel
theorem dX11_drive_33 : decode cX11_drive 33 = .ok (.aload_n 0, 1) := by decide +kernel
theorem dX11_drive_34 : decode cX11_drive 34 = .ok (.getfield 75, 3) := by decide +kernel
theorem dX11_drive_37 : decode cX11_drive 37 = .ok (.iload_n 1, 1) := by decide +kernel
theorem dX11_drive_38 : decode cX11_drive 38 = .ok (.iload_n 2, 1) := by decide +kernel
theorem dX11_drive_39 : decode cX11_drive 39 = .ok (.iload_n 3, 1) := by decide +kernel
theorem dX11_drive_40 : decode cX11_drive 40 = .ok (.iload 4, 2) := by decide +kernel
theorem dX11_drive_42 : decode cX11_drive 42 = .ok (.iload 5, 2) := by decide +kernel
theorem dX11_drive_44 : decode cX11_drive 44 = .ok (.invokevirtual 296, 3) := by decide +kernel
theorem dX11_drive_47 : decode cX11_drive 47 = .ok (.ireturn, 1) := by decide +kernel
def w_X11_drive (K : LK) (a0 a1 a2 a3 a4 : Int) (X : XT) (Q : Int → XT → Prop) : Prop :=
  w_X11_isOver  a0 a1 X (fun (v1 : Int) => R32 v1 ∧ (v1 = 0 → Q (-1) X) ∧ (¬ v1 = 0 → R32 a2 ∧ R32 a3 ∧ (¬ (0 ≤ a2 ∧ a2 ≤ 11 ∧ 0 ≤ a3 ∧ a3 ≤ 11 ∧ a2 ≤ a3) → Q (-1) X) ∧ ((0 ≤ a2 ∧ a2 ≤ 11 ∧ 0 ≤ a3 ∧ a3 ≤ 11 ∧ a2 ≤ a3) → R32 a4 ∧ R32 (a3 - 1) ∧ (((-1) ≤ a4 ∧ a4 ≤ (a3 - 1)) → w_X4_driven K  a0 a1 a2 a3 a4 X (fun (v15 : Int) (X16 : XT) => Q v15 X16)) ∧ (¬ ((-1) ≤ a4 ∧ a4 ≤ (a3 - 1)) → Q (-1) X))))
set_option maxRecDepth 20000 in
theorem so_X11_drive {n : Nat} {h : Nat → sE} {X : XT} {K : LK} {hk : Nat → sE} (hK : LKok K n hk) {a0 a1 a2 a3 a4 : Int} {Q : Int → XT → Prop} (hn : 115 ≤ n) (hp : Pic X h) (hf9 : Fr hk h) (w : w_X11_drive K  a0 a1 a2 a3 a4 X Q) : Sp m_X11_drive 7 0 0 [.ref 0, .int (iI a0), .int (iI a1), .int (iI a2), .int (iI a3), .int (iI a4)] n h (pIw n h Q) := by
  unfold w_X11_drive at w
  refine Sp.ofV (by decide +kernel) (Nat.le_of_ble_eq_true rfl) ?_
  have hf : Fr h h := fun _ _ => rfl
  refine v_aload_n dX11_drive_0 rfl ?_
  refine v_iload_n dX11_drive_1 rfl ?_
  refine v_iload_n dX11_drive_2 rfl ?_
  refine v_callVIr dX11_drive_3 ml_X11_293 (so_X11_isOver hn hp  w) ((hp 0 (by decide)).trans (ent_0 _)) rfl (s_lt hn rfl) rfl rfl (Nat.le_of_ble_eq_true rfl) (Nat.le_of_ble_eq_true rfl) (Nat.zero_le _) (Nat.zero_le _) (fun v1 w => ?_)
  obtain ⟨q7, w⟩ := w
  refine v_if_eqI (tgt := 31) dX11_drive_6 (by decide) q7.1 q7.2 (fun c8 => ?_) (fun c8 => ?_)
  · replace w := w.1 c8
    refine v_iconstI dX11_drive_31 ?_
    exact v_iret dX11_drive_32 rfl (Nat.zero_le _) (Nat.zero_le _) ⟨rfl, hf, _, _, rfl, hp, w⟩
  · replace w := w.2 c8
    refine v_iload_n dX11_drive_9 rfl ?_
    refine v_iload dX11_drive_10 rfl ?_
    obtain ⟨q9, q10, w⟩ := w
    refine v_callSp dX11_drive_12 ml_X11_170 (sp_X11_isSpan (a := a2) (b := a3) q9 q10) rfl rfl (Nat.le_of_ble_eq_true rfl) (Nat.le_of_ble_eq_true rfl) (Nat.zero_le _) (Nat.zero_le _) ?_
    refine v_ifeqB (tgt := 31) dX11_drive_15 (by decide) (fun c11 => ?_) (fun c11 => ?_)
    · replace w := w.1 c11
      refine v_iconstI dX11_drive_31 ?_
      exact v_iret dX11_drive_32 rfl (Nat.zero_le _) (Nat.zero_le _) ⟨rfl, hf, _, _, rfl, hp, w⟩
    · replace w := w.2 c11
      refine v_iload dX11_drive_18 rfl ?_
      refine v_iconstI dX11_drive_20 ?_
      refine v_iload dX11_drive_21 rfl ?_
      refine v_iconstI dX11_drive_23 ?_
      refine v_isubI dX11_drive_24 ?_
      obtain ⟨q12, q13, w⟩ := w
      refine v_callSp dX11_drive_25 ml_X11_115 (sp_X11_within (a := a4) (b := (-1)) (c := (a3 - 1)) q12 (by decide) q13) rfl rfl (Nat.le_of_ble_eq_true rfl) (Nat.le_of_ble_eq_true rfl) (Nat.zero_le _) (Nat.zero_le _) ?_
      refine v_ifneB (tgt := 33) dX11_drive_28 (by decide) (fun c14 => ?_) (fun c14 => ?_)
      · replace w := w.1 c14
        refine v_aload_n dX11_drive_33 rfl ?_
        refine v_get dX11_drive_34 fl_X11_75 ((hp 0 (by decide)).trans (ent_0 _)) rfl (s_lt hn rfl) ?_
        refine v_iload_n dX11_drive_37 rfl ?_
        refine v_iload_n dX11_drive_38 rfl ?_
        refine v_iload_n dX11_drive_39 rfl ?_
        refine v_iload dX11_drive_40 rfl ?_
        refine v_iload dX11_drive_42 rfl ?_
        refine v_callVIw dX11_drive_44 ml_X11_296 (so_X4_driven hK hn hp (Fr.trans hf9 hf) w) ((hp 60 (by decide)).trans (ent_60 _)) rfl (s_lt hn rfl) rfl rfl (Nat.le_of_ble_eq_true rfl) (Nat.le_of_ble_eq_true rfl) (Nat.zero_le _) (Nat.zero_le _) (fun v15 X16 h17 hp19 hf18 w => ?_)
        have hf20 := Fr.trans hf hf18
        exact v_iret dX11_drive_47 rfl (Nat.zero_le _) (Nat.zero_le _) ⟨rfl, hf20, _, _, rfl, hp19, w⟩
      · replace w := w.2 c14
        refine v_iconstI dX11_drive_31 ?_
        exact v_iret dX11_drive_32 rfl (Nat.zero_le _) (Nat.zero_le _) ⟨rfl, hf, _, _, rfl, hp, w⟩
theorem dX4_worthUnder_0 : decode cX4_worthUnder 0 = .ok (.iload_n 1, 1) := by decide +kernel
theorem dX4_worthUnder_1 : decode cX4_worthUnder 1 = .ok (.sipush 576, 3) := by decide +kernel
theorem dX4_worthUnder_4 : decode cX4_worthUnder 4 = .ok (.if_icmp .ne 5, 3) := by decide +kernel
theorem dX4_worthUnder_7 : decode cX4_worthUnder 7 = .ok (.iconst 0, 1) := by decide +kernel
theorem dX4_worthUnder_8 : decode cX4_worthUnder 8 = .ok (.ireturn, 1) := by decide +kernel
theorem dX4_worthUnder_9 : decode cX4_worthUnder 9 = .ok (.iconst 0, 1) := by decide +kernel
theorem dX4_worthUnder_10 : decode cX4_worthUnder 10 = .ok (.iload_n 1, 1) := by decide +kernel
theorem dX4_worthUnder_11 : decode cX4_worthUnder 11 = .ok (.invokestatic 141, 3) := by decide +kernel
theorem dX4_worthUnder_14 : decode cX4_worthUnder 14 = .ok (.invokestatic 144, 3) := by decide +kernel
theorem dX4_worthUnder_17 : decode cX4_worthUnder 17 = .ok (.istore_n 2, 1) := by decide +kernel
theorem dX4_worthUnder_18 : decode cX4_worthUnder 18 = .ok (.iconst 0, 1) := by decide +kernel
theorem dX4_worthUnder_19 : decode cX4_worthUnder 19 = .ok (.iload_n 1, 1) := by decide +kernel
theorem dX4_worthUnder_20 : decode cX4_worthUnder 20 = .ok (.invokestatic 147, 3) := by decide +kernel
theorem dX4_worthUnder_23 : decode cX4_worthUnder 23 = .ok (.invokestatic 144, 3) := by decide +kernel
theorem dX4_worthUnder_26 : decode cX4_worthUnder 26 = .ok (.istore_n 3, 1) := by decide +kernel
theorem dX4_worthUnder_27 : decode cX4_worthUnder 27 = .ok (.bipush 8, 2) := by decide +kernel
theorem dX4_worthUnder_29 : decode cX4_worthUnder 29 = .ok (.iload_n 1, 1) := by decide +kernel
theorem dX4_worthUnder_30 : decode cX4_worthUnder 30 = .ok (.invokestatic 141, 3) := by decide +kernel
theorem dX4_worthUnder_33 : decode cX4_worthUnder 33 = .ok (.aload_n 0, 1) := by decide +kernel
theorem dX4_worthUnder_34 : decode cX4_worthUnder 34 = .ok (.getfield 34, 3) := by decide +kernel
theorem dX4_worthUnder_37 : decode cX4_worthUnder 37 = .ok (.aload_n 0, 1) := by decide +kernel
theorem dX4_worthUnder_38 : decode cX4_worthUnder 38 = .ok (.getfield 42, 3) := by decide +kernel
theorem dX4_worthUnder_41 : decode cX4_worthUnder 41 = .ok (.getfield 150, 3) := by decide +kernel
theorem dX4_worthUnder_44 : decode cX4_worthUnder 44 = .ok (.iconst 0, 1) := by decide +kernel
theorem dX4_worthUnder_45 : decode cX4_worthUnder 45 = .ok (.invokevirtual 154, 3) := by decide +kernel
theorem dX4_worthUnder_48 : decode cX4_worthUnder 48 = .ok (.iadd, 1) := by decide +kernel
theorem dX4_worthUnder_49 : decode cX4_worthUnder 49 = .ok (.invokestatic 102, 3) := by decide +kernel
theorem dX4_worthUnder_52 : decode cX4_worthUnder 52 = .ok (.istore 4, 2) := by decide +kernel
theorem dX4_worthUnder_54 : decode cX4_worthUnder 54 = .ok (.bipush 8, 2) := by decide +kernel
theorem dX4_worthUnder_56 : decode cX4_worthUnder 56 = .ok (.iload_n 1, 1) := by decide +kernel
theorem dX4_worthUnder_57 : decode cX4_worthUnder 57 = .ok (.invokestatic 147, 3) := by decide +kernel
theorem dX4_worthUnder_60 : decode cX4_worthUnder 60 = .ok (.aload_n 0, 1) := by decide +kernel
theorem dX4_worthUnder_61 : decode cX4_worthUnder 61 = .ok (.getfield 34, 3) := by decide +kernel
theorem dX4_worthUnder_64 : decode cX4_worthUnder 64 = .ok (.aload_n 0, 1) := by decide +kernel
theorem dX4_worthUnder_65 : decode cX4_worthUnder 65 = .ok (.getfield 42, 3) := by decide +kernel
theorem dX4_worthUnder_68 : decode cX4_worthUnder 68 = .ok (.getfield 150, 3) := by decide +kernel
theorem dX4_worthUnder_71 : decode cX4_worthUnder 71 = .ok (.iconst 1, 1) := by decide +kernel
theorem dX4_worthUnder_72 : decode cX4_worthUnder 72 = .ok (.invokevirtual 154, 3) := by decide +kernel
theorem dX4_worthUnder_75 : decode cX4_worthUnder 75 = .ok (.iadd, 1) := by decide +kernel
theorem dX4_worthUnder_76 : decode cX4_worthUnder 76 = .ok (.invokestatic 102, 3) := by decide +kernel
theorem dX4_worthUnder_79 : decode cX4_worthUnder 79 = .ok (.istore 5, 2) := by decide +kernel
theorem dX4_worthUnder_81 : decode cX4_worthUnder 81 = .ok (.iconst 0, 1) := by decide +kernel
theorem dX4_worthUnder_82 : decode cX4_worthUnder 82 = .ok (.istore 6, 2) := by decide +kernel
theorem dX4_worthUnder_84 : decode cX4_worthUnder 84 = .ok (.iload_n 3, 1) := by decide +kernel
theorem dX4_worthUnder_85 : decode cX4_worthUnder 85 = .ok (.istore 7, 2) := by decide +kernel
theorem dX4_worthUnder_87 : decode cX4_worthUnder 87 = .ok (.iload 7, 2) := by decide +kernel
theorem dX4_worthUnder_89 : decode cX4_worthUnder 89 = .ok (.iload 5, 2) := by decide +kernel
theorem dX4_worthUnder_91 : decode cX4_worthUnder 91 = .ok (.if_icmp .ge 43, 3) := by decide +kernel
theorem dX4_worthUnder_94 : decode cX4_worthUnder 94 = .ok (.iload_n 2, 1) := by decide +kernel
theorem dX4_worthUnder_95 : decode cX4_worthUnder 95 = .ok (.istore 8, 2) := by decide +kernel
theorem dX4_worthUnder_97 : decode cX4_worthUnder 97 = .ok (.iload 8, 2) := by decide +kernel
theorem dX4_worthUnder_99 : decode cX4_worthUnder 99 = .ok (.iload 4, 2) := by decide +kernel
theorem dX4_worthUnder_101 : decode cX4_worthUnder 101 = .ok (.if_icmp .ge 27, 3) := by decide +kernel
theorem dX4_worthUnder_104 : decode cX4_worthUnder 104 = .ok (.iload 6, 2) := by decide +kernel
theorem dX4_worthUnder_106 : decode cX4_worthUnder 106 = .ok (.aload_n 0, 1) := by decide +kernel
theorem dX4_worthUnder_107 : decode cX4_worthUnder 107 = .ok (.getfield 22, 3) := by decide +kernel
theorem dX4_worthUnder_110 : decode cX4_worthUnder 110 = .ok (.bipush 8, 2) := by decide +kernel
theorem dX4_worthUnder_112 : decode cX4_worthUnder 112 = .ok (.iload 7, 2) := by decide +kernel
theorem dX4_worthUnder_114 : decode cX4_worthUnder 114 = .ok (.imul, 1) := by decide +kernel
theorem dX4_worthUnder_115 : decode cX4_worthUnder 115 = .ok (.iload 8, 2) := by decide +kernel
theorem dX4_worthUnder_117 : decode cX4_worthUnder 117 = .ok (.iadd, 1) := by decide +kernel
theorem dX4_worthUnder_118 : decode cX4_worthUnder 118 = .ok (.iaload, 1) := by decide +kernel
theorem dX4_worthUnder_119 : decode cX4_worthUnder 119 = .ok (.iadd, 1) := by decide +kernel
theorem dX4_worthUnder_120 : decode cX4_worthUnder 120 = .ok (.istore 6, 2) := by decide +kernel
theorem dX4_worthUnder_122 : decode cX4_worthUnder 122 = .ok (.iinc 8 1, 3) := by decide +kernel
theorem dX4_worthUnder_125 : decode cX4_worthUnder 125 = .ok (.goto (-28), 3) := by decide +kernel
theorem dX4_worthUnder_128 : decode cX4_worthUnder 128 = .ok (.iinc 7 1, 3) := by decide +kernel
theorem dX4_worthUnder_131 : decode cX4_worthUnder 131 = .ok (.goto (-44), 3) := by decide +kernel
theorem dX4_worthUnder_134 : decode cX4_worthUnder 134 = .ok (.iload 6, 2) := by decide +kernel
theorem dX4_worthUnder_136 : decode cX4_worthUnder 136 = .ok (.ireturn, 1) := by decide +kernel
def w_X4_worthUnder (a0 : Int) (X : XT) (Q : Int → Prop) : Prop :=
  R32 a0 ∧ (¬ a0 = 576 → (0 ≤ a0 ∧ a0 ≤ 2147483647) ∧ R32 (a0 % 24 - 8) ∧ R32 (a0 / 24 - 8) ∧ (0 ≤ (X 58 3) ∧ (X 58 3) < X 1 9 ∧ X 1 9 ≤ 5) ∧ R32 ((a0 % 24 - 8) + (X 5 ((X 58 3) * 5 + 0))) ∧ R32 ((a0 / 24 - 8) + (X 5 ((X 58 3) * 5 + 1))) ∧ ∃ (I11 : Int → Int → Prop) (m12 : Int → Int → Nat), I11 0 (max 0 (a0 / 24 - 8)) ∧ ∀ (x9 : Int) (x10 : Int), I11 x9 x10 → R32 x10 ∧ R32 (min 8 ((a0 / 24 - 8) + (X 5 ((X 58 3) * 5 + 1)))) ∧ ((min 8 ((a0 / 24 - 8) + (X 5 ((X 58 3) * 5 + 1)))) ≤ x10 → Q x9) ∧ (¬ (min 8 ((a0 / 24 - 8) + (X 5 ((X 58 3) * 5 + 1)))) ≤ x10 → ∃ (I25 : Int → Int → Prop) (m26 : Int → Int → Nat), I25 x9 (max 0 (a0 % 24 - 8)) ∧ ∀ (x23 : Int) (x24 : Int), I25 x23 x24 → R32 x24 ∧ R32 (min 8 ((a0 % 24 - 8) + (X 5 ((X 58 3) * 5 + 0)))) ∧ ((min 8 ((a0 % 24 - 8) + (X 5 ((X 58 3) * 5 + 0)))) ≤ x24 → I11 x23 (x10 + 1) ∧ m12 x23 (x10 + 1) < m12 x9 x10) ∧ (¬ (min 8 ((a0 % 24 - 8) + (X 5 ((X 58 3) * 5 + 0)))) ≤ x24 → (0 ≤ ((8 * x10) + x24) ∧ ((8 * x10) + x24) < 64) ∧ I25 (x23 + (X 64 ((8 * x10) + x24))) (x24 + 1) ∧ m26 (x23 + (X 64 ((8 * x10) + x24))) (x24 + 1) < m26 x23 x24))) ∧ (a0 = 576 → Q 0)
set_option maxRecDepth 20000 in
theorem so_X4_worthUnder {n : Nat} {h : Nat → sE} {X : XT} {a0 : Int} {Q : Int → Prop} (hn : 115 ≤ n) (hp : Pic X h) (w : w_X4_worthUnder  a0 X Q) : Sp m_X4_worthUnder 2 0 0 [.ref 60, .int (iI a0)] n h (pIr n h Q) := by
  unfold w_X4_worthUnder at w
  refine Sp.ofV (by decide +kernel) (Nat.le_of_ble_eq_true rfl) ?_
  have hf : Fr h h := fun _ _ => rfl
  refine v_iload_n dX4_worthUnder_0 rfl ?_
  refine v_sipushI dX4_worthUnder_1 rfl ?_
  obtain ⟨q1, w⟩ := w
  refine v_icmp_neI (tgt := 9) dX4_worthUnder_4 (by decide) q1.1 q1.2 (by decide) (by decide) (fun c2 => ?_) (fun c2 => ?_)
  · replace w := w.1 c2
    refine v_iconstI dX4_worthUnder_9 ?_
    refine v_iload_n dX4_worthUnder_10 rfl ?_
    obtain ⟨q3, w⟩ := w
    refine v_callSp dX4_worthUnder_11 ml_X4_141 (sp_X8_xOf (a := a0) q3) rfl rfl (Nat.le_of_ble_eq_true rfl) (Nat.le_of_ble_eq_true rfl) (Nat.zero_le _) (Nat.zero_le _) ?_
    obtain ⟨q4, w⟩ := w
    refine v_maxI dX4_worthUnder_14 ml_X4_144 (Nat.le_of_ble_eq_true rfl) (Nat.le_of_ble_eq_true rfl) (Nat.zero_le _) (Nat.zero_le _) (by decide) (by decide) q4.1 q4.2 ?_
    refine v_istore_n dX4_worthUnder_17 (Nat.le_of_ble_eq_true rfl) ?_
    refine v_iconstI dX4_worthUnder_18 ?_
    refine v_iload_n dX4_worthUnder_19 rfl ?_
    refine v_callSp dX4_worthUnder_20 ml_X4_147 (sp_X8_yOf (a := a0) q3) rfl rfl (Nat.le_of_ble_eq_true rfl) (Nat.le_of_ble_eq_true rfl) (Nat.zero_le _) (Nat.zero_le _) ?_
    obtain ⟨q5, w⟩ := w
    refine v_maxI dX4_worthUnder_23 ml_X4_144 (Nat.le_of_ble_eq_true rfl) (Nat.le_of_ble_eq_true rfl) (Nat.zero_le _) (Nat.zero_le _) (by decide) (by decide) q5.1 q5.2 ?_
    refine v_istore_n dX4_worthUnder_26 (Nat.le_of_ble_eq_true rfl) ?_
    refine v_bipushI dX4_worthUnder_27 rfl ?_
    refine v_iload_n dX4_worthUnder_29 rfl ?_
    refine v_callSp dX4_worthUnder_30 ml_X4_141 (sp_X8_xOf (a := a0) q3) rfl rfl (Nat.le_of_ble_eq_true rfl) (Nat.le_of_ble_eq_true rfl) (Nat.zero_le _) (Nat.zero_le _) ?_
    refine v_aload_n dX4_worthUnder_33 rfl ?_
    refine v_get dX4_worthUnder_34 fl_X4_34 ((hp 60 (by decide)).trans (ent_60 _)) rfl (s_lt hn rfl) ?_
    refine v_aload_n dX4_worthUnder_37 rfl ?_
    refine v_get dX4_worthUnder_38 fl_X4_42 ((hp 60 (by decide)).trans (ent_60 _)) rfl (s_lt hn rfl) ?_
    refine v_get dX4_worthUnder_41 fl_X4_150 ((hp 58 (by decide)).trans (ent_58 _)) rfl (s_lt hn rfl) ?_
    refine v_iconstI dX4_worthUnder_44 ?_
    obtain ⟨q6, w⟩ := w
    refine v_callVp dX4_worthUnder_45 ml_X4_154 (sv_X3_cloudFact (a := (X 58 3)) (b := 0) (g1 := X 1) (g5 := X 5) hn (hp 1 (by decide)) (hp 5 (by decide)) q6 (by decide)) ((hp 1 (by decide)).trans (ent_1 _)) rfl (s_lt hn rfl) rfl rfl (Nat.le_of_ble_eq_true rfl) (Nat.le_of_ble_eq_true rfl) (Nat.zero_le _) (Nat.zero_le _) ?_
    refine v_iaddI dX4_worthUnder_48 ?_
    obtain ⟨q7, w⟩ := w
    refine v_minI dX4_worthUnder_49 ml_X4_102 (Nat.le_of_ble_eq_true rfl) (Nat.le_of_ble_eq_true rfl) (Nat.zero_le _) (Nat.zero_le _) (by decide) (by decide) q7.1 q7.2 ?_
    refine v_istore dX4_worthUnder_52 (Nat.le_of_ble_eq_true rfl) ?_
    refine v_bipushI dX4_worthUnder_54 rfl ?_
    refine v_iload_n dX4_worthUnder_56 rfl ?_
    refine v_callSp dX4_worthUnder_57 ml_X4_147 (sp_X8_yOf (a := a0) q3) rfl rfl (Nat.le_of_ble_eq_true rfl) (Nat.le_of_ble_eq_true rfl) (Nat.zero_le _) (Nat.zero_le _) ?_
    refine v_aload_n dX4_worthUnder_60 rfl ?_
    refine v_get dX4_worthUnder_61 fl_X4_34 ((hp 60 (by decide)).trans (ent_60 _)) rfl (s_lt hn rfl) ?_
    refine v_aload_n dX4_worthUnder_64 rfl ?_
    refine v_get dX4_worthUnder_65 fl_X4_42 ((hp 60 (by decide)).trans (ent_60 _)) rfl (s_lt hn rfl) ?_
    refine v_get dX4_worthUnder_68 fl_X4_150 ((hp 58 (by decide)).trans (ent_58 _)) rfl (s_lt hn rfl) ?_
    refine v_iconstI dX4_worthUnder_71 ?_
    refine v_callVp dX4_worthUnder_72 ml_X4_154 (sv_X3_cloudFact (a := (X 58 3)) (b := 1) (g1 := X 1) (g5 := X 5) hn (hp 1 (by decide)) (hp 5 (by decide)) q6 (by decide)) ((hp 1 (by decide)).trans (ent_1 _)) rfl (s_lt hn rfl) rfl rfl (Nat.le_of_ble_eq_true rfl) (Nat.le_of_ble_eq_true rfl) (Nat.zero_le _) (Nat.zero_le _) ?_
    refine v_iaddI dX4_worthUnder_75 ?_
    obtain ⟨q8, w⟩ := w
    refine v_minI dX4_worthUnder_76 ml_X4_102 (Nat.le_of_ble_eq_true rfl) (Nat.le_of_ble_eq_true rfl) (Nat.zero_le _) (Nat.zero_le _) (by decide) (by decide) q8.1 q8.2 ?_
    refine v_istore dX4_worthUnder_79 (Nat.le_of_ble_eq_true rfl) ?_
    refine v_iconstI dX4_worthUnder_81 ?_
    refine v_istore dX4_worthUnder_82 (Nat.le_of_ble_eq_true rfl) ?_
    refine v_iload_n dX4_worthUnder_84 rfl ?_
    refine v_istore dX4_worthUnder_85 (Nat.le_of_ble_eq_true rfl) ?_
    refine v_pick [6, 5, 3, 2, 1, 0] rfl ?_
    obtain ⟨I11, m12, wi15, wl14⟩ := w
    have hL16 : ∀ (N19 : Nat) (x9 : Int) (x10 : Int), m12 x9 x10 < N19 → I11 x9 x10 → V (m_X4_worthUnder, 2, 0, 0, n, pIr n h Q, s_G0) 0 0 n h 87 [(0, .ref 60), (2, .int (iI (max 0 (a0 % 24 - 8)))), (4, .int (iI (min 8 ((a0 % 24 - 8) + (X 5 ((X 58 3) * 5 + 0)))))), (5, .int (iI (min 8 ((a0 / 24 - 8) + (X 5 ((X 58 3) * 5 + 1)))))), (6, .int (iI x9)), (7, .int (iI x10))] [] := by
      intro N19
      induction N19 with
      | zero => intro x9 x10  hm17; exact absurd hm17 (Nat.not_lt_zero _)
      | succ N19 ih13 =>
        intro x9 x10  hm17 hI18
        have w := wl14 x9 x10 hI18
        refine v_iload dX4_worthUnder_87 rfl ?_
        refine v_iload dX4_worthUnder_89 rfl ?_
        obtain ⟨q20, q21, w⟩ := w
        refine v_icmp_geI (tgt := 134) dX4_worthUnder_91 (by decide) q20.1 q20.2 q21.1 q21.2 (fun c22 => ?_) (fun c22 => ?_)
        · replace w := w.1 c22
          refine v_iload dX4_worthUnder_134 rfl ?_
          exact v_iret dX4_worthUnder_136 rfl (Nat.zero_le _) (Nat.zero_le _) ⟨rfl, rfl, _, rfl, w⟩
        · replace w := w.2 c22
          refine v_iload_n dX4_worthUnder_94 rfl ?_
          refine v_istore dX4_worthUnder_95 (Nat.le_of_ble_eq_true rfl) ?_
          refine v_pick [1, 2, 3, 4, 5, 6, 0] rfl ?_
          obtain ⟨I25, m26, wi29, wl28⟩ := w
          have hL30 : ∀ (N33 : Nat) (x23 : Int) (x24 : Int), m26 x23 x24 < N33 → I25 x23 x24 → V (m_X4_worthUnder, 2, 0, 0, n, pIr n h Q, s_G0) 0 0 n h 97 [(0, .ref 60), (2, .int (iI (max 0 (a0 % 24 - 8)))), (4, .int (iI (min 8 ((a0 % 24 - 8) + (X 5 ((X 58 3) * 5 + 0)))))), (5, .int (iI (min 8 ((a0 / 24 - 8) + (X 5 ((X 58 3) * 5 + 1)))))), (6, .int (iI x23)), (7, .int (iI x10)), (8, .int (iI x24))] [] := by
            intro N33
            induction N33 with
            | zero => intro x23 x24  hm31; exact absurd hm31 (Nat.not_lt_zero _)
            | succ N33 ih27 =>
              intro x23 x24  hm31 hI32
              have w := wl28 x23 x24 hI32
              refine v_iload dX4_worthUnder_97 rfl ?_
              refine v_iload dX4_worthUnder_99 rfl ?_
              obtain ⟨q34, q35, w⟩ := w
              refine v_icmp_geI (tgt := 128) dX4_worthUnder_101 (by decide) q34.1 q34.2 q35.1 q35.2 (fun c36 => ?_) (fun c36 => ?_)
              · replace w := w.1 c36
                refine v_iincI dX4_worthUnder_128 rfl (Nat.le_of_ble_eq_true rfl) ?_
                refine v_goto (tgt := 87) dX4_worthUnder_131 (by decide) ?_
                refine v_pick [1, 2, 3, 4, 5, 0] rfl ?_
                exact ih13 _ _ (Nat.lt_of_lt_of_le w.2 (Nat.le_of_lt_succ hm17)) w.1
              · replace w := w.2 c36
                refine v_iload dX4_worthUnder_104 rfl ?_
                refine v_aload_n dX4_worthUnder_106 rfl ?_
                refine v_get dX4_worthUnder_107 fl_X4_22 ((hp 60 (by decide)).trans (ent_60 _)) rfl (s_lt hn rfl) ?_
                refine v_bipushI dX4_worthUnder_110 rfl ?_
                refine v_iload dX4_worthUnder_112 rfl ?_
                refine v_imulI dX4_worthUnder_114 ?_
                refine v_iload dX4_worthUnder_115 rfl ?_
                refine v_iaddI dX4_worthUnder_117 ?_
                obtain ⟨q37, w⟩ := w
                refine v_ialdI dX4_worthUnder_118 ((hp 64 (by decide)).trans (ent_64 _)) (s_lt hn rfl) q37.1 q37.2 (ix_le q37.2 (by decide)) ?_
                refine v_iaddI dX4_worthUnder_119 ?_
                refine v_istore dX4_worthUnder_120 (Nat.le_of_ble_eq_true rfl) ?_
                refine v_iincI dX4_worthUnder_122 rfl (Nat.le_of_ble_eq_true rfl) ?_
                refine v_goto (tgt := 97) dX4_worthUnder_125 (by decide) ?_
                refine v_pick [2, 3, 4, 5, 1, 6, 0] rfl ?_
                exact ih27 _ _ (Nat.lt_of_lt_of_le w.2 (Nat.le_of_lt_succ hm31)) w.1
          exact hL30 _ _ _ (Nat.lt_succ_self _) wi29
    exact hL16 _ _ _ (Nat.lt_succ_self _) wi15
  · replace w := w.2 c2
    refine v_iconstI dX4_worthUnder_7 ?_
    exact v_iret dX4_worthUnder_8 rfl (Nat.zero_le _) (Nat.zero_le _) ⟨rfl, rfl, _, rfl, w⟩
theorem dX4_yieldSlot_0 : decode cX4_yieldSlot 0 = .ok (.iload_n 0, 1) := by decide +kernel
theorem dX4_yieldSlot_1 : decode cX4_yieldSlot 1 = .ok (.iconst 1, 1) := by decide +kernel
theorem dX4_yieldSlot_2 : decode cX4_yieldSlot 2 = .ok (.iand, 1) := by decide +kernel
theorem dX4_yieldSlot_3 : decode cX4_yieldSlot 3 = .ok (.sipush 6924, 3) := by decide +kernel
theorem dX4_yieldSlot_6 : decode cX4_yieldSlot 6 = .ok (.imul, 1) := by decide +kernel
theorem dX4_yieldSlot_7 : decode cX4_yieldSlot 7 = .ok (.iload_n 1, 1) := by decide +kernel
theorem dX4_yieldSlot_8 : decode cX4_yieldSlot 8 = .ok (.bipush 12, 2) := by decide +kernel
theorem dX4_yieldSlot_10 : decode cX4_yieldSlot 10 = .ok (.imul, 1) := by decide +kernel
theorem dX4_yieldSlot_11 : decode cX4_yieldSlot 11 = .ok (.iadd, 1) := by decide +kernel
theorem dX4_yieldSlot_12 : decode cX4_yieldSlot 12 = .ok (.iload_n 2, 1) := by decide +kernel
theorem dX4_yieldSlot_13 : decode cX4_yieldSlot 13 = .ok (.iadd, 1) := by decide +kernel
theorem dX4_yieldSlot_14 : decode cX4_yieldSlot 14 = .ok (.ireturn, 1) := by decide +kernel
def w_X4_yieldSlot (a0 a1 a2 : Int) (X : XT) (Q : Int → Prop) : Prop :=
  Q ((((oAnd a0 1) * 6924) + (a1 * 12)) + a2)
set_option maxRecDepth 20000 in
theorem so_X4_yieldSlot {n : Nat} {h : Nat → sE} {X : XT} {a0 a1 a2 : Int} {Q : Int → Prop} (hn : 115 ≤ n) (hp : Pic X h) (w : w_X4_yieldSlot  a0 a1 a2 X Q) : Sp m_X4_yieldSlot 0 0 0 [.int (iI a0), .int (iI a1), .int (iI a2)] n h (pIr n h Q) := by
  unfold w_X4_yieldSlot at w
  refine Sp.ofV (by decide +kernel) (Nat.le_of_ble_eq_true rfl) ?_
  have hf : Fr h h := fun _ _ => rfl
  refine v_iload_n dX4_yieldSlot_0 rfl ?_
  refine v_iconstI dX4_yieldSlot_1 ?_
  refine v_iandI dX4_yieldSlot_2 ?_
  refine v_sipushI dX4_yieldSlot_3 rfl ?_
  refine v_imulI dX4_yieldSlot_6 ?_
  refine v_iload_n dX4_yieldSlot_7 rfl ?_
  refine v_bipushI dX4_yieldSlot_8 rfl ?_
  refine v_imulI dX4_yieldSlot_10 ?_
  refine v_iaddI dX4_yieldSlot_11 ?_
  refine v_iload_n dX4_yieldSlot_12 rfl ?_
  refine v_iaddI dX4_yieldSlot_13 ?_
  exact v_iret dX4_yieldSlot_14 rfl (Nat.zero_le _) (Nat.zero_le _) ⟨rfl, rfl, _, rfl, w⟩
theorem dX4_yieldOf_0 : decode cX4_yieldOf 0 = .ok (.iload_n 1, 1) := by decide +kernel
theorem dX4_yieldOf_1 : decode cX4_yieldOf 1 = .ok (.iload_n 2, 1) := by decide +kernel
theorem dX4_yieldOf_2 : decode cX4_yieldOf 2 = .ok (.iload_n 3, 1) := by decide +kernel
theorem dX4_yieldOf_3 : decode cX4_yieldOf 3 = .ok (.invokestatic 138, 3) := by decide +kernel
theorem dX4_yieldOf_6 : decode cX4_yieldOf 6 = .ok (.istore 4, 2) := by decide +kernel
theorem dX4_yieldOf_8 : decode cX4_yieldOf 8 = .ok (.iload 4, 2) := by decide +kernel
theorem dX4_yieldOf_10 : decode cX4_yieldOf 10 = .ok (.ifCond .lt 23, 3) := by decide +kernel
theorem dX4_yieldOf_13 : decode cX4_yieldOf 13 = .ok (.iload 4, 2) := by decide +kernel
theorem dX4_yieldOf_15 : decode cX4_yieldOf 15 = .ok (.aload_n 0, 1) := by decide +kernel
theorem dX4_yieldOf_16 : decode cX4_yieldOf 16 = .ok (.getfield 15, 3) := by decide +kernel
theorem dX4_yieldOf_19 : decode cX4_yieldOf 19 = .ok (.arraylength, 1) := by decide +kernel
theorem dX4_yieldOf_20 : decode cX4_yieldOf 20 = .ok (.if_icmp .ge 13, 3) := by decide +kernel
theorem dX4_yieldOf_23 : decode cX4_yieldOf 23 = .ok (.aload_n 0, 1) := by decide +kernel
theorem dX4_yieldOf_24 : decode cX4_yieldOf 24 = .ok (.getfield 15, 3) := by decide +kernel
theorem dX4_yieldOf_27 : decode cX4_yieldOf 27 = .ok (.iload 4, 2) := by decide +kernel
theorem dX4_yieldOf_29 : decode cX4_yieldOf 29 = .ok (.iaload, 1) := by decide +kernel
theorem dX4_yieldOf_30 : decode cX4_yieldOf 30 = .ok (.goto 4, 3) := by decide +kernel
theorem dX4_yieldOf_33 : decode cX4_yieldOf 33 = .ok (.iconst 0, 1) := by decide +kernel
theorem dX4_yieldOf_34 : decode cX4_yieldOf 34 = .ok (.ireturn, 1) := by decide +kernel
def w_X4_yieldOf (a0 a1 a2 : Int) (X : XT) (Q : Int → Prop) : Prop :=
  w_X4_yieldSlot  a0 a1 a2 X (fun (v1 : Int) => R32 v1 ∧ (v1 < 0 → Q 0) ∧ (¬ v1 < 0 → (13848 ≤ v1 → Q 0) ∧ (¬ 13848 ≤ v1 → (0 ≤ v1 ∧ v1 < 13848) ∧ Q (X 62 v1))))
set_option maxRecDepth 20000 in
theorem so_X4_yieldOf {n : Nat} {h : Nat → sE} {X : XT} {a0 a1 a2 : Int} {Q : Int → Prop} (hn : 115 ≤ n) (hp : Pic X h) (w : w_X4_yieldOf  a0 a1 a2 X Q) : Sp m_X4_yieldOf 1 0 0 [.ref 60, .int (iI a0), .int (iI a1), .int (iI a2)] n h (pIr n h Q) := by
  unfold w_X4_yieldOf at w
  refine Sp.ofV (by decide +kernel) (Nat.le_of_ble_eq_true rfl) ?_
  have hf : Fr h h := fun _ _ => rfl
  refine v_iload_n dX4_yieldOf_0 rfl ?_
  refine v_iload_n dX4_yieldOf_1 rfl ?_
  refine v_iload_n dX4_yieldOf_2 rfl ?_
  refine v_callSIr dX4_yieldOf_3 ml_X4_138 (so_X4_yieldSlot hn hp  w) rfl rfl (Nat.le_of_ble_eq_true rfl) (Nat.le_of_ble_eq_true rfl) (Nat.zero_le _) (Nat.zero_le _) (fun v1 w => ?_)
  refine v_istore dX4_yieldOf_6 (Nat.le_of_ble_eq_true rfl) ?_
  refine v_iload dX4_yieldOf_8 rfl ?_
  obtain ⟨q7, w⟩ := w
  refine v_if_ltI (tgt := 33) dX4_yieldOf_10 (by decide) q7.1 q7.2 (fun c8 => ?_) (fun c8 => ?_)
  · replace w := w.1 c8
    refine v_iconstI dX4_yieldOf_33 ?_
    exact v_iret dX4_yieldOf_34 rfl (Nat.zero_le _) (Nat.zero_le _) ⟨rfl, rfl, _, rfl, w⟩
  · replace w := w.2 c8
    refine v_iload dX4_yieldOf_13 rfl ?_
    refine v_aload_n dX4_yieldOf_15 rfl ?_
    refine v_get dX4_yieldOf_16 fl_X4_15 ((hp 60 (by decide)).trans (ent_60 _)) rfl (s_lt hn rfl) ?_
    refine v_alen_aI dX4_yieldOf_19 ((hp 62 (by decide)).trans (ent_62 _)) (s_lt hn rfl) ?_
    refine v_icmp_geI (tgt := 33) dX4_yieldOf_20 (by decide) q7.1 q7.2 (by decide) (by decide) (fun c9 => ?_) (fun c9 => ?_)
    · replace w := w.1 c9
      refine v_iconstI dX4_yieldOf_33 ?_
      exact v_iret dX4_yieldOf_34 rfl (Nat.zero_le _) (Nat.zero_le _) ⟨rfl, rfl, _, rfl, w⟩
    · replace w := w.2 c9
      refine v_aload_n dX4_yieldOf_23 rfl ?_
      refine v_get dX4_yieldOf_24 fl_X4_15 ((hp 60 (by decide)).trans (ent_60 _)) rfl (s_lt hn rfl) ?_
      refine v_iload dX4_yieldOf_27 rfl ?_
      obtain ⟨q10, w⟩ := w
      refine v_ialdI dX4_yieldOf_29 ((hp 62 (by decide)).trans (ent_62 _)) (s_lt hn rfl) q10.1 q10.2 (ix_le q10.2 (by decide)) ?_
      refine v_goto (tgt := 34) dX4_yieldOf_30 (by decide) ?_
      exact v_iret dX4_yieldOf_34 rfl (Nat.zero_le _) (Nat.zero_le _) ⟨rfl, rfl, _, rfl, w⟩
theorem dX4_yieldBy_0 : decode cX4_yieldBy 0 = .ok (.iload 4, 2) := by decide +kernel
theorem dX4_yieldBy_2 : decode cX4_yieldBy 2 = .ok (.iconst 4, 1) := by decide +kernel
theorem dX4_yieldBy_3 : decode cX4_yieldBy 3 = .ok (.if_icmp .ne 7, 3) := by decide +kernel
theorem dX4_yieldBy_6 : decode cX4_yieldBy 6 = .ok (.iconst 0, 1) := by decide +kernel
theorem dX4_yieldBy_7 : decode cX4_yieldBy 7 = .ok (.goto 4, 3) := by decide +kernel
theorem dX4_yieldBy_10 : decode cX4_yieldBy 10 = .ok (.iconst 1, 1) := by decide +kernel
theorem dX4_yieldBy_11 : decode cX4_yieldBy 11 = .ok (.istore 5, 2) := by decide +kernel
theorem dX4_yieldBy_13 : decode cX4_yieldBy 13 = .ok (.aload_n 0, 1) := by decide +kernel
theorem dX4_yieldBy_14 : decode cX4_yieldBy 14 = .ok (.iload_n 1, 1) := by decide +kernel
theorem dX4_yieldBy_15 : decode cX4_yieldBy 15 = .ok (.iconst 1, 1) := by decide +kernel
theorem dX4_yieldBy_16 : decode cX4_yieldBy 16 = .ok (.iadd, 1) := by decide +kernel
theorem dX4_yieldBy_17 : decode cX4_yieldBy 17 = .ok (.aload_n 0, 1) := by decide +kernel
theorem dX4_yieldBy_18 : decode cX4_yieldBy 18 = .ok (.getfield 42, 3) := by decide +kernel
theorem dX4_yieldBy_21 : decode cX4_yieldBy 21 = .ok (.iload_n 1, 1) := by decide +kernel
theorem dX4_yieldBy_22 : decode cX4_yieldBy 22 = .ok (.iload_n 2, 1) := by decide +kernel
theorem dX4_yieldBy_23 : decode cX4_yieldBy 23 = .ok (.iload 4, 2) := by decide +kernel
theorem dX4_yieldBy_25 : decode cX4_yieldBy 25 = .ok (.iconst 4, 1) := by decide +kernel
theorem dX4_yieldBy_26 : decode cX4_yieldBy 26 = .ok (.iconst 0, 1) := by decide +kernel
theorem dX4_yieldBy_27 : decode cX4_yieldBy 27 = .ok (.invokevirtual 107, 3) := by decide +kernel
theorem dX4_yieldBy_30 : decode cX4_yieldBy 30 = .ok (.iload_n 3, 1) := by decide +kernel
theorem dX4_yieldBy_31 : decode cX4_yieldBy 31 = .ok (.iload 5, 2) := by decide +kernel
theorem dX4_yieldBy_33 : decode cX4_yieldBy 33 = .ok (.isub, 1) := by decide +kernel
theorem dX4_yieldBy_34 : decode cX4_yieldBy 34 = .ok (.invokevirtual 123, 3) := by decide +kernel
theorem dX4_yieldBy_37 : decode cX4_yieldBy 37 = .ok (.ireturn, 1) := by decide +kernel
def w_X4_yieldBy (a0 a1 a2 a3 : Int) (X : XT) (Q : Int → Prop) : Prop :=
  ∀ J2 : Int → Prop, (∀ (v1 : Int), (w_X2_onward  a0 a1 a3 4 0 X (fun (v3 : Int) => w_X4_yieldOf  (a0 + 1) v3 (a2 - v1) X (fun (v9 : Int) => Q v9))) → J2 v1) → R32 a3 ∧ (¬ a3 = 4 → J2 1) ∧ (a3 = 4 → J2 0)
set_option maxRecDepth 20000 in
theorem so_X4_yieldBy {n : Nat} {h : Nat → sE} {X : XT} {a0 a1 a2 a3 : Int} {Q : Int → Prop} (hn : 115 ≤ n) (hp : Pic X h) (w : w_X4_yieldBy  a0 a1 a2 a3 X Q) : Sp m_X4_yieldBy 3 0 0 [.ref 60, .int (iI a0), .int (iI a1), .int (iI a2), .int (iI a3)] n h (pIr n h Q) := by
  unfold w_X4_yieldBy at w
  refine Sp.ofV (by decide +kernel) (Nat.le_of_ble_eq_true rfl) ?_
  have hf : Fr h h := fun _ _ => rfl
  refine v_iload dX4_yieldBy_0 rfl ?_
  refine v_iconstI dX4_yieldBy_2 ?_
  replace w := w (fun (v1 : Int) => V (m_X4_yieldBy, 3, 0, 0, n, pIr n h Q, s_G0) 0 0 n h 11 [(0, .ref 60), (1, .int (iI a0)), (2, .int (iI a1)), (3, .int (iI a2)), (4, .int (iI a3))] [.int (iI v1)]) (by
    intro v1 w
    refine v_istore dX4_yieldBy_11 (Nat.le_of_ble_eq_true rfl) ?_
    refine v_aload_n dX4_yieldBy_13 rfl ?_
    refine v_iload_n dX4_yieldBy_14 rfl ?_
    refine v_iconstI dX4_yieldBy_15 ?_
    refine v_iaddI dX4_yieldBy_16 ?_
    refine v_aload_n dX4_yieldBy_17 rfl ?_
    refine v_get dX4_yieldBy_18 fl_X4_42 ((hp 60 (by decide)).trans (ent_60 _)) rfl (s_lt hn rfl) ?_
    refine v_iload_n dX4_yieldBy_21 rfl ?_
    refine v_iload_n dX4_yieldBy_22 rfl ?_
    refine v_iload dX4_yieldBy_23 rfl ?_
    refine v_iconstI dX4_yieldBy_25 ?_
    refine v_iconstI dX4_yieldBy_26 ?_
    refine v_callVIr dX4_yieldBy_27 ml_X4_107 (so_X2_onward hn hp  w) ((hp 58 (by decide)).trans (ent_58 _)) rfl (s_lt hn rfl) rfl rfl (Nat.le_of_ble_eq_true rfl) (Nat.le_of_ble_eq_true rfl) (Nat.zero_le _) (Nat.zero_le _) (fun v3 w => ?_)
    refine v_iload_n dX4_yieldBy_30 rfl ?_
    refine v_iload dX4_yieldBy_31 rfl ?_
    refine v_isubI dX4_yieldBy_33 ?_
    refine v_callVIr dX4_yieldBy_34 ml_X4_123 (so_X4_yieldOf hn hp  w) ((hp 60 (by decide)).trans (ent_60 _)) rfl (s_lt hn rfl) rfl rfl (Nat.le_of_ble_eq_true rfl) (Nat.le_of_ble_eq_true rfl) (Nat.zero_le _) (Nat.zero_le _) (fun v9 w => ?_)
    exact v_iret dX4_yieldBy_37 rfl (Nat.zero_le _) (Nat.zero_le _) ⟨rfl, rfl, _, rfl, w⟩
  )
  obtain ⟨q15, w⟩ := w
  refine v_icmp_neI (tgt := 10) dX4_yieldBy_3 (by decide) q15.1 q15.2 (by decide) (by decide) (fun c16 => ?_) (fun c16 => ?_)
  · replace w := w.1 c16
    refine v_iconstI dX4_yieldBy_10 ?_
    exact w
  · replace w := w.2 c16
    refine v_iconstI dX4_yieldBy_6 ?_
    refine v_goto (tgt := 11) dX4_yieldBy_7 (by decide) ?_
    exact w
theorem dX4_richStep_0 : decode cX4_richStep 0 = .ok (.iconst (-1), 1) := by decide +kernel
theorem dX4_richStep_1 : decode cX4_richStep 1 = .ok (.istore 4, 2) := by decide +kernel
theorem dX4_richStep_3 : decode cX4_richStep 3 = .ok (.iconst 4, 1) := by decide +kernel
theorem dX4_richStep_4 : decode cX4_richStep 4 = .ok (.istore 5, 2) := by decide +kernel
theorem dX4_richStep_6 : decode cX4_richStep 6 = .ok (.iload_n 3, 1) := by decide +kernel
theorem dX4_richStep_7 : decode cX4_richStep 7 = .ok (.ifCond .le 7, 3) := by decide +kernel
theorem dX4_richStep_10 : decode cX4_richStep 10 = .ok (.iconst 0, 1) := by decide +kernel
theorem dX4_richStep_11 : decode cX4_richStep 11 = .ok (.goto 4, 3) := by decide +kernel
theorem dX4_richStep_14 : decode cX4_richStep 14 = .ok (.iconst 4, 1) := by decide +kernel
theorem dX4_richStep_15 : decode cX4_richStep 15 = .ok (.istore 6, 2) := by decide +kernel
theorem dX4_richStep_17 : decode cX4_richStep 17 = .ok (.iload 6, 2) := by decide +kernel
theorem dX4_richStep_19 : decode cX4_richStep 19 = .ok (.iconst 4, 1) := by decide +kernel
theorem dX4_richStep_20 : decode cX4_richStep 20 = .ok (.if_icmp .gt 35, 3) := by decide +kernel
theorem dX4_richStep_23 : decode cX4_richStep 23 = .ok (.aload_n 0, 1) := by decide +kernel
theorem dX4_richStep_24 : decode cX4_richStep 24 = .ok (.iload_n 1, 1) := by decide +kernel
theorem dX4_richStep_25 : decode cX4_richStep 25 = .ok (.iload_n 2, 1) := by decide +kernel
theorem dX4_richStep_26 : decode cX4_richStep 26 = .ok (.iload_n 3, 1) := by decide +kernel
theorem dX4_richStep_27 : decode cX4_richStep 27 = .ok (.iload 6, 2) := by decide +kernel
theorem dX4_richStep_29 : decode cX4_richStep 29 = .ok (.invokevirtual 135, 3) := by decide +kernel
theorem dX4_richStep_32 : decode cX4_richStep 32 = .ok (.istore 7, 2) := by decide +kernel
theorem dX4_richStep_34 : decode cX4_richStep 34 = .ok (.iload 7, 2) := by decide +kernel
theorem dX4_richStep_36 : decode cX4_richStep 36 = .ok (.iload 4, 2) := by decide +kernel
theorem dX4_richStep_38 : decode cX4_richStep 38 = .ok (.if_icmp .le 11, 3) := by decide +kernel
theorem dX4_richStep_41 : decode cX4_richStep 41 = .ok (.iload 7, 2) := by decide +kernel
theorem dX4_richStep_43 : decode cX4_richStep 43 = .ok (.istore 4, 2) := by decide +kernel
theorem dX4_richStep_45 : decode cX4_richStep 45 = .ok (.iload 6, 2) := by decide +kernel
theorem dX4_richStep_47 : decode cX4_richStep 47 = .ok (.istore 5, 2) := by decide +kernel
theorem dX4_richStep_49 : decode cX4_richStep 49 = .ok (.iinc 6 1, 3) := by decide +kernel
theorem dX4_richStep_52 : decode cX4_richStep 52 = .ok (.goto (-35), 3) := by decide +kernel
theorem dX4_richStep_55 : decode cX4_richStep 55 = .ok (.iload 5, 2) := by decide +kernel
theorem dX4_richStep_57 : decode cX4_richStep 57 = .ok (.ireturn, 1) := by decide +kernel
def w_X4_richStep (a0 a1 a2 : Int) (X : XT) (Q : Int → Prop) : Prop :=
  ∀ J2 : Int → Prop, (∀ (v1 : Int), (∃ (I6 : Int → Int → Int → Prop) (m7 : Int → Int → Int → Nat), I6 (-1) 4 v1 ∧ ∀ (x3 : Int) (x4 : Int) (x5 : Int), I6 x3 x4 x5 → R32 x5 ∧ (4 < x5 → Q x4) ∧ (¬ 4 < x5 → w_X4_yieldBy  a0 a1 a2 x5 X (fun (v17 : Int) => R32 v17 ∧ R32 x3 ∧ (v17 ≤ x3 → I6 x3 x4 (x5 + 1) ∧ m7 x3 x4 (x5 + 1) < m7 x3 x4 x5) ∧ (¬ v17 ≤ x3 → I6 v17 x5 (x5 + 1) ∧ m7 v17 x5 (x5 + 1) < m7 x3 x4 x5)))) → J2 v1) → R32 a2 ∧ (a2 ≤ 0 → J2 4) ∧ (¬ a2 ≤ 0 → J2 0)
set_option maxRecDepth 20000 in
theorem so_X4_richStep {n : Nat} {h : Nat → sE} {X : XT} {a0 a1 a2 : Int} {Q : Int → Prop} (hn : 115 ≤ n) (hp : Pic X h) (w : w_X4_richStep  a0 a1 a2 X Q) : Sp m_X4_richStep 4 0 0 [.ref 60, .int (iI a0), .int (iI a1), .int (iI a2)] n h (pIr n h Q) := by
  unfold w_X4_richStep at w
  refine Sp.ofV (by decide +kernel) (Nat.le_of_ble_eq_true rfl) ?_
  have hf : Fr h h := fun _ _ => rfl
  refine v_iconstI dX4_richStep_0 ?_
  refine v_istore dX4_richStep_1 (Nat.le_of_ble_eq_true rfl) ?_
  refine v_iconstI dX4_richStep_3 ?_
  refine v_istore dX4_richStep_4 (Nat.le_of_ble_eq_true rfl) ?_
  refine v_iload_n dX4_richStep_6 rfl ?_
  replace w := w (fun (v1 : Int) => V (m_X4_richStep, 4, 0, 0, n, pIr n h Q, s_G0) 0 0 n h 15 [(0, .ref 60), (1, .int (iI a0)), (2, .int (iI a1)), (3, .int (iI a2)), (4, .int (iI (-1))), (5, .int (iI 4))] [.int (iI v1)]) (by
    intro v1 w
    refine v_istore dX4_richStep_15 (Nat.le_of_ble_eq_true rfl) ?_
    refine v_pick [1, 2, 3, 4, 5, 6, 0] rfl ?_
    obtain ⟨I6, m7, wi10, wl9⟩ := w
    have hL11 : ∀ (N14 : Nat) (x3 : Int) (x4 : Int) (x5 : Int), m7 x3 x4 x5 < N14 → I6 x3 x4 x5 → V (m_X4_richStep, 4, 0, 0, n, pIr n h Q, s_G0) 0 0 n h 17 [(0, .ref 60), (1, .int (iI a0)), (2, .int (iI a1)), (3, .int (iI a2)), (4, .int (iI x3)), (5, .int (iI x4)), (6, .int (iI x5))] [] := by
      intro N14
      induction N14 with
      | zero => intro x3 x4 x5  hm12; exact absurd hm12 (Nat.not_lt_zero _)
      | succ N14 ih8 =>
        intro x3 x4 x5  hm12 hI13
        have w := wl9 x3 x4 x5 hI13
        refine v_iload dX4_richStep_17 rfl ?_
        refine v_iconstI dX4_richStep_19 ?_
        obtain ⟨q15, w⟩ := w
        refine v_icmp_gtI (tgt := 55) dX4_richStep_20 (by decide) q15.1 q15.2 (by decide) (by decide) (fun c16 => ?_) (fun c16 => ?_)
        · replace w := w.1 c16
          refine v_iload dX4_richStep_55 rfl ?_
          exact v_iret dX4_richStep_57 rfl (Nat.zero_le _) (Nat.zero_le _) ⟨rfl, rfl, _, rfl, w⟩
        · replace w := w.2 c16
          refine v_aload_n dX4_richStep_23 rfl ?_
          refine v_iload_n dX4_richStep_24 rfl ?_
          refine v_iload_n dX4_richStep_25 rfl ?_
          refine v_iload_n dX4_richStep_26 rfl ?_
          refine v_iload dX4_richStep_27 rfl ?_
          refine v_callVIr dX4_richStep_29 ml_X4_135 (so_X4_yieldBy hn hp  w) ((hp 60 (by decide)).trans (ent_60 _)) rfl (s_lt hn rfl) rfl rfl (Nat.le_of_ble_eq_true rfl) (Nat.le_of_ble_eq_true rfl) (Nat.zero_le _) (Nat.zero_le _) (fun v17 w => ?_)
          refine v_istore dX4_richStep_32 (Nat.le_of_ble_eq_true rfl) ?_
          refine v_iload dX4_richStep_34 rfl ?_
          refine v_iload dX4_richStep_36 rfl ?_
          obtain ⟨q23, q24, w⟩ := w
          refine v_icmp_leI (tgt := 49) dX4_richStep_38 (by decide) q23.1 q23.2 q24.1 q24.2 (fun c25 => ?_) (fun c25 => ?_)
          · replace w := w.1 c25
            refine v_iincI dX4_richStep_49 rfl (Nat.le_of_ble_eq_true rfl) ?_
            refine v_goto (tgt := 17) dX4_richStep_52 (by decide) ?_
            refine v_pick [2, 3, 4, 5, 6, 7, 0] rfl ?_
            exact ih8 _ _ _ (Nat.lt_of_lt_of_le w.2 (Nat.le_of_lt_succ hm12)) w.1
          · replace w := w.2 c25
            refine v_iload dX4_richStep_41 rfl ?_
            refine v_istore dX4_richStep_43 (Nat.le_of_ble_eq_true rfl) ?_
            refine v_iload dX4_richStep_45 rfl ?_
            refine v_istore dX4_richStep_47 (Nat.le_of_ble_eq_true rfl) ?_
            refine v_iincI dX4_richStep_49 rfl (Nat.le_of_ble_eq_true rfl) ?_
            refine v_goto (tgt := 17) dX4_richStep_52 (by decide) ?_
            refine v_pick [4, 5, 6, 7, 2, 1, 0] rfl ?_
            exact ih8 _ _ _ (Nat.lt_of_lt_of_le w.2 (Nat.le_of_lt_succ hm12)) w.1
    exact hL11 _ _ _ _ (Nat.lt_succ_self _) wi10
  )
  obtain ⟨q26, w⟩ := w
  refine v_if_leI (tgt := 14) dX4_richStep_7 (by decide) q26.1 q26.2 (fun c27 => ?_) (fun c27 => ?_)
  · replace w := w.1 c27
    refine v_iconstI dX4_richStep_14 ?_
    refine v_pick [2, 3, 4, 5, 1, 0] rfl ?_
    exact w
  · replace w := w.2 c27
    refine v_iconstI dX4_richStep_10 ?_
    refine v_goto (tgt := 15) dX4_richStep_11 (by decide) ?_
    refine v_pick [2, 3, 4, 5, 1, 0] rfl ?_
    exact w
theorem dX4_graze_0 : decode cX4_graze 0 = .ok (.aload_n 0, 1) := by decide +kernel
theorem dX4_graze_1 : decode cX4_graze 1 = .ok (.iload_n 2, 1) := by decide +kernel
theorem dX4_graze_2 : decode cX4_graze 2 = .ok (.invokevirtual 129, 3) := by decide +kernel
theorem dX4_graze_5 : decode cX4_graze 5 = .ok (.istore 4, 2) := by decide +kernel
theorem dX4_graze_7 : decode cX4_graze 7 = .ok (.lconst 0, 1) := by decide +kernel
theorem dX4_graze_8 : decode cX4_graze 8 = .ok (.lstore 5, 2) := by decide +kernel
theorem dX4_graze_10 : decode cX4_graze 10 = .ok (.iconst 0, 1) := by decide +kernel
theorem dX4_graze_11 : decode cX4_graze 11 = .ok (.istore 7, 2) := by decide +kernel
theorem dX4_graze_13 : decode cX4_graze 13 = .ok (.iload 7, 2) := by decide +kernel
theorem dX4_graze_15 : decode cX4_graze 15 = .ok (.iload_n 3, 1) := by decide +kernel
theorem dX4_graze_16 : decode cX4_graze 16 = .ok (.if_icmp .gt 100, 3) := by decide +kernel
theorem dX4_graze_19 : decode cX4_graze 19 = .ok (.iload_n 1, 1) := by decide +kernel
theorem dX4_graze_20 : decode cX4_graze 20 = .ok (.bipush 11, 2) := by decide +kernel
theorem dX4_graze_22 : decode cX4_graze 22 = .ok (.if_icmp .ge 14, 3) := by decide +kernel
theorem dX4_graze_25 : decode cX4_graze 25 = .ok (.aload_n 0, 1) := by decide +kernel
theorem dX4_graze_26 : decode cX4_graze 26 = .ok (.iload_n 1, 1) := by decide +kernel
theorem dX4_graze_27 : decode cX4_graze 27 = .ok (.iload_n 2, 1) := by decide +kernel
theorem dX4_graze_28 : decode cX4_graze 28 = .ok (.iload 7, 2) := by decide +kernel
theorem dX4_graze_30 : decode cX4_graze 30 = .ok (.invokevirtual 132, 3) := by decide +kernel
theorem dX4_graze_33 : decode cX4_graze 33 = .ok (.goto 4, 3) := by decide +kernel
theorem dX4_graze_36 : decode cX4_graze 36 = .ok (.iconst 4, 1) := by decide +kernel
theorem dX4_graze_37 : decode cX4_graze 37 = .ok (.istore 8, 2) := by decide +kernel
theorem dX4_graze_39 : decode cX4_graze 39 = .ok (.iload_n 1, 1) := by decide +kernel
theorem dX4_graze_40 : decode cX4_graze 40 = .ok (.bipush 11, 2) := by decide +kernel
theorem dX4_graze_42 : decode cX4_graze 42 = .ok (.if_icmp .ge 16, 3) := by decide +kernel
theorem dX4_graze_45 : decode cX4_graze 45 = .ok (.aload_n 0, 1) := by decide +kernel
theorem dX4_graze_46 : decode cX4_graze 46 = .ok (.iload_n 1, 1) := by decide +kernel
theorem dX4_graze_47 : decode cX4_graze 47 = .ok (.iload_n 2, 1) := by decide +kernel
theorem dX4_graze_48 : decode cX4_graze 48 = .ok (.iload 7, 2) := by decide +kernel
theorem dX4_graze_50 : decode cX4_graze 50 = .ok (.iload 8, 2) := by decide +kernel
theorem dX4_graze_52 : decode cX4_graze 52 = .ok (.invokevirtual 135, 3) := by decide +kernel
theorem dX4_graze_55 : decode cX4_graze 55 = .ok (.goto 4, 3) := by decide +kernel
theorem dX4_graze_58 : decode cX4_graze 58 = .ok (.iconst 0, 1) := by decide +kernel
theorem dX4_graze_59 : decode cX4_graze 59 = .ok (.istore 9, 2) := by decide +kernel
theorem dX4_graze_61 : decode cX4_graze 61 = .ok (.lload 5, 2) := by decide +kernel
theorem dX4_graze_63 : decode cX4_graze 63 = .ok (.iload 8, 2) := by decide +kernel
theorem dX4_graze_65 : decode cX4_graze 65 = .ok (.i2l, 1) := by decide +kernel
theorem dX4_graze_66 : decode cX4_graze 66 = .ok (.iconst 3, 1) := by decide +kernel
theorem dX4_graze_67 : decode cX4_graze 67 = .ok (.iload 7, 2) := by decide +kernel
theorem dX4_graze_69 : decode cX4_graze 69 = .ok (.imul, 1) := by decide +kernel
theorem dX4_graze_70 : decode cX4_graze 70 = .ok (.lshl, 1) := by decide +kernel
theorem dX4_graze_71 : decode cX4_graze 71 = .ok (.lor, 1) := by decide +kernel
theorem dX4_graze_72 : decode cX4_graze 72 = .ok (.lstore 5, 2) := by decide +kernel
theorem dX4_graze_74 : decode cX4_graze 74 = .ok (.iload_n 1, 1) := by decide +kernel
theorem dX4_graze_75 : decode cX4_graze 75 = .ok (.iload_n 2, 1) := by decide +kernel
theorem dX4_graze_76 : decode cX4_graze 76 = .ok (.iload 7, 2) := by decide +kernel
theorem dX4_graze_78 : decode cX4_graze 78 = .ok (.invokestatic 138, 3) := by decide +kernel
theorem dX4_graze_81 : decode cX4_graze 81 = .ok (.istore 10, 2) := by decide +kernel
theorem dX4_graze_83 : decode cX4_graze 83 = .ok (.iload 10, 2) := by decide +kernel
theorem dX4_graze_85 : decode cX4_graze 85 = .ok (.ifCond .lt 25, 3) := by decide +kernel
theorem dX4_graze_88 : decode cX4_graze 88 = .ok (.iload 10, 2) := by decide +kernel
theorem dX4_graze_90 : decode cX4_graze 90 = .ok (.aload_n 0, 1) := by decide +kernel
theorem dX4_graze_91 : decode cX4_graze 91 = .ok (.getfield 15, 3) := by decide +kernel
theorem dX4_graze_94 : decode cX4_graze 94 = .ok (.arraylength, 1) := by decide +kernel
theorem dX4_graze_95 : decode cX4_graze 95 = .ok (.if_icmp .ge 15, 3) := by decide +kernel
theorem dX4_graze_98 : decode cX4_graze 98 = .ok (.aload_n 0, 1) := by decide +kernel
theorem dX4_graze_99 : decode cX4_graze 99 = .ok (.getfield 15, 3) := by decide +kernel
theorem dX4_graze_102 : decode cX4_graze 102 = .ok (.iload 10, 2) := by decide +kernel
theorem dX4_graze_104 : decode cX4_graze 104 = .ok (.iload 4, 2) := by decide +kernel
theorem dX4_graze_106 : decode cX4_graze 106 = .ok (.iload 9, 2) := by decide +kernel
theorem dX4_graze_108 : decode cX4_graze 108 = .ok (.iadd, 1) := by decide +kernel
theorem dX4_graze_109 : decode cX4_graze 109 = .ok (.iastore, 1) := by decide +kernel
theorem dX4_graze_110 : decode cX4_graze 110 = .ok (.iinc 7 1, 3) := by decide +kernel
theorem dX4_graze_113 : decode cX4_graze 113 = .ok (.goto (-100), 3) := by decide +kernel
theorem dX4_graze_116 : decode cX4_graze 116 = .ok (.iload_n 1, 1) := by decide +kernel
theorem dX4_graze_117 : decode cX4_graze 117 = .ok (.iload_n 2, 1) := by decide +kernel
theorem dX4_graze_118 : decode cX4_graze 118 = .ok (.invokestatic 89, 3) := by decide +kernel
theorem dX4_graze_121 : decode cX4_graze 121 = .ok (.istore 7, 2) := by decide +kernel
theorem dX4_graze_123 : decode cX4_graze 123 = .ok (.iload 7, 2) := by decide +kernel
theorem dX4_graze_125 : decode cX4_graze 125 = .ok (.ifCond .lt 22, 3) := by decide +kernel
theorem dX4_graze_128 : decode cX4_graze 128 = .ok (.iload 7, 2) := by decide +kernel
theorem dX4_graze_130 : decode cX4_graze 130 = .ok (.aload_n 0, 1) := by decide +kernel
theorem dX4_graze_131 : decode cX4_graze 131 = .ok (.getfield 18, 3) := by decide +kernel
theorem dX4_graze_134 : decode cX4_graze 134 = .ok (.arraylength, 1) := by decide +kernel
theorem dX4_graze_135 : decode cX4_graze 135 = .ok (.if_icmp .ge 12, 3) := by decide +kernel
theorem dX4_graze_138 : decode cX4_graze 138 = .ok (.aload_n 0, 1) := by decide +kernel
theorem dX4_graze_139 : decode cX4_graze 139 = .ok (.getfield 18, 3) := by decide +kernel
theorem dX4_graze_142 : decode cX4_graze 142 = .ok (.iload 7, 2) := by decide +kernel
theorem dX4_graze_144 : decode cX4_graze 144 = .ok (.lload 5, 2) := by decide +kernel
theorem dX4_graze_146 : decode cX4_graze 146 = .ok (.lastore, 1) := by decide +kernel
theorem dX4_graze_147 : decode cX4_graze 147 = .ok (.return_, 1) := by decide +kernel
def w_X4_graze (a0 a1 a2 : Int) (X : XT) (Q : XT → Prop) : Prop :=
  w_X4_worthUnder  a1 X (fun (v1 : Int) => ∃ (I10 : Int → Int → XT → Prop) (m11 : Int → Int → XT → Nat), I10 0 0 X ∧ ∀ (x7 : Int) (x8 : Int) (X9 : XT), I10 x7 x8 X9 → R32 x8 ∧ R32 a2 ∧ (a2 < x8 → w_X2_slotOf  a0 a1 X9 (fun (v25 : Int) => R32 v25 ∧ (v25 < 0 → Q X9) ∧ (¬ v25 < 0 → (6347 ≤ v25 → Q X9) ∧ (¬ 6347 ≤ v25 → (0 ≤ v25 ∧ v25 < 6347) ∧ Q (x_st X9 63 v25 x7))))) ∧ (¬ a2 < x8 → ∀ J41 : Int → Prop, (∀ (v40 : Int), (∀ J43 : Int → Prop, (∀ (v42 : Int), (R32 v40 ∧ w_X4_yieldSlot  a0 a1 x8 X9 (fun (v45 : Int) => R32 v45 ∧ (v45 < 0 → I10 (oLor x7 (oLshl v40 (3 * x8))) (x8 + 1) X9 ∧ m11 (oLor x7 (oLshl v40 (3 * x8))) (x8 + 1) X9 < m11 x7 x8 X9) ∧ (¬ v45 < 0 → (13848 ≤ v45 → I10 (oLor x7 (oLshl v40 (3 * x8))) (x8 + 1) X9 ∧ m11 (oLor x7 (oLshl v40 (3 * x8))) (x8 + 1) X9 < m11 x7 x8 X9) ∧ (¬ 13848 ≤ v45 → (0 ≤ v45 ∧ v45 < 13848) ∧ I10 (oLor x7 (oLshl v40 (3 * x8))) (x8 + 1) (x_st X9 62 v45 (v1 + v42)) ∧ m11 (oLor x7 (oLshl v40 (3 * x8))) (x8 + 1) (x_st X9 62 v45 (v1 + v42)) < m11 x7 x8 X9)))) → J43 v42) → R32 a0 ∧ (11 ≤ a0 → J43 0) ∧ (¬ 11 ≤ a0 → w_X4_yieldBy  a0 a1 x8 v40 X9 (fun (v62 : Int) => J43 v62))) → J41 v40) → R32 a0 ∧ (11 ≤ a0 → J41 4) ∧ (¬ 11 ≤ a0 → w_X4_richStep  a0 a1 x8 X9 (fun (v70 : Int) => J41 v70))))
set_option maxRecDepth 20000 in
theorem so_X4_graze {n : Nat} {h : Nat → sE} {X : XT} {a0 a1 a2 : Int} {Q : XT → Prop} (hn : 115 ≤ n) (hp : Pic X h) (w : w_X4_graze  a0 a1 a2 X Q) : Sp m_X4_graze 5 0 0 [.ref 60, .int (iI a0), .int (iI a1), .int (iI a2)] n h (pVw n h Q) := by
  unfold w_X4_graze at w
  refine Sp.ofV (by decide +kernel) (Nat.le_of_ble_eq_true rfl) ?_
  have hf : Fr h h := fun _ _ => rfl
  refine v_aload_n dX4_graze_0 rfl ?_
  refine v_iload_n dX4_graze_1 rfl ?_
  refine v_callVIr dX4_graze_2 ml_X4_129 (so_X4_worthUnder hn hp  w) ((hp 60 (by decide)).trans (ent_60 _)) rfl (s_lt hn rfl) rfl rfl (Nat.le_of_ble_eq_true rfl) (Nat.le_of_ble_eq_true rfl) (Nat.zero_le _) (Nat.zero_le _) (fun v1 w => ?_)
  refine v_istore dX4_graze_5 (Nat.le_of_ble_eq_true rfl) ?_
  refine v_lconstI (w := 0) dX4_graze_7 rfl ?_
  refine v_lstore dX4_graze_8 (Nat.le_of_ble_eq_true rfl) ?_
  refine v_iconstI dX4_graze_10 ?_
  refine v_istore dX4_graze_11 (Nat.le_of_ble_eq_true rfl) ?_
  refine v_pick [3, 4, 5, 6, 2, 1, 0] rfl ?_
  obtain ⟨I10, m11, wi14, wl13⟩ := w
  have hL15 : ∀ (N18 : Nat) (x7 : Int) (x8 : Int) (X9 : XT) (h19 : Nat → sE), m11 x7 x8 X9 < N18 → I10 x7 x8 X9 → Pic X9 h19 → Fr h h19 → V (m_X4_graze, 5, 0, 0, n, pVw n h Q, s_G0) 0 0 n h19 13 [(0, .ref 60), (1, .int (iI a0)), (2, .int (iI a1)), (3, .int (iI a2)), (4, .int (iI v1)), (5, .long (jJ x7)), (7, .int (iI x8))] [] := by
    intro N18
    induction N18 with
    | zero => intro x7 x8 X9 h19 hm16; exact absurd hm16 (Nat.not_lt_zero _)
    | succ N18 ih12 =>
      intro x7 x8 X9 h19 hm16 hI17 hp20 hf21
      have w := wl13 x7 x8 X9 hI17
      refine v_iload dX4_graze_13 rfl ?_
      refine v_iload_n dX4_graze_15 rfl ?_
      obtain ⟨q22, q23, w⟩ := w
      refine v_icmp_gtI (tgt := 116) dX4_graze_16 (by decide) q22.1 q22.2 q23.1 q23.2 (fun c24 => ?_) (fun c24 => ?_)
      · replace w := w.1 c24
        refine v_iload_n dX4_graze_116 rfl ?_
        refine v_iload_n dX4_graze_117 rfl ?_
        refine v_callSIr dX4_graze_118 ml_X4_89 (so_X2_slotOf hn hp20  w) rfl rfl (Nat.le_of_ble_eq_true rfl) (Nat.le_of_ble_eq_true rfl) (Nat.zero_le _) (Nat.zero_le _) (fun v25 w => ?_)
        refine v_istore dX4_graze_121 (Nat.le_of_ble_eq_true rfl) ?_
        refine v_iload dX4_graze_123 rfl ?_
        obtain ⟨q31, w⟩ := w
        refine v_if_ltI (tgt := 147) dX4_graze_125 (by decide) q31.1 q31.2 (fun c32 => ?_) (fun c32 => ?_)
        · replace w := w.1 c32
          exact v_vret dX4_graze_147 rfl (Nat.zero_le _) (Nat.zero_le _) ⟨rfl, hf21, _, rfl, hp20, w⟩
        · replace w := w.2 c32
          refine v_iload dX4_graze_128 rfl ?_
          refine v_aload_n dX4_graze_130 rfl ?_
          refine v_get dX4_graze_131 fl_X4_18 ((hp20 60 (by decide)).trans (ent_60 _)) rfl (s_lt hn rfl) ?_
          refine v_alen_lI dX4_graze_134 ((hp20 63 (by decide)).trans (ent_63 _)) (s_lt hn rfl) ?_
          refine v_icmp_geI (tgt := 147) dX4_graze_135 (by decide) q31.1 q31.2 (by decide) (by decide) (fun c33 => ?_) (fun c33 => ?_)
          · replace w := w.1 c33
            exact v_vret dX4_graze_147 rfl (Nat.zero_le _) (Nat.zero_le _) ⟨rfl, hf21, _, rfl, hp20, w⟩
          · replace w := w.2 c33
            refine v_aload_n dX4_graze_138 rfl ?_
            refine v_get dX4_graze_139 fl_X4_18 ((hp20 60 (by decide)).trans (ent_60 _)) rfl (s_lt hn rfl) ?_
            refine v_iload dX4_graze_142 rfl ?_
            refine v_lload dX4_graze_144 rfl ?_
            obtain ⟨q34, w⟩ := w
            refine v_lastI dX4_graze_146 ((hp20 63 (by decide)).trans (ent_63 _)) (s_lt hn rfl) q34.1 q34.2 (ix_le q34.2 (by decide)) (fun h35 E36 F37 => ?_)
            have hp38 := pic_st hp20 (show h35 63 = ent 63 (uI _ v25 x7) from E36) F37
            have hf39 := Fr.up (c := 63) hf21 F37 rfl
            exact v_vret dX4_graze_147 rfl (Nat.zero_le _) (Nat.zero_le _) ⟨rfl, hf39, _, rfl, hp38, w⟩
      · replace w := w.2 c24
        refine v_iload_n dX4_graze_19 rfl ?_
        refine v_bipushI dX4_graze_20 rfl ?_
        replace w := w (fun (v40 : Int) => V (m_X4_graze, 5, 0, 0, n, pVw n h Q, s_G0) 0 0 n h19 37 [(0, .ref 60), (1, .int (iI a0)), (2, .int (iI a1)), (3, .int (iI a2)), (4, .int (iI v1)), (5, .long (jJ x7)), (7, .int (iI x8))] [.int (iI v40)]) (by
          intro v40 w
          refine v_istore dX4_graze_37 (Nat.le_of_ble_eq_true rfl) ?_
          refine v_iload_n dX4_graze_39 rfl ?_
          refine v_bipushI dX4_graze_40 rfl ?_
          replace w := w (fun (v42 : Int) => V (m_X4_graze, 5, 0, 0, n, pVw n h Q, s_G0) 0 0 n h19 59 [(0, .ref 60), (1, .int (iI a0)), (2, .int (iI a1)), (3, .int (iI a2)), (4, .int (iI v1)), (5, .long (jJ x7)), (7, .int (iI x8)), (8, .int (iI v40))] [.int (iI v42)]) (by
            intro v42 w
            refine v_istore dX4_graze_59 (Nat.le_of_ble_eq_true rfl) ?_
            refine v_lload dX4_graze_61 rfl ?_
            refine v_iload dX4_graze_63 rfl ?_
            obtain ⟨q44, w⟩ := w
            refine v_i2lI dX4_graze_65 q44.1 q44.2 ?_
            refine v_iconstI dX4_graze_66 ?_
            refine v_iload dX4_graze_67 rfl ?_
            refine v_imulI dX4_graze_69 ?_
            refine v_lshlI dX4_graze_70 ?_
            refine v_lorI dX4_graze_71 ?_
            refine v_lstore dX4_graze_72 (Nat.le_of_ble_eq_true rfl) ?_
            refine v_iload_n dX4_graze_74 rfl ?_
            refine v_iload_n dX4_graze_75 rfl ?_
            refine v_iload dX4_graze_76 rfl ?_
            refine v_callSIr dX4_graze_78 ml_X4_138 (so_X4_yieldSlot hn hp20  w) rfl rfl (Nat.le_of_ble_eq_true rfl) (Nat.le_of_ble_eq_true rfl) (Nat.zero_le _) (Nat.zero_le _) (fun v45 w => ?_)
            refine v_istore dX4_graze_81 (Nat.le_of_ble_eq_true rfl) ?_
            refine v_iload dX4_graze_83 rfl ?_
            obtain ⟨q51, w⟩ := w
            refine v_if_ltI (tgt := 110) dX4_graze_85 (by decide) q51.1 q51.2 (fun c52 => ?_) (fun c52 => ?_)
            · replace w := w.1 c52
              refine v_iincI dX4_graze_110 rfl (Nat.le_of_ble_eq_true rfl) ?_
              refine v_goto (tgt := 13) dX4_graze_113 (by decide) ?_
              refine v_pick [4, 5, 6, 7, 8, 2, 0] rfl ?_
              exact ih12 _ _ _ _ (Nat.lt_of_lt_of_le w.2 (Nat.le_of_lt_succ hm16)) w.1 hp20 hf21
            · replace w := w.2 c52
              refine v_iload dX4_graze_88 rfl ?_
              refine v_aload_n dX4_graze_90 rfl ?_
              refine v_get dX4_graze_91 fl_X4_15 ((hp20 60 (by decide)).trans (ent_60 _)) rfl (s_lt hn rfl) ?_
              refine v_alen_aI dX4_graze_94 ((hp20 62 (by decide)).trans (ent_62 _)) (s_lt hn rfl) ?_
              refine v_icmp_geI (tgt := 110) dX4_graze_95 (by decide) q51.1 q51.2 (by decide) (by decide) (fun c53 => ?_) (fun c53 => ?_)
              · replace w := w.1 c53
                refine v_iincI dX4_graze_110 rfl (Nat.le_of_ble_eq_true rfl) ?_
                refine v_goto (tgt := 13) dX4_graze_113 (by decide) ?_
                refine v_pick [4, 5, 6, 7, 8, 2, 0] rfl ?_
                exact ih12 _ _ _ _ (Nat.lt_of_lt_of_le w.2 (Nat.le_of_lt_succ hm16)) w.1 hp20 hf21
              · replace w := w.2 c53
                refine v_aload_n dX4_graze_98 rfl ?_
                refine v_get dX4_graze_99 fl_X4_15 ((hp20 60 (by decide)).trans (ent_60 _)) rfl (s_lt hn rfl) ?_
                refine v_iload dX4_graze_102 rfl ?_
                refine v_iload dX4_graze_104 rfl ?_
                refine v_iload dX4_graze_106 rfl ?_
                refine v_iaddI dX4_graze_108 ?_
                obtain ⟨q54, w⟩ := w
                refine v_iastI dX4_graze_109 ((hp20 62 (by decide)).trans (ent_62 _)) (s_lt hn rfl) q54.1 q54.2 (ix_le q54.2 (by decide)) (fun h55 E56 F57 => ?_)
                have hp58 := pic_st hp20 (show h55 62 = ent 62 (uI _ v45 (v1 + v42)) from E56) F57
                have hf59 := Fr.up (c := 62) hf21 F57 rfl
                refine v_iincI dX4_graze_110 rfl (Nat.le_of_ble_eq_true rfl) ?_
                refine v_goto (tgt := 13) dX4_graze_113 (by decide) ?_
                refine v_pick [4, 5, 6, 7, 8, 2, 0] rfl ?_
                exact ih12 _ _ _ _ (Nat.lt_of_lt_of_le w.2 (Nat.le_of_lt_succ hm16)) w.1 hp58 hf59
          )
          obtain ⟨q60, w⟩ := w
          refine v_icmp_geI (tgt := 58) dX4_graze_42 (by decide) q60.1 q60.2 (by decide) (by decide) (fun c61 => ?_) (fun c61 => ?_)
          · replace w := w.1 c61
            refine v_iconstI dX4_graze_58 ?_
            refine v_pick [1, 2, 3, 4, 5, 6, 7, 0] rfl ?_
            exact w
          · replace w := w.2 c61
            refine v_aload_n dX4_graze_45 rfl ?_
            refine v_iload_n dX4_graze_46 rfl ?_
            refine v_iload_n dX4_graze_47 rfl ?_
            refine v_iload dX4_graze_48 rfl ?_
            refine v_iload dX4_graze_50 rfl ?_
            refine v_callVIr dX4_graze_52 ml_X4_135 (so_X4_yieldBy hn hp20  w) ((hp20 60 (by decide)).trans (ent_60 _)) rfl (s_lt hn rfl) rfl rfl (Nat.le_of_ble_eq_true rfl) (Nat.le_of_ble_eq_true rfl) (Nat.zero_le _) (Nat.zero_le _) (fun v62 w => ?_)
            refine v_goto (tgt := 59) dX4_graze_55 (by decide) ?_
            refine v_pick [1, 2, 3, 4, 5, 6, 7, 0] rfl ?_
            exact w
        )
        obtain ⟨q68, w⟩ := w
        refine v_icmp_geI (tgt := 36) dX4_graze_22 (by decide) q68.1 q68.2 (by decide) (by decide) (fun c69 => ?_) (fun c69 => ?_)
        · replace w := w.1 c69
          refine v_iconstI dX4_graze_36 ?_
          exact w
        · replace w := w.2 c69
          refine v_aload_n dX4_graze_25 rfl ?_
          refine v_iload_n dX4_graze_26 rfl ?_
          refine v_iload_n dX4_graze_27 rfl ?_
          refine v_iload dX4_graze_28 rfl ?_
          refine v_callVIr dX4_graze_30 ml_X4_132 (so_X4_richStep hn hp20  w) ((hp20 60 (by decide)).trans (ent_60 _)) rfl (s_lt hn rfl) rfl rfl (Nat.le_of_ble_eq_true rfl) (Nat.le_of_ble_eq_true rfl) (Nat.zero_le _) (Nat.zero_le _) (fun v70 w => ?_)
          refine v_goto (tgt := 37) dX4_graze_33 (by decide) ?_
          exact w
  exact hL15 _ _ _ _ _ (Nat.lt_succ_self _) wi14 hp hf
theorem dX4_grazeStepIn_0 : decode cX4_grazeStepIn 0 = .ok (.iload_n 2, 1) := by decide +kernel
theorem dX4_grazeStepIn_1 : decode cX4_grazeStepIn 1 = .ok (.istore 4, 2) := by decide +kernel
theorem dX4_grazeStepIn_3 : decode cX4_grazeStepIn 3 = .ok (.iload_n 3, 1) := by decide +kernel
theorem dX4_grazeStepIn_4 : decode cX4_grazeStepIn 4 = .ok (.istore 5, 2) := by decide +kernel
theorem dX4_grazeStepIn_6 : decode cX4_grazeStepIn 6 = .ok (.iconst 4, 1) := by decide +kernel
theorem dX4_grazeStepIn_7 : decode cX4_grazeStepIn 7 = .ok (.istore 6, 2) := by decide +kernel
theorem dX4_grazeStepIn_9 : decode cX4_grazeStepIn 9 = .ok (.iconst 0, 1) := by decide +kernel
theorem dX4_grazeStepIn_10 : decode cX4_grazeStepIn 10 = .ok (.istore 7, 2) := by decide +kernel
theorem dX4_grazeStepIn_12 : decode cX4_grazeStepIn 12 = .ok (.iload 7, 2) := by decide +kernel
theorem dX4_grazeStepIn_14 : decode cX4_grazeStepIn 14 = .ok (.iload_n 1, 1) := by decide +kernel
theorem dX4_grazeStepIn_15 : decode cX4_grazeStepIn 15 = .ok (.if_icmp .gt 92, 3) := by decide +kernel
theorem dX4_grazeStepIn_18 : decode cX4_grazeStepIn 18 = .ok (.iload 7, 2) := by decide +kernel
theorem dX4_grazeStepIn_20 : decode cX4_grazeStepIn 20 = .ok (.iload 4, 2) := by decide +kernel
theorem dX4_grazeStepIn_22 : decode cX4_grazeStepIn 22 = .ok (.invokestatic 89, 3) := by decide +kernel
theorem dX4_grazeStepIn_25 : decode cX4_grazeStepIn 25 = .ok (.istore 8, 2) := by decide +kernel
theorem dX4_grazeStepIn_27 : decode cX4_grazeStepIn 27 = .ok (.iload 8, 2) := by decide +kernel
theorem dX4_grazeStepIn_29 : decode cX4_grazeStepIn 29 = .ok (.ifCond .lt 23, 3) := by decide +kernel
theorem dX4_grazeStepIn_32 : decode cX4_grazeStepIn 32 = .ok (.iload 8, 2) := by decide +kernel
theorem dX4_grazeStepIn_34 : decode cX4_grazeStepIn 34 = .ok (.aload_n 0, 1) := by decide +kernel
theorem dX4_grazeStepIn_35 : decode cX4_grazeStepIn 35 = .ok (.getfield 18, 3) := by decide +kernel
theorem dX4_grazeStepIn_38 : decode cX4_grazeStepIn 38 = .ok (.arraylength, 1) := by decide +kernel
theorem dX4_grazeStepIn_39 : decode cX4_grazeStepIn 39 = .ok (.if_icmp .ge 13, 3) := by decide +kernel
theorem dX4_grazeStepIn_42 : decode cX4_grazeStepIn 42 = .ok (.aload_n 0, 1) := by decide +kernel
theorem dX4_grazeStepIn_43 : decode cX4_grazeStepIn 43 = .ok (.getfield 18, 3) := by decide +kernel
theorem dX4_grazeStepIn_46 : decode cX4_grazeStepIn 46 = .ok (.iload 8, 2) := by decide +kernel
theorem dX4_grazeStepIn_48 : decode cX4_grazeStepIn 48 = .ok (.laload, 1) := by decide +kernel
theorem dX4_grazeStepIn_49 : decode cX4_grazeStepIn 49 = .ok (.goto 4, 3) := by decide +kernel
theorem dX4_grazeStepIn_52 : decode cX4_grazeStepIn 52 = .ok (.lconst 0, 1) := by decide +kernel
theorem dX4_grazeStepIn_53 : decode cX4_grazeStepIn 53 = .ok (.lstore 9, 2) := by decide +kernel
theorem dX4_grazeStepIn_55 : decode cX4_grazeStepIn 55 = .ok (.lload 9, 2) := by decide +kernel
theorem dX4_grazeStepIn_57 : decode cX4_grazeStepIn 57 = .ok (.iconst 3, 1) := by decide +kernel
theorem dX4_grazeStepIn_58 : decode cX4_grazeStepIn 58 = .ok (.iload 5, 2) := by decide +kernel
theorem dX4_grazeStepIn_60 : decode cX4_grazeStepIn 60 = .ok (.imul, 1) := by decide +kernel
theorem dX4_grazeStepIn_61 : decode cX4_grazeStepIn 61 = .ok (.lushr, 1) := by decide +kernel
theorem dX4_grazeStepIn_62 : decode cX4_grazeStepIn 62 = .ok (.l2i, 1) := by decide +kernel
theorem dX4_grazeStepIn_63 : decode cX4_grazeStepIn 63 = .ok (.bipush 7, 2) := by decide +kernel
theorem dX4_grazeStepIn_65 : decode cX4_grazeStepIn 65 = .ok (.iand, 1) := by decide +kernel
theorem dX4_grazeStepIn_66 : decode cX4_grazeStepIn 66 = .ok (.istore 6, 2) := by decide +kernel
theorem dX4_grazeStepIn_68 : decode cX4_grazeStepIn 68 = .ok (.aload_n 0, 1) := by decide +kernel
theorem dX4_grazeStepIn_69 : decode cX4_grazeStepIn 69 = .ok (.getfield 42, 3) := by decide +kernel
theorem dX4_grazeStepIn_72 : decode cX4_grazeStepIn 72 = .ok (.iload 7, 2) := by decide +kernel
theorem dX4_grazeStepIn_74 : decode cX4_grazeStepIn 74 = .ok (.iload 4, 2) := by decide +kernel
theorem dX4_grazeStepIn_76 : decode cX4_grazeStepIn 76 = .ok (.iload 6, 2) := by decide +kernel
theorem dX4_grazeStepIn_78 : decode cX4_grazeStepIn 78 = .ok (.iconst 4, 1) := by decide +kernel
theorem dX4_grazeStepIn_79 : decode cX4_grazeStepIn 79 = .ok (.iconst 0, 1) := by decide +kernel
theorem dX4_grazeStepIn_80 : decode cX4_grazeStepIn 80 = .ok (.invokevirtual 107, 3) := by decide +kernel
theorem dX4_grazeStepIn_83 : decode cX4_grazeStepIn 83 = .ok (.istore 4, 2) := by decide +kernel
theorem dX4_grazeStepIn_85 : decode cX4_grazeStepIn 85 = .ok (.iload 5, 2) := by decide +kernel
theorem dX4_grazeStepIn_87 : decode cX4_grazeStepIn 87 = .ok (.iload 6, 2) := by decide +kernel
theorem dX4_grazeStepIn_89 : decode cX4_grazeStepIn 89 = .ok (.iconst 4, 1) := by decide +kernel
theorem dX4_grazeStepIn_90 : decode cX4_grazeStepIn 90 = .ok (.if_icmp .ne 7, 3) := by decide +kernel
theorem dX4_grazeStepIn_93 : decode cX4_grazeStepIn 93 = .ok (.iconst 0, 1) := by decide +kernel
theorem dX4_grazeStepIn_94 : decode cX4_grazeStepIn 94 = .ok (.goto 4, 3) := by decide +kernel
theorem dX4_grazeStepIn_97 : decode cX4_grazeStepIn 97 = .ok (.iconst 1, 1) := by decide +kernel
theorem dX4_grazeStepIn_98 : decode cX4_grazeStepIn 98 = .ok (.isub, 1) := by decide +kernel
theorem dX4_grazeStepIn_99 : decode cX4_grazeStepIn 99 = .ok (.istore 5, 2) := by decide +kernel
theorem dX4_grazeStepIn_101 : decode cX4_grazeStepIn 101 = .ok (.iinc 7 1, 3) := by decide +kernel
theorem dX4_grazeStepIn_104 : decode cX4_grazeStepIn 104 = .ok (.goto (-92), 3) := by decide +kernel
theorem dX4_grazeStepIn_107 : decode cX4_grazeStepIn 107 = .ok (.iload 6, 2) := by decide +kernel
theorem dX4_grazeStepIn_109 : decode cX4_grazeStepIn 109 = .ok (.ireturn, 1) := by decide +kernel
def w_X4_grazeStepIn (a0 a1 a2 : Int) (X : XT) (Q : Int → Prop) : Prop :=
  ∃ (I5 : Int → Int → Int → Int → Prop) (m6 : Int → Int → Int → Int → Nat), I5 a1 a2 4 0 ∧ ∀ (x1 : Int) (x2 : Int) (x3 : Int) (x4 : Int), I5 x1 x2 x3 x4 → R32 x4 ∧ R32 a0 ∧ (a0 < x4 → Q x3) ∧ (¬ a0 < x4 → w_X2_slotOf  x4 x1 X (fun (v17 : Int) => ∀ J24 : Int → Prop, (∀ (v23 : Int), (w_X2_onward  x4 x1 (oAnd (oLushr v23 (3 * x2)) 7) 4 0 X (fun (v25 : Int) => ∀ J32 : Int → Prop, (∀ (v31 : Int), (I5 v25 (x2 - v31) (oAnd (oLushr v23 (3 * x2)) 7) (x4 + 1) ∧ m6 v25 (x2 - v31) (oAnd (oLushr v23 (3 * x2)) 7) (x4 + 1) < m6 x1 x2 x3 x4) → J32 v31) → R32 (oAnd (oLushr v23 (3 * x2)) 7) ∧ (¬ (oAnd (oLushr v23 (3 * x2)) 7) = 4 → J32 1) ∧ ((oAnd (oLushr v23 (3 * x2)) 7) = 4 → J32 0))) → J24 v23) → R32 v17 ∧ (v17 < 0 → J24 0) ∧ (¬ v17 < 0 → (6347 ≤ v17 → J24 0) ∧ (¬ 6347 ≤ v17 → (0 ≤ v17 ∧ v17 < 6347) ∧ J24 (X 63 v17)))))
set_option maxRecDepth 20000 in
theorem so_X4_grazeStepIn {n : Nat} {h : Nat → sE} {X : XT} {a0 a1 a2 : Int} {Q : Int → Prop} (hn : 115 ≤ n) (hp : Pic X h) (w : w_X4_grazeStepIn  a0 a1 a2 X Q) : Sp m_X4_grazeStepIn 3 0 0 [.ref 60, .int (iI a0), .int (iI a1), .int (iI a2)] n h (pIr n h Q) := by
  unfold w_X4_grazeStepIn at w
  refine Sp.ofV (by decide +kernel) (Nat.le_of_ble_eq_true rfl) ?_
  have hf : Fr h h := fun _ _ => rfl
  refine v_iload_n dX4_grazeStepIn_0 rfl ?_
  refine v_istore dX4_grazeStepIn_1 (Nat.le_of_ble_eq_true rfl) ?_
  refine v_iload_n dX4_grazeStepIn_3 rfl ?_
  refine v_istore dX4_grazeStepIn_4 (Nat.le_of_ble_eq_true rfl) ?_
  refine v_iconstI dX4_grazeStepIn_6 ?_
  refine v_istore dX4_grazeStepIn_7 (Nat.le_of_ble_eq_true rfl) ?_
  refine v_iconstI dX4_grazeStepIn_9 ?_
  refine v_istore dX4_grazeStepIn_10 (Nat.le_of_ble_eq_true rfl) ?_
  refine v_pick [4, 5, 3, 2, 1, 0] rfl ?_
  obtain ⟨I5, m6, wi9, wl8⟩ := w
  have hL10 : ∀ (N13 : Nat) (x1 : Int) (x2 : Int) (x3 : Int) (x4 : Int), m6 x1 x2 x3 x4 < N13 → I5 x1 x2 x3 x4 → V (m_X4_grazeStepIn, 3, 0, 0, n, pIr n h Q, s_G0) 0 0 n h 12 [(0, .ref 60), (1, .int (iI a0)), (4, .int (iI x1)), (5, .int (iI x2)), (6, .int (iI x3)), (7, .int (iI x4))] [] := by
    intro N13
    induction N13 with
    | zero => intro x1 x2 x3 x4  hm11; exact absurd hm11 (Nat.not_lt_zero _)
    | succ N13 ih7 =>
      intro x1 x2 x3 x4  hm11 hI12
      have w := wl8 x1 x2 x3 x4 hI12
      refine v_iload dX4_grazeStepIn_12 rfl ?_
      refine v_iload_n dX4_grazeStepIn_14 rfl ?_
      obtain ⟨q14, q15, w⟩ := w
      refine v_icmp_gtI (tgt := 107) dX4_grazeStepIn_15 (by decide) q14.1 q14.2 q15.1 q15.2 (fun c16 => ?_) (fun c16 => ?_)
      · replace w := w.1 c16
        refine v_iload dX4_grazeStepIn_107 rfl ?_
        exact v_iret dX4_grazeStepIn_109 rfl (Nat.zero_le _) (Nat.zero_le _) ⟨rfl, rfl, _, rfl, w⟩
      · replace w := w.2 c16
        refine v_iload dX4_grazeStepIn_18 rfl ?_
        refine v_iload dX4_grazeStepIn_20 rfl ?_
        refine v_callSIr dX4_grazeStepIn_22 ml_X4_89 (so_X2_slotOf hn hp  w) rfl rfl (Nat.le_of_ble_eq_true rfl) (Nat.le_of_ble_eq_true rfl) (Nat.zero_le _) (Nat.zero_le _) (fun v17 w => ?_)
        refine v_istore dX4_grazeStepIn_25 (Nat.le_of_ble_eq_true rfl) ?_
        refine v_iload dX4_grazeStepIn_27 rfl ?_
        replace w := w (fun (v23 : Int) => V (m_X4_grazeStepIn, 3, 0, 0, n, pIr n h Q, s_G0) 0 0 n h 53 [(0, .ref 60), (1, .int (iI a0)), (4, .int (iI x1)), (5, .int (iI x2)), (7, .int (iI x4))] [.long (jJ v23)]) (by
          intro v23 w
          refine v_lstore dX4_grazeStepIn_53 (Nat.le_of_ble_eq_true rfl) ?_
          refine v_lload dX4_grazeStepIn_55 rfl ?_
          refine v_iconstI dX4_grazeStepIn_57 ?_
          refine v_iload dX4_grazeStepIn_58 rfl ?_
          refine v_imulI dX4_grazeStepIn_60 ?_
          refine v_lushrI dX4_grazeStepIn_61 ?_
          refine v_l2iI dX4_grazeStepIn_62 ?_
          refine v_bipushI dX4_grazeStepIn_63 rfl ?_
          refine v_iandI dX4_grazeStepIn_65 ?_
          refine v_istore dX4_grazeStepIn_66 (Nat.le_of_ble_eq_true rfl) ?_
          refine v_aload_n dX4_grazeStepIn_68 rfl ?_
          refine v_get dX4_grazeStepIn_69 fl_X4_42 ((hp 60 (by decide)).trans (ent_60 _)) rfl (s_lt hn rfl) ?_
          refine v_iload dX4_grazeStepIn_72 rfl ?_
          refine v_iload dX4_grazeStepIn_74 rfl ?_
          refine v_iload dX4_grazeStepIn_76 rfl ?_
          refine v_iconstI dX4_grazeStepIn_78 ?_
          refine v_iconstI dX4_grazeStepIn_79 ?_
          refine v_callVIr dX4_grazeStepIn_80 ml_X4_107 (so_X2_onward hn hp  w) ((hp 58 (by decide)).trans (ent_58 _)) rfl (s_lt hn rfl) rfl rfl (Nat.le_of_ble_eq_true rfl) (Nat.le_of_ble_eq_true rfl) (Nat.zero_le _) (Nat.zero_le _) (fun v25 w => ?_)
          refine v_istore dX4_grazeStepIn_83 (Nat.le_of_ble_eq_true rfl) ?_
          refine v_iload dX4_grazeStepIn_85 rfl ?_
          refine v_iload dX4_grazeStepIn_87 rfl ?_
          refine v_iconstI dX4_grazeStepIn_89 ?_
          replace w := w (fun (v31 : Int) => V (m_X4_grazeStepIn, 3, 0, 0, n, pIr n h Q, s_G0) 0 0 n h 98 [(0, .ref 60), (1, .int (iI a0)), (4, .int (iI v25)), (6, .int (iI (oAnd (oLushr v23 (3 * x2)) 7))), (7, .int (iI x4))] [.int (iI v31), .int (iI x2)]) (by
            intro v31 w
            refine v_isubI dX4_grazeStepIn_98 ?_
            refine v_istore dX4_grazeStepIn_99 (Nat.le_of_ble_eq_true rfl) ?_
            refine v_iincI dX4_grazeStepIn_101 rfl (Nat.le_of_ble_eq_true rfl) ?_
            refine v_goto (tgt := 12) dX4_grazeStepIn_104 (by decide) ?_
            refine v_pick [2, 3, 4, 1, 5, 0] rfl ?_
            exact ih7 _ _ _ _ (Nat.lt_of_lt_of_le w.2 (Nat.le_of_lt_succ hm11)) w.1
          )
          obtain ⟨q33, w⟩ := w
          refine v_icmp_neI (tgt := 97) dX4_grazeStepIn_90 (by decide) q33.1 q33.2 (by decide) (by decide) (fun c34 => ?_) (fun c34 => ?_)
          · replace w := w.1 c34
            refine v_iconstI dX4_grazeStepIn_97 ?_
            refine v_pick [3, 4, 0, 1, 6] rfl ?_
            exact w
          · replace w := w.2 c34
            refine v_iconstI dX4_grazeStepIn_93 ?_
            refine v_goto (tgt := 98) dX4_grazeStepIn_94 (by decide) ?_
            refine v_pick [3, 4, 0, 1, 6] rfl ?_
            exact w
        )
        obtain ⟨q35, w⟩ := w
        refine v_if_ltI (tgt := 52) dX4_grazeStepIn_29 (by decide) q35.1 q35.2 (fun c36 => ?_) (fun c36 => ?_)
        · replace w := w.1 c36
          refine v_lconstI (w := 0) dX4_grazeStepIn_52 rfl ?_
          refine v_pick [1, 2, 3, 4, 6] rfl ?_
          exact w
        · replace w := w.2 c36
          refine v_iload dX4_grazeStepIn_32 rfl ?_
          refine v_aload_n dX4_grazeStepIn_34 rfl ?_
          refine v_get dX4_grazeStepIn_35 fl_X4_18 ((hp 60 (by decide)).trans (ent_60 _)) rfl (s_lt hn rfl) ?_
          refine v_alen_lI dX4_grazeStepIn_38 ((hp 63 (by decide)).trans (ent_63 _)) (s_lt hn rfl) ?_
          refine v_icmp_geI (tgt := 52) dX4_grazeStepIn_39 (by decide) q35.1 q35.2 (by decide) (by decide) (fun c37 => ?_) (fun c37 => ?_)
          · replace w := w.1 c37
            refine v_lconstI (w := 0) dX4_grazeStepIn_52 rfl ?_
            refine v_pick [1, 2, 3, 4, 6] rfl ?_
            exact w
          · replace w := w.2 c37
            refine v_aload_n dX4_grazeStepIn_42 rfl ?_
            refine v_get dX4_grazeStepIn_43 fl_X4_18 ((hp 60 (by decide)).trans (ent_60 _)) rfl (s_lt hn rfl) ?_
            refine v_iload dX4_grazeStepIn_46 rfl ?_
            obtain ⟨q38, w⟩ := w
            refine v_laldI dX4_grazeStepIn_48 ((hp 63 (by decide)).trans (ent_63 _)) (s_lt hn rfl) q38.1 q38.2 (ix_le q38.2 (by decide)) ?_
            refine v_goto (tgt := 53) dX4_grazeStepIn_49 (by decide) ?_
            refine v_pick [1, 2, 3, 4, 6] rfl ?_
            exact w
  exact hL10 _ _ _ _ _ (Nat.lt_succ_self _) wi9
theorem dX4_grazed_0 : decode cX4_grazed 0 = .ok (.aload_n 0, 1) := by decide +kernel
theorem dX4_grazed_1 : decode cX4_grazed 1 = .ok (.getfield 34, 3) := by decide +kernel
theorem dX4_grazed_4 : decode cX4_grazed 4 = .ok (.iload_n 1, 1) := by decide +kernel
theorem dX4_grazed_5 : decode cX4_grazed 5 = .ok (.invokevirtual 46, 3) := by decide +kernel
theorem dX4_grazed_8 : decode cX4_grazed 8 = .ok (.istore 4, 2) := by decide +kernel
theorem dX4_grazed_10 : decode cX4_grazed 10 = .ok (.aload_n 0, 1) := by decide +kernel
theorem dX4_grazed_11 : decode cX4_grazed 11 = .ok (.getfield 42, 3) := by decide +kernel
theorem dX4_grazed_14 : decode cX4_grazed 14 = .ok (.iload_n 1, 1) := by decide +kernel
theorem dX4_grazed_15 : decode cX4_grazed 15 = .ok (.invokevirtual 52, 3) := by decide +kernel
theorem dX4_grazed_18 : decode cX4_grazed 18 = .ok (.aload_n 0, 1) := by decide +kernel
theorem dX4_grazed_19 : decode cX4_grazed 19 = .ok (.getfield 42, 3) := by decide +kernel
theorem dX4_grazed_22 : decode cX4_grazed 22 = .ok (.iconst 0, 1) := by decide +kernel
theorem dX4_grazed_23 : decode cX4_grazed 23 = .ok (.iload 4, 2) := by decide +kernel
theorem dX4_grazed_25 : decode cX4_grazed 25 = .ok (.bipush 11, 2) := by decide +kernel
theorem dX4_grazed_27 : decode cX4_grazed 27 = .ok (.iconst 1, 1) := by decide +kernel
theorem dX4_grazed_28 : decode cX4_grazed 28 = .ok (.iconst 0, 1) := by decide +kernel
theorem dX4_grazed_29 : decode cX4_grazed 29 = .ok (.invokevirtual 58, 3) := by decide +kernel
theorem dX4_grazed_32 : decode cX4_grazed 32 = .ok (.bipush 11, 2) := by decide +kernel
theorem dX4_grazed_34 : decode cX4_grazed 34 = .ok (.istore 5, 2) := by decide +kernel
theorem dX4_grazed_36 : decode cX4_grazed 36 = .ok (.iload 5, 2) := by decide +kernel
theorem dX4_grazed_38 : decode cX4_grazed 38 = .ok (.ifCond .lt 83, 3) := by decide +kernel
theorem dX4_grazed_41 : decode cX4_grazed 41 = .ok (.iconst 0, 1) := by decide +kernel
theorem dX4_grazed_42 : decode cX4_grazed 42 = .ok (.istore 6, 2) := by decide +kernel
theorem dX4_grazed_44 : decode cX4_grazed 44 = .ok (.iload 6, 2) := by decide +kernel
theorem dX4_grazed_46 : decode cX4_grazed 46 = .ok (.bipush 64, 2) := by decide +kernel
theorem dX4_grazed_48 : decode cX4_grazed 48 = .ok (.if_icmp .ge 27, 3) := by decide +kernel
theorem dX4_grazed_51 : decode cX4_grazed 51 = .ok (.aload_n 0, 1) := by decide +kernel
theorem dX4_grazed_52 : decode cX4_grazed 52 = .ok (.getfield 22, 3) := by decide +kernel
theorem dX4_grazed_55 : decode cX4_grazed 55 = .ok (.iload 6, 2) := by decide +kernel
theorem dX4_grazed_57 : decode cX4_grazed 57 = .ok (.aload_n 0, 1) := by decide +kernel
theorem dX4_grazed_58 : decode cX4_grazed 58 = .ok (.getfield 38, 3) := by decide +kernel
theorem dX4_grazed_61 : decode cX4_grazed 61 = .ok (.iload 6, 2) := by decide +kernel
theorem dX4_grazed_63 : decode cX4_grazed 63 = .ok (.iload 5, 2) := by decide +kernel
theorem dX4_grazed_65 : decode cX4_grazed 65 = .ok (.invokevirtual 114, 3) := by decide +kernel
theorem dX4_grazed_68 : decode cX4_grazed 68 = .ok (.iastore, 1) := by decide +kernel
theorem dX4_grazed_69 : decode cX4_grazed 69 = .ok (.iinc 6 1, 3) := by decide +kernel
theorem dX4_grazed_72 : decode cX4_grazed 72 = .ok (.goto (-28), 3) := by decide +kernel
theorem dX4_grazed_75 : decode cX4_grazed 75 = .ok (.iconst 0, 1) := by decide +kernel
theorem dX4_grazed_76 : decode cX4_grazed 76 = .ok (.istore 6, 2) := by decide +kernel
theorem dX4_grazed_78 : decode cX4_grazed 78 = .ok (.iload 6, 2) := by decide +kernel
theorem dX4_grazed_80 : decode cX4_grazed 80 = .ok (.sipush 577, 3) := by decide +kernel
theorem dX4_grazed_83 : decode cX4_grazed 83 = .ok (.if_icmp .ge 32, 3) := by decide +kernel
theorem dX4_grazed_86 : decode cX4_grazed 86 = .ok (.aload_n 0, 1) := by decide +kernel
theorem dX4_grazed_87 : decode cX4_grazed 87 = .ok (.getfield 42, 3) := by decide +kernel
theorem dX4_grazed_90 : decode cX4_grazed 90 = .ok (.iload 5, 2) := by decide +kernel
theorem dX4_grazed_92 : decode cX4_grazed 92 = .ok (.iload 6, 2) := by decide +kernel
theorem dX4_grazed_94 : decode cX4_grazed 94 = .ok (.invokevirtual 96, 3) := by decide +kernel
theorem dX4_grazed_97 : decode cX4_grazed 97 = .ok (.ifCond .eq 12, 3) := by decide +kernel
theorem dX4_grazed_100 : decode cX4_grazed 100 = .ok (.aload_n 0, 1) := by decide +kernel
theorem dX4_grazed_101 : decode cX4_grazed 101 = .ok (.iload 5, 2) := by decide +kernel
theorem dX4_grazed_103 : decode cX4_grazed 103 = .ok (.iload 6, 2) := by decide +kernel
theorem dX4_grazed_105 : decode cX4_grazed 105 = .ok (.iload_n 2, 1) := by decide +kernel
theorem dX4_grazed_106 : decode cX4_grazed 106 = .ok (.invokevirtual 119, 3) := by decide +kernel
theorem dX4_grazed_109 : decode cX4_grazed 109 = .ok (.iinc 6 1, 3) := by decide +kernel
theorem dX4_grazed_112 : decode cX4_grazed 112 = .ok (.goto (-34), 3) := by decide +kernel
theorem dX4_grazed_115 : decode cX4_grazed 115 = .ok (.iinc 5 (-1), 3) := by decide +kernel
theorem dX4_grazed_118 : decode cX4_grazed 118 = .ok (.goto (-82), 3) := by decide +kernel
theorem dX4_grazed_121 : decode cX4_grazed 121 = .ok (.iload_n 3, 1) := by decide +kernel
theorem dX4_grazed_122 : decode cX4_grazed 122 = .ok (.iconst (-1), 1) := by decide +kernel
theorem dX4_grazed_123 : decode cX4_grazed 123 = .ok (.if_icmp .ne 14, 3) := by decide +kernel
theorem dX4_grazed_126 : decode cX4_grazed 126 = .ok (.aload_n 0, 1) := by decide +kernel
theorem dX4_grazed_127 : decode cX4_grazed 127 = .ok (.iconst 0, 1) := by decide +kernel
theorem dX4_grazed_128 : decode cX4_grazed 128 = .ok (.iload 4, 2) := by decide +kernel
theorem dX4_grazed_130 : decode cX4_grazed 130 = .ok (.iload_n 2, 1) := by decide +kernel
theorem dX4_grazed_131 : decode cX4_grazed 131 = .ok (.invokevirtual 123, 3) := by decide +kernel
theorem dX4_grazed_134 : decode cX4_grazed 134 = .ok (.goto 11, 3) := by decide +kernel
theorem dX4_grazed_137 : decode cX4_grazed 137 = .ok (.aload_n 0, 1) := by decide +kernel
theorem dX4_grazed_138 : decode cX4_grazed 138 = .ok (.iload_n 3, 1) := by decide +kernel
theorem dX4_grazed_139 : decode cX4_grazed 139 = .ok (.iload 4, 2) := by decide +kernel
theorem dX4_grazed_141 : decode cX4_grazed 141 = .ok (.iload_n 2, 1) := by decide +kernel
theorem dX4_grazed_142 : decode cX4_grazed 142 = .ok (.invokevirtual 126, 3) := by decide +kernel
theorem dX4_grazed_145 : decode cX4_grazed 145 = .ok (.ireturn, 1) := by decide +kernel
def w_X4_grazed (K : LK) (a0 a1 a2 : Int) (X : XT) (Q : Int → XT → Prop) : Prop :=
  w_X3_startOf  a0 X (fun (v1 : Int) => w_X2_take  a0 X (fun (X8 : XT) => w_X2_spread K  0 v1 11 1 0 X8 (fun (X14 : XT) => ∃ (I21 : Int → XT → Prop) (m22 : Int → XT → Nat), I21 11 X14 ∧ ∀ (x19 : Int) (X20 : XT), I21 x19 X20 → R32 x19 ∧ (x19 < 0 → R32 a2 ∧ (¬ a2 = (-1) → w_X4_grazeStepIn  a2 v1 a1 X20 (fun (v37 : Int) => Q v37 X20)) ∧ (a2 = (-1) → w_X4_yieldOf  0 v1 a1 X20 (fun (v43 : Int) => Q v43 X20))) ∧ (¬ x19 < 0 → ∃ (I51 : Int → XT → Prop) (m52 : Int → XT → Nat), I51 0 X20 ∧ ∀ (x49 : Int) (X50 : XT), I51 x49 X50 → R32 x49 ∧ (64 ≤ x49 → ∃ (I67 : Int → XT → Prop) (m68 : Int → XT → Nat), I67 0 X50 ∧ ∀ (x65 : Int) (X66 : XT), I67 x65 X66 → R32 x65 ∧ (577 ≤ x65 → I21 (x19 + (-1)) X66 ∧ m22 (x19 + (-1)) X66 < m22 x19 X20) ∧ (¬ 577 ≤ x65 → w_X2_isReached  x19 x65 X66 (fun (v81 : Int) => R32 v81 ∧ (v81 = 0 → I67 (x65 + 1) X66 ∧ m68 (x65 + 1) X66 < m68 x65 X66) ∧ (¬ v81 = 0 → w_X4_graze  x19 x65 a1 X66 (fun (X90 : XT) => I67 (x65 + 1) X90 ∧ m68 (x65 + 1) X90 < m68 x65 X66))))) ∧ (¬ 64 ≤ x49 → w_X0_worthOf K  x49 x19 X50 (fun (v95 : Int) (X96 : XT) => (0 ≤ x49 ∧ x49 < 64) ∧ I51 (x49 + 1) (x_st X96 64 x49 v95) ∧ m52 (x49 + 1) (x_st X96 64 x49 v95) < m52 x49 X50))))))
set_option maxRecDepth 20000 in
theorem so_X4_grazed {n : Nat} {h : Nat → sE} {X : XT} {K : LK} {hk : Nat → sE} (hK : LKok K n hk) {a0 a1 a2 : Int} {Q : Int → XT → Prop} (hn : 115 ≤ n) (hp : Pic X h) (hf9 : Fr hk h) (w : w_X4_grazed K  a0 a1 a2 X Q) : Sp m_X4_grazed 6 0 0 [.ref 60, .int (iI a0), .int (iI a1), .int (iI a2)] n h (pIw n h Q) := by
  unfold w_X4_grazed at w
  refine Sp.ofV (by decide +kernel) (Nat.le_of_ble_eq_true rfl) ?_
  have hf : Fr h h := fun _ _ => rfl
  refine v_aload_n dX4_grazed_0 rfl ?_
  refine v_get dX4_grazed_1 fl_X4_34 ((hp 60 (by decide)).trans (ent_60 _)) rfl (s_lt hn rfl) ?_
  refine v_iload_n dX4_grazed_4 rfl ?_
  refine v_callVIr dX4_grazed_5 ml_X4_46 (so_X3_startOf hn hp  w) ((hp 1 (by decide)).trans (ent_1 _)) rfl (s_lt hn rfl) rfl rfl (Nat.le_of_ble_eq_true rfl) (Nat.le_of_ble_eq_true rfl) (Nat.zero_le _) (Nat.zero_le _) (fun v1 w => ?_)
  refine v_istore dX4_grazed_8 (Nat.le_of_ble_eq_true rfl) ?_
  refine v_aload_n dX4_grazed_10 rfl ?_
  refine v_get dX4_grazed_11 fl_X4_42 ((hp 60 (by decide)).trans (ent_60 _)) rfl (s_lt hn rfl) ?_
  refine v_iload_n dX4_grazed_14 rfl ?_
  refine v_callVVw dX4_grazed_15 ml_X4_52 (so_X2_take hn hp  w) ((hp 58 (by decide)).trans (ent_58 _)) rfl (s_lt hn rfl) rfl rfl (Nat.le_of_ble_eq_true rfl) (Nat.le_of_ble_eq_true rfl) (Nat.zero_le _) (Nat.zero_le _) (fun X8 h9 hp11 hf10 w => ?_)
  have hf12 := Fr.trans hf hf10
  refine v_aload_n dX4_grazed_18 rfl ?_
  refine v_get dX4_grazed_19 fl_X4_42 ((hp11 60 (by decide)).trans (ent_60 _)) rfl (s_lt hn rfl) ?_
  refine v_iconstI dX4_grazed_22 ?_
  refine v_iload dX4_grazed_23 rfl ?_
  refine v_bipushI dX4_grazed_25 rfl ?_
  refine v_iconstI dX4_grazed_27 ?_
  refine v_iconstI dX4_grazed_28 ?_
  refine v_callVVw dX4_grazed_29 ml_X4_58 (so_X2_spread hK hn hp11 (Fr.trans hf9 hf12) w) ((hp11 58 (by decide)).trans (ent_58 _)) rfl (s_lt hn rfl) rfl rfl (Nat.le_of_ble_eq_true rfl) (Nat.le_of_ble_eq_true rfl) (Nat.zero_le _) (Nat.zero_le _) (fun X14 h15 hp17 hf16 w => ?_)
  have hf18 := Fr.trans hf12 hf16
  refine v_bipushI dX4_grazed_32 rfl ?_
  refine v_istore dX4_grazed_34 (Nat.le_of_ble_eq_true rfl) ?_
  refine v_pick [2, 4, 5, 1, 0] rfl ?_
  obtain ⟨I21, m22, wi25, wl24⟩ := w
  have hL26 : ∀ (N29 : Nat) (x19 : Int) (X20 : XT) (h30 : Nat → sE), m22 x19 X20 < N29 → I21 x19 X20 → Pic X20 h30 → Fr h h30 → V (m_X4_grazed, 6, 0, 0, n, pIw n h Q, s_G0) 0 0 n h30 36 [(0, .ref 60), (2, .int (iI a1)), (3, .int (iI a2)), (4, .int (iI v1)), (5, .int (iI x19))] [] := by
    intro N29
    induction N29 with
    | zero => intro x19 X20 h30 hm27; exact absurd hm27 (Nat.not_lt_zero _)
    | succ N29 ih23 =>
      intro x19 X20 h30 hm27 hI28 hp31 hf32
      have w := wl24 x19 X20 hI28
      refine v_iload dX4_grazed_36 rfl ?_
      obtain ⟨q33, w⟩ := w
      refine v_if_ltI (tgt := 121) dX4_grazed_38 (by decide) q33.1 q33.2 (fun c34 => ?_) (fun c34 => ?_)
      · replace w := w.1 c34
        refine v_iload_n dX4_grazed_121 rfl ?_
        refine v_iconstI dX4_grazed_122 ?_
        obtain ⟨q35, w⟩ := w
        refine v_icmp_neI (tgt := 137) dX4_grazed_123 (by decide) q35.1 q35.2 (by decide) (by decide) (fun c36 => ?_) (fun c36 => ?_)
        · replace w := w.1 c36
          refine v_aload_n dX4_grazed_137 rfl ?_
          refine v_iload_n dX4_grazed_138 rfl ?_
          refine v_iload dX4_grazed_139 rfl ?_
          refine v_iload_n dX4_grazed_141 rfl ?_
          refine v_callVIr dX4_grazed_142 ml_X4_126 (so_X4_grazeStepIn hn hp31  w) ((hp31 60 (by decide)).trans (ent_60 _)) rfl (s_lt hn rfl) rfl rfl (Nat.le_of_ble_eq_true rfl) (Nat.le_of_ble_eq_true rfl) (Nat.zero_le _) (Nat.zero_le _) (fun v37 w => ?_)
          exact v_iret dX4_grazed_145 rfl (Nat.zero_le _) (Nat.zero_le _) ⟨rfl, hf32, _, _, rfl, hp31, w⟩
        · replace w := w.2 c36
          refine v_aload_n dX4_grazed_126 rfl ?_
          refine v_iconstI dX4_grazed_127 ?_
          refine v_iload dX4_grazed_128 rfl ?_
          refine v_iload_n dX4_grazed_130 rfl ?_
          refine v_callVIr dX4_grazed_131 ml_X4_123 (so_X4_yieldOf hn hp31  w) ((hp31 60 (by decide)).trans (ent_60 _)) rfl (s_lt hn rfl) rfl rfl (Nat.le_of_ble_eq_true rfl) (Nat.le_of_ble_eq_true rfl) (Nat.zero_le _) (Nat.zero_le _) (fun v43 w => ?_)
          refine v_goto (tgt := 145) dX4_grazed_134 (by decide) ?_
          exact v_iret dX4_grazed_145 rfl (Nat.zero_le _) (Nat.zero_le _) ⟨rfl, hf32, _, _, rfl, hp31, w⟩
      · replace w := w.2 c34
        refine v_iconstI dX4_grazed_41 ?_
        refine v_istore dX4_grazed_42 (Nat.le_of_ble_eq_true rfl) ?_
        refine v_pick [1, 2, 3, 4, 5, 0] rfl ?_
        obtain ⟨I51, m52, wi55, wl54⟩ := w
        have hL56 : ∀ (N59 : Nat) (x49 : Int) (X50 : XT) (h60 : Nat → sE), m52 x49 X50 < N59 → I51 x49 X50 → Pic X50 h60 → Fr h h60 → V (m_X4_grazed, 6, 0, 0, n, pIw n h Q, s_G0) 0 0 n h60 44 [(0, .ref 60), (2, .int (iI a1)), (3, .int (iI a2)), (4, .int (iI v1)), (5, .int (iI x19)), (6, .int (iI x49))] [] := by
          intro N59
          induction N59 with
          | zero => intro x49 X50 h60 hm57; exact absurd hm57 (Nat.not_lt_zero _)
          | succ N59 ih53 =>
            intro x49 X50 h60 hm57 hI58 hp61 hf62
            have w := wl54 x49 X50 hI58
            refine v_iload dX4_grazed_44 rfl ?_
            refine v_bipushI dX4_grazed_46 rfl ?_
            obtain ⟨q63, w⟩ := w
            refine v_icmp_geI (tgt := 75) dX4_grazed_48 (by decide) q63.1 q63.2 (by decide) (by decide) (fun c64 => ?_) (fun c64 => ?_)
            · replace w := w.1 c64
              refine v_iconstI dX4_grazed_75 ?_
              refine v_istore dX4_grazed_76 (Nat.le_of_ble_eq_true rfl) ?_
              refine v_pick [1, 2, 3, 4, 5, 0] rfl ?_
              obtain ⟨I67, m68, wi71, wl70⟩ := w
              have hL72 : ∀ (N75 : Nat) (x65 : Int) (X66 : XT) (h76 : Nat → sE), m68 x65 X66 < N75 → I67 x65 X66 → Pic X66 h76 → Fr h h76 → V (m_X4_grazed, 6, 0, 0, n, pIw n h Q, s_G0) 0 0 n h76 78 [(0, .ref 60), (2, .int (iI a1)), (3, .int (iI a2)), (4, .int (iI v1)), (5, .int (iI x19)), (6, .int (iI x65))] [] := by
                intro N75
                induction N75 with
                | zero => intro x65 X66 h76 hm73; exact absurd hm73 (Nat.not_lt_zero _)
                | succ N75 ih69 =>
                  intro x65 X66 h76 hm73 hI74 hp77 hf78
                  have w := wl70 x65 X66 hI74
                  refine v_iload dX4_grazed_78 rfl ?_
                  refine v_sipushI dX4_grazed_80 rfl ?_
                  obtain ⟨q79, w⟩ := w
                  refine v_icmp_geI (tgt := 115) dX4_grazed_83 (by decide) q79.1 q79.2 (by decide) (by decide) (fun c80 => ?_) (fun c80 => ?_)
                  · replace w := w.1 c80
                    refine v_iincI dX4_grazed_115 rfl (Nat.le_of_ble_eq_true rfl) ?_
                    refine v_goto (tgt := 36) dX4_grazed_118 (by decide) ?_
                    refine v_pick [1, 2, 3, 4, 0] rfl ?_
                    exact ih23 _ _ _ (Nat.lt_of_lt_of_le w.2 (Nat.le_of_lt_succ hm27)) w.1 hp77 hf78
                  · replace w := w.2 c80
                    refine v_aload_n dX4_grazed_86 rfl ?_
                    refine v_get dX4_grazed_87 fl_X4_42 ((hp77 60 (by decide)).trans (ent_60 _)) rfl (s_lt hn rfl) ?_
                    refine v_iload dX4_grazed_90 rfl ?_
                    refine v_iload dX4_grazed_92 rfl ?_
                    refine v_callVIr dX4_grazed_94 ml_X4_96 (so_X2_isReached hn hp77  w) ((hp77 58 (by decide)).trans (ent_58 _)) rfl (s_lt hn rfl) rfl rfl (Nat.le_of_ble_eq_true rfl) (Nat.le_of_ble_eq_true rfl) (Nat.zero_le _) (Nat.zero_le _) (fun v81 w => ?_)
                    obtain ⟨q87, w⟩ := w
                    refine v_if_eqI (tgt := 109) dX4_grazed_97 (by decide) q87.1 q87.2 (fun c88 => ?_) (fun c88 => ?_)
                    · replace w := w.1 c88
                      refine v_iincI dX4_grazed_109 rfl (Nat.le_of_ble_eq_true rfl) ?_
                      refine v_goto (tgt := 78) dX4_grazed_112 (by decide) ?_
                      refine v_pick [1, 2, 3, 4, 5, 0] rfl ?_
                      exact ih69 _ _ _ (Nat.lt_of_lt_of_le w.2 (Nat.le_of_lt_succ hm73)) w.1 hp77 hf78
                    · replace w := w.2 c88
                      refine v_aload_n dX4_grazed_100 rfl ?_
                      refine v_iload dX4_grazed_101 rfl ?_
                      refine v_iload dX4_grazed_103 rfl ?_
                      refine v_iload_n dX4_grazed_105 rfl ?_
                      refine v_callVVw dX4_grazed_106 ml_X4_119 (so_X4_graze hn hp77  w) ((hp77 60 (by decide)).trans (ent_60 _)) rfl (s_lt hn rfl) rfl rfl (Nat.le_of_ble_eq_true rfl) (Nat.le_of_ble_eq_true rfl) (Nat.zero_le _) (Nat.zero_le _) (fun X90 h91 hp93 hf92 w => ?_)
                      have hf94 := Fr.trans hf78 hf92
                      refine v_iincI dX4_grazed_109 rfl (Nat.le_of_ble_eq_true rfl) ?_
                      refine v_goto (tgt := 78) dX4_grazed_112 (by decide) ?_
                      refine v_pick [1, 2, 3, 4, 5, 0] rfl ?_
                      exact ih69 _ _ _ (Nat.lt_of_lt_of_le w.2 (Nat.le_of_lt_succ hm73)) w.1 hp93 hf94
              exact hL72 _ _ _ _ (Nat.lt_succ_self _) wi71 hp61 hf62
            · replace w := w.2 c64
              refine v_aload_n dX4_grazed_51 rfl ?_
              refine v_get dX4_grazed_52 fl_X4_22 ((hp61 60 (by decide)).trans (ent_60 _)) rfl (s_lt hn rfl) ?_
              refine v_iload dX4_grazed_55 rfl ?_
              refine v_aload_n dX4_grazed_57 rfl ?_
              refine v_get dX4_grazed_58 fl_X4_38 ((hp61 60 (by decide)).trans (ent_60 _)) rfl (s_lt hn rfl) ?_
              refine v_iload dX4_grazed_61 rfl ?_
              refine v_iload dX4_grazed_63 rfl ?_
              refine v_callVIw dX4_grazed_65 ml_X4_114 (so_X0_worthOf hK hn hp61 (Fr.trans hf9 hf62) w) ((hp61 44 (by decide)).trans (ent_44 _)) rfl (s_lt hn rfl) rfl rfl (Nat.le_of_ble_eq_true rfl) (Nat.le_of_ble_eq_true rfl) (Nat.zero_le _) (Nat.zero_le _) (fun v95 X96 h97 hp99 hf98 w => ?_)
              have hf100 := Fr.trans hf62 hf98
              obtain ⟨q101, w⟩ := w
              refine v_iastI dX4_grazed_68 ((hp99 64 (by decide)).trans (ent_64 _)) (s_lt hn rfl) q101.1 q101.2 (ix_le q101.2 (by decide)) (fun h102 E103 F104 => ?_)
              have hp105 := pic_st hp99 (show h102 64 = ent 64 (uI _ x49 v95) from E103) F104
              have hf106 := Fr.up (c := 64) hf100 F104 rfl
              refine v_iincI dX4_grazed_69 rfl (Nat.le_of_ble_eq_true rfl) ?_
              refine v_goto (tgt := 44) dX4_grazed_72 (by decide) ?_
              refine v_pick [1, 2, 3, 4, 5, 0] rfl ?_
              exact ih53 _ _ _ (Nat.lt_of_lt_of_le w.2 (Nat.le_of_lt_succ hm57)) w.1 hp105 hf106
        exact hL56 _ _ _ _ (Nat.lt_succ_self _) wi55 hp31 hf32
  exact hL26 _ _ _ _ (Nat.lt_succ_self _) wi25 hp17 hf18
theorem dX11_pasture_0 : decode cX11_pasture 0 = .ok (.aload_n 0, 1) := by decide +kernel
theorem dX11_pasture_1 : decode cX11_pasture 1 = .ok (.getfield 12, 3) := by decide +kernel
theorem dX11_pasture_4 : decode cX11_pasture 4 = .ok (.iload_n 1, 1) := by decide +kernel
theorem dX11_pasture_5 : decode cX11_pasture 5 = .ok (.invokevirtual 257, 3) := by decide +kernel
theorem dX11_pasture_8 : decode cX11_pasture 8 = .ok (.ifCond .eq 23, 3) := by decide +kernel
theorem dX11_pasture_11 : decode cX11_pasture 11 = .ok (.iload_n 2, 1) := by decide +kernel
theorem dX11_pasture_12 : decode cX11_pasture 12 = .ok (.iconst 0, 1) := by decide +kernel
theorem dX11_pasture_13 : decode cX11_pasture 13 = .ok (.bipush 11, 2) := by decide +kernel
theorem dX11_pasture_15 : decode cX11_pasture 15 = .ok (.invokestatic 115, 3) := by decide +kernel
theorem dX11_pasture_18 : decode cX11_pasture 18 = .ok (.ifCond .eq 13, 3) := by decide +kernel
theorem dX11_pasture_21 : decode cX11_pasture 21 = .ok (.iload_n 3, 1) := by decide +kernel
theorem dX11_pasture_22 : decode cX11_pasture 22 = .ok (.iconst (-1), 1) := by decide +kernel
theorem dX11_pasture_23 : decode cX11_pasture 23 = .ok (.bipush 10, 2) := by decide +kernel
theorem dX11_pasture_25 : decode cX11_pasture 25 = .ok (.invokestatic 115, 3) := by decide +kernel
theorem dX11_pasture_28 : decode cX11_pasture 28 = .ok (.ifCond .ne 5, 3) := by decide +kernel
theorem dX11_pasture_31 : decode cX11_pasture 31 = .ok (.iconst (-1), 1) := by decide +kernel
theorem dX11_pasture_32 : decode cX11_pasture 32 = .ok (.ireturn, 1) := by decide +kernel
theorem dX11_pasture_33 : decode cX11_pasture 33 = .ok (.aload_n 0, 1) := by decide +kernel
theorem dX11_pasture_34 : decode cX11_pasture 34 = .ok (.getfield 75, 3) := by decide +kernel
theorem dX11_pasture_37 : decode cX11_pasture 37 = .ok (.iload_n 1, 1) := by decide +kernel
theorem dX11_pasture_38 : decode cX11_pasture 38 = .ok (.iload_n 2, 1) := by decide +kernel
theorem dX11_pasture_39 : decode cX11_pasture 39 = .ok (.iload_n 3, 1) := by decide +kernel
theorem dX11_pasture_40 : decode cX11_pasture 40 = .ok (.invokevirtual 300, 3) := by decide +kernel
theorem dX11_pasture_43 : decode cX11_pasture 43 = .ok (.ireturn, 1) := by decide +kernel
def w_X11_pasture (K : LK) (a0 a1 a2 : Int) (X : XT) (Q : Int → XT → Prop) : Prop :=
  R32 a0 ∧ R32 (X 1 9) ∧ (¬ (0 ≤ a0 ∧ a0 < X 1 9) → Q (-1) X) ∧ ((0 ≤ a0 ∧ a0 < X 1 9) → R32 a1 ∧ (¬ (0 ≤ a1 ∧ a1 ≤ 11) → Q (-1) X) ∧ ((0 ≤ a1 ∧ a1 ≤ 11) → R32 a2 ∧ (((-1) ≤ a2 ∧ a2 ≤ 10) → w_X4_grazed K  a0 a1 a2 X (fun (v8 : Int) (X9 : XT) => Q v8 X9)) ∧ (¬ ((-1) ≤ a2 ∧ a2 ≤ 10) → Q (-1) X)))
set_option maxRecDepth 20000 in
theorem so_X11_pasture {n : Nat} {h : Nat → sE} {X : XT} {K : LK} {hk : Nat → sE} (hK : LKok K n hk) {a0 a1 a2 : Int} {Q : Int → XT → Prop} (hn : 115 ≤ n) (hp : Pic X h) (hf9 : Fr hk h) (w : w_X11_pasture K  a0 a1 a2 X Q) : Sp m_X11_pasture 7 0 0 [.ref 0, .int (iI a0), .int (iI a1), .int (iI a2)] n h (pIw n h Q) := by
  unfold w_X11_pasture at w
  refine Sp.ofV (by decide +kernel) (Nat.le_of_ble_eq_true rfl) ?_
  have hf : Fr h h := fun _ _ => rfl
  refine v_aload_n dX11_pasture_0 rfl ?_
  refine v_get dX11_pasture_1 fl_X11_12 ((hp 0 (by decide)).trans (ent_0 _)) rfl (s_lt hn rfl) ?_
  refine v_iload_n dX11_pasture_4 rfl ?_
  obtain ⟨q1, q2, w⟩ := w
  refine v_callVp dX11_pasture_5 ml_X11_257 (sq_X3_isCloud (a := a0) (g1 := X 1) hn (hp 1 (by decide)) q1 q2) ((hp 1 (by decide)).trans (ent_1 _)) rfl (s_lt hn rfl) rfl rfl (Nat.le_of_ble_eq_true rfl) (Nat.le_of_ble_eq_true rfl) (Nat.zero_le _) (Nat.zero_le _) ?_
  refine v_ifeqB (tgt := 31) dX11_pasture_8 (by decide) (fun c3 => ?_) (fun c3 => ?_)
  · replace w := w.1 c3
    refine v_iconstI dX11_pasture_31 ?_
    exact v_iret dX11_pasture_32 rfl (Nat.zero_le _) (Nat.zero_le _) ⟨rfl, hf, _, _, rfl, hp, w⟩
  · replace w := w.2 c3
    refine v_iload_n dX11_pasture_11 rfl ?_
    refine v_iconstI dX11_pasture_12 ?_
    refine v_bipushI dX11_pasture_13 rfl ?_
    obtain ⟨q4, w⟩ := w
    refine v_callSp dX11_pasture_15 ml_X11_115 (sp_X11_within (a := a1) (b := 0) (c := 11) q4 (by decide) (by decide)) rfl rfl (Nat.le_of_ble_eq_true rfl) (Nat.le_of_ble_eq_true rfl) (Nat.zero_le _) (Nat.zero_le _) ?_
    refine v_ifeqB (tgt := 31) dX11_pasture_18 (by decide) (fun c5 => ?_) (fun c5 => ?_)
    · replace w := w.1 c5
      refine v_iconstI dX11_pasture_31 ?_
      exact v_iret dX11_pasture_32 rfl (Nat.zero_le _) (Nat.zero_le _) ⟨rfl, hf, _, _, rfl, hp, w⟩
    · replace w := w.2 c5
      refine v_iload_n dX11_pasture_21 rfl ?_
      refine v_iconstI dX11_pasture_22 ?_
      refine v_bipushI dX11_pasture_23 rfl ?_
      obtain ⟨q6, w⟩ := w
      refine v_callSp dX11_pasture_25 ml_X11_115 (sp_X11_within (a := a2) (b := (-1)) (c := 10) q6 (by decide) (by decide)) rfl rfl (Nat.le_of_ble_eq_true rfl) (Nat.le_of_ble_eq_true rfl) (Nat.zero_le _) (Nat.zero_le _) ?_
      refine v_ifneB (tgt := 33) dX11_pasture_28 (by decide) (fun c7 => ?_) (fun c7 => ?_)
      · replace w := w.1 c7
        refine v_aload_n dX11_pasture_33 rfl ?_
        refine v_get dX11_pasture_34 fl_X11_75 ((hp 0 (by decide)).trans (ent_0 _)) rfl (s_lt hn rfl) ?_
        refine v_iload_n dX11_pasture_37 rfl ?_
        refine v_iload_n dX11_pasture_38 rfl ?_
        refine v_iload_n dX11_pasture_39 rfl ?_
        refine v_callVIw dX11_pasture_40 ml_X11_300 (so_X4_grazed hK hn hp (Fr.trans hf9 hf) w) ((hp 60 (by decide)).trans (ent_60 _)) rfl (s_lt hn rfl) rfl rfl (Nat.le_of_ble_eq_true rfl) (Nat.le_of_ble_eq_true rfl) (Nat.zero_le _) (Nat.zero_le _) (fun v8 X9 h10 hp12 hf11 w => ?_)
        have hf13 := Fr.trans hf hf11
        exact v_iret dX11_pasture_43 rfl (Nat.zero_le _) (Nat.zero_le _) ⟨rfl, hf13, _, _, rfl, hp12, w⟩
      · replace w := w.2 c7
        refine v_iconstI dX11_pasture_31 ?_
        exact v_iret dX11_pasture_32 rfl (Nat.zero_le _) (Nat.zero_le _) ⟨rfl, hf, _, _, rfl, hp, w⟩
theorem dX4_drawStuckRows_0 : decode cX4_drawStuckRows 0 = .ok (.iconst 0, 1) := by decide +kernel
theorem dX4_drawStuckRows_1 : decode cX4_drawStuckRows 1 = .ok (.istore_n 1, 1) := by decide +kernel
theorem dX4_drawStuckRows_2 : decode cX4_drawStuckRows 2 = .ok (.iload_n 1, 1) := by decide +kernel
theorem dX4_drawStuckRows_3 : decode cX4_drawStuckRows 3 = .ok (.bipush 12, 2) := by decide +kernel
theorem dX4_drawStuckRows_5 : decode cX4_drawStuckRows 5 = .ok (.if_icmp .ge 79, 3) := by decide +kernel
theorem dX4_drawStuckRows_8 : decode cX4_drawStuckRows 8 = .ok (.iconst 0, 1) := by decide +kernel
theorem dX4_drawStuckRows_9 : decode cX4_drawStuckRows 9 = .ok (.istore_n 2, 1) := by decide +kernel
theorem dX4_drawStuckRows_10 : decode cX4_drawStuckRows 10 = .ok (.iload_n 2, 1) := by decide +kernel
theorem dX4_drawStuckRows_11 : decode cX4_drawStuckRows 11 = .ok (.bipush 24, 2) := by decide +kernel
theorem dX4_drawStuckRows_13 : decode cX4_drawStuckRows 13 = .ok (.if_icmp .ge 65, 3) := by decide +kernel
theorem dX4_drawStuckRows_16 : decode cX4_drawStuckRows 16 = .ok (.iconst 0, 1) := by decide +kernel
theorem dX4_drawStuckRows_17 : decode cX4_drawStuckRows 17 = .ok (.istore_n 3, 1) := by decide +kernel
theorem dX4_drawStuckRows_18 : decode cX4_drawStuckRows 18 = .ok (.iconst 0, 1) := by decide +kernel
theorem dX4_drawStuckRows_19 : decode cX4_drawStuckRows 19 = .ok (.istore 4, 2) := by decide +kernel
theorem dX4_drawStuckRows_21 : decode cX4_drawStuckRows 21 = .ok (.iload 4, 2) := by decide +kernel
theorem dX4_drawStuckRows_23 : decode cX4_drawStuckRows 23 = .ok (.bipush 24, 2) := by decide +kernel
theorem dX4_drawStuckRows_25 : decode cX4_drawStuckRows 25 = .ok (.if_icmp .ge 35, 3) := by decide +kernel
theorem dX4_drawStuckRows_28 : decode cX4_drawStuckRows 28 = .ok (.aload_n 0, 1) := by decide +kernel
theorem dX4_drawStuckRows_29 : decode cX4_drawStuckRows 29 = .ok (.getfield 42, 3) := by decide +kernel
theorem dX4_drawStuckRows_32 : decode cX4_drawStuckRows 32 = .ok (.iload_n 1, 1) := by decide +kernel
theorem dX4_drawStuckRows_33 : decode cX4_drawStuckRows 33 = .ok (.bipush 24, 2) := by decide +kernel
theorem dX4_drawStuckRows_35 : decode cX4_drawStuckRows 35 = .ok (.iload_n 2, 1) := by decide +kernel
theorem dX4_drawStuckRows_36 : decode cX4_drawStuckRows 36 = .ok (.imul, 1) := by decide +kernel
theorem dX4_drawStuckRows_37 : decode cX4_drawStuckRows 37 = .ok (.iload 4, 2) := by decide +kernel
theorem dX4_drawStuckRows_39 : decode cX4_drawStuckRows 39 = .ok (.iadd, 1) := by decide +kernel
theorem dX4_drawStuckRows_40 : decode cX4_drawStuckRows 40 = .ok (.invokevirtual 173, 3) := by decide +kernel
theorem dX4_drawStuckRows_43 : decode cX4_drawStuckRows 43 = .ok (.iconst 2, 1) := by decide +kernel
theorem dX4_drawStuckRows_44 : decode cX4_drawStuckRows 44 = .ok (.if_icmp .ne 10, 3) := by decide +kernel
theorem dX4_drawStuckRows_47 : decode cX4_drawStuckRows 47 = .ok (.iload_n 3, 1) := by decide +kernel
theorem dX4_drawStuckRows_48 : decode cX4_drawStuckRows 48 = .ok (.iconst 1, 1) := by decide +kernel
theorem dX4_drawStuckRows_49 : decode cX4_drawStuckRows 49 = .ok (.iload 4, 2) := by decide +kernel
theorem dX4_drawStuckRows_51 : decode cX4_drawStuckRows 51 = .ok (.ishl, 1) := by decide +kernel
theorem dX4_drawStuckRows_52 : decode cX4_drawStuckRows 52 = .ok (.ior, 1) := by decide +kernel
theorem dX4_drawStuckRows_53 : decode cX4_drawStuckRows 53 = .ok (.istore_n 3, 1) := by decide +kernel
theorem dX4_drawStuckRows_54 : decode cX4_drawStuckRows 54 = .ok (.iinc 4 1, 3) := by decide +kernel
theorem dX4_drawStuckRows_57 : decode cX4_drawStuckRows 57 = .ok (.goto (-36), 3) := by decide +kernel
theorem dX4_drawStuckRows_60 : decode cX4_drawStuckRows 60 = .ok (.aload_n 0, 1) := by decide +kernel
theorem dX4_drawStuckRows_61 : decode cX4_drawStuckRows 61 = .ok (.getfield 25, 3) := by decide +kernel
theorem dX4_drawStuckRows_64 : decode cX4_drawStuckRows 64 = .ok (.iload_n 1, 1) := by decide +kernel
theorem dX4_drawStuckRows_65 : decode cX4_drawStuckRows 65 = .ok (.bipush 24, 2) := by decide +kernel
theorem dX4_drawStuckRows_67 : decode cX4_drawStuckRows 67 = .ok (.imul, 1) := by decide +kernel
theorem dX4_drawStuckRows_68 : decode cX4_drawStuckRows 68 = .ok (.iload_n 2, 1) := by decide +kernel
theorem dX4_drawStuckRows_69 : decode cX4_drawStuckRows 69 = .ok (.iadd, 1) := by decide +kernel
theorem dX4_drawStuckRows_70 : decode cX4_drawStuckRows 70 = .ok (.iload_n 3, 1) := by decide +kernel
theorem dX4_drawStuckRows_71 : decode cX4_drawStuckRows 71 = .ok (.iastore, 1) := by decide +kernel
theorem dX4_drawStuckRows_72 : decode cX4_drawStuckRows 72 = .ok (.iinc 2 1, 3) := by decide +kernel
theorem dX4_drawStuckRows_75 : decode cX4_drawStuckRows 75 = .ok (.goto (-65), 3) := by decide +kernel
theorem dX4_drawStuckRows_78 : decode cX4_drawStuckRows 78 = .ok (.iinc 1 1, 3) := by decide +kernel
theorem dX4_drawStuckRows_81 : decode cX4_drawStuckRows 81 = .ok (.goto (-79), 3) := by decide +kernel
theorem dX4_drawStuckRows_84 : decode cX4_drawStuckRows 84 = .ok (.return_, 1) := by decide +kernel
def w_X4_drawStuckRows (X : XT) (Q : XT → Prop) : Prop :=
  ∃ (I3 : Int → XT → Prop) (m4 : Int → XT → Nat), I3 0 X ∧ ∀ (x1 : Int) (X2 : XT), I3 x1 X2 → R32 x1 ∧ (12 ≤ x1 → Q X2) ∧ (¬ 12 ≤ x1 → ∃ (I19 : Int → XT → Prop) (m20 : Int → XT → Nat), I19 0 X2 ∧ ∀ (x17 : Int) (X18 : XT), I19 x17 X18 → R32 x17 ∧ (24 ≤ x17 → I3 (x1 + 1) X18 ∧ m4 (x1 + 1) X18 < m4 x1 X2) ∧ (¬ 24 ≤ x17 → ∃ (I35 : Int → Int → Prop) (m36 : Int → Int → Nat), I35 0 0 ∧ ∀ (x33 : Int) (x34 : Int), I35 x33 x34 → R32 x34 ∧ (24 ≤ x34 → (0 ≤ ((x1 * 24) + x17) ∧ ((x1 * 24) + x17) < 288) ∧ I19 (x17 + 1) (x_st X18 65 ((x1 * 24) + x17) x33) ∧ m20 (x17 + 1) (x_st X18 65 ((x1 * 24) + x17) x33) < m20 x17 X18) ∧ (¬ 24 ≤ x34 → w_X2_markOf  x1 ((24 * x17) + x34) X18 (fun (v52 : Int) => R32 v52 ∧ (¬ v52 = 2 → I35 x33 (x34 + 1) ∧ m36 x33 (x34 + 1) < m36 x33 x34) ∧ (v52 = 2 → I35 (oOr x33 (oShl 1 x34)) (x34 + 1) ∧ m36 (oOr x33 (oShl 1 x34)) (x34 + 1) < m36 x33 x34)))))
set_option maxRecDepth 20000 in
theorem so_X4_drawStuckRows {n : Nat} {h : Nat → sE} {X : XT} {Q : XT → Prop} (hn : 115 ≤ n) (hp : Pic X h) (w : w_X4_drawStuckRows   X Q) : Sp m_X4_drawStuckRows 2 0 0 [.ref 60] n h (pVw n h Q) := by
  unfold w_X4_drawStuckRows at w
  refine Sp.ofV (by decide +kernel) (Nat.le_of_ble_eq_true rfl) ?_
  have hf : Fr h h := fun _ _ => rfl
  refine v_iconstI dX4_drawStuckRows_0 ?_
  refine v_istore_n dX4_drawStuckRows_1 (Nat.le_of_ble_eq_true rfl) ?_
  refine v_pick [1, 0] rfl ?_
  obtain ⟨I3, m4, wi7, wl6⟩ := w
  have hL8 : ∀ (N11 : Nat) (x1 : Int) (X2 : XT) (h12 : Nat → sE), m4 x1 X2 < N11 → I3 x1 X2 → Pic X2 h12 → Fr h h12 → V (m_X4_drawStuckRows, 2, 0, 0, n, pVw n h Q, s_G0) 0 0 n h12 2 [(0, .ref 60), (1, .int (iI x1))] [] := by
    intro N11
    induction N11 with
    | zero => intro x1 X2 h12 hm9; exact absurd hm9 (Nat.not_lt_zero _)
    | succ N11 ih5 =>
      intro x1 X2 h12 hm9 hI10 hp13 hf14
      have w := wl6 x1 X2 hI10
      refine v_iload_n dX4_drawStuckRows_2 rfl ?_
      refine v_bipushI dX4_drawStuckRows_3 rfl ?_
      obtain ⟨q15, w⟩ := w
      refine v_icmp_geI (tgt := 84) dX4_drawStuckRows_5 (by decide) q15.1 q15.2 (by decide) (by decide) (fun c16 => ?_) (fun c16 => ?_)
      · replace w := w.1 c16
        exact v_vret dX4_drawStuckRows_84 rfl (Nat.zero_le _) (Nat.zero_le _) ⟨rfl, hf14, _, rfl, hp13, w⟩
      · replace w := w.2 c16
        refine v_iconstI dX4_drawStuckRows_8 ?_
        refine v_istore_n dX4_drawStuckRows_9 (Nat.le_of_ble_eq_true rfl) ?_
        refine v_pick [1, 2, 0] rfl ?_
        obtain ⟨I19, m20, wi23, wl22⟩ := w
        have hL24 : ∀ (N27 : Nat) (x17 : Int) (X18 : XT) (h28 : Nat → sE), m20 x17 X18 < N27 → I19 x17 X18 → Pic X18 h28 → Fr h h28 → V (m_X4_drawStuckRows, 2, 0, 0, n, pVw n h Q, s_G0) 0 0 n h28 10 [(0, .ref 60), (1, .int (iI x1)), (2, .int (iI x17))] [] := by
          intro N27
          induction N27 with
          | zero => intro x17 X18 h28 hm25; exact absurd hm25 (Nat.not_lt_zero _)
          | succ N27 ih21 =>
            intro x17 X18 h28 hm25 hI26 hp29 hf30
            have w := wl22 x17 X18 hI26
            refine v_iload_n dX4_drawStuckRows_10 rfl ?_
            refine v_bipushI dX4_drawStuckRows_11 rfl ?_
            obtain ⟨q31, w⟩ := w
            refine v_icmp_geI (tgt := 78) dX4_drawStuckRows_13 (by decide) q31.1 q31.2 (by decide) (by decide) (fun c32 => ?_) (fun c32 => ?_)
            · replace w := w.1 c32
              refine v_iincI dX4_drawStuckRows_78 rfl (Nat.le_of_ble_eq_true rfl) ?_
              refine v_goto (tgt := 2) dX4_drawStuckRows_81 (by decide) ?_
              refine v_pick [1, 0] rfl ?_
              exact ih5 _ _ _ (Nat.lt_of_lt_of_le w.2 (Nat.le_of_lt_succ hm9)) w.1 hp29 hf30
            · replace w := w.2 c32
              refine v_iconstI dX4_drawStuckRows_16 ?_
              refine v_istore_n dX4_drawStuckRows_17 (Nat.le_of_ble_eq_true rfl) ?_
              refine v_iconstI dX4_drawStuckRows_18 ?_
              refine v_istore dX4_drawStuckRows_19 (Nat.le_of_ble_eq_true rfl) ?_
              refine v_pick [2, 3, 4, 1, 0] rfl ?_
              obtain ⟨I35, m36, wi39, wl38⟩ := w
              have hL40 : ∀ (N43 : Nat) (x33 : Int) (x34 : Int), m36 x33 x34 < N43 → I35 x33 x34 → V (m_X4_drawStuckRows, 2, 0, 0, n, pVw n h Q, s_G0) 0 0 n h28 21 [(0, .ref 60), (1, .int (iI x1)), (2, .int (iI x17)), (3, .int (iI x33)), (4, .int (iI x34))] [] := by
                intro N43
                induction N43 with
                | zero => intro x33 x34  hm41; exact absurd hm41 (Nat.not_lt_zero _)
                | succ N43 ih37 =>
                  intro x33 x34  hm41 hI42
                  have w := wl38 x33 x34 hI42
                  refine v_iload dX4_drawStuckRows_21 rfl ?_
                  refine v_bipushI dX4_drawStuckRows_23 rfl ?_
                  obtain ⟨q44, w⟩ := w
                  refine v_icmp_geI (tgt := 60) dX4_drawStuckRows_25 (by decide) q44.1 q44.2 (by decide) (by decide) (fun c45 => ?_) (fun c45 => ?_)
                  · replace w := w.1 c45
                    refine v_aload_n dX4_drawStuckRows_60 rfl ?_
                    refine v_get dX4_drawStuckRows_61 fl_X4_25 ((hp29 60 (by decide)).trans (ent_60 _)) rfl (s_lt hn rfl) ?_
                    refine v_iload_n dX4_drawStuckRows_64 rfl ?_
                    refine v_bipushI dX4_drawStuckRows_65 rfl ?_
                    refine v_imulI dX4_drawStuckRows_67 ?_
                    refine v_iload_n dX4_drawStuckRows_68 rfl ?_
                    refine v_iaddI dX4_drawStuckRows_69 ?_
                    refine v_iload_n dX4_drawStuckRows_70 rfl ?_
                    obtain ⟨q46, w⟩ := w
                    refine v_iastI dX4_drawStuckRows_71 ((hp29 65 (by decide)).trans (ent_65 _)) (s_lt hn rfl) q46.1 q46.2 (ix_le q46.2 (by decide)) (fun h47 E48 F49 => ?_)
                    have hp50 := pic_st hp29 (show h47 65 = ent 65 (uI _ ((x1 * 24) + x17) x33) from E48) F49
                    have hf51 := Fr.up (c := 65) hf30 F49 rfl
                    refine v_iincI dX4_drawStuckRows_72 rfl (Nat.le_of_ble_eq_true rfl) ?_
                    refine v_goto (tgt := 10) dX4_drawStuckRows_75 (by decide) ?_
                    refine v_pick [1, 2, 0] rfl ?_
                    exact ih21 _ _ _ (Nat.lt_of_lt_of_le w.2 (Nat.le_of_lt_succ hm25)) w.1 hp50 hf51
                  · replace w := w.2 c45
                    refine v_aload_n dX4_drawStuckRows_28 rfl ?_
                    refine v_get dX4_drawStuckRows_29 fl_X4_42 ((hp29 60 (by decide)).trans (ent_60 _)) rfl (s_lt hn rfl) ?_
                    refine v_iload_n dX4_drawStuckRows_32 rfl ?_
                    refine v_bipushI dX4_drawStuckRows_33 rfl ?_
                    refine v_iload_n dX4_drawStuckRows_35 rfl ?_
                    refine v_imulI dX4_drawStuckRows_36 ?_
                    refine v_iload dX4_drawStuckRows_37 rfl ?_
                    refine v_iaddI dX4_drawStuckRows_39 ?_
                    refine v_callVIr dX4_drawStuckRows_40 ml_X4_173 (so_X2_markOf hn hp29  w) ((hp29 58 (by decide)).trans (ent_58 _)) rfl (s_lt hn rfl) rfl rfl (Nat.le_of_ble_eq_true rfl) (Nat.le_of_ble_eq_true rfl) (Nat.zero_le _) (Nat.zero_le _) (fun v52 w => ?_)
                    refine v_iconstI dX4_drawStuckRows_43 ?_
                    obtain ⟨q58, w⟩ := w
                    refine v_icmp_neI (tgt := 54) dX4_drawStuckRows_44 (by decide) q58.1 q58.2 (by decide) (by decide) (fun c59 => ?_) (fun c59 => ?_)
                    · replace w := w.1 c59
                      refine v_iincI dX4_drawStuckRows_54 rfl (Nat.le_of_ble_eq_true rfl) ?_
                      refine v_goto (tgt := 21) dX4_drawStuckRows_57 (by decide) ?_
                      refine v_pick [1, 2, 3, 4, 0] rfl ?_
                      exact ih37 _ _ (Nat.lt_of_lt_of_le w.2 (Nat.le_of_lt_succ hm41)) w.1
                    · replace w := w.2 c59
                      refine v_iload_n dX4_drawStuckRows_47 rfl ?_
                      refine v_iconstI dX4_drawStuckRows_48 ?_
                      refine v_iload dX4_drawStuckRows_49 rfl ?_
                      refine v_ishlI dX4_drawStuckRows_51 ?_
                      refine v_iorI dX4_drawStuckRows_52 ?_
                      refine v_istore_n dX4_drawStuckRows_53 (Nat.le_of_ble_eq_true rfl) ?_
                      refine v_iincI dX4_drawStuckRows_54 rfl (Nat.le_of_ble_eq_true rfl) ?_
                      refine v_goto (tgt := 21) dX4_drawStuckRows_57 (by decide) ?_
                      refine v_pick [2, 3, 4, 1, 0] rfl ?_
                      exact ih37 _ _ (Nat.lt_of_lt_of_le w.2 (Nat.le_of_lt_succ hm41)) w.1
              exact hL40 _ _ _ (Nat.lt_succ_self _) wi39
        exact hL24 _ _ _ _ (Nat.lt_succ_self _) wi23 hp13 hf14
  exact hL8 _ _ _ _ (Nat.lt_succ_self _) wi7 hp hf
theorem dX4_feesOf_0 : decode cX4_feesOf 0 = .ok (.iconst 0, 1) := by decide +kernel
theorem dX4_feesOf_1 : decode cX4_feesOf 1 = .ok (.istore_n 2, 1) := by decide +kernel
theorem dX4_feesOf_2 : decode cX4_feesOf 2 = .ok (.iconst 0, 1) := by decide +kernel
theorem dX4_feesOf_3 : decode cX4_feesOf 3 = .ok (.istore_n 3, 1) := by decide +kernel
theorem dX4_feesOf_4 : decode cX4_feesOf 4 = .ok (.iload_n 3, 1) := by decide +kernel
theorem dX4_feesOf_5 : decode cX4_feesOf 5 = .ok (.aload_n 0, 1) := by decide +kernel
theorem dX4_feesOf_6 : decode cX4_feesOf 6 = .ok (.getfield 34, 3) := by decide +kernel
theorem dX4_feesOf_9 : decode cX4_feesOf 9 = .ok (.getfield 160, 3) := by decide +kernel
theorem dX4_feesOf_12 : decode cX4_feesOf 12 = .ok (.if_icmp .ge 30, 3) := by decide +kernel
theorem dX4_feesOf_15 : decode cX4_feesOf 15 = .ok (.iload_n 1, 1) := by decide +kernel
theorem dX4_feesOf_16 : decode cX4_feesOf 16 = .ok (.iload_n 3, 1) := by decide +kernel
theorem dX4_feesOf_17 : decode cX4_feesOf 17 = .ok (.iushr, 1) := by decide +kernel
theorem dX4_feesOf_18 : decode cX4_feesOf 18 = .ok (.iconst 1, 1) := by decide +kernel
theorem dX4_feesOf_19 : decode cX4_feesOf 19 = .ok (.iand, 1) := by decide +kernel
theorem dX4_feesOf_20 : decode cX4_feesOf 20 = .ok (.iconst 1, 1) := by decide +kernel
theorem dX4_feesOf_21 : decode cX4_feesOf 21 = .ok (.if_icmp .ne 15, 3) := by decide +kernel
theorem dX4_feesOf_24 : decode cX4_feesOf 24 = .ok (.iload_n 2, 1) := by decide +kernel
theorem dX4_feesOf_25 : decode cX4_feesOf 25 = .ok (.aload_n 0, 1) := by decide +kernel
theorem dX4_feesOf_26 : decode cX4_feesOf 26 = .ok (.getfield 34, 3) := by decide +kernel
theorem dX4_feesOf_29 : decode cX4_feesOf 29 = .ok (.iload_n 3, 1) := by decide +kernel
theorem dX4_feesOf_30 : decode cX4_feesOf 30 = .ok (.iconst 4, 1) := by decide +kernel
theorem dX4_feesOf_31 : decode cX4_feesOf 31 = .ok (.invokevirtual 163, 3) := by decide +kernel
theorem dX4_feesOf_34 : decode cX4_feesOf 34 = .ok (.iadd, 1) := by decide +kernel
theorem dX4_feesOf_35 : decode cX4_feesOf 35 = .ok (.istore_n 2, 1) := by decide +kernel
theorem dX4_feesOf_36 : decode cX4_feesOf 36 = .ok (.iinc 3 1, 3) := by decide +kernel
theorem dX4_feesOf_39 : decode cX4_feesOf 39 = .ok (.goto (-35), 3) := by decide +kernel
theorem dX4_feesOf_42 : decode cX4_feesOf 42 = .ok (.iload_n 2, 1) := by decide +kernel
theorem dX4_feesOf_43 : decode cX4_feesOf 43 = .ok (.ireturn, 1) := by decide +kernel
def w_X4_feesOf (a0 : Int) (X : XT) (Q : Int → Prop) : Prop :=
  ∃ (I3 : Int → Int → Prop) (m4 : Int → Int → Nat), I3 0 0 ∧ ∀ (x1 : Int) (x2 : Int), I3 x1 x2 → R32 x2 ∧ R32 (X 1 11) ∧ ((X 1 11) ≤ x2 → Q x1) ∧ (¬ (X 1 11) ≤ x2 → R32 (oAnd (oUshr a0 x2) 1) ∧ (¬ (oAnd (oUshr a0 x2) 1) = 1 → I3 x1 (x2 + 1) ∧ m4 x1 (x2 + 1) < m4 x1 x2) ∧ ((oAnd (oUshr a0 x2) 1) = 1 → (0 ≤ x2 ∧ x2 ≤ 7) ∧ I3 (x1 + (X 7 (x2 * 5 + 4))) (x2 + 1) ∧ m4 (x1 + (X 7 (x2 * 5 + 4))) (x2 + 1) < m4 x1 x2))
set_option maxRecDepth 20000 in
theorem so_X4_feesOf {n : Nat} {h : Nat → sE} {X : XT} {a0 : Int} {Q : Int → Prop} (hn : 115 ≤ n) (hp : Pic X h) (w : w_X4_feesOf  a0 X Q) : Sp m_X4_feesOf 2 0 0 [.ref 60, .int (iI a0)] n h (pIr n h Q) := by
  unfold w_X4_feesOf at w
  refine Sp.ofV (by decide +kernel) (Nat.le_of_ble_eq_true rfl) ?_
  have hf : Fr h h := fun _ _ => rfl
  refine v_iconstI dX4_feesOf_0 ?_
  refine v_istore_n dX4_feesOf_1 (Nat.le_of_ble_eq_true rfl) ?_
  refine v_iconstI dX4_feesOf_2 ?_
  refine v_istore_n dX4_feesOf_3 (Nat.le_of_ble_eq_true rfl) ?_
  refine v_pick [2, 3, 1, 0] rfl ?_
  obtain ⟨I3, m4, wi7, wl6⟩ := w
  have hL8 : ∀ (N11 : Nat) (x1 : Int) (x2 : Int), m4 x1 x2 < N11 → I3 x1 x2 → V (m_X4_feesOf, 2, 0, 0, n, pIr n h Q, s_G0) 0 0 n h 4 [(0, .ref 60), (1, .int (iI a0)), (2, .int (iI x1)), (3, .int (iI x2))] [] := by
    intro N11
    induction N11 with
    | zero => intro x1 x2  hm9; exact absurd hm9 (Nat.not_lt_zero _)
    | succ N11 ih5 =>
      intro x1 x2  hm9 hI10
      have w := wl6 x1 x2 hI10
      refine v_iload_n dX4_feesOf_4 rfl ?_
      refine v_aload_n dX4_feesOf_5 rfl ?_
      refine v_get dX4_feesOf_6 fl_X4_34 ((hp 60 (by decide)).trans (ent_60 _)) rfl (s_lt hn rfl) ?_
      refine v_get dX4_feesOf_9 fl_X4_160 ((hp 1 (by decide)).trans (ent_1 _)) rfl (s_lt hn rfl) ?_
      obtain ⟨q12, q13, w⟩ := w
      refine v_icmp_geI (tgt := 42) dX4_feesOf_12 (by decide) q12.1 q12.2 q13.1 q13.2 (fun c14 => ?_) (fun c14 => ?_)
      · replace w := w.1 c14
        refine v_iload_n dX4_feesOf_42 rfl ?_
        exact v_iret dX4_feesOf_43 rfl (Nat.zero_le _) (Nat.zero_le _) ⟨rfl, rfl, _, rfl, w⟩
      · replace w := w.2 c14
        refine v_iload_n dX4_feesOf_15 rfl ?_
        refine v_iload_n dX4_feesOf_16 rfl ?_
        refine v_iushrI dX4_feesOf_17 ?_
        refine v_iconstI dX4_feesOf_18 ?_
        refine v_iandI dX4_feesOf_19 ?_
        refine v_iconstI dX4_feesOf_20 ?_
        obtain ⟨q15, w⟩ := w
        refine v_icmp_neI (tgt := 36) dX4_feesOf_21 (by decide) q15.1 q15.2 (by decide) (by decide) (fun c16 => ?_) (fun c16 => ?_)
        · replace w := w.1 c16
          refine v_iincI dX4_feesOf_36 rfl (Nat.le_of_ble_eq_true rfl) ?_
          refine v_goto (tgt := 4) dX4_feesOf_39 (by decide) ?_
          refine v_pick [1, 2, 3, 0] rfl ?_
          exact ih5 _ _ (Nat.lt_of_lt_of_le w.2 (Nat.le_of_lt_succ hm9)) w.1
        · replace w := w.2 c16
          refine v_iload_n dX4_feesOf_24 rfl ?_
          refine v_aload_n dX4_feesOf_25 rfl ?_
          refine v_get dX4_feesOf_26 fl_X4_34 ((hp 60 (by decide)).trans (ent_60 _)) rfl (s_lt hn rfl) ?_
          refine v_iload_n dX4_feesOf_29 rfl ?_
          refine v_iconstI dX4_feesOf_30 ?_
          obtain ⟨q17, w⟩ := w
          refine v_callVp dX4_feesOf_31 ml_X4_163 (sv_X3_contractFact (a := x2) (b := 4) (g1 := X 1) (g7 := X 7) hn (hp 1 (by decide)) (hp 7 (by decide)) q17 (by decide)) ((hp 1 (by decide)).trans (ent_1 _)) rfl (s_lt hn rfl) rfl rfl (Nat.le_of_ble_eq_true rfl) (Nat.le_of_ble_eq_true rfl) (Nat.zero_le _) (Nat.zero_le _) ?_
          refine v_iaddI dX4_feesOf_34 ?_
          refine v_istore_n dX4_feesOf_35 (Nat.le_of_ble_eq_true rfl) ?_
          refine v_iincI dX4_feesOf_36 rfl (Nat.le_of_ble_eq_true rfl) ?_
          refine v_goto (tgt := 4) dX4_feesOf_39 (by decide) ?_
          refine v_pick [2, 3, 1, 0] rfl ?_
          exact ih5 _ _ (Nat.lt_of_lt_of_le w.2 (Nat.le_of_lt_succ hm9)) w.1
  exact hL8 _ _ _ (Nat.lt_succ_self _) wi7
theorem dX4_lastHourOf_0 : decode cX4_lastHourOf 0 = .ok (.iconst 0, 1) := by decide +kernel
theorem dX4_lastHourOf_1 : decode cX4_lastHourOf 1 = .ok (.istore_n 2, 1) := by decide +kernel
theorem dX4_lastHourOf_2 : decode cX4_lastHourOf 2 = .ok (.iconst 0, 1) := by decide +kernel
theorem dX4_lastHourOf_3 : decode cX4_lastHourOf 3 = .ok (.istore_n 3, 1) := by decide +kernel
theorem dX4_lastHourOf_4 : decode cX4_lastHourOf 4 = .ok (.iload_n 3, 1) := by decide +kernel
theorem dX4_lastHourOf_5 : decode cX4_lastHourOf 5 = .ok (.aload_n 0, 1) := by decide +kernel
theorem dX4_lastHourOf_6 : decode cX4_lastHourOf 6 = .ok (.getfield 34, 3) := by decide +kernel
theorem dX4_lastHourOf_9 : decode cX4_lastHourOf 9 = .ok (.getfield 160, 3) := by decide +kernel
theorem dX4_lastHourOf_12 : decode cX4_lastHourOf 12 = .ok (.if_icmp .ge 32, 3) := by decide +kernel
theorem dX4_lastHourOf_15 : decode cX4_lastHourOf 15 = .ok (.iload_n 1, 1) := by decide +kernel
theorem dX4_lastHourOf_16 : decode cX4_lastHourOf 16 = .ok (.iload_n 3, 1) := by decide +kernel
theorem dX4_lastHourOf_17 : decode cX4_lastHourOf 17 = .ok (.iushr, 1) := by decide +kernel
theorem dX4_lastHourOf_18 : decode cX4_lastHourOf 18 = .ok (.iconst 1, 1) := by decide +kernel
theorem dX4_lastHourOf_19 : decode cX4_lastHourOf 19 = .ok (.iand, 1) := by decide +kernel
theorem dX4_lastHourOf_20 : decode cX4_lastHourOf 20 = .ok (.iconst 1, 1) := by decide +kernel
theorem dX4_lastHourOf_21 : decode cX4_lastHourOf 21 = .ok (.if_icmp .ne 17, 3) := by decide +kernel
theorem dX4_lastHourOf_24 : decode cX4_lastHourOf 24 = .ok (.iload_n 2, 1) := by decide +kernel
theorem dX4_lastHourOf_25 : decode cX4_lastHourOf 25 = .ok (.aload_n 0, 1) := by decide +kernel
theorem dX4_lastHourOf_26 : decode cX4_lastHourOf 26 = .ok (.getfield 34, 3) := by decide +kernel
theorem dX4_lastHourOf_29 : decode cX4_lastHourOf 29 = .ok (.iload_n 3, 1) := by decide +kernel
theorem dX4_lastHourOf_30 : decode cX4_lastHourOf 30 = .ok (.iconst 2, 1) := by decide +kernel
theorem dX4_lastHourOf_31 : decode cX4_lastHourOf 31 = .ok (.invokevirtual 163, 3) := by decide +kernel
theorem dX4_lastHourOf_34 : decode cX4_lastHourOf 34 = .ok (.invokestatic 144, 3) := by decide +kernel
theorem dX4_lastHourOf_37 : decode cX4_lastHourOf 37 = .ok (.istore_n 2, 1) := by decide +kernel
theorem dX4_lastHourOf_38 : decode cX4_lastHourOf 38 = .ok (.iinc 3 1, 3) := by decide +kernel
theorem dX4_lastHourOf_41 : decode cX4_lastHourOf 41 = .ok (.goto (-37), 3) := by decide +kernel
theorem dX4_lastHourOf_44 : decode cX4_lastHourOf 44 = .ok (.iload_n 2, 1) := by decide +kernel
theorem dX4_lastHourOf_45 : decode cX4_lastHourOf 45 = .ok (.ireturn, 1) := by decide +kernel
def w_X4_lastHourOf (a0 : Int) (X : XT) (Q : Int → Prop) : Prop :=
  ∃ (I3 : Int → Int → Prop) (m4 : Int → Int → Nat), I3 0 0 ∧ ∀ (x1 : Int) (x2 : Int), I3 x1 x2 → R32 x2 ∧ R32 (X 1 11) ∧ ((X 1 11) ≤ x2 → Q x1) ∧ (¬ (X 1 11) ≤ x2 → R32 (oAnd (oUshr a0 x2) 1) ∧ (¬ (oAnd (oUshr a0 x2) 1) = 1 → I3 x1 (x2 + 1) ∧ m4 x1 (x2 + 1) < m4 x1 x2) ∧ ((oAnd (oUshr a0 x2) 1) = 1 → (0 ≤ x2 ∧ x2 ≤ 7) ∧ R32 x1 ∧ R32 (X 7 (x2 * 5 + 2)) ∧ I3 (max x1 (X 7 (x2 * 5 + 2))) (x2 + 1) ∧ m4 (max x1 (X 7 (x2 * 5 + 2))) (x2 + 1) < m4 x1 x2))
set_option maxRecDepth 20000 in
theorem so_X4_lastHourOf {n : Nat} {h : Nat → sE} {X : XT} {a0 : Int} {Q : Int → Prop} (hn : 115 ≤ n) (hp : Pic X h) (w : w_X4_lastHourOf  a0 X Q) : Sp m_X4_lastHourOf 2 0 0 [.ref 60, .int (iI a0)] n h (pIr n h Q) := by
  unfold w_X4_lastHourOf at w
  refine Sp.ofV (by decide +kernel) (Nat.le_of_ble_eq_true rfl) ?_
  have hf : Fr h h := fun _ _ => rfl
  refine v_iconstI dX4_lastHourOf_0 ?_
  refine v_istore_n dX4_lastHourOf_1 (Nat.le_of_ble_eq_true rfl) ?_
  refine v_iconstI dX4_lastHourOf_2 ?_
  refine v_istore_n dX4_lastHourOf_3 (Nat.le_of_ble_eq_true rfl) ?_
  refine v_pick [2, 3, 1, 0] rfl ?_
  obtain ⟨I3, m4, wi7, wl6⟩ := w
  have hL8 : ∀ (N11 : Nat) (x1 : Int) (x2 : Int), m4 x1 x2 < N11 → I3 x1 x2 → V (m_X4_lastHourOf, 2, 0, 0, n, pIr n h Q, s_G0) 0 0 n h 4 [(0, .ref 60), (1, .int (iI a0)), (2, .int (iI x1)), (3, .int (iI x2))] [] := by
    intro N11
    induction N11 with
    | zero => intro x1 x2  hm9; exact absurd hm9 (Nat.not_lt_zero _)
    | succ N11 ih5 =>
      intro x1 x2  hm9 hI10
      have w := wl6 x1 x2 hI10
      refine v_iload_n dX4_lastHourOf_4 rfl ?_
      refine v_aload_n dX4_lastHourOf_5 rfl ?_
      refine v_get dX4_lastHourOf_6 fl_X4_34 ((hp 60 (by decide)).trans (ent_60 _)) rfl (s_lt hn rfl) ?_
      refine v_get dX4_lastHourOf_9 fl_X4_160 ((hp 1 (by decide)).trans (ent_1 _)) rfl (s_lt hn rfl) ?_
      obtain ⟨q12, q13, w⟩ := w
      refine v_icmp_geI (tgt := 44) dX4_lastHourOf_12 (by decide) q12.1 q12.2 q13.1 q13.2 (fun c14 => ?_) (fun c14 => ?_)
      · replace w := w.1 c14
        refine v_iload_n dX4_lastHourOf_44 rfl ?_
        exact v_iret dX4_lastHourOf_45 rfl (Nat.zero_le _) (Nat.zero_le _) ⟨rfl, rfl, _, rfl, w⟩
      · replace w := w.2 c14
        refine v_iload_n dX4_lastHourOf_15 rfl ?_
        refine v_iload_n dX4_lastHourOf_16 rfl ?_
        refine v_iushrI dX4_lastHourOf_17 ?_
        refine v_iconstI dX4_lastHourOf_18 ?_
        refine v_iandI dX4_lastHourOf_19 ?_
        refine v_iconstI dX4_lastHourOf_20 ?_
        obtain ⟨q15, w⟩ := w
        refine v_icmp_neI (tgt := 38) dX4_lastHourOf_21 (by decide) q15.1 q15.2 (by decide) (by decide) (fun c16 => ?_) (fun c16 => ?_)
        · replace w := w.1 c16
          refine v_iincI dX4_lastHourOf_38 rfl (Nat.le_of_ble_eq_true rfl) ?_
          refine v_goto (tgt := 4) dX4_lastHourOf_41 (by decide) ?_
          refine v_pick [1, 2, 3, 0] rfl ?_
          exact ih5 _ _ (Nat.lt_of_lt_of_le w.2 (Nat.le_of_lt_succ hm9)) w.1
        · replace w := w.2 c16
          refine v_iload_n dX4_lastHourOf_24 rfl ?_
          refine v_aload_n dX4_lastHourOf_25 rfl ?_
          refine v_get dX4_lastHourOf_26 fl_X4_34 ((hp 60 (by decide)).trans (ent_60 _)) rfl (s_lt hn rfl) ?_
          refine v_iload_n dX4_lastHourOf_29 rfl ?_
          refine v_iconstI dX4_lastHourOf_30 ?_
          obtain ⟨q17, w⟩ := w
          refine v_callVp dX4_lastHourOf_31 ml_X4_163 (sv_X3_contractFact (a := x2) (b := 2) (g1 := X 1) (g7 := X 7) hn (hp 1 (by decide)) (hp 7 (by decide)) q17 (by decide)) ((hp 1 (by decide)).trans (ent_1 _)) rfl (s_lt hn rfl) rfl rfl (Nat.le_of_ble_eq_true rfl) (Nat.le_of_ble_eq_true rfl) (Nat.zero_le _) (Nat.zero_le _) ?_
          obtain ⟨q18, q19, w⟩ := w
          refine v_maxI dX4_lastHourOf_34 ml_X4_144 (Nat.le_of_ble_eq_true rfl) (Nat.le_of_ble_eq_true rfl) (Nat.zero_le _) (Nat.zero_le _) q18.1 q18.2 q19.1 q19.2 ?_
          refine v_istore_n dX4_lastHourOf_37 (Nat.le_of_ble_eq_true rfl) ?_
          refine v_iincI dX4_lastHourOf_38 rfl (Nat.le_of_ble_eq_true rfl) ?_
          refine v_goto (tgt := 4) dX4_lastHourOf_41 (by decide) ?_
          refine v_pick [2, 3, 1, 0] rfl ?_
          exact ih5 _ _ (Nat.lt_of_lt_of_le w.2 (Nat.le_of_lt_succ hm9)) w.1
  exact hL8 _ _ _ (Nat.lt_succ_self _) wi7
theorem dX4_isDue_0 : decode cX4_isDue 0 = .ok (.iload_n 2, 1) := by decide +kernel
theorem dX4_isDue_1 : decode cX4_isDue 1 = .ok (.aload_n 0, 1) := by decide +kernel
theorem dX4_isDue_2 : decode cX4_isDue 2 = .ok (.getfield 34, 3) := by decide +kernel
theorem dX4_isDue_5 : decode cX4_isDue 5 = .ok (.iload_n 1, 1) := by decide +kernel
theorem dX4_isDue_6 : decode cX4_isDue 6 = .ok (.iconst 1, 1) := by decide +kernel
theorem dX4_isDue_7 : decode cX4_isDue 7 = .ok (.invokevirtual 163, 3) := by decide +kernel
theorem dX4_isDue_10 : decode cX4_isDue 10 = .ok (.aload_n 0, 1) := by decide +kernel
theorem dX4_isDue_11 : decode cX4_isDue 11 = .ok (.getfield 34, 3) := by decide +kernel
theorem dX4_isDue_14 : decode cX4_isDue 14 = .ok (.iload_n 1, 1) := by decide +kernel
theorem dX4_isDue_15 : decode cX4_isDue 15 = .ok (.iconst 2, 1) := by decide +kernel
theorem dX4_isDue_16 : decode cX4_isDue 16 = .ok (.invokevirtual 163, 3) := by decide +kernel
theorem dX4_isDue_19 : decode cX4_isDue 19 = .ok (.invokestatic 192, 3) := by decide +kernel
theorem dX4_isDue_22 : decode cX4_isDue 22 = .ok (.ireturn, 1) := by decide +kernel
def w_X4_isDue (a0 a1 : Int) (X : XT) (Q : Int → Prop) : Prop :=
  (0 ≤ a0 ∧ a0 ≤ 7) ∧ R32 a1 ∧ R32 (X 7 (a0 * 5 + 1)) ∧ R32 (X 7 (a0 * 5 + 2)) ∧ Q (if ((X 7 (a0 * 5 + 1)) ≤ a1 ∧ a1 ≤ (X 7 (a0 * 5 + 2))) then 1 else 0)
set_option maxRecDepth 20000 in
theorem so_X4_isDue {n : Nat} {h : Nat → sE} {X : XT} {a0 a1 : Int} {Q : Int → Prop} (hn : 115 ≤ n) (hp : Pic X h) (w : w_X4_isDue  a0 a1 X Q) : Sp m_X4_isDue 2 0 0 [.ref 60, .int (iI a0), .int (iI a1)] n h (pIr n h Q) := by
  unfold w_X4_isDue at w
  refine Sp.ofV (by decide +kernel) (Nat.le_of_ble_eq_true rfl) ?_
  have hf : Fr h h := fun _ _ => rfl
  refine v_iload_n dX4_isDue_0 rfl ?_
  refine v_aload_n dX4_isDue_1 rfl ?_
  refine v_get dX4_isDue_2 fl_X4_34 ((hp 60 (by decide)).trans (ent_60 _)) rfl (s_lt hn rfl) ?_
  refine v_iload_n dX4_isDue_5 rfl ?_
  refine v_iconstI dX4_isDue_6 ?_
  obtain ⟨q1, w⟩ := w
  refine v_callVp dX4_isDue_7 ml_X4_163 (sv_X3_contractFact (a := a0) (b := 1) (g1 := X 1) (g7 := X 7) hn (hp 1 (by decide)) (hp 7 (by decide)) q1 (by decide)) ((hp 1 (by decide)).trans (ent_1 _)) rfl (s_lt hn rfl) rfl rfl (Nat.le_of_ble_eq_true rfl) (Nat.le_of_ble_eq_true rfl) (Nat.zero_le _) (Nat.zero_le _) ?_
  refine v_aload_n dX4_isDue_10 rfl ?_
  refine v_get dX4_isDue_11 fl_X4_34 ((hp 60 (by decide)).trans (ent_60 _)) rfl (s_lt hn rfl) ?_
  refine v_iload_n dX4_isDue_14 rfl ?_
  refine v_iconstI dX4_isDue_15 ?_
  refine v_callVp dX4_isDue_16 ml_X4_163 (sv_X3_contractFact (a := a0) (b := 2) (g1 := X 1) (g7 := X 7) hn (hp 1 (by decide)) (hp 7 (by decide)) q1 (by decide)) ((hp 1 (by decide)).trans (ent_1 _)) rfl (s_lt hn rfl) rfl rfl (Nat.le_of_ble_eq_true rfl) (Nat.le_of_ble_eq_true rfl) (Nat.zero_le _) (Nat.zero_le _) ?_
  obtain ⟨q2, q3, q4, w⟩ := w
  refine v_callSp dX4_isDue_19 ml_X4_192 (sp_X11_within (a := a1) (b := (X 7 (a0 * 5 + 1))) (c := (X 7 (a0 * 5 + 2))) q2 q3 q4) rfl rfl (Nat.le_of_ble_eq_true rfl) (Nat.le_of_ble_eq_true rfl) (Nat.zero_le _) (Nat.zero_le _) ?_
  exact v_bretI dX4_isDue_22 rfl (Nat.zero_le _) (Nat.zero_le _) ⟨rfl, rfl, _, rfl, w⟩
theorem dX4_keepOver_0 : decode cX4_keepOver 0 = .ok (.aload_n 0, 1) := by decide +kernel
theorem dX4_keepOver_1 : decode cX4_keepOver 1 = .ok (.getfield 34, 3) := by decide +kernel
theorem dX4_keepOver_4 : decode cX4_keepOver 4 = .ok (.aload_n 0, 1) := by decide +kernel
theorem dX4_keepOver_5 : decode cX4_keepOver 5 = .ok (.getfield 42, 3) := by decide +kernel
theorem dX4_keepOver_8 : decode cX4_keepOver 8 = .ok (.getfield 150, 3) := by decide +kernel
theorem dX4_keepOver_11 : decode cX4_keepOver 11 = .ok (.iconst 0, 1) := by decide +kernel
theorem dX4_keepOver_12 : decode cX4_keepOver 12 = .ok (.invokevirtual 154, 3) := by decide +kernel
theorem dX4_keepOver_15 : decode cX4_keepOver 15 = .ok (.istore_n 2, 1) := by decide +kernel
theorem dX4_keepOver_16 : decode cX4_keepOver 16 = .ok (.aload_n 0, 1) := by decide +kernel
theorem dX4_keepOver_17 : decode cX4_keepOver 17 = .ok (.getfield 34, 3) := by decide +kernel
theorem dX4_keepOver_20 : decode cX4_keepOver 20 = .ok (.aload_n 0, 1) := by decide +kernel
theorem dX4_keepOver_21 : decode cX4_keepOver 21 = .ok (.getfield 42, 3) := by decide +kernel
theorem dX4_keepOver_24 : decode cX4_keepOver 24 = .ok (.getfield 150, 3) := by decide +kernel
theorem dX4_keepOver_27 : decode cX4_keepOver 27 = .ok (.iconst 1, 1) := by decide +kernel
theorem dX4_keepOver_28 : decode cX4_keepOver 28 = .ok (.invokevirtual 154, 3) := by decide +kernel
theorem dX4_keepOver_31 : decode cX4_keepOver 31 = .ok (.istore_n 3, 1) := by decide +kernel
theorem dX4_keepOver_32 : decode cX4_keepOver 32 = .ok (.iload_n 1, 1) := by decide +kernel
theorem dX4_keepOver_33 : decode cX4_keepOver 33 = .ok (.bipush 8, 2) := by decide +kernel
theorem dX4_keepOver_35 : decode cX4_keepOver 35 = .ok (.irem, 1) := by decide +kernel
theorem dX4_keepOver_36 : decode cX4_keepOver 36 = .ok (.bipush 8, 2) := by decide +kernel
theorem dX4_keepOver_38 : decode cX4_keepOver 38 = .ok (.iadd, 1) := by decide +kernel
theorem dX4_keepOver_39 : decode cX4_keepOver 39 = .ok (.istore 4, 2) := by decide +kernel
theorem dX4_keepOver_41 : decode cX4_keepOver 41 = .ok (.iload_n 1, 1) := by decide +kernel
theorem dX4_keepOver_42 : decode cX4_keepOver 42 = .ok (.bipush 8, 2) := by decide +kernel
theorem dX4_keepOver_44 : decode cX4_keepOver 44 = .ok (.idiv, 1) := by decide +kernel
theorem dX4_keepOver_45 : decode cX4_keepOver 45 = .ok (.bipush 8, 2) := by decide +kernel
theorem dX4_keepOver_47 : decode cX4_keepOver 47 = .ok (.iadd, 1) := by decide +kernel
theorem dX4_keepOver_48 : decode cX4_keepOver 48 = .ok (.istore 5, 2) := by decide +kernel
theorem dX4_keepOver_50 : decode cX4_keepOver 50 = .ok (.iconst 1, 1) := by decide +kernel
theorem dX4_keepOver_51 : decode cX4_keepOver 51 = .ok (.iload_n 2, 1) := by decide +kernel
theorem dX4_keepOver_52 : decode cX4_keepOver 52 = .ok (.ishl, 1) := by decide +kernel
theorem dX4_keepOver_53 : decode cX4_keepOver 53 = .ok (.iconst 1, 1) := by decide +kernel
theorem dX4_keepOver_54 : decode cX4_keepOver 54 = .ok (.isub, 1) := by decide +kernel
theorem dX4_keepOver_55 : decode cX4_keepOver 55 = .ok (.iload 4, 2) := by decide +kernel
theorem dX4_keepOver_57 : decode cX4_keepOver 57 = .ok (.iload_n 2, 1) := by decide +kernel
theorem dX4_keepOver_58 : decode cX4_keepOver 58 = .ok (.isub, 1) := by decide +kernel
theorem dX4_keepOver_59 : decode cX4_keepOver 59 = .ok (.iconst 1, 1) := by decide +kernel
theorem dX4_keepOver_60 : decode cX4_keepOver 60 = .ok (.iadd, 1) := by decide +kernel
theorem dX4_keepOver_61 : decode cX4_keepOver 61 = .ok (.ishl, 1) := by decide +kernel
theorem dX4_keepOver_62 : decode cX4_keepOver 62 = .ok (.istore 6, 2) := by decide +kernel
theorem dX4_keepOver_64 : decode cX4_keepOver 64 = .ok (.iconst 0, 1) := by decide +kernel
theorem dX4_keepOver_65 : decode cX4_keepOver 65 = .ok (.istore 7, 2) := by decide +kernel
theorem dX4_keepOver_67 : decode cX4_keepOver 67 = .ok (.iload 7, 2) := by decide +kernel
theorem dX4_keepOver_69 : decode cX4_keepOver 69 = .ok (.bipush 24, 2) := by decide +kernel
theorem dX4_keepOver_71 : decode cX4_keepOver 71 = .ok (.if_icmp .ge 41, 3) := by decide +kernel
theorem dX4_keepOver_74 : decode cX4_keepOver 74 = .ok (.aload_n 0, 1) := by decide +kernel
theorem dX4_keepOver_75 : decode cX4_keepOver 75 = .ok (.getfield 28, 3) := by decide +kernel
theorem dX4_keepOver_78 : decode cX4_keepOver 78 = .ok (.iload 7, 2) := by decide +kernel
theorem dX4_keepOver_80 : decode cX4_keepOver 80 = .ok (.dup2, 1) := by decide +kernel
theorem dX4_keepOver_81 : decode cX4_keepOver 81 = .ok (.iaload, 1) := by decide +kernel
theorem dX4_keepOver_82 : decode cX4_keepOver 82 = .ok (.iload 7, 2) := by decide +kernel
theorem dX4_keepOver_84 : decode cX4_keepOver 84 = .ok (.iload 5, 2) := by decide +kernel
theorem dX4_keepOver_86 : decode cX4_keepOver 86 = .ok (.iload_n 3, 1) := by decide +kernel
theorem dX4_keepOver_87 : decode cX4_keepOver 87 = .ok (.isub, 1) := by decide +kernel
theorem dX4_keepOver_88 : decode cX4_keepOver 88 = .ok (.iconst 1, 1) := by decide +kernel
theorem dX4_keepOver_89 : decode cX4_keepOver 89 = .ok (.iadd, 1) := by decide +kernel
theorem dX4_keepOver_90 : decode cX4_keepOver 90 = .ok (.iload 5, 2) := by decide +kernel
theorem dX4_keepOver_92 : decode cX4_keepOver 92 = .ok (.invokestatic 192, 3) := by decide +kernel
theorem dX4_keepOver_95 : decode cX4_keepOver 95 = .ok (.ifCond .eq 8, 3) := by decide +kernel
theorem dX4_keepOver_98 : decode cX4_keepOver 98 = .ok (.iload 6, 2) := by decide +kernel
theorem dX4_keepOver_100 : decode cX4_keepOver 100 = .ok (.goto 4, 3) := by decide +kernel
theorem dX4_keepOver_103 : decode cX4_keepOver 103 = .ok (.iconst 0, 1) := by decide +kernel
theorem dX4_keepOver_104 : decode cX4_keepOver 104 = .ok (.iand, 1) := by decide +kernel
theorem dX4_keepOver_105 : decode cX4_keepOver 105 = .ok (.iastore, 1) := by decide +kernel
theorem dX4_keepOver_106 : decode cX4_keepOver 106 = .ok (.iinc 7 1, 3) := by decide +kernel
theorem dX4_keepOver_109 : decode cX4_keepOver 109 = .ok (.goto (-42), 3) := by decide +kernel
theorem dX4_keepOver_112 : decode cX4_keepOver 112 = .ok (.return_, 1) := by decide +kernel
def w_X4_keepOver (a0 : Int) (X : XT) (Q : XT → Prop) : Prop :=
  (0 ≤ (X 58 3) ∧ (X 58 3) < X 1 9 ∧ X 1 9 ≤ 5) ∧ R32 a0 ∧ (0 ≤ a0) ∧ ∃ (I6 : Int → XT → Prop) (m7 : Int → XT → Nat), I6 0 X ∧ ∀ (x4 : Int) (X5 : XT), I6 x4 X5 → R32 x4 ∧ (24 ≤ x4 → Q X5) ∧ (¬ 24 ≤ x4 → (0 ≤ x4 ∧ x4 < 24) ∧ R32 ((((a0 / 8) + 8) - (X 5 ((X 58 3) * 5 + 1))) + 1) ∧ R32 ((a0 / 8) + 8) ∧ ∀ J24 : Int → Prop, (∀ (v23 : Int), (I6 (x4 + 1) (x_st X5 66 x4 (oAnd (X5 66 x4) v23)) ∧ m7 (x4 + 1) (x_st X5 66 x4 (oAnd (X5 66 x4) v23)) < m7 x4 X5) → J24 v23) → (¬ (((((a0 / 8) + 8) - (X 5 ((X 58 3) * 5 + 1))) + 1) ≤ x4 ∧ x4 ≤ ((a0 / 8) + 8)) → J24 0) ∧ ((((((a0 / 8) + 8) - (X 5 ((X 58 3) * 5 + 1))) + 1) ≤ x4 ∧ x4 ≤ ((a0 / 8) + 8)) → J24 (oShl ((oShl 1 (X 5 ((X 58 3) * 5 + 0))) - 1) ((((a0 % 8) + 8) - (X 5 ((X 58 3) * 5 + 0))) + 1))))
set_option maxRecDepth 20000 in
theorem so_X4_keepOver {n : Nat} {h : Nat → sE} {X : XT} {a0 : Int} {Q : XT → Prop} (hn : 115 ≤ n) (hp : Pic X h) (w : w_X4_keepOver  a0 X Q) : Sp m_X4_keepOver 2 0 0 [.ref 60, .int (iI a0)] n h (pVw n h Q) := by
  unfold w_X4_keepOver at w
  refine Sp.ofV (by decide +kernel) (Nat.le_of_ble_eq_true rfl) ?_
  have hf : Fr h h := fun _ _ => rfl
  refine v_aload_n dX4_keepOver_0 rfl ?_
  refine v_get dX4_keepOver_1 fl_X4_34 ((hp 60 (by decide)).trans (ent_60 _)) rfl (s_lt hn rfl) ?_
  refine v_aload_n dX4_keepOver_4 rfl ?_
  refine v_get dX4_keepOver_5 fl_X4_42 ((hp 60 (by decide)).trans (ent_60 _)) rfl (s_lt hn rfl) ?_
  refine v_get dX4_keepOver_8 fl_X4_150 ((hp 58 (by decide)).trans (ent_58 _)) rfl (s_lt hn rfl) ?_
  refine v_iconstI dX4_keepOver_11 ?_
  obtain ⟨q1, w⟩ := w
  refine v_callVp dX4_keepOver_12 ml_X4_154 (sv_X3_cloudFact (a := (X 58 3)) (b := 0) (g1 := X 1) (g5 := X 5) hn (hp 1 (by decide)) (hp 5 (by decide)) q1 (by decide)) ((hp 1 (by decide)).trans (ent_1 _)) rfl (s_lt hn rfl) rfl rfl (Nat.le_of_ble_eq_true rfl) (Nat.le_of_ble_eq_true rfl) (Nat.zero_le _) (Nat.zero_le _) ?_
  refine v_istore_n dX4_keepOver_15 (Nat.le_of_ble_eq_true rfl) ?_
  refine v_aload_n dX4_keepOver_16 rfl ?_
  refine v_get dX4_keepOver_17 fl_X4_34 ((hp 60 (by decide)).trans (ent_60 _)) rfl (s_lt hn rfl) ?_
  refine v_aload_n dX4_keepOver_20 rfl ?_
  refine v_get dX4_keepOver_21 fl_X4_42 ((hp 60 (by decide)).trans (ent_60 _)) rfl (s_lt hn rfl) ?_
  refine v_get dX4_keepOver_24 fl_X4_150 ((hp 58 (by decide)).trans (ent_58 _)) rfl (s_lt hn rfl) ?_
  refine v_iconstI dX4_keepOver_27 ?_
  refine v_callVp dX4_keepOver_28 ml_X4_154 (sv_X3_cloudFact (a := (X 58 3)) (b := 1) (g1 := X 1) (g5 := X 5) hn (hp 1 (by decide)) (hp 5 (by decide)) q1 (by decide)) ((hp 1 (by decide)).trans (ent_1 _)) rfl (s_lt hn rfl) rfl rfl (Nat.le_of_ble_eq_true rfl) (Nat.le_of_ble_eq_true rfl) (Nat.zero_le _) (Nat.zero_le _) ?_
  refine v_istore_n dX4_keepOver_31 (Nat.le_of_ble_eq_true rfl) ?_
  refine v_iload_n dX4_keepOver_32 rfl ?_
  refine v_bipushI dX4_keepOver_33 rfl ?_
  obtain ⟨q2, q3, w⟩ := w
  refine v_iremI dX4_keepOver_35 q3 q2.2 (by decide) (by decide) ?_
  refine v_bipushI dX4_keepOver_36 rfl ?_
  refine v_iaddI dX4_keepOver_38 ?_
  refine v_istore dX4_keepOver_39 (Nat.le_of_ble_eq_true rfl) ?_
  refine v_iload_n dX4_keepOver_41 rfl ?_
  refine v_bipushI dX4_keepOver_42 rfl ?_
  refine v_idivI dX4_keepOver_44 q3 q2.2 (by decide) (by decide) ?_
  refine v_bipushI dX4_keepOver_45 rfl ?_
  refine v_iaddI dX4_keepOver_47 ?_
  refine v_istore dX4_keepOver_48 (Nat.le_of_ble_eq_true rfl) ?_
  refine v_iconstI dX4_keepOver_50 ?_
  refine v_iload_n dX4_keepOver_51 rfl ?_
  refine v_ishlI dX4_keepOver_52 ?_
  refine v_iconstI dX4_keepOver_53 ?_
  refine v_isubI dX4_keepOver_54 ?_
  refine v_iload dX4_keepOver_55 rfl ?_
  refine v_iload_n dX4_keepOver_57 rfl ?_
  refine v_isubI dX4_keepOver_58 ?_
  refine v_iconstI dX4_keepOver_59 ?_
  refine v_iaddI dX4_keepOver_60 ?_
  refine v_ishlI dX4_keepOver_61 ?_
  refine v_istore dX4_keepOver_62 (Nat.le_of_ble_eq_true rfl) ?_
  refine v_iconstI dX4_keepOver_64 ?_
  refine v_istore dX4_keepOver_65 (Nat.le_of_ble_eq_true rfl) ?_
  refine v_pick [6, 4, 2, 1, 0] rfl ?_
  obtain ⟨I6, m7, wi10, wl9⟩ := w
  have hL11 : ∀ (N14 : Nat) (x4 : Int) (X5 : XT) (h15 : Nat → sE), m7 x4 X5 < N14 → I6 x4 X5 → Pic X5 h15 → Fr h h15 → V (m_X4_keepOver, 2, 0, 0, n, pVw n h Q, s_G0) 0 0 n h15 67 [(0, .ref 60), (3, .int (iI (X 5 ((X 58 3) * 5 + 1)))), (5, .int (iI ((a0 / 8) + 8))), (6, .int (iI (oShl ((oShl 1 (X 5 ((X 58 3) * 5 + 0))) - 1) ((((a0 % 8) + 8) - (X 5 ((X 58 3) * 5 + 0))) + 1)))), (7, .int (iI x4))] [] := by
    intro N14
    induction N14 with
    | zero => intro x4 X5 h15 hm12; exact absurd hm12 (Nat.not_lt_zero _)
    | succ N14 ih8 =>
      intro x4 X5 h15 hm12 hI13 hp16 hf17
      have w := wl9 x4 X5 hI13
      refine v_iload dX4_keepOver_67 rfl ?_
      refine v_bipushI dX4_keepOver_69 rfl ?_
      obtain ⟨q18, w⟩ := w
      refine v_icmp_geI (tgt := 112) dX4_keepOver_71 (by decide) q18.1 q18.2 (by decide) (by decide) (fun c19 => ?_) (fun c19 => ?_)
      · replace w := w.1 c19
        exact v_vret dX4_keepOver_112 rfl (Nat.zero_le _) (Nat.zero_le _) ⟨rfl, hf17, _, rfl, hp16, w⟩
      · replace w := w.2 c19
        refine v_aload_n dX4_keepOver_74 rfl ?_
        refine v_get dX4_keepOver_75 fl_X4_28 ((hp16 60 (by decide)).trans (ent_60 _)) rfl (s_lt hn rfl) ?_
        refine v_iload dX4_keepOver_78 rfl ?_
        refine v_dup2 dX4_keepOver_80 rfl rfl ?_
        obtain ⟨q20, w⟩ := w
        refine v_ialdI dX4_keepOver_81 ((hp16 66 (by decide)).trans (ent_66 _)) (s_lt hn rfl) q20.1 q20.2 (ix_le q20.2 (by decide)) ?_
        refine v_iload dX4_keepOver_82 rfl ?_
        refine v_iload dX4_keepOver_84 rfl ?_
        refine v_iload_n dX4_keepOver_86 rfl ?_
        refine v_isubI dX4_keepOver_87 ?_
        refine v_iconstI dX4_keepOver_88 ?_
        refine v_iaddI dX4_keepOver_89 ?_
        refine v_iload dX4_keepOver_90 rfl ?_
        obtain ⟨q21, q22, w⟩ := w
        refine v_callSp dX4_keepOver_92 ml_X4_192 (sp_X11_within (a := x4) (b := ((((a0 / 8) + 8) - (X 5 ((X 58 3) * 5 + 1))) + 1)) (c := ((a0 / 8) + 8)) q18 q21 q22) rfl rfl (Nat.le_of_ble_eq_true rfl) (Nat.le_of_ble_eq_true rfl) (Nat.zero_le _) (Nat.zero_le _) ?_
        replace w := w (fun (v23 : Int) => V (m_X4_keepOver, 2, 0, 0, n, pVw n h Q, s_G0) 0 0 n h15 104 [(0, .ref 60), (3, .int (iI (X 5 ((X 58 3) * 5 + 1)))), (5, .int (iI ((a0 / 8) + 8))), (6, .int (iI (oShl ((oShl 1 (X 5 ((X 58 3) * 5 + 0))) - 1) ((((a0 % 8) + 8) - (X 5 ((X 58 3) * 5 + 0))) + 1)))), (7, .int (iI x4))] [.int (iI v23), .int (iI (X5 66 x4)), .int (iI x4), .ref 66]) (by
          intro v23 w
          refine v_iandI dX4_keepOver_104 ?_
          refine v_iastI dX4_keepOver_105 ((hp16 66 (by decide)).trans (ent_66 _)) (s_lt hn rfl) q20.1 q20.2 (ix_le q20.2 (by decide)) (fun h25 E26 F27 => ?_)
          have hp28 := pic_st hp16 (show h25 66 = ent 66 (uI _ x4 (oAnd (X5 66 x4) v23)) from E26) F27
          have hf29 := Fr.up (c := 66) hf17 F27 rfl
          refine v_iincI dX4_keepOver_106 rfl (Nat.le_of_ble_eq_true rfl) ?_
          refine v_goto (tgt := 67) dX4_keepOver_109 (by decide) ?_
          refine v_pick [1, 2, 3, 4, 0] rfl ?_
          exact ih8 _ _ _ (Nat.lt_of_lt_of_le w.2 (Nat.le_of_lt_succ hm12)) w.1 hp28 hf29
        )
        refine v_ifeqB (tgt := 103) dX4_keepOver_95 (by decide) (fun c30 => ?_) (fun c30 => ?_)
        · replace w := w.1 c30
          refine v_iconstI dX4_keepOver_103 ?_
          exact w
        · replace w := w.2 c30
          refine v_iload dX4_keepOver_98 rfl ?_
          refine v_goto (tgt := 104) dX4_keepOver_100 (by decide) ?_
          exact w
  exact hL11 _ _ _ _ (Nat.lt_succ_self _) wi10 hp hf
theorem dX4_rowsAreEmpty_0 : decode cX4_rowsAreEmpty 0 = .ok (.iconst 0, 1) := by decide +kernel
theorem dX4_rowsAreEmpty_1 : decode cX4_rowsAreEmpty 1 = .ok (.istore_n 1, 1) := by decide +kernel
theorem dX4_rowsAreEmpty_2 : decode cX4_rowsAreEmpty 2 = .ok (.iconst 0, 1) := by decide +kernel
theorem dX4_rowsAreEmpty_3 : decode cX4_rowsAreEmpty 3 = .ok (.istore_n 2, 1) := by decide +kernel
theorem dX4_rowsAreEmpty_4 : decode cX4_rowsAreEmpty 4 = .ok (.iload_n 2, 1) := by decide +kernel
theorem dX4_rowsAreEmpty_5 : decode cX4_rowsAreEmpty 5 = .ok (.bipush 24, 2) := by decide +kernel
theorem dX4_rowsAreEmpty_7 : decode cX4_rowsAreEmpty 7 = .ok (.if_icmp .ge 18, 3) := by decide +kernel
theorem dX4_rowsAreEmpty_10 : decode cX4_rowsAreEmpty 10 = .ok (.iload_n 1, 1) := by decide +kernel
theorem dX4_rowsAreEmpty_11 : decode cX4_rowsAreEmpty 11 = .ok (.aload_n 0, 1) := by decide +kernel
theorem dX4_rowsAreEmpty_12 : decode cX4_rowsAreEmpty 12 = .ok (.getfield 28, 3) := by decide +kernel
theorem dX4_rowsAreEmpty_15 : decode cX4_rowsAreEmpty 15 = .ok (.iload_n 2, 1) := by decide +kernel
theorem dX4_rowsAreEmpty_16 : decode cX4_rowsAreEmpty 16 = .ok (.iaload, 1) := by decide +kernel
theorem dX4_rowsAreEmpty_17 : decode cX4_rowsAreEmpty 17 = .ok (.ior, 1) := by decide +kernel
theorem dX4_rowsAreEmpty_18 : decode cX4_rowsAreEmpty 18 = .ok (.istore_n 1, 1) := by decide +kernel
theorem dX4_rowsAreEmpty_19 : decode cX4_rowsAreEmpty 19 = .ok (.iinc 2 1, 3) := by decide +kernel
theorem dX4_rowsAreEmpty_22 : decode cX4_rowsAreEmpty 22 = .ok (.goto (-18), 3) := by decide +kernel
theorem dX4_rowsAreEmpty_25 : decode cX4_rowsAreEmpty 25 = .ok (.iload_n 1, 1) := by decide +kernel
theorem dX4_rowsAreEmpty_26 : decode cX4_rowsAreEmpty 26 = .ok (.ifCond .ne 7, 3) := by decide +kernel
theorem dX4_rowsAreEmpty_29 : decode cX4_rowsAreEmpty 29 = .ok (.iconst 1, 1) := by decide +kernel
theorem dX4_rowsAreEmpty_30 : decode cX4_rowsAreEmpty 30 = .ok (.goto 4, 3) := by decide +kernel
theorem dX4_rowsAreEmpty_33 : decode cX4_rowsAreEmpty 33 = .ok (.iconst 0, 1) := by decide +kernel
theorem dX4_rowsAreEmpty_34 : decode cX4_rowsAreEmpty 34 = .ok (.ireturn, 1) := by decide +kernel
def w_X4_rowsAreEmpty (X : XT) (Q : Int → Prop) : Prop :=
  ∃ (I3 : Int → Int → Prop) (m4 : Int → Int → Nat), I3 0 0 ∧ ∀ (x1 : Int) (x2 : Int), I3 x1 x2 → R32 x2 ∧ (24 ≤ x2 → R32 x1 ∧ (¬ x1 = 0 → Q 0) ∧ (x1 = 0 → Q 1)) ∧ (¬ 24 ≤ x2 → (0 ≤ x2 ∧ x2 < 24) ∧ I3 (oOr x1 (X 66 x2)) (x2 + 1) ∧ m4 (oOr x1 (X 66 x2)) (x2 + 1) < m4 x1 x2)
set_option maxRecDepth 20000 in
theorem so_X4_rowsAreEmpty {n : Nat} {h : Nat → sE} {X : XT} {Q : Int → Prop} (hn : 115 ≤ n) (hp : Pic X h) (w : w_X4_rowsAreEmpty   X Q) : Sp m_X4_rowsAreEmpty 0 0 0 [.ref 60] n h (pIr n h Q) := by
  unfold w_X4_rowsAreEmpty at w
  refine Sp.ofV (by decide +kernel) (Nat.le_of_ble_eq_true rfl) ?_
  have hf : Fr h h := fun _ _ => rfl
  refine v_iconstI dX4_rowsAreEmpty_0 ?_
  refine v_istore_n dX4_rowsAreEmpty_1 (Nat.le_of_ble_eq_true rfl) ?_
  refine v_iconstI dX4_rowsAreEmpty_2 ?_
  refine v_istore_n dX4_rowsAreEmpty_3 (Nat.le_of_ble_eq_true rfl) ?_
  refine v_pick [2, 1, 0] rfl ?_
  obtain ⟨I3, m4, wi7, wl6⟩ := w
  have hL8 : ∀ (N11 : Nat) (x1 : Int) (x2 : Int), m4 x1 x2 < N11 → I3 x1 x2 → V (m_X4_rowsAreEmpty, 0, 0, 0, n, pIr n h Q, s_G0) 0 0 n h 4 [(0, .ref 60), (1, .int (iI x1)), (2, .int (iI x2))] [] := by
    intro N11
    induction N11 with
    | zero => intro x1 x2  hm9; exact absurd hm9 (Nat.not_lt_zero _)
    | succ N11 ih5 =>
      intro x1 x2  hm9 hI10
      have w := wl6 x1 x2 hI10
      refine v_iload_n dX4_rowsAreEmpty_4 rfl ?_
      refine v_bipushI dX4_rowsAreEmpty_5 rfl ?_
      obtain ⟨q12, w⟩ := w
      refine v_icmp_geI (tgt := 25) dX4_rowsAreEmpty_7 (by decide) q12.1 q12.2 (by decide) (by decide) (fun c13 => ?_) (fun c13 => ?_)
      · replace w := w.1 c13
        refine v_iload_n dX4_rowsAreEmpty_25 rfl ?_
        obtain ⟨q14, w⟩ := w
        refine v_if_neI (tgt := 33) dX4_rowsAreEmpty_26 (by decide) q14.1 q14.2 (fun c15 => ?_) (fun c15 => ?_)
        · replace w := w.1 c15
          refine v_iconstI dX4_rowsAreEmpty_33 ?_
          exact v_z0 dX4_rowsAreEmpty_34 rfl (Nat.zero_le _) (Nat.zero_le _) ⟨rfl, rfl, _, rfl, w⟩
        · replace w := w.2 c15
          refine v_iconstI dX4_rowsAreEmpty_29 ?_
          refine v_goto (tgt := 34) dX4_rowsAreEmpty_30 (by decide) ?_
          exact v_z1 dX4_rowsAreEmpty_34 rfl (Nat.zero_le _) (Nat.zero_le _) ⟨rfl, rfl, _, rfl, w⟩
      · replace w := w.2 c13
        refine v_iload_n dX4_rowsAreEmpty_10 rfl ?_
        refine v_aload_n dX4_rowsAreEmpty_11 rfl ?_
        refine v_get dX4_rowsAreEmpty_12 fl_X4_28 ((hp 60 (by decide)).trans (ent_60 _)) rfl (s_lt hn rfl) ?_
        refine v_iload_n dX4_rowsAreEmpty_15 rfl ?_
        obtain ⟨q16, w⟩ := w
        refine v_ialdI dX4_rowsAreEmpty_16 ((hp 66 (by decide)).trans (ent_66 _)) (s_lt hn rfl) q16.1 q16.2 (ix_le q16.2 (by decide)) ?_
        refine v_iorI dX4_rowsAreEmpty_17 ?_
        refine v_istore_n dX4_rowsAreEmpty_18 (Nat.le_of_ble_eq_true rfl) ?_
        refine v_iincI dX4_rowsAreEmpty_19 rfl (Nat.le_of_ble_eq_true rfl) ?_
        refine v_goto (tgt := 4) dX4_rowsAreEmpty_22 (by decide) ?_
        refine v_pick [2, 1, 0] rfl ?_
        exact ih5 _ _ (Nat.lt_of_lt_of_le w.2 (Nat.le_of_lt_succ hm9)) w.1
  exact hL8 _ _ _ (Nat.lt_succ_self _) wi7
theorem dX4_moveRow_0 : decode cX4_moveRow 0 = .ok (.iload_n 2, 1) := by decide +kernel
theorem dX4_moveRow_1 : decode cX4_moveRow 1 = .ok (.aload_n 0, 1) := by decide +kernel
theorem dX4_moveRow_2 : decode cX4_moveRow 2 = .ok (.getfield 42, 3) := by decide +kernel
theorem dX4_moveRow_5 : decode cX4_moveRow 5 = .ok (.getfield 205, 3) := by decide +kernel
theorem dX4_moveRow_8 : decode cX4_moveRow 8 = .ok (.iadd, 1) := by decide +kernel
theorem dX4_moveRow_9 : decode cX4_moveRow 9 = .ok (.iload_n 3, 1) := by decide +kernel
theorem dX4_moveRow_10 : decode cX4_moveRow 10 = .ok (.invokestatic 208, 3) := by decide +kernel
theorem dX4_moveRow_13 : decode cX4_moveRow 13 = .ok (.iadd, 1) := by decide +kernel
theorem dX4_moveRow_14 : decode cX4_moveRow 14 = .ok (.istore 4, 2) := by decide +kernel
theorem dX4_moveRow_16 : decode cX4_moveRow 16 = .ok (.aload_n 0, 1) := by decide +kernel
theorem dX4_moveRow_17 : decode cX4_moveRow 17 = .ok (.getfield 42, 3) := by decide +kernel
theorem dX4_moveRow_20 : decode cX4_moveRow 20 = .ok (.getfield 211, 3) := by decide +kernel
theorem dX4_moveRow_23 : decode cX4_moveRow 23 = .ok (.iload_n 3, 1) := by decide +kernel
theorem dX4_moveRow_24 : decode cX4_moveRow 24 = .ok (.invokestatic 214, 3) := by decide +kernel
theorem dX4_moveRow_27 : decode cX4_moveRow 27 = .ok (.iadd, 1) := by decide +kernel
theorem dX4_moveRow_28 : decode cX4_moveRow 28 = .ok (.istore 5, 2) := by decide +kernel
theorem dX4_moveRow_30 : decode cX4_moveRow 30 = .ok (.iload 4, 2) := by decide +kernel
theorem dX4_moveRow_32 : decode cX4_moveRow 32 = .ok (.ifCond .lt 40, 3) := by decide +kernel
theorem dX4_moveRow_35 : decode cX4_moveRow 35 = .ok (.iload 4, 2) := by decide +kernel
theorem dX4_moveRow_37 : decode cX4_moveRow 37 = .ok (.bipush 24, 2) := by decide +kernel
theorem dX4_moveRow_39 : decode cX4_moveRow 39 = .ok (.if_icmp .ge 33, 3) := by decide +kernel
theorem dX4_moveRow_42 : decode cX4_moveRow 42 = .ok (.aload_n 0, 1) := by decide +kernel
theorem dX4_moveRow_43 : decode cX4_moveRow 43 = .ok (.getfield 31, 3) := by decide +kernel
theorem dX4_moveRow_46 : decode cX4_moveRow 46 = .ok (.iload 4, 2) := by decide +kernel
theorem dX4_moveRow_48 : decode cX4_moveRow 48 = .ok (.dup2, 1) := by decide +kernel
theorem dX4_moveRow_49 : decode cX4_moveRow 49 = .ok (.iaload, 1) := by decide +kernel
theorem dX4_moveRow_50 : decode cX4_moveRow 50 = .ok (.iload 5, 2) := by decide +kernel
theorem dX4_moveRow_52 : decode cX4_moveRow 52 = .ok (.ifCond .lt 10, 3) := by decide +kernel
theorem dX4_moveRow_55 : decode cX4_moveRow 55 = .ok (.iload_n 1, 1) := by decide +kernel
theorem dX4_moveRow_56 : decode cX4_moveRow 56 = .ok (.iload 5, 2) := by decide +kernel
theorem dX4_moveRow_58 : decode cX4_moveRow 58 = .ok (.ishl, 1) := by decide +kernel
theorem dX4_moveRow_59 : decode cX4_moveRow 59 = .ok (.goto 8, 3) := by decide +kernel
theorem dX4_moveRow_62 : decode cX4_moveRow 62 = .ok (.iload_n 1, 1) := by decide +kernel
theorem dX4_moveRow_63 : decode cX4_moveRow 63 = .ok (.iload 5, 2) := by decide +kernel
theorem dX4_moveRow_65 : decode cX4_moveRow 65 = .ok (.ineg, 1) := by decide +kernel
theorem dX4_moveRow_66 : decode cX4_moveRow 66 = .ok (.iushr, 1) := by decide +kernel
theorem dX4_moveRow_67 : decode cX4_moveRow 67 = .ok (.ldc 217, 2) := by decide +kernel
theorem dX4_moveRow_69 : decode cX4_moveRow 69 = .ok (.iand, 1) := by decide +kernel
theorem dX4_moveRow_70 : decode cX4_moveRow 70 = .ok (.ior, 1) := by decide +kernel
theorem dX4_moveRow_71 : decode cX4_moveRow 71 = .ok (.iastore, 1) := by decide +kernel
theorem dX4_moveRow_72 : decode cX4_moveRow 72 = .ok (.return_, 1) := by decide +kernel
def w_X4_moveRow (a0 a1 a2 : Int) (X : XT) (Q : XT → Prop) : Prop :=
  R32 a2 ∧ R32 ((a1 + (X 58 5)) + (syF a2)) ∧ (((a1 + (X 58 5)) + (syF a2)) < 0 → Q X) ∧ (¬ ((a1 + (X 58 5)) + (syF a2)) < 0 → (24 ≤ ((a1 + (X 58 5)) + (syF a2)) → Q X) ∧ (¬ 24 ≤ ((a1 + (X 58 5)) + (syF a2)) → (0 ≤ ((a1 + (X 58 5)) + (syF a2)) ∧ ((a1 + (X 58 5)) + (syF a2)) < 24) ∧ R32 ((X 58 4) + (sxF a2)) ∧ (((X 58 4) + (sxF a2)) < 0 → Q (x_st X 67 ((a1 + (X 58 5)) + (syF a2)) (oOr (X 67 ((a1 + (X 58 5)) + (syF a2))) (oAnd (oUshr a0 (-((X 58 4) + (sxF a2)))) 16777215)))) ∧ (¬ ((X 58 4) + (sxF a2)) < 0 → Q (x_st X 67 ((a1 + (X 58 5)) + (syF a2)) (oOr (X 67 ((a1 + (X 58 5)) + (syF a2))) (oAnd (oShl a0 ((X 58 4) + (sxF a2))) 16777215))))))
set_option maxRecDepth 20000 in
theorem so_X4_moveRow {n : Nat} {h : Nat → sE} {X : XT} {a0 a1 a2 : Int} {Q : XT → Prop} (hn : 115 ≤ n) (hp : Pic X h) (w : w_X4_moveRow  a0 a1 a2 X Q) : Sp m_X4_moveRow 2 0 0 [.ref 60, .int (iI a0), .int (iI a1), .int (iI a2)] n h (pVw n h Q) := by
  unfold w_X4_moveRow at w
  refine Sp.ofV (by decide +kernel) (Nat.le_of_ble_eq_true rfl) ?_
  have hf : Fr h h := fun _ _ => rfl
  refine v_iload_n dX4_moveRow_0 rfl ?_
  refine v_aload_n dX4_moveRow_1 rfl ?_
  refine v_get dX4_moveRow_2 fl_X4_42 ((hp 60 (by decide)).trans (ent_60 _)) rfl (s_lt hn rfl) ?_
  refine v_get dX4_moveRow_5 fl_X4_205 ((hp 58 (by decide)).trans (ent_58 _)) rfl (s_lt hn rfl) ?_
  refine v_iaddI dX4_moveRow_8 ?_
  refine v_iload_n dX4_moveRow_9 rfl ?_
  obtain ⟨q1, w⟩ := w
  refine v_callSp dX4_moveRow_10 ml_X4_208 (sp_X8_stepY (a := a2) q1) rfl rfl (Nat.le_of_ble_eq_true rfl) (Nat.le_of_ble_eq_true rfl) (Nat.zero_le _) (Nat.zero_le _) ?_
  refine v_iaddI dX4_moveRow_13 ?_
  refine v_istore dX4_moveRow_14 (Nat.le_of_ble_eq_true rfl) ?_
  refine v_aload_n dX4_moveRow_16 rfl ?_
  refine v_get dX4_moveRow_17 fl_X4_42 ((hp 60 (by decide)).trans (ent_60 _)) rfl (s_lt hn rfl) ?_
  refine v_get dX4_moveRow_20 fl_X4_211 ((hp 58 (by decide)).trans (ent_58 _)) rfl (s_lt hn rfl) ?_
  refine v_iload_n dX4_moveRow_23 rfl ?_
  refine v_callSp dX4_moveRow_24 ml_X4_214 (sp_X8_stepX (a := a2) q1) rfl rfl (Nat.le_of_ble_eq_true rfl) (Nat.le_of_ble_eq_true rfl) (Nat.zero_le _) (Nat.zero_le _) ?_
  refine v_iaddI dX4_moveRow_27 ?_
  refine v_istore dX4_moveRow_28 (Nat.le_of_ble_eq_true rfl) ?_
  refine v_iload dX4_moveRow_30 rfl ?_
  obtain ⟨q2, w⟩ := w
  refine v_if_ltI (tgt := 72) dX4_moveRow_32 (by decide) q2.1 q2.2 (fun c3 => ?_) (fun c3 => ?_)
  · replace w := w.1 c3
    exact v_vret dX4_moveRow_72 rfl (Nat.zero_le _) (Nat.zero_le _) ⟨rfl, hf, _, rfl, hp, w⟩
  · replace w := w.2 c3
    refine v_iload dX4_moveRow_35 rfl ?_
    refine v_bipushI dX4_moveRow_37 rfl ?_
    refine v_icmp_geI (tgt := 72) dX4_moveRow_39 (by decide) q2.1 q2.2 (by decide) (by decide) (fun c4 => ?_) (fun c4 => ?_)
    · replace w := w.1 c4
      exact v_vret dX4_moveRow_72 rfl (Nat.zero_le _) (Nat.zero_le _) ⟨rfl, hf, _, rfl, hp, w⟩
    · replace w := w.2 c4
      refine v_aload_n dX4_moveRow_42 rfl ?_
      refine v_get dX4_moveRow_43 fl_X4_31 ((hp 60 (by decide)).trans (ent_60 _)) rfl (s_lt hn rfl) ?_
      refine v_iload dX4_moveRow_46 rfl ?_
      refine v_dup2 dX4_moveRow_48 rfl rfl ?_
      obtain ⟨q5, w⟩ := w
      refine v_ialdI dX4_moveRow_49 ((hp 67 (by decide)).trans (ent_67 _)) (s_lt hn rfl) q5.1 q5.2 (ix_le q5.2 (by decide)) ?_
      refine v_iload dX4_moveRow_50 rfl ?_
      obtain ⟨q6, w⟩ := w
      refine v_if_ltI (tgt := 62) dX4_moveRow_52 (by decide) q6.1 q6.2 (fun c7 => ?_) (fun c7 => ?_)
      · replace w := w.1 c7
        refine v_iload_n dX4_moveRow_62 rfl ?_
        refine v_iload dX4_moveRow_63 rfl ?_
        refine v_inegI dX4_moveRow_65 ?_
        refine v_iushrI dX4_moveRow_66 ?_
        refine v_ldcI 16777215 dX4_moveRow_67 k_X4_217 rfl ?_
        refine v_iandI dX4_moveRow_69 ?_
        refine v_iorI dX4_moveRow_70 ?_
        refine v_iastI dX4_moveRow_71 ((hp 67 (by decide)).trans (ent_67 _)) (s_lt hn rfl) q5.1 q5.2 (ix_le q5.2 (by decide)) (fun h8 E9 F10 => ?_)
        have hp11 := pic_st hp (show h8 67 = ent 67 (uI _ ((a1 + (X 58 5)) + (syF a2)) (oOr (X 67 ((a1 + (X 58 5)) + (syF a2))) (oAnd (oUshr a0 (-((X 58 4) + (sxF a2)))) 16777215))) from E9) F10
        have hf12 := Fr.up (c := 67) hf F10 rfl
        exact v_vret dX4_moveRow_72 rfl (Nat.zero_le _) (Nat.zero_le _) ⟨rfl, hf12, _, rfl, hp11, w⟩
      · replace w := w.2 c7
        refine v_iload_n dX4_moveRow_55 rfl ?_
        refine v_iload dX4_moveRow_56 rfl ?_
        refine v_ishlI dX4_moveRow_58 ?_
        refine v_goto (tgt := 67) dX4_moveRow_59 (by decide) ?_
        refine v_ldcI 16777215 dX4_moveRow_67 k_X4_217 rfl ?_
        refine v_iandI dX4_moveRow_69 ?_
        refine v_iorI dX4_moveRow_70 ?_
        refine v_iastI dX4_moveRow_71 ((hp 67 (by decide)).trans (ent_67 _)) (s_lt hn rfl) q5.1 q5.2 (ix_le q5.2 (by decide)) (fun h13 E14 F15 => ?_)
        have hp16 := pic_st hp (show h13 67 = ent 67 (uI _ ((a1 + (X 58 5)) + (syF a2)) (oOr (X 67 ((a1 + (X 58 5)) + (syF a2))) (oAnd (oShl a0 ((X 58 4) + (sxF a2))) 16777215))) from E14) F15
        have hf17 := Fr.up (c := 67) hf F15 rfl
        exact v_vret dX4_moveRow_72 rfl (Nat.zero_le _) (Nat.zero_le _) ⟨rfl, hf17, _, rfl, hp16, w⟩
theorem dX4_moveRows_0 : decode cX4_moveRows 0 = .ok (.iconst 0, 1) := by decide +kernel
theorem dX4_moveRows_1 : decode cX4_moveRows 1 = .ok (.istore_n 2, 1) := by decide +kernel
theorem dX4_moveRows_2 : decode cX4_moveRows 2 = .ok (.iload_n 2, 1) := by decide +kernel
theorem dX4_moveRows_3 : decode cX4_moveRows 3 = .ok (.bipush 24, 2) := by decide +kernel
theorem dX4_moveRows_5 : decode cX4_moveRows 5 = .ok (.if_icmp .ge 16, 3) := by decide +kernel
theorem dX4_moveRows_8 : decode cX4_moveRows 8 = .ok (.aload_n 0, 1) := by decide +kernel
theorem dX4_moveRows_9 : decode cX4_moveRows 9 = .ok (.getfield 31, 3) := by decide +kernel
theorem dX4_moveRows_12 : decode cX4_moveRows 12 = .ok (.iload_n 2, 1) := by decide +kernel
theorem dX4_moveRows_13 : decode cX4_moveRows 13 = .ok (.iconst 0, 1) := by decide +kernel
theorem dX4_moveRows_14 : decode cX4_moveRows 14 = .ok (.iastore, 1) := by decide +kernel
theorem dX4_moveRows_15 : decode cX4_moveRows 15 = .ok (.iinc 2 1, 3) := by decide +kernel
theorem dX4_moveRows_18 : decode cX4_moveRows 18 = .ok (.goto (-16), 3) := by decide +kernel
theorem dX4_moveRows_21 : decode cX4_moveRows 21 = .ok (.iconst 0, 1) := by decide +kernel
theorem dX4_moveRows_22 : decode cX4_moveRows 22 = .ok (.istore_n 2, 1) := by decide +kernel
theorem dX4_moveRows_23 : decode cX4_moveRows 23 = .ok (.iload_n 2, 1) := by decide +kernel
theorem dX4_moveRows_24 : decode cX4_moveRows 24 = .ok (.bipush 24, 2) := by decide +kernel
theorem dX4_moveRows_26 : decode cX4_moveRows 26 = .ok (.if_icmp .ge 71, 3) := by decide +kernel
theorem dX4_moveRows_29 : decode cX4_moveRows 29 = .ok (.aload_n 0, 1) := by decide +kernel
theorem dX4_moveRows_30 : decode cX4_moveRows 30 = .ok (.getfield 28, 3) := by decide +kernel
theorem dX4_moveRows_33 : decode cX4_moveRows 33 = .ok (.iload_n 2, 1) := by decide +kernel
theorem dX4_moveRows_34 : decode cX4_moveRows 34 = .ok (.iaload, 1) := by decide +kernel
theorem dX4_moveRows_35 : decode cX4_moveRows 35 = .ok (.istore_n 3, 1) := by decide +kernel
theorem dX4_moveRows_36 : decode cX4_moveRows 36 = .ok (.iload_n 3, 1) := by decide +kernel
theorem dX4_moveRows_37 : decode cX4_moveRows 37 = .ok (.ifCond .eq 54, 3) := by decide +kernel
theorem dX4_moveRows_40 : decode cX4_moveRows 40 = .ok (.iload_n 3, 1) := by decide +kernel
theorem dX4_moveRows_41 : decode cX4_moveRows 41 = .ok (.aload_n 0, 1) := by decide +kernel
theorem dX4_moveRows_42 : decode cX4_moveRows 42 = .ok (.getfield 25, 3) := by decide +kernel
theorem dX4_moveRows_45 : decode cX4_moveRows 45 = .ok (.iload_n 1, 1) := by decide +kernel
theorem dX4_moveRows_46 : decode cX4_moveRows 46 = .ok (.bipush 24, 2) := by decide +kernel
theorem dX4_moveRows_48 : decode cX4_moveRows 48 = .ok (.imul, 1) := by decide +kernel
theorem dX4_moveRows_49 : decode cX4_moveRows 49 = .ok (.iload_n 2, 1) := by decide +kernel
theorem dX4_moveRows_50 : decode cX4_moveRows 50 = .ok (.iadd, 1) := by decide +kernel
theorem dX4_moveRows_51 : decode cX4_moveRows 51 = .ok (.iaload, 1) := by decide +kernel
theorem dX4_moveRows_52 : decode cX4_moveRows 52 = .ok (.iconst (-1), 1) := by decide +kernel
theorem dX4_moveRows_53 : decode cX4_moveRows 53 = .ok (.ixor, 1) := by decide +kernel
theorem dX4_moveRows_54 : decode cX4_moveRows 54 = .ok (.iand, 1) := by decide +kernel
theorem dX4_moveRows_55 : decode cX4_moveRows 55 = .ok (.istore 4, 2) := by decide +kernel
theorem dX4_moveRows_57 : decode cX4_moveRows 57 = .ok (.iconst 0, 1) := by decide +kernel
theorem dX4_moveRows_58 : decode cX4_moveRows 58 = .ok (.istore 5, 2) := by decide +kernel
theorem dX4_moveRows_60 : decode cX4_moveRows 60 = .ok (.iload 5, 2) := by decide +kernel
theorem dX4_moveRows_62 : decode cX4_moveRows 62 = .ok (.iconst 4, 1) := by decide +kernel
theorem dX4_moveRows_63 : decode cX4_moveRows 63 = .ok (.if_icmp .gt 28, 3) := by decide +kernel
theorem dX4_moveRows_66 : decode cX4_moveRows 66 = .ok (.aload_n 0, 1) := by decide +kernel
theorem dX4_moveRows_67 : decode cX4_moveRows 67 = .ok (.iload 5, 2) := by decide +kernel
theorem dX4_moveRows_69 : decode cX4_moveRows 69 = .ok (.iconst 4, 1) := by decide +kernel
theorem dX4_moveRows_70 : decode cX4_moveRows 70 = .ok (.if_icmp .ne 7, 3) := by decide +kernel
theorem dX4_moveRows_73 : decode cX4_moveRows 73 = .ok (.iload_n 3, 1) := by decide +kernel
theorem dX4_moveRows_74 : decode cX4_moveRows 74 = .ok (.goto 5, 3) := by decide +kernel
theorem dX4_moveRows_77 : decode cX4_moveRows 77 = .ok (.iload 4, 2) := by decide +kernel
theorem dX4_moveRows_79 : decode cX4_moveRows 79 = .ok (.iload_n 2, 1) := by decide +kernel
theorem dX4_moveRows_80 : decode cX4_moveRows 80 = .ok (.iload 5, 2) := by decide +kernel
theorem dX4_moveRows_82 : decode cX4_moveRows 82 = .ok (.invokevirtual 196, 3) := by decide +kernel
theorem dX4_moveRows_85 : decode cX4_moveRows 85 = .ok (.iinc 5 1, 3) := by decide +kernel
theorem dX4_moveRows_88 : decode cX4_moveRows 88 = .ok (.goto (-28), 3) := by decide +kernel
theorem dX4_moveRows_91 : decode cX4_moveRows 91 = .ok (.iinc 2 1, 3) := by decide +kernel
theorem dX4_moveRows_94 : decode cX4_moveRows 94 = .ok (.goto (-71), 3) := by decide +kernel
theorem dX4_moveRows_97 : decode cX4_moveRows 97 = .ok (.aload_n 0, 1) := by decide +kernel
theorem dX4_moveRows_98 : decode cX4_moveRows 98 = .ok (.getfield 31, 3) := by decide +kernel
theorem dX4_moveRows_101 : decode cX4_moveRows 101 = .ok (.iconst 0, 1) := by decide +kernel
theorem dX4_moveRows_102 : decode cX4_moveRows 102 = .ok (.aload_n 0, 1) := by decide +kernel
theorem dX4_moveRows_103 : decode cX4_moveRows 103 = .ok (.getfield 28, 3) := by decide +kernel
theorem dX4_moveRows_106 : decode cX4_moveRows 106 = .ok (.iconst 0, 1) := by decide +kernel
theorem dX4_moveRows_107 : decode cX4_moveRows 107 = .ok (.bipush 24, 2) := by decide +kernel
theorem dX4_moveRows_109 : decode cX4_moveRows 109 = .ok (.invokestatic 199, 3) := by decide +kernel
theorem dX4_moveRows_112 : decode cX4_moveRows 112 = .ok (.return_, 1) := by decide +kernel
def w_X4_moveRows (a0 : Int) (X : XT) (Q : XT → Prop) : Prop :=
  ∃ (I3 : Int → XT → Prop) (m4 : Int → XT → Nat), I3 0 X ∧ ∀ (x1 : Int) (X2 : XT), I3 x1 X2 → R32 x1 ∧ (24 ≤ x1 → ∃ (I19 : Int → XT → Prop) (m20 : Int → XT → Nat), I19 0 X2 ∧ ∀ (x17 : Int) (X18 : XT), I19 x17 X18 → R32 x17 ∧ (24 ≤ x17 → Q (x_cp X18 67 66 24)) ∧ (¬ 24 ≤ x17 → (0 ≤ x17 ∧ x17 < 24) ∧ R32 (X18 66 x17) ∧ ((X18 66 x17) = 0 → I19 (x17 + 1) X18 ∧ m20 (x17 + 1) X18 < m20 x17 X18) ∧ (¬ (X18 66 x17) = 0 → (0 ≤ ((a0 * 24) + x17) ∧ ((a0 * 24) + x17) < 288) ∧ ∃ (I44 : Int → XT → Prop) (m45 : Int → XT → Nat), I44 0 X18 ∧ ∀ (x42 : Int) (X43 : XT), I44 x42 X43 → R32 x42 ∧ (4 < x42 → I19 (x17 + 1) X43 ∧ m20 (x17 + 1) X43 < m20 x17 X18) ∧ (¬ 4 < x42 → ∀ J59 : Int → Prop, (∀ (v58 : Int), (w_X4_moveRow  v58 x17 x42 X43 (fun (X61 : XT) => I44 (x42 + 1) X61 ∧ m45 (x42 + 1) X61 < m45 x42 X43)) → J59 v58) → (¬ x42 = 4 → J59 (oAnd (X18 66 x17) (oXor (X18 65 ((a0 * 24) + x17)) (-1)))) ∧ (x42 = 4 → J59 (X18 66 x17)))))) ∧ (¬ 24 ≤ x1 → (0 ≤ x1 ∧ x1 < 24) ∧ I3 (x1 + 1) (x_st X2 67 x1 0) ∧ m4 (x1 + 1) (x_st X2 67 x1 0) < m4 x1 X2)
set_option maxRecDepth 20000 in
theorem so_X4_moveRows {n : Nat} {h : Nat → sE} {X : XT} {a0 : Int} {Q : XT → Prop} (hn : 115 ≤ n) (hp : Pic X h) (w : w_X4_moveRows  a0 X Q) : Sp m_X4_moveRows 3 0 0 [.ref 60, .int (iI a0)] n h (pVw n h Q) := by
  unfold w_X4_moveRows at w
  refine Sp.ofV (by decide +kernel) (Nat.le_of_ble_eq_true rfl) ?_
  have hf : Fr h h := fun _ _ => rfl
  refine v_iconstI dX4_moveRows_0 ?_
  refine v_istore_n dX4_moveRows_1 (Nat.le_of_ble_eq_true rfl) ?_
  refine v_pick [1, 2, 0] rfl ?_
  obtain ⟨I3, m4, wi7, wl6⟩ := w
  have hL8 : ∀ (N11 : Nat) (x1 : Int) (X2 : XT) (h12 : Nat → sE), m4 x1 X2 < N11 → I3 x1 X2 → Pic X2 h12 → Fr h h12 → V (m_X4_moveRows, 3, 0, 0, n, pVw n h Q, s_G0) 0 0 n h12 2 [(0, .ref 60), (1, .int (iI a0)), (2, .int (iI x1))] [] := by
    intro N11
    induction N11 with
    | zero => intro x1 X2 h12 hm9; exact absurd hm9 (Nat.not_lt_zero _)
    | succ N11 ih5 =>
      intro x1 X2 h12 hm9 hI10 hp13 hf14
      have w := wl6 x1 X2 hI10
      refine v_iload_n dX4_moveRows_2 rfl ?_
      refine v_bipushI dX4_moveRows_3 rfl ?_
      obtain ⟨q15, w⟩ := w
      refine v_icmp_geI (tgt := 21) dX4_moveRows_5 (by decide) q15.1 q15.2 (by decide) (by decide) (fun c16 => ?_) (fun c16 => ?_)
      · replace w := w.1 c16
        refine v_iconstI dX4_moveRows_21 ?_
        refine v_istore_n dX4_moveRows_22 (Nat.le_of_ble_eq_true rfl) ?_
        refine v_pick [1, 2, 0] rfl ?_
        obtain ⟨I19, m20, wi23, wl22⟩ := w
        have hL24 : ∀ (N27 : Nat) (x17 : Int) (X18 : XT) (h28 : Nat → sE), m20 x17 X18 < N27 → I19 x17 X18 → Pic X18 h28 → Fr h h28 → V (m_X4_moveRows, 3, 0, 0, n, pVw n h Q, s_G0) 0 0 n h28 23 [(0, .ref 60), (1, .int (iI a0)), (2, .int (iI x17))] [] := by
          intro N27
          induction N27 with
          | zero => intro x17 X18 h28 hm25; exact absurd hm25 (Nat.not_lt_zero _)
          | succ N27 ih21 =>
            intro x17 X18 h28 hm25 hI26 hp29 hf30
            have w := wl22 x17 X18 hI26
            refine v_iload_n dX4_moveRows_23 rfl ?_
            refine v_bipushI dX4_moveRows_24 rfl ?_
            obtain ⟨q31, w⟩ := w
            refine v_icmp_geI (tgt := 97) dX4_moveRows_26 (by decide) q31.1 q31.2 (by decide) (by decide) (fun c32 => ?_) (fun c32 => ?_)
            · replace w := w.1 c32
              refine v_aload_n dX4_moveRows_97 rfl ?_
              refine v_get dX4_moveRows_98 fl_X4_31 ((hp29 60 (by decide)).trans (ent_60 _)) rfl (s_lt hn rfl) ?_
              refine v_iconstI dX4_moveRows_101 ?_
              refine v_aload_n dX4_moveRows_102 rfl ?_
              refine v_get dX4_moveRows_103 fl_X4_28 ((hp29 60 (by decide)).trans (ent_60 _)) rfl (s_lt hn rfl) ?_
              refine v_iconstI dX4_moveRows_106 ?_
              refine v_bipushI dX4_moveRows_107 rfl ?_
              refine v_copyI (N := 24) dX4_moveRows_109 ml_X4_199 ((hp29 67 (by decide)).trans (ent_67 _)) ((hp29 66 (by decide)).trans (ent_66 _)) (s_lt hn rfl) (s_lt hn rfl) (by decide) (by decide) (by decide) (Nat.le_of_ble_eq_true rfl) (Nat.le_of_ble_eq_true rfl) (fun h33 E34 F35 => ?_)
              have hp36 := pic_cp hp29 (show h33 66 = ent 66 (fun j => if 0 ≤ j ∧ j < 24 then X18 67 j else X18 66 j) from E34) F35
              have hf37 := Fr.up (c := 66) hf30 F35 rfl
              exact v_vret dX4_moveRows_112 rfl (Nat.zero_le _) (Nat.zero_le _) ⟨rfl, hf37, _, rfl, hp36, w⟩
            · replace w := w.2 c32
              refine v_aload_n dX4_moveRows_29 rfl ?_
              refine v_get dX4_moveRows_30 fl_X4_28 ((hp29 60 (by decide)).trans (ent_60 _)) rfl (s_lt hn rfl) ?_
              refine v_iload_n dX4_moveRows_33 rfl ?_
              obtain ⟨q38, w⟩ := w
              refine v_ialdI dX4_moveRows_34 ((hp29 66 (by decide)).trans (ent_66 _)) (s_lt hn rfl) q38.1 q38.2 (ix_le q38.2 (by decide)) ?_
              refine v_istore_n dX4_moveRows_35 (Nat.le_of_ble_eq_true rfl) ?_
              refine v_iload_n dX4_moveRows_36 rfl ?_
              obtain ⟨q39, w⟩ := w
              refine v_if_eqI (tgt := 91) dX4_moveRows_37 (by decide) q39.1 q39.2 (fun c40 => ?_) (fun c40 => ?_)
              · replace w := w.1 c40
                refine v_iincI dX4_moveRows_91 rfl (Nat.le_of_ble_eq_true rfl) ?_
                refine v_goto (tgt := 23) dX4_moveRows_94 (by decide) ?_
                refine v_pick [2, 3, 0] rfl ?_
                exact ih21 _ _ _ (Nat.lt_of_lt_of_le w.2 (Nat.le_of_lt_succ hm25)) w.1 hp29 hf30
              · replace w := w.2 c40
                refine v_iload_n dX4_moveRows_40 rfl ?_
                refine v_aload_n dX4_moveRows_41 rfl ?_
                refine v_get dX4_moveRows_42 fl_X4_25 ((hp29 60 (by decide)).trans (ent_60 _)) rfl (s_lt hn rfl) ?_
                refine v_iload_n dX4_moveRows_45 rfl ?_
                refine v_bipushI dX4_moveRows_46 rfl ?_
                refine v_imulI dX4_moveRows_48 ?_
                refine v_iload_n dX4_moveRows_49 rfl ?_
                refine v_iaddI dX4_moveRows_50 ?_
                obtain ⟨q41, w⟩ := w
                refine v_ialdI dX4_moveRows_51 ((hp29 65 (by decide)).trans (ent_65 _)) (s_lt hn rfl) q41.1 q41.2 (ix_le q41.2 (by decide)) ?_
                refine v_iconstI dX4_moveRows_52 ?_
                refine v_ixorI dX4_moveRows_53 ?_
                refine v_iandI dX4_moveRows_54 ?_
                refine v_istore dX4_moveRows_55 (Nat.le_of_ble_eq_true rfl) ?_
                refine v_iconstI dX4_moveRows_57 ?_
                refine v_istore dX4_moveRows_58 (Nat.le_of_ble_eq_true rfl) ?_
                refine v_pick [3, 4, 5, 2, 1, 0] rfl ?_
                obtain ⟨I44, m45, wi48, wl47⟩ := w
                have hL49 : ∀ (N52 : Nat) (x42 : Int) (X43 : XT) (h53 : Nat → sE), m45 x42 X43 < N52 → I44 x42 X43 → Pic X43 h53 → Fr h h53 → V (m_X4_moveRows, 3, 0, 0, n, pVw n h Q, s_G0) 0 0 n h53 60 [(0, .ref 60), (1, .int (iI a0)), (2, .int (iI x17)), (3, .int (iI (X18 66 x17))), (4, .int (iI (oAnd (X18 66 x17) (oXor (X18 65 ((a0 * 24) + x17)) (-1))))), (5, .int (iI x42))] [] := by
                  intro N52
                  induction N52 with
                  | zero => intro x42 X43 h53 hm50; exact absurd hm50 (Nat.not_lt_zero _)
                  | succ N52 ih46 =>
                    intro x42 X43 h53 hm50 hI51 hp54 hf55
                    have w := wl47 x42 X43 hI51
                    refine v_iload dX4_moveRows_60 rfl ?_
                    refine v_iconstI dX4_moveRows_62 ?_
                    obtain ⟨q56, w⟩ := w
                    refine v_icmp_gtI (tgt := 91) dX4_moveRows_63 (by decide) q56.1 q56.2 (by decide) (by decide) (fun c57 => ?_) (fun c57 => ?_)
                    · replace w := w.1 c57
                      refine v_iincI dX4_moveRows_91 rfl (Nat.le_of_ble_eq_true rfl) ?_
                      refine v_goto (tgt := 23) dX4_moveRows_94 (by decide) ?_
                      refine v_pick [1, 2, 0] rfl ?_
                      exact ih21 _ _ _ (Nat.lt_of_lt_of_le w.2 (Nat.le_of_lt_succ hm25)) w.1 hp54 hf55
                    · replace w := w.2 c57
                      refine v_aload_n dX4_moveRows_66 rfl ?_
                      refine v_iload dX4_moveRows_67 rfl ?_
                      refine v_iconstI dX4_moveRows_69 ?_
                      replace w := w (fun (v58 : Int) => V (m_X4_moveRows, 3, 0, 0, n, pVw n h Q, s_G0) 0 0 n h53 79 [(0, .ref 60), (1, .int (iI a0)), (2, .int (iI x17)), (3, .int (iI (X18 66 x17))), (4, .int (iI (oAnd (X18 66 x17) (oXor (X18 65 ((a0 * 24) + x17)) (-1))))), (5, .int (iI x42))] [.int (iI v58), .ref 60]) (by
                        intro v58 w
                        refine v_iload_n dX4_moveRows_79 rfl ?_
                        refine v_iload dX4_moveRows_80 rfl ?_
                        refine v_callVVw dX4_moveRows_82 ml_X4_196 (so_X4_moveRow hn hp54  w) ((hp54 60 (by decide)).trans (ent_60 _)) rfl (s_lt hn rfl) rfl rfl (Nat.le_of_ble_eq_true rfl) (Nat.le_of_ble_eq_true rfl) (Nat.zero_le _) (Nat.zero_le _) (fun X61 h62 hp64 hf63 w => ?_)
                        have hf65 := Fr.trans hf55 hf63
                        refine v_iincI dX4_moveRows_85 rfl (Nat.le_of_ble_eq_true rfl) ?_
                        refine v_goto (tgt := 60) dX4_moveRows_88 (by decide) ?_
                        refine v_pick [1, 2, 3, 4, 5, 0] rfl ?_
                        exact ih46 _ _ _ (Nat.lt_of_lt_of_le w.2 (Nat.le_of_lt_succ hm50)) w.1 hp64 hf65
                      )
                      refine v_icmp_neI (tgt := 77) dX4_moveRows_70 (by decide) q56.1 q56.2 (by decide) (by decide) (fun c66 => ?_) (fun c66 => ?_)
                      · replace w := w.1 c66
                        refine v_iload dX4_moveRows_77 rfl ?_
                        exact w
                      · replace w := w.2 c66
                        refine v_iload_n dX4_moveRows_73 rfl ?_
                        refine v_goto (tgt := 79) dX4_moveRows_74 (by decide) ?_
                        exact w
                exact hL49 _ _ _ _ (Nat.lt_succ_self _) wi48 hp29 hf30
        exact hL24 _ _ _ _ (Nat.lt_succ_self _) wi23 hp13 hf14
      · replace w := w.2 c16
        refine v_aload_n dX4_moveRows_8 rfl ?_
        refine v_get dX4_moveRows_9 fl_X4_31 ((hp13 60 (by decide)).trans (ent_60 _)) rfl (s_lt hn rfl) ?_
        refine v_iload_n dX4_moveRows_12 rfl ?_
        refine v_iconstI dX4_moveRows_13 ?_
        obtain ⟨q67, w⟩ := w
        refine v_iastI dX4_moveRows_14 ((hp13 67 (by decide)).trans (ent_67 _)) (s_lt hn rfl) q67.1 q67.2 (ix_le q67.2 (by decide)) (fun h68 E69 F70 => ?_)
        have hp71 := pic_st hp13 (show h68 67 = ent 67 (uI _ x1 0) from E69) F70
        have hf72 := Fr.up (c := 67) hf14 F70 rfl
        refine v_iincI dX4_moveRows_15 rfl (Nat.le_of_ble_eq_true rfl) ?_
        refine v_goto (tgt := 2) dX4_moveRows_18 (by decide) ?_
        refine v_pick [1, 2, 0] rfl ?_
        exact ih5 _ _ _ (Nat.lt_of_lt_of_le w.2 (Nat.le_of_lt_succ hm9)) w.1 hp71 hf72
  exact hL8 _ _ _ _ (Nat.lt_succ_self _) wi7 hp hf
theorem dX4_canKeep_0 : decode cX4_canKeep 0 = .ok (.aload_n 0, 1) := by decide +kernel
theorem dX4_canKeep_1 : decode cX4_canKeep 1 = .ok (.iload_n 1, 1) := by decide +kernel
theorem dX4_canKeep_2 : decode cX4_canKeep 2 = .ok (.invokevirtual 176, 3) := by decide +kernel
theorem dX4_canKeep_5 : decode cX4_canKeep 5 = .ok (.istore_n 2, 1) := by decide +kernel
theorem dX4_canKeep_6 : decode cX4_canKeep 6 = .ok (.aload_n 0, 1) := by decide +kernel
theorem dX4_canKeep_7 : decode cX4_canKeep 7 = .ok (.getfield 34, 3) := by decide +kernel
theorem dX4_canKeep_10 : decode cX4_canKeep 10 = .ok (.aload_n 0, 1) := by decide +kernel
theorem dX4_canKeep_11 : decode cX4_canKeep 11 = .ok (.getfield 42, 3) := by decide +kernel
theorem dX4_canKeep_14 : decode cX4_canKeep 14 = .ok (.getfield 150, 3) := by decide +kernel
theorem dX4_canKeep_17 : decode cX4_canKeep 17 = .ok (.invokevirtual 46, 3) := by decide +kernel
theorem dX4_canKeep_20 : decode cX4_canKeep 20 = .ok (.istore_n 3, 1) := by decide +kernel
theorem dX4_canKeep_21 : decode cX4_canKeep 21 = .ok (.iconst 0, 1) := by decide +kernel
theorem dX4_canKeep_22 : decode cX4_canKeep 22 = .ok (.istore 4, 2) := by decide +kernel
theorem dX4_canKeep_24 : decode cX4_canKeep 24 = .ok (.iload 4, 2) := by decide +kernel
theorem dX4_canKeep_26 : decode cX4_canKeep 26 = .ok (.bipush 24, 2) := by decide +kernel
theorem dX4_canKeep_28 : decode cX4_canKeep 28 = .ok (.if_icmp .ge 35, 3) := by decide +kernel
theorem dX4_canKeep_31 : decode cX4_canKeep 31 = .ok (.aload_n 0, 1) := by decide +kernel
theorem dX4_canKeep_32 : decode cX4_canKeep 32 = .ok (.getfield 28, 3) := by decide +kernel
theorem dX4_canKeep_35 : decode cX4_canKeep 35 = .ok (.iload 4, 2) := by decide +kernel
theorem dX4_canKeep_37 : decode cX4_canKeep 37 = .ok (.iload_n 3, 1) := by decide +kernel
theorem dX4_canKeep_38 : decode cX4_canKeep 38 = .ok (.bipush 24, 2) := by decide +kernel
theorem dX4_canKeep_40 : decode cX4_canKeep 40 = .ok (.idiv, 1) := by decide +kernel
theorem dX4_canKeep_41 : decode cX4_canKeep 41 = .ok (.iload 4, 2) := by decide +kernel
theorem dX4_canKeep_43 : decode cX4_canKeep 43 = .ok (.if_icmp .ne 12, 3) := by decide +kernel
theorem dX4_canKeep_46 : decode cX4_canKeep 46 = .ok (.iconst 1, 1) := by decide +kernel
theorem dX4_canKeep_47 : decode cX4_canKeep 47 = .ok (.iload_n 3, 1) := by decide +kernel
theorem dX4_canKeep_48 : decode cX4_canKeep 48 = .ok (.bipush 24, 2) := by decide +kernel
theorem dX4_canKeep_50 : decode cX4_canKeep 50 = .ok (.irem, 1) := by decide +kernel
theorem dX4_canKeep_51 : decode cX4_canKeep 51 = .ok (.ishl, 1) := by decide +kernel
theorem dX4_canKeep_52 : decode cX4_canKeep 52 = .ok (.goto 4, 3) := by decide +kernel
theorem dX4_canKeep_55 : decode cX4_canKeep 55 = .ok (.iconst 0, 1) := by decide +kernel
theorem dX4_canKeep_56 : decode cX4_canKeep 56 = .ok (.iastore, 1) := by decide +kernel
theorem dX4_canKeep_57 : decode cX4_canKeep 57 = .ok (.iinc 4 1, 3) := by decide +kernel
theorem dX4_canKeep_60 : decode cX4_canKeep 60 = .ok (.goto (-36), 3) := by decide +kernel
theorem dX4_canKeep_63 : decode cX4_canKeep 63 = .ok (.iconst 0, 1) := by decide +kernel
theorem dX4_canKeep_64 : decode cX4_canKeep 64 = .ok (.istore 4, 2) := by decide +kernel
theorem dX4_canKeep_66 : decode cX4_canKeep 66 = .ok (.iload 4, 2) := by decide +kernel
theorem dX4_canKeep_68 : decode cX4_canKeep 68 = .ok (.bipush 12, 2) := by decide +kernel
theorem dX4_canKeep_70 : decode cX4_canKeep 70 = .ok (.if_icmp .ge 86, 3) := by decide +kernel
theorem dX4_canKeep_73 : decode cX4_canKeep 73 = .ok (.iload 4, 2) := by decide +kernel
theorem dX4_canKeep_75 : decode cX4_canKeep 75 = .ok (.iload_n 2, 1) := by decide +kernel
theorem dX4_canKeep_76 : decode cX4_canKeep 76 = .ok (.if_icmp .gt 80, 3) := by decide +kernel
theorem dX4_canKeep_79 : decode cX4_canKeep 79 = .ok (.iconst 0, 1) := by decide +kernel
theorem dX4_canKeep_80 : decode cX4_canKeep 80 = .ok (.istore 5, 2) := by decide +kernel
theorem dX4_canKeep_82 : decode cX4_canKeep 82 = .ok (.iload 5, 2) := by decide +kernel
theorem dX4_canKeep_84 : decode cX4_canKeep 84 = .ok (.aload_n 0, 1) := by decide +kernel
theorem dX4_canKeep_85 : decode cX4_canKeep 85 = .ok (.getfield 34, 3) := by decide +kernel
theorem dX4_canKeep_88 : decode cX4_canKeep 88 = .ok (.getfield 160, 3) := by decide +kernel
theorem dX4_canKeep_91 : decode cX4_canKeep 91 = .ok (.if_icmp .ge 44, 3) := by decide +kernel
theorem dX4_canKeep_94 : decode cX4_canKeep 94 = .ok (.iload_n 1, 1) := by decide +kernel
theorem dX4_canKeep_95 : decode cX4_canKeep 95 = .ok (.iload 5, 2) := by decide +kernel
theorem dX4_canKeep_97 : decode cX4_canKeep 97 = .ok (.iushr, 1) := by decide +kernel
theorem dX4_canKeep_98 : decode cX4_canKeep 98 = .ok (.iconst 1, 1) := by decide +kernel
theorem dX4_canKeep_99 : decode cX4_canKeep 99 = .ok (.iand, 1) := by decide +kernel
theorem dX4_canKeep_100 : decode cX4_canKeep 100 = .ok (.iconst 1, 1) := by decide +kernel
theorem dX4_canKeep_101 : decode cX4_canKeep 101 = .ok (.if_icmp .ne 28, 3) := by decide +kernel
theorem dX4_canKeep_104 : decode cX4_canKeep 104 = .ok (.aload_n 0, 1) := by decide +kernel
theorem dX4_canKeep_105 : decode cX4_canKeep 105 = .ok (.iload 5, 2) := by decide +kernel
theorem dX4_canKeep_107 : decode cX4_canKeep 107 = .ok (.iload 4, 2) := by decide +kernel
theorem dX4_canKeep_109 : decode cX4_canKeep 109 = .ok (.invokevirtual 179, 3) := by decide +kernel
theorem dX4_canKeep_112 : decode cX4_canKeep 112 = .ok (.ifCond .eq 17, 3) := by decide +kernel
theorem dX4_canKeep_115 : decode cX4_canKeep 115 = .ok (.aload_n 0, 1) := by decide +kernel
theorem dX4_canKeep_116 : decode cX4_canKeep 116 = .ok (.aload_n 0, 1) := by decide +kernel
theorem dX4_canKeep_117 : decode cX4_canKeep 117 = .ok (.getfield 34, 3) := by decide +kernel
theorem dX4_canKeep_120 : decode cX4_canKeep 120 = .ok (.iload 5, 2) := by decide +kernel
theorem dX4_canKeep_122 : decode cX4_canKeep 122 = .ok (.iconst 0, 1) := by decide +kernel
theorem dX4_canKeep_123 : decode cX4_canKeep 123 = .ok (.invokevirtual 163, 3) := by decide +kernel
theorem dX4_canKeep_126 : decode cX4_canKeep 126 = .ok (.invokevirtual 182, 3) := by decide +kernel
theorem dX4_canKeep_129 : decode cX4_canKeep 129 = .ok (.iinc 5 1, 3) := by decide +kernel
theorem dX4_canKeep_132 : decode cX4_canKeep 132 = .ok (.goto (-50), 3) := by decide +kernel
theorem dX4_canKeep_135 : decode cX4_canKeep 135 = .ok (.aload_n 0, 1) := by decide +kernel
theorem dX4_canKeep_136 : decode cX4_canKeep 136 = .ok (.invokevirtual 185, 3) := by decide +kernel
theorem dX4_canKeep_139 : decode cX4_canKeep 139 = .ok (.ifCond .eq 5, 3) := by decide +kernel
theorem dX4_canKeep_142 : decode cX4_canKeep 142 = .ok (.iconst 0, 1) := by decide +kernel
theorem dX4_canKeep_143 : decode cX4_canKeep 143 = .ok (.ireturn, 1) := by decide +kernel
theorem dX4_canKeep_144 : decode cX4_canKeep 144 = .ok (.aload_n 0, 1) := by decide +kernel
theorem dX4_canKeep_145 : decode cX4_canKeep 145 = .ok (.iload 4, 2) := by decide +kernel
theorem dX4_canKeep_147 : decode cX4_canKeep 147 = .ok (.invokevirtual 189, 3) := by decide +kernel
theorem dX4_canKeep_150 : decode cX4_canKeep 150 = .ok (.iinc 4 1, 3) := by decide +kernel
theorem dX4_canKeep_153 : decode cX4_canKeep 153 = .ok (.goto (-87), 3) := by decide +kernel
theorem dX4_canKeep_156 : decode cX4_canKeep 156 = .ok (.iconst 1, 1) := by decide +kernel
theorem dX4_canKeep_157 : decode cX4_canKeep 157 = .ok (.ireturn, 1) := by decide +kernel
def w_X4_canKeep (a0 : Int) (X : XT) (Q : Int → XT → Prop) : Prop :=
  w_X4_lastHourOf  a0 X (fun (v1 : Int) => w_X3_startOf  (X 58 3) X (fun (v7 : Int) => ∃ (I15 : Int → XT → Prop) (m16 : Int → XT → Nat), I15 0 X ∧ ∀ (x13 : Int) (X14 : XT), I15 x13 X14 → R32 x13 ∧ (24 ≤ x13 → ∃ (I31 : Int → XT → Prop) (m32 : Int → XT → Nat), I31 0 X14 ∧ ∀ (x29 : Int) (X30 : XT), I31 x29 X30 → R32 x29 ∧ (12 ≤ x29 → Q 1 X30) ∧ (¬ 12 ≤ x29 → R32 v1 ∧ (v1 < x29 → Q 1 X30) ∧ (¬ v1 < x29 → ∃ (I49 : Int → XT → Prop) (m50 : Int → XT → Nat), I49 0 X30 ∧ ∀ (x47 : Int) (X48 : XT), I49 x47 X48 → R32 x47 ∧ R32 (X48 1 11) ∧ ((X48 1 11) ≤ x47 → w_X4_rowsAreEmpty   X48 (fun (v64 : Int) => R32 v64 ∧ (v64 = 0 → w_X4_moveRows  x29 X48 (fun (X73 : XT) => I31 (x29 + 1) X73 ∧ m32 (x29 + 1) X73 < m32 x29 X30)) ∧ (¬ v64 = 0 → Q 0 X48))) ∧ (¬ (X48 1 11) ≤ x47 → R32 (oAnd (oUshr a0 x47) 1) ∧ (¬ (oAnd (oUshr a0 x47) 1) = 1 → I49 (x47 + 1) X48 ∧ m50 (x47 + 1) X48 < m50 x47 X48) ∧ ((oAnd (oUshr a0 x47) 1) = 1 → w_X4_isDue  x47 x29 X48 (fun (v80 : Int) => R32 v80 ∧ (v80 = 0 → I49 (x47 + 1) X48 ∧ m50 (x47 + 1) X48 < m50 x47 X48) ∧ (¬ v80 = 0 → (0 ≤ x47 ∧ x47 ≤ 7) ∧ w_X4_keepOver  (X48 7 (x47 * 5 + 0)) X48 (fun (X90 : XT) => I49 (x47 + 1) X90 ∧ m50 (x47 + 1) X90 < m50 x47 X48)))))))) ∧ (¬ 24 ≤ x13 → R32 v7 ∧ (0 ≤ v7) ∧ R32 (v7 / 24) ∧ (¬ (v7 / 24) = x13 → (0 ≤ x13 ∧ x13 < 24) ∧ I15 (x13 + 1) (x_st X14 66 x13 0) ∧ m16 (x13 + 1) (x_st X14 66 x13 0) < m16 x13 X14) ∧ ((v7 / 24) = x13 → (0 ≤ x13 ∧ x13 < 24) ∧ I15 (x13 + 1) (x_st X14 66 x13 (oShl 1 (v7 % 24))) ∧ m16 (x13 + 1) (x_st X14 66 x13 (oShl 1 (v7 % 24))) < m16 x13 X14))))
set_option maxRecDepth 20000 in
theorem so_X4_canKeep {n : Nat} {h : Nat → sE} {X : XT} {a0 : Int} {Q : Int → XT → Prop} (hn : 115 ≤ n) (hp : Pic X h) (w : w_X4_canKeep  a0 X Q) : Sp m_X4_canKeep 4 0 0 [.ref 60, .int (iI a0)] n h (pIw n h Q) := by
  unfold w_X4_canKeep at w
  refine Sp.ofV (by decide +kernel) (Nat.le_of_ble_eq_true rfl) ?_
  have hf : Fr h h := fun _ _ => rfl
  refine v_aload_n dX4_canKeep_0 rfl ?_
  refine v_iload_n dX4_canKeep_1 rfl ?_
  refine v_callVIr dX4_canKeep_2 ml_X4_176 (so_X4_lastHourOf hn hp  w) ((hp 60 (by decide)).trans (ent_60 _)) rfl (s_lt hn rfl) rfl rfl (Nat.le_of_ble_eq_true rfl) (Nat.le_of_ble_eq_true rfl) (Nat.zero_le _) (Nat.zero_le _) (fun v1 w => ?_)
  refine v_istore_n dX4_canKeep_5 (Nat.le_of_ble_eq_true rfl) ?_
  refine v_aload_n dX4_canKeep_6 rfl ?_
  refine v_get dX4_canKeep_7 fl_X4_34 ((hp 60 (by decide)).trans (ent_60 _)) rfl (s_lt hn rfl) ?_
  refine v_aload_n dX4_canKeep_10 rfl ?_
  refine v_get dX4_canKeep_11 fl_X4_42 ((hp 60 (by decide)).trans (ent_60 _)) rfl (s_lt hn rfl) ?_
  refine v_get dX4_canKeep_14 fl_X4_150 ((hp 58 (by decide)).trans (ent_58 _)) rfl (s_lt hn rfl) ?_
  refine v_callVIr dX4_canKeep_17 ml_X4_46 (so_X3_startOf hn hp  w) ((hp 1 (by decide)).trans (ent_1 _)) rfl (s_lt hn rfl) rfl rfl (Nat.le_of_ble_eq_true rfl) (Nat.le_of_ble_eq_true rfl) (Nat.zero_le _) (Nat.zero_le _) (fun v7 w => ?_)
  refine v_istore_n dX4_canKeep_20 (Nat.le_of_ble_eq_true rfl) ?_
  refine v_iconstI dX4_canKeep_21 ?_
  refine v_istore dX4_canKeep_22 (Nat.le_of_ble_eq_true rfl) ?_
  refine v_pick [3, 4, 2, 1, 0] rfl ?_
  obtain ⟨I15, m16, wi19, wl18⟩ := w
  have hL20 : ∀ (N23 : Nat) (x13 : Int) (X14 : XT) (h24 : Nat → sE), m16 x13 X14 < N23 → I15 x13 X14 → Pic X14 h24 → Fr h h24 → V (m_X4_canKeep, 4, 0, 0, n, pIw n h Q, s_G0) 0 0 n h24 24 [(0, .ref 60), (1, .int (iI a0)), (2, .int (iI v1)), (3, .int (iI v7)), (4, .int (iI x13))] [] := by
    intro N23
    induction N23 with
    | zero => intro x13 X14 h24 hm21; exact absurd hm21 (Nat.not_lt_zero _)
    | succ N23 ih17 =>
      intro x13 X14 h24 hm21 hI22 hp25 hf26
      have w := wl18 x13 X14 hI22
      refine v_iload dX4_canKeep_24 rfl ?_
      refine v_bipushI dX4_canKeep_26 rfl ?_
      obtain ⟨q27, w⟩ := w
      refine v_icmp_geI (tgt := 63) dX4_canKeep_28 (by decide) q27.1 q27.2 (by decide) (by decide) (fun c28 => ?_) (fun c28 => ?_)
      · replace w := w.1 c28
        refine v_iconstI dX4_canKeep_63 ?_
        refine v_istore dX4_canKeep_64 (Nat.le_of_ble_eq_true rfl) ?_
        refine v_pick [1, 2, 3, 0] rfl ?_
        obtain ⟨I31, m32, wi35, wl34⟩ := w
        have hL36 : ∀ (N39 : Nat) (x29 : Int) (X30 : XT) (h40 : Nat → sE), m32 x29 X30 < N39 → I31 x29 X30 → Pic X30 h40 → Fr h h40 → V (m_X4_canKeep, 4, 0, 0, n, pIw n h Q, s_G0) 0 0 n h40 66 [(0, .ref 60), (1, .int (iI a0)), (2, .int (iI v1)), (4, .int (iI x29))] [] := by
          intro N39
          induction N39 with
          | zero => intro x29 X30 h40 hm37; exact absurd hm37 (Nat.not_lt_zero _)
          | succ N39 ih33 =>
            intro x29 X30 h40 hm37 hI38 hp41 hf42
            have w := wl34 x29 X30 hI38
            refine v_iload dX4_canKeep_66 rfl ?_
            refine v_bipushI dX4_canKeep_68 rfl ?_
            obtain ⟨q43, w⟩ := w
            refine v_icmp_geI (tgt := 156) dX4_canKeep_70 (by decide) q43.1 q43.2 (by decide) (by decide) (fun c44 => ?_) (fun c44 => ?_)
            · replace w := w.1 c44
              refine v_iconstI dX4_canKeep_156 ?_
              exact v_z1 dX4_canKeep_157 rfl (Nat.zero_le _) (Nat.zero_le _) ⟨rfl, hf42, _, _, rfl, hp41, w⟩
            · replace w := w.2 c44
              refine v_iload dX4_canKeep_73 rfl ?_
              refine v_iload_n dX4_canKeep_75 rfl ?_
              obtain ⟨q45, w⟩ := w
              refine v_icmp_gtI (tgt := 156) dX4_canKeep_76 (by decide) q43.1 q43.2 q45.1 q45.2 (fun c46 => ?_) (fun c46 => ?_)
              · replace w := w.1 c46
                refine v_iconstI dX4_canKeep_156 ?_
                exact v_z1 dX4_canKeep_157 rfl (Nat.zero_le _) (Nat.zero_le _) ⟨rfl, hf42, _, _, rfl, hp41, w⟩
              · replace w := w.2 c46
                refine v_iconstI dX4_canKeep_79 ?_
                refine v_istore dX4_canKeep_80 (Nat.le_of_ble_eq_true rfl) ?_
                refine v_pick [1, 2, 3, 4, 0] rfl ?_
                obtain ⟨I49, m50, wi53, wl52⟩ := w
                have hL54 : ∀ (N57 : Nat) (x47 : Int) (X48 : XT) (h58 : Nat → sE), m50 x47 X48 < N57 → I49 x47 X48 → Pic X48 h58 → Fr h h58 → V (m_X4_canKeep, 4, 0, 0, n, pIw n h Q, s_G0) 0 0 n h58 82 [(0, .ref 60), (1, .int (iI a0)), (2, .int (iI v1)), (4, .int (iI x29)), (5, .int (iI x47))] [] := by
                  intro N57
                  induction N57 with
                  | zero => intro x47 X48 h58 hm55; exact absurd hm55 (Nat.not_lt_zero _)
                  | succ N57 ih51 =>
                    intro x47 X48 h58 hm55 hI56 hp59 hf60
                    have w := wl52 x47 X48 hI56
                    refine v_iload dX4_canKeep_82 rfl ?_
                    refine v_aload_n dX4_canKeep_84 rfl ?_
                    refine v_get dX4_canKeep_85 fl_X4_34 ((hp59 60 (by decide)).trans (ent_60 _)) rfl (s_lt hn rfl) ?_
                    refine v_get dX4_canKeep_88 fl_X4_160 ((hp59 1 (by decide)).trans (ent_1 _)) rfl (s_lt hn rfl) ?_
                    obtain ⟨q61, q62, w⟩ := w
                    refine v_icmp_geI (tgt := 135) dX4_canKeep_91 (by decide) q61.1 q61.2 q62.1 q62.2 (fun c63 => ?_) (fun c63 => ?_)
                    · replace w := w.1 c63
                      refine v_aload_n dX4_canKeep_135 rfl ?_
                      refine v_callVIr dX4_canKeep_136 ml_X4_185 (so_X4_rowsAreEmpty hn hp59  w) ((hp59 60 (by decide)).trans (ent_60 _)) rfl (s_lt hn rfl) rfl rfl (Nat.le_of_ble_eq_true rfl) (Nat.le_of_ble_eq_true rfl) (Nat.zero_le _) (Nat.zero_le _) (fun v64 w => ?_)
                      obtain ⟨q70, w⟩ := w
                      refine v_if_eqI (tgt := 144) dX4_canKeep_139 (by decide) q70.1 q70.2 (fun c71 => ?_) (fun c71 => ?_)
                      · replace w := w.1 c71
                        refine v_aload_n dX4_canKeep_144 rfl ?_
                        refine v_iload dX4_canKeep_145 rfl ?_
                        refine v_callVVw dX4_canKeep_147 ml_X4_189 (so_X4_moveRows hn hp59  w) ((hp59 60 (by decide)).trans (ent_60 _)) rfl (s_lt hn rfl) rfl rfl (Nat.le_of_ble_eq_true rfl) (Nat.le_of_ble_eq_true rfl) (Nat.zero_le _) (Nat.zero_le _) (fun X73 h74 hp76 hf75 w => ?_)
                        have hf77 := Fr.trans hf60 hf75
                        refine v_iincI dX4_canKeep_150 rfl (Nat.le_of_ble_eq_true rfl) ?_
                        refine v_goto (tgt := 66) dX4_canKeep_153 (by decide) ?_
                        refine v_pick [1, 2, 3, 0] rfl ?_
                        exact ih33 _ _ _ (Nat.lt_of_lt_of_le w.2 (Nat.le_of_lt_succ hm37)) w.1 hp76 hf77
                      · replace w := w.2 c71
                        refine v_iconstI dX4_canKeep_142 ?_
                        exact v_z0 dX4_canKeep_143 rfl (Nat.zero_le _) (Nat.zero_le _) ⟨rfl, hf60, _, _, rfl, hp59, w⟩
                    · replace w := w.2 c63
                      refine v_iload_n dX4_canKeep_94 rfl ?_
                      refine v_iload dX4_canKeep_95 rfl ?_
                      refine v_iushrI dX4_canKeep_97 ?_
                      refine v_iconstI dX4_canKeep_98 ?_
                      refine v_iandI dX4_canKeep_99 ?_
                      refine v_iconstI dX4_canKeep_100 ?_
                      obtain ⟨q78, w⟩ := w
                      refine v_icmp_neI (tgt := 129) dX4_canKeep_101 (by decide) q78.1 q78.2 (by decide) (by decide) (fun c79 => ?_) (fun c79 => ?_)
                      · replace w := w.1 c79
                        refine v_iincI dX4_canKeep_129 rfl (Nat.le_of_ble_eq_true rfl) ?_
                        refine v_goto (tgt := 82) dX4_canKeep_132 (by decide) ?_
                        refine v_pick [1, 2, 3, 4, 0] rfl ?_
                        exact ih51 _ _ _ (Nat.lt_of_lt_of_le w.2 (Nat.le_of_lt_succ hm55)) w.1 hp59 hf60
                      · replace w := w.2 c79
                        refine v_aload_n dX4_canKeep_104 rfl ?_
                        refine v_iload dX4_canKeep_105 rfl ?_
                        refine v_iload dX4_canKeep_107 rfl ?_
                        refine v_callVIr dX4_canKeep_109 ml_X4_179 (so_X4_isDue hn hp59  w) ((hp59 60 (by decide)).trans (ent_60 _)) rfl (s_lt hn rfl) rfl rfl (Nat.le_of_ble_eq_true rfl) (Nat.le_of_ble_eq_true rfl) (Nat.zero_le _) (Nat.zero_le _) (fun v80 w => ?_)
                        obtain ⟨q86, w⟩ := w
                        refine v_if_eqI (tgt := 129) dX4_canKeep_112 (by decide) q86.1 q86.2 (fun c87 => ?_) (fun c87 => ?_)
                        · replace w := w.1 c87
                          refine v_iincI dX4_canKeep_129 rfl (Nat.le_of_ble_eq_true rfl) ?_
                          refine v_goto (tgt := 82) dX4_canKeep_132 (by decide) ?_
                          refine v_pick [1, 2, 3, 4, 0] rfl ?_
                          exact ih51 _ _ _ (Nat.lt_of_lt_of_le w.2 (Nat.le_of_lt_succ hm55)) w.1 hp59 hf60
                        · replace w := w.2 c87
                          refine v_aload_n dX4_canKeep_115 rfl ?_
                          refine v_aload_n dX4_canKeep_116 rfl ?_
                          refine v_get dX4_canKeep_117 fl_X4_34 ((hp59 60 (by decide)).trans (ent_60 _)) rfl (s_lt hn rfl) ?_
                          refine v_iload dX4_canKeep_120 rfl ?_
                          refine v_iconstI dX4_canKeep_122 ?_
                          obtain ⟨q88, w⟩ := w
                          refine v_callVp dX4_canKeep_123 ml_X4_163 (sv_X3_contractFact (a := x47) (b := 0) (g1 := X48 1) (g7 := X48 7) hn (hp59 1 (by decide)) (hp59 7 (by decide)) q88 (by decide)) ((hp59 1 (by decide)).trans (ent_1 _)) rfl (s_lt hn rfl) rfl rfl (Nat.le_of_ble_eq_true rfl) (Nat.le_of_ble_eq_true rfl) (Nat.zero_le _) (Nat.zero_le _) ?_
                          refine v_callVVw dX4_canKeep_126 ml_X4_182 (so_X4_keepOver hn hp59  w) ((hp59 60 (by decide)).trans (ent_60 _)) rfl (s_lt hn rfl) rfl rfl (Nat.le_of_ble_eq_true rfl) (Nat.le_of_ble_eq_true rfl) (Nat.zero_le _) (Nat.zero_le _) (fun X90 h91 hp93 hf92 w => ?_)
                          have hf94 := Fr.trans hf60 hf92
                          refine v_iincI dX4_canKeep_129 rfl (Nat.le_of_ble_eq_true rfl) ?_
                          refine v_goto (tgt := 82) dX4_canKeep_132 (by decide) ?_
                          refine v_pick [1, 2, 3, 4, 0] rfl ?_
                          exact ih51 _ _ _ (Nat.lt_of_lt_of_le w.2 (Nat.le_of_lt_succ hm55)) w.1 hp93 hf94
                exact hL54 _ _ _ _ (Nat.lt_succ_self _) wi53 hp41 hf42
        exact hL36 _ _ _ _ (Nat.lt_succ_self _) wi35 hp25 hf26
      · replace w := w.2 c28
        refine v_aload_n dX4_canKeep_31 rfl ?_
        refine v_get dX4_canKeep_32 fl_X4_28 ((hp25 60 (by decide)).trans (ent_60 _)) rfl (s_lt hn rfl) ?_
        refine v_iload dX4_canKeep_35 rfl ?_
        refine v_iload_n dX4_canKeep_37 rfl ?_
        refine v_bipushI dX4_canKeep_38 rfl ?_
        obtain ⟨q95, q96, w⟩ := w
        refine v_idivI dX4_canKeep_40 q96 q95.2 (by decide) (by decide) ?_
        refine v_iload dX4_canKeep_41 rfl ?_
        obtain ⟨q97, w⟩ := w
        refine v_icmp_neI (tgt := 55) dX4_canKeep_43 (by decide) q97.1 q97.2 q27.1 q27.2 (fun c98 => ?_) (fun c98 => ?_)
        · replace w := w.1 c98
          refine v_iconstI dX4_canKeep_55 ?_
          obtain ⟨q99, w⟩ := w
          refine v_iastI dX4_canKeep_56 ((hp25 66 (by decide)).trans (ent_66 _)) (s_lt hn rfl) q99.1 q99.2 (ix_le q99.2 (by decide)) (fun h100 E101 F102 => ?_)
          have hp103 := pic_st hp25 (show h100 66 = ent 66 (uI _ x13 0) from E101) F102
          have hf104 := Fr.up (c := 66) hf26 F102 rfl
          refine v_iincI dX4_canKeep_57 rfl (Nat.le_of_ble_eq_true rfl) ?_
          refine v_goto (tgt := 24) dX4_canKeep_60 (by decide) ?_
          refine v_pick [1, 2, 3, 4, 0] rfl ?_
          exact ih17 _ _ _ (Nat.lt_of_lt_of_le w.2 (Nat.le_of_lt_succ hm21)) w.1 hp103 hf104
        · replace w := w.2 c98
          refine v_iconstI dX4_canKeep_46 ?_
          refine v_iload_n dX4_canKeep_47 rfl ?_
          refine v_bipushI dX4_canKeep_48 rfl ?_
          refine v_iremI dX4_canKeep_50 q96 q95.2 (by decide) (by decide) ?_
          refine v_ishlI dX4_canKeep_51 ?_
          refine v_goto (tgt := 56) dX4_canKeep_52 (by decide) ?_
          obtain ⟨q105, w⟩ := w
          refine v_iastI dX4_canKeep_56 ((hp25 66 (by decide)).trans (ent_66 _)) (s_lt hn rfl) q105.1 q105.2 (ix_le q105.2 (by decide)) (fun h106 E107 F108 => ?_)
          have hp109 := pic_st hp25 (show h106 66 = ent 66 (uI _ x13 (oShl 1 (v7 % 24))) from E107) F108
          have hf110 := Fr.up (c := 66) hf26 F108 rfl
          refine v_iincI dX4_canKeep_57 rfl (Nat.le_of_ble_eq_true rfl) ?_
          refine v_goto (tgt := 24) dX4_canKeep_60 (by decide) ?_
          refine v_pick [1, 2, 3, 4, 0] rfl ?_
          exact ih17 _ _ _ (Nat.lt_of_lt_of_le w.2 (Nat.le_of_lt_succ hm21)) w.1 hp109 hf110
  exact hL20 _ _ _ _ (Nat.lt_succ_self _) wi19 hp hf
theorem dX4_served_0 : decode cX4_served 0 = .ok (.aload_n 0, 1) := by decide +kernel
theorem dX4_served_1 : decode cX4_served 1 = .ok (.getfield 42, 3) := by decide +kernel
theorem dX4_served_4 : decode cX4_served 4 = .ok (.iload_n 1, 1) := by decide +kernel
theorem dX4_served_5 : decode cX4_served 5 = .ok (.invokevirtual 52, 3) := by decide +kernel
theorem dX4_served_8 : decode cX4_served 8 = .ok (.aload_n 0, 1) := by decide +kernel
theorem dX4_served_9 : decode cX4_served 9 = .ok (.getfield 42, 3) := by decide +kernel
theorem dX4_served_12 : decode cX4_served 12 = .ok (.iconst 0, 1) := by decide +kernel
theorem dX4_served_13 : decode cX4_served 13 = .ok (.aload_n 0, 1) := by decide +kernel
theorem dX4_served_14 : decode cX4_served 14 = .ok (.getfield 34, 3) := by decide +kernel
theorem dX4_served_17 : decode cX4_served 17 = .ok (.iload_n 1, 1) := by decide +kernel
theorem dX4_served_18 : decode cX4_served 18 = .ok (.invokevirtual 46, 3) := by decide +kernel
theorem dX4_served_21 : decode cX4_served 21 = .ok (.bipush 11, 2) := by decide +kernel
theorem dX4_served_23 : decode cX4_served 23 = .ok (.iconst 1, 1) := by decide +kernel
theorem dX4_served_24 : decode cX4_served 24 = .ok (.iconst 0, 1) := by decide +kernel
theorem dX4_served_25 : decode cX4_served 25 = .ok (.invokevirtual 58, 3) := by decide +kernel
theorem dX4_served_28 : decode cX4_served 28 = .ok (.aload_n 0, 1) := by decide +kernel
theorem dX4_served_29 : decode cX4_served 29 = .ok (.invokevirtual 157, 3) := by decide +kernel
theorem dX4_served_32 : decode cX4_served 32 = .ok (.iconst 0, 1) := by decide +kernel
theorem dX4_served_33 : decode cX4_served 33 = .ok (.istore_n 3, 1) := by decide +kernel
theorem dX4_served_34 : decode cX4_served 34 = .ok (.iconst 0, 1) := by decide +kernel
theorem dX4_served_35 : decode cX4_served 35 = .ok (.istore 4, 2) := by decide +kernel
theorem dX4_served_37 : decode cX4_served 37 = .ok (.iload 4, 2) := by decide +kernel
theorem dX4_served_39 : decode cX4_served 39 = .ok (.aload_n 0, 1) := by decide +kernel
theorem dX4_served_40 : decode cX4_served 40 = .ok (.getfield 34, 3) := by decide +kernel
theorem dX4_served_43 : decode cX4_served 43 = .ok (.getfield 160, 3) := by decide +kernel
theorem dX4_served_46 : decode cX4_served 46 = .ok (.if_icmp .ge 25, 3) := by decide +kernel
theorem dX4_served_49 : decode cX4_served 49 = .ok (.iload_n 3, 1) := by decide +kernel
theorem dX4_served_50 : decode cX4_served 50 = .ok (.aload_n 0, 1) := by decide +kernel
theorem dX4_served_51 : decode cX4_served 51 = .ok (.getfield 34, 3) := by decide +kernel
theorem dX4_served_54 : decode cX4_served 54 = .ok (.iload 4, 2) := by decide +kernel
theorem dX4_served_56 : decode cX4_served 56 = .ok (.iconst 3, 1) := by decide +kernel
theorem dX4_served_57 : decode cX4_served 57 = .ok (.invokevirtual 163, 3) := by decide +kernel
theorem dX4_served_60 : decode cX4_served 60 = .ok (.iload 4, 2) := by decide +kernel
theorem dX4_served_62 : decode cX4_served 62 = .ok (.ishl, 1) := by decide +kernel
theorem dX4_served_63 : decode cX4_served 63 = .ok (.ior, 1) := by decide +kernel
theorem dX4_served_64 : decode cX4_served 64 = .ok (.istore_n 3, 1) := by decide +kernel
theorem dX4_served_65 : decode cX4_served 65 = .ok (.iinc 4 1, 3) := by decide +kernel
theorem dX4_served_68 : decode cX4_served 68 = .ok (.goto (-31), 3) := by decide +kernel
theorem dX4_served_71 : decode cX4_served 71 = .ok (.iconst 0, 1) := by decide +kernel
theorem dX4_served_72 : decode cX4_served 72 = .ok (.istore 4, 2) := by decide +kernel
theorem dX4_served_74 : decode cX4_served 74 = .ok (.iconst 0, 1) := by decide +kernel
theorem dX4_served_75 : decode cX4_served 75 = .ok (.istore 5, 2) := by decide +kernel
theorem dX4_served_77 : decode cX4_served 77 = .ok (.iconst 1, 1) := by decide +kernel
theorem dX4_served_78 : decode cX4_served 78 = .ok (.istore 6, 2) := by decide +kernel
theorem dX4_served_80 : decode cX4_served 80 = .ok (.iload 6, 2) := by decide +kernel
theorem dX4_served_82 : decode cX4_served 82 = .ok (.iload_n 3, 1) := by decide +kernel
theorem dX4_served_83 : decode cX4_served 83 = .ok (.if_icmp .gt 50, 3) := by decide +kernel
theorem dX4_served_86 : decode cX4_served 86 = .ok (.iload 6, 2) := by decide +kernel
theorem dX4_served_88 : decode cX4_served 88 = .ok (.iload_n 3, 1) := by decide +kernel
theorem dX4_served_89 : decode cX4_served 89 = .ok (.iconst (-1), 1) := by decide +kernel
theorem dX4_served_90 : decode cX4_served 90 = .ok (.ixor, 1) := by decide +kernel
theorem dX4_served_91 : decode cX4_served 91 = .ok (.iand, 1) := by decide +kernel
theorem dX4_served_92 : decode cX4_served 92 = .ok (.ifCond .ne 35, 3) := by decide +kernel
theorem dX4_served_95 : decode cX4_served 95 = .ok (.aload_n 0, 1) := by decide +kernel
theorem dX4_served_96 : decode cX4_served 96 = .ok (.iload 6, 2) := by decide +kernel
theorem dX4_served_98 : decode cX4_served 98 = .ok (.invokevirtual 166, 3) := by decide +kernel
theorem dX4_served_101 : decode cX4_served 101 = .ok (.istore 7, 2) := by decide +kernel
theorem dX4_served_103 : decode cX4_served 103 = .ok (.iload 7, 2) := by decide +kernel
theorem dX4_served_105 : decode cX4_served 105 = .ok (.iload 4, 2) := by decide +kernel
theorem dX4_served_107 : decode cX4_served 107 = .ok (.if_icmp .le 20, 3) := by decide +kernel
theorem dX4_served_110 : decode cX4_served 110 = .ok (.aload_n 0, 1) := by decide +kernel
theorem dX4_served_111 : decode cX4_served 111 = .ok (.iload 6, 2) := by decide +kernel
theorem dX4_served_113 : decode cX4_served 113 = .ok (.invokevirtual 169, 3) := by decide +kernel
theorem dX4_served_116 : decode cX4_served 116 = .ok (.ifCond .eq 11, 3) := by decide +kernel
theorem dX4_served_119 : decode cX4_served 119 = .ok (.iload 7, 2) := by decide +kernel
theorem dX4_served_121 : decode cX4_served 121 = .ok (.istore 4, 2) := by decide +kernel
theorem dX4_served_123 : decode cX4_served 123 = .ok (.iload 6, 2) := by decide +kernel
theorem dX4_served_125 : decode cX4_served 125 = .ok (.istore 5, 2) := by decide +kernel
theorem dX4_served_127 : decode cX4_served 127 = .ok (.iinc 6 1, 3) := by decide +kernel
theorem dX4_served_130 : decode cX4_served 130 = .ok (.goto (-50), 3) := by decide +kernel
theorem dX4_served_133 : decode cX4_served 133 = .ok (.iload_n 2, 1) := by decide +kernel
theorem dX4_served_134 : decode cX4_served 134 = .ok (.ifCond .ne 8, 3) := by decide +kernel
theorem dX4_served_137 : decode cX4_served 137 = .ok (.iload 4, 2) := by decide +kernel
theorem dX4_served_139 : decode cX4_served 139 = .ok (.goto 5, 3) := by decide +kernel
theorem dX4_served_142 : decode cX4_served 142 = .ok (.iload 5, 2) := by decide +kernel
theorem dX4_served_144 : decode cX4_served 144 = .ok (.ireturn, 1) := by decide +kernel
def w_X4_served (K : LK) (a0 a1 : Int) (X : XT) (Q : Int → XT → Prop) : Prop :=
  w_X2_take  a0 X (fun (X2 : XT) => w_X3_startOf  a0 X2 (fun (v7 : Int) => w_X2_spread K  0 v7 11 1 0 X2 (fun (X14 : XT) => w_X4_drawStuckRows   X14 (fun (X20 : XT) => ∃ (I27 : Int → Int → Prop) (m28 : Int → Int → Nat), I27 0 0 ∧ ∀ (x25 : Int) (x26 : Int), I27 x25 x26 → R32 x26 ∧ R32 (X20 1 11) ∧ ((X20 1 11) ≤ x26 → ∃ (I43 : Int → Int → Int → XT → Prop) (m44 : Int → Int → Int → XT → Nat), I43 0 0 1 X20 ∧ ∀ (x39 : Int) (x40 : Int) (x41 : Int) (X42 : XT), I43 x39 x40 x41 X42 → R32 x41 ∧ R32 x25 ∧ (x25 < x41 → R32 a1 ∧ (¬ a1 = 0 → Q x40 X42) ∧ (a1 = 0 → Q x39 X42)) ∧ (¬ x25 < x41 → R32 (oAnd x41 (oXor x25 (-1))) ∧ (¬ (oAnd x41 (oXor x25 (-1))) = 0 → I43 x39 x40 (x41 + 1) X42 ∧ m44 x39 x40 (x41 + 1) X42 < m44 x39 x40 x41 X42) ∧ ((oAnd x41 (oXor x25 (-1))) = 0 → w_X4_feesOf  x41 X42 (fun (v62 : Int) => R32 v62 ∧ R32 x39 ∧ (v62 ≤ x39 → I43 x39 x40 (x41 + 1) X42 ∧ m44 x39 x40 (x41 + 1) X42 < m44 x39 x40 x41 X42) ∧ (¬ v62 ≤ x39 → w_X4_canKeep  x41 X42 (fun (v71 : Int) (X72 : XT) => R32 v71 ∧ (v71 = 0 → I43 x39 x40 (x41 + 1) X72 ∧ m44 x39 x40 (x41 + 1) X72 < m44 x39 x40 x41 X42) ∧ (¬ v71 = 0 → I43 v62 x41 (x41 + 1) X72 ∧ m44 v62 x41 (x41 + 1) X72 < m44 x39 x40 x41 X42))))))) ∧ (¬ (X20 1 11) ≤ x26 → (0 ≤ x26 ∧ x26 ≤ 7) ∧ I27 (oOr x25 (oShl (X20 7 (x26 * 5 + 3)) x26)) (x26 + 1) ∧ m28 (oOr x25 (oShl (X20 7 (x26 * 5 + 3)) x26)) (x26 + 1) < m28 x25 x26)))))
set_option maxRecDepth 20000 in
theorem so_X4_served {n : Nat} {h : Nat → sE} {X : XT} {K : LK} {hk : Nat → sE} (hK : LKok K n hk) {a0 a1 : Int} {Q : Int → XT → Prop} (hn : 115 ≤ n) (hp : Pic X h) (hf9 : Fr hk h) (w : w_X4_served K  a0 a1 X Q) : Sp m_X4_served 6 0 0 [.ref 60, .int (iI a0), .int (iI a1)] n h (pIw n h Q) := by
  unfold w_X4_served at w
  refine Sp.ofV (by decide +kernel) (Nat.le_of_ble_eq_true rfl) ?_
  have hf : Fr h h := fun _ _ => rfl
  refine v_aload_n dX4_served_0 rfl ?_
  refine v_get dX4_served_1 fl_X4_42 ((hp 60 (by decide)).trans (ent_60 _)) rfl (s_lt hn rfl) ?_
  refine v_iload_n dX4_served_4 rfl ?_
  refine v_callVVw dX4_served_5 ml_X4_52 (so_X2_take hn hp  w) ((hp 58 (by decide)).trans (ent_58 _)) rfl (s_lt hn rfl) rfl rfl (Nat.le_of_ble_eq_true rfl) (Nat.le_of_ble_eq_true rfl) (Nat.zero_le _) (Nat.zero_le _) (fun X2 h3 hp5 hf4 w => ?_)
  have hf6 := Fr.trans hf hf4
  refine v_aload_n dX4_served_8 rfl ?_
  refine v_get dX4_served_9 fl_X4_42 ((hp5 60 (by decide)).trans (ent_60 _)) rfl (s_lt hn rfl) ?_
  refine v_iconstI dX4_served_12 ?_
  refine v_aload_n dX4_served_13 rfl ?_
  refine v_get dX4_served_14 fl_X4_34 ((hp5 60 (by decide)).trans (ent_60 _)) rfl (s_lt hn rfl) ?_
  refine v_iload_n dX4_served_17 rfl ?_
  refine v_callVIr dX4_served_18 ml_X4_46 (so_X3_startOf hn hp5  w) ((hp5 1 (by decide)).trans (ent_1 _)) rfl (s_lt hn rfl) rfl rfl (Nat.le_of_ble_eq_true rfl) (Nat.le_of_ble_eq_true rfl) (Nat.zero_le _) (Nat.zero_le _) (fun v7 w => ?_)
  refine v_bipushI dX4_served_21 rfl ?_
  refine v_iconstI dX4_served_23 ?_
  refine v_iconstI dX4_served_24 ?_
  refine v_callVVw dX4_served_25 ml_X4_58 (so_X2_spread hK hn hp5 (Fr.trans hf9 hf6) w) ((hp5 58 (by decide)).trans (ent_58 _)) rfl (s_lt hn rfl) rfl rfl (Nat.le_of_ble_eq_true rfl) (Nat.le_of_ble_eq_true rfl) (Nat.zero_le _) (Nat.zero_le _) (fun X14 h15 hp17 hf16 w => ?_)
  have hf18 := Fr.trans hf6 hf16
  refine v_aload_n dX4_served_28 rfl ?_
  refine v_callVVw dX4_served_29 ml_X4_157 (so_X4_drawStuckRows hn hp17  w) ((hp17 60 (by decide)).trans (ent_60 _)) rfl (s_lt hn rfl) rfl rfl (Nat.le_of_ble_eq_true rfl) (Nat.le_of_ble_eq_true rfl) (Nat.zero_le _) (Nat.zero_le _) (fun X20 h21 hp23 hf22 w => ?_)
  have hf24 := Fr.trans hf18 hf22
  refine v_iconstI dX4_served_32 ?_
  refine v_istore_n dX4_served_33 (Nat.le_of_ble_eq_true rfl) ?_
  refine v_iconstI dX4_served_34 ?_
  refine v_istore dX4_served_35 (Nat.le_of_ble_eq_true rfl) ?_
  refine v_pick [2, 4, 1, 0] rfl ?_
  obtain ⟨I27, m28, wi31, wl30⟩ := w
  have hL32 : ∀ (N35 : Nat) (x25 : Int) (x26 : Int), m28 x25 x26 < N35 → I27 x25 x26 → V (m_X4_served, 6, 0, 0, n, pIw n h Q, s_G0) 0 0 n h21 37 [(0, .ref 60), (2, .int (iI a1)), (3, .int (iI x25)), (4, .int (iI x26))] [] := by
    intro N35
    induction N35 with
    | zero => intro x25 x26  hm33; exact absurd hm33 (Nat.not_lt_zero _)
    | succ N35 ih29 =>
      intro x25 x26  hm33 hI34
      have w := wl30 x25 x26 hI34
      refine v_iload dX4_served_37 rfl ?_
      refine v_aload_n dX4_served_39 rfl ?_
      refine v_get dX4_served_40 fl_X4_34 ((hp23 60 (by decide)).trans (ent_60 _)) rfl (s_lt hn rfl) ?_
      refine v_get dX4_served_43 fl_X4_160 ((hp23 1 (by decide)).trans (ent_1 _)) rfl (s_lt hn rfl) ?_
      obtain ⟨q36, q37, w⟩ := w
      refine v_icmp_geI (tgt := 71) dX4_served_46 (by decide) q36.1 q36.2 q37.1 q37.2 (fun c38 => ?_) (fun c38 => ?_)
      · replace w := w.1 c38
        refine v_iconstI dX4_served_71 ?_
        refine v_istore dX4_served_72 (Nat.le_of_ble_eq_true rfl) ?_
        refine v_iconstI dX4_served_74 ?_
        refine v_istore dX4_served_75 (Nat.le_of_ble_eq_true rfl) ?_
        refine v_iconstI dX4_served_77 ?_
        refine v_istore dX4_served_78 (Nat.le_of_ble_eq_true rfl) ?_
        refine v_pick [3, 4, 5, 2, 1, 0] rfl ?_
        obtain ⟨I43, m44, wi47, wl46⟩ := w
        have hL48 : ∀ (N51 : Nat) (x39 : Int) (x40 : Int) (x41 : Int) (X42 : XT) (h52 : Nat → sE), m44 x39 x40 x41 X42 < N51 → I43 x39 x40 x41 X42 → Pic X42 h52 → Fr h h52 → V (m_X4_served, 6, 0, 0, n, pIw n h Q, s_G0) 0 0 n h52 80 [(0, .ref 60), (2, .int (iI a1)), (3, .int (iI x25)), (4, .int (iI x39)), (5, .int (iI x40)), (6, .int (iI x41))] [] := by
          intro N51
          induction N51 with
          | zero => intro x39 x40 x41 X42 h52 hm49; exact absurd hm49 (Nat.not_lt_zero _)
          | succ N51 ih45 =>
            intro x39 x40 x41 X42 h52 hm49 hI50 hp53 hf54
            have w := wl46 x39 x40 x41 X42 hI50
            refine v_iload dX4_served_80 rfl ?_
            refine v_iload_n dX4_served_82 rfl ?_
            obtain ⟨q55, q56, w⟩ := w
            refine v_icmp_gtI (tgt := 133) dX4_served_83 (by decide) q55.1 q55.2 q56.1 q56.2 (fun c57 => ?_) (fun c57 => ?_)
            · replace w := w.1 c57
              refine v_iload_n dX4_served_133 rfl ?_
              obtain ⟨q58, w⟩ := w
              refine v_if_neI (tgt := 142) dX4_served_134 (by decide) q58.1 q58.2 (fun c59 => ?_) (fun c59 => ?_)
              · replace w := w.1 c59
                refine v_iload dX4_served_142 rfl ?_
                exact v_iret dX4_served_144 rfl (Nat.zero_le _) (Nat.zero_le _) ⟨rfl, hf54, _, _, rfl, hp53, w⟩
              · replace w := w.2 c59
                refine v_iload dX4_served_137 rfl ?_
                refine v_goto (tgt := 144) dX4_served_139 (by decide) ?_
                exact v_iret dX4_served_144 rfl (Nat.zero_le _) (Nat.zero_le _) ⟨rfl, hf54, _, _, rfl, hp53, w⟩
            · replace w := w.2 c57
              refine v_iload dX4_served_86 rfl ?_
              refine v_iload_n dX4_served_88 rfl ?_
              refine v_iconstI dX4_served_89 ?_
              refine v_ixorI dX4_served_90 ?_
              refine v_iandI dX4_served_91 ?_
              obtain ⟨q60, w⟩ := w
              refine v_if_neI (tgt := 127) dX4_served_92 (by decide) q60.1 q60.2 (fun c61 => ?_) (fun c61 => ?_)
              · replace w := w.1 c61
                refine v_iincI dX4_served_127 rfl (Nat.le_of_ble_eq_true rfl) ?_
                refine v_goto (tgt := 80) dX4_served_130 (by decide) ?_
                refine v_pick [1, 2, 3, 4, 5, 0] rfl ?_
                exact ih45 _ _ _ _ _ (Nat.lt_of_lt_of_le w.2 (Nat.le_of_lt_succ hm49)) w.1 hp53 hf54
              · replace w := w.2 c61
                refine v_aload_n dX4_served_95 rfl ?_
                refine v_iload dX4_served_96 rfl ?_
                refine v_callVIr dX4_served_98 ml_X4_166 (so_X4_feesOf hn hp53  w) ((hp53 60 (by decide)).trans (ent_60 _)) rfl (s_lt hn rfl) rfl rfl (Nat.le_of_ble_eq_true rfl) (Nat.le_of_ble_eq_true rfl) (Nat.zero_le _) (Nat.zero_le _) (fun v62 w => ?_)
                refine v_istore dX4_served_101 (Nat.le_of_ble_eq_true rfl) ?_
                refine v_iload dX4_served_103 rfl ?_
                refine v_iload dX4_served_105 rfl ?_
                obtain ⟨q68, q69, w⟩ := w
                refine v_icmp_leI (tgt := 127) dX4_served_107 (by decide) q68.1 q68.2 q69.1 q69.2 (fun c70 => ?_) (fun c70 => ?_)
                · replace w := w.1 c70
                  refine v_iincI dX4_served_127 rfl (Nat.le_of_ble_eq_true rfl) ?_
                  refine v_goto (tgt := 80) dX4_served_130 (by decide) ?_
                  refine v_pick [2, 3, 4, 5, 6, 0] rfl ?_
                  exact ih45 _ _ _ _ _ (Nat.lt_of_lt_of_le w.2 (Nat.le_of_lt_succ hm49)) w.1 hp53 hf54
                · replace w := w.2 c70
                  refine v_aload_n dX4_served_110 rfl ?_
                  refine v_iload dX4_served_111 rfl ?_
                  refine v_callVIw dX4_served_113 ml_X4_169 (so_X4_canKeep hn hp53  w) ((hp53 60 (by decide)).trans (ent_60 _)) rfl (s_lt hn rfl) rfl rfl (Nat.le_of_ble_eq_true rfl) (Nat.le_of_ble_eq_true rfl) (Nat.zero_le _) (Nat.zero_le _) (fun v71 X72 h73 hp75 hf74 w => ?_)
                  have hf76 := Fr.trans hf54 hf74
                  obtain ⟨q77, w⟩ := w
                  refine v_if_eqI (tgt := 127) dX4_served_116 (by decide) q77.1 q77.2 (fun c78 => ?_) (fun c78 => ?_)
                  · replace w := w.1 c78
                    refine v_iincI dX4_served_127 rfl (Nat.le_of_ble_eq_true rfl) ?_
                    refine v_goto (tgt := 80) dX4_served_130 (by decide) ?_
                    refine v_pick [2, 3, 4, 5, 6, 0] rfl ?_
                    exact ih45 _ _ _ _ _ (Nat.lt_of_lt_of_le w.2 (Nat.le_of_lt_succ hm49)) w.1 hp75 hf76
                  · replace w := w.2 c78
                    refine v_iload dX4_served_119 rfl ?_
                    refine v_istore dX4_served_121 (Nat.le_of_ble_eq_true rfl) ?_
                    refine v_iload dX4_served_123 rfl ?_
                    refine v_istore dX4_served_125 (Nat.le_of_ble_eq_true rfl) ?_
                    refine v_iincI dX4_served_127 rfl (Nat.le_of_ble_eq_true rfl) ?_
                    refine v_goto (tgt := 80) dX4_served_130 (by decide) ?_
                    refine v_pick [4, 5, 6, 2, 1, 0] rfl ?_
                    exact ih45 _ _ _ _ _ (Nat.lt_of_lt_of_le w.2 (Nat.le_of_lt_succ hm49)) w.1 hp75 hf76
        exact hL48 _ _ _ _ _ _ (Nat.lt_succ_self _) wi47 hp23 hf24
      · replace w := w.2 c38
        refine v_iload_n dX4_served_49 rfl ?_
        refine v_aload_n dX4_served_50 rfl ?_
        refine v_get dX4_served_51 fl_X4_34 ((hp23 60 (by decide)).trans (ent_60 _)) rfl (s_lt hn rfl) ?_
        refine v_iload dX4_served_54 rfl ?_
        refine v_iconstI dX4_served_56 ?_
        obtain ⟨q79, w⟩ := w
        refine v_callVp dX4_served_57 ml_X4_163 (sv_X3_contractFact (a := x26) (b := 3) (g1 := X20 1) (g7 := X20 7) hn (hp23 1 (by decide)) (hp23 7 (by decide)) q79 (by decide)) ((hp23 1 (by decide)).trans (ent_1 _)) rfl (s_lt hn rfl) rfl rfl (Nat.le_of_ble_eq_true rfl) (Nat.le_of_ble_eq_true rfl) (Nat.zero_le _) (Nat.zero_le _) ?_
        refine v_iload dX4_served_60 rfl ?_
        refine v_ishlI dX4_served_62 ?_
        refine v_iorI dX4_served_63 ?_
        refine v_istore_n dX4_served_64 (Nat.le_of_ble_eq_true rfl) ?_
        refine v_iincI dX4_served_65 rfl (Nat.le_of_ble_eq_true rfl) ?_
        refine v_goto (tgt := 37) dX4_served_68 (by decide) ?_
        refine v_pick [2, 3, 1, 0] rfl ?_
        exact ih29 _ _ (Nat.lt_of_lt_of_le w.2 (Nat.le_of_lt_succ hm33)) w.1
  exact hL32 _ _ _ (Nat.lt_succ_self _) wi31
theorem dX11_serve_0 : decode cX11_serve 0 = .ok (.aload_n 0, 1) := by decide +kernel
theorem dX11_serve_1 : decode cX11_serve 1 = .ok (.getfield 12, 3) := by decide +kernel
theorem dX11_serve_4 : decode cX11_serve 4 = .ok (.iload_n 1, 1) := by decide +kernel
theorem dX11_serve_5 : decode cX11_serve 5 = .ok (.invokevirtual 257, 3) := by decide +kernel
theorem dX11_serve_8 : decode cX11_serve 8 = .ok (.ifCond .eq 12, 3) := by decide +kernel
theorem dX11_serve_11 : decode cX11_serve 11 = .ok (.iload_n 2, 1) := by decide +kernel
theorem dX11_serve_12 : decode cX11_serve 12 = .ok (.iconst 0, 1) := by decide +kernel
theorem dX11_serve_13 : decode cX11_serve 13 = .ok (.iconst 1, 1) := by decide +kernel
theorem dX11_serve_14 : decode cX11_serve 14 = .ok (.invokestatic 115, 3) := by decide +kernel
theorem dX11_serve_17 : decode cX11_serve 17 = .ok (.ifCond .ne 5, 3) := by decide +kernel
theorem dX11_serve_20 : decode cX11_serve 20 = .ok (.iconst (-1), 1) := by decide +kernel
theorem dX11_serve_21 : decode cX11_serve 21 = .ok (.ireturn, 1) := by decide +kernel
theorem dX11_serve_22 : decode cX11_serve 22 = .ok (.aload_n 0, 1) := by decide +kernel
theorem dX11_serve_23 : decode cX11_serve 23 = .ok (.getfield 75, 3) := by decide +kernel
theorem dX11_serve_26 : decode cX11_serve 26 = .ok (.iload_n 1, 1) := by decide +kernel
theorem dX11_serve_27 : decode cX11_serve 27 = .ok (.iload_n 2, 1) := by decide +kernel
theorem dX11_serve_28 : decode cX11_serve 28 = .ok (.invokevirtual 303, 3) := by decide +kernel
theorem dX11_serve_31 : decode cX11_serve 31 = .ok (.ireturn, 1) := by decide +kernel
def w_X11_serve (K : LK) (a0 a1 : Int) (X : XT) (Q : Int → XT → Prop) : Prop :=
  R32 a0 ∧ R32 (X 1 9) ∧ (¬ (0 ≤ a0 ∧ a0 < X 1 9) → Q (-1) X) ∧ ((0 ≤ a0 ∧ a0 < X 1 9) → R32 a1 ∧ ((0 ≤ a1 ∧ a1 ≤ 1) → w_X4_served K  a0 a1 X (fun (v6 : Int) (X7 : XT) => Q v6 X7)) ∧ (¬ (0 ≤ a1 ∧ a1 ≤ 1) → Q (-1) X))
set_option maxRecDepth 20000 in
theorem so_X11_serve {n : Nat} {h : Nat → sE} {X : XT} {K : LK} {hk : Nat → sE} (hK : LKok K n hk) {a0 a1 : Int} {Q : Int → XT → Prop} (hn : 115 ≤ n) (hp : Pic X h) (hf9 : Fr hk h) (w : w_X11_serve K  a0 a1 X Q) : Sp m_X11_serve 7 0 0 [.ref 0, .int (iI a0), .int (iI a1)] n h (pIw n h Q) := by
  unfold w_X11_serve at w
  refine Sp.ofV (by decide +kernel) (Nat.le_of_ble_eq_true rfl) ?_
  have hf : Fr h h := fun _ _ => rfl
  refine v_aload_n dX11_serve_0 rfl ?_
  refine v_get dX11_serve_1 fl_X11_12 ((hp 0 (by decide)).trans (ent_0 _)) rfl (s_lt hn rfl) ?_
  refine v_iload_n dX11_serve_4 rfl ?_
  obtain ⟨q1, q2, w⟩ := w
  refine v_callVp dX11_serve_5 ml_X11_257 (sq_X3_isCloud (a := a0) (g1 := X 1) hn (hp 1 (by decide)) q1 q2) ((hp 1 (by decide)).trans (ent_1 _)) rfl (s_lt hn rfl) rfl rfl (Nat.le_of_ble_eq_true rfl) (Nat.le_of_ble_eq_true rfl) (Nat.zero_le _) (Nat.zero_le _) ?_
  refine v_ifeqB (tgt := 20) dX11_serve_8 (by decide) (fun c3 => ?_) (fun c3 => ?_)
  · replace w := w.1 c3
    refine v_iconstI dX11_serve_20 ?_
    exact v_iret dX11_serve_21 rfl (Nat.zero_le _) (Nat.zero_le _) ⟨rfl, hf, _, _, rfl, hp, w⟩
  · replace w := w.2 c3
    refine v_iload_n dX11_serve_11 rfl ?_
    refine v_iconstI dX11_serve_12 ?_
    refine v_iconstI dX11_serve_13 ?_
    obtain ⟨q4, w⟩ := w
    refine v_callSp dX11_serve_14 ml_X11_115 (sp_X11_within (a := a1) (b := 0) (c := 1) q4 (by decide) (by decide)) rfl rfl (Nat.le_of_ble_eq_true rfl) (Nat.le_of_ble_eq_true rfl) (Nat.zero_le _) (Nat.zero_le _) ?_
    refine v_ifneB (tgt := 22) dX11_serve_17 (by decide) (fun c5 => ?_) (fun c5 => ?_)
    · replace w := w.1 c5
      refine v_aload_n dX11_serve_22 rfl ?_
      refine v_get dX11_serve_23 fl_X11_75 ((hp 0 (by decide)).trans (ent_0 _)) rfl (s_lt hn rfl) ?_
      refine v_iload_n dX11_serve_26 rfl ?_
      refine v_iload_n dX11_serve_27 rfl ?_
      refine v_callVIw dX11_serve_28 ml_X11_303 (so_X4_served hK hn hp (Fr.trans hf9 hf) w) ((hp 60 (by decide)).trans (ent_60 _)) rfl (s_lt hn rfl) rfl rfl (Nat.le_of_ble_eq_true rfl) (Nat.le_of_ble_eq_true rfl) (Nat.zero_le _) (Nat.zero_le _) (fun v6 X7 h8 hp10 hf9 w => ?_)
      have hf11 := Fr.trans hf hf9
      exact v_iret dX11_serve_31 rfl (Nat.zero_le _) (Nat.zero_le _) ⟨rfl, hf11, _, _, rfl, hp10, w⟩
    · replace w := w.2 c5
      refine v_iconstI dX11_serve_20 ?_
      exact v_iret dX11_serve_21 rfl (Nat.zero_le _) (Nat.zero_le _) ⟨rfl, hf, _, _, rfl, hp, w⟩
theorem dX3_commonFields_0 : decode cX3_commonFields 0 = .ok (.iload_n 2, 1) := by decide +kernel
theorem dX3_commonFields_1 : decode cX3_commonFields 1 = .ok (.sipush 576, 3) := by decide +kernel
theorem dX3_commonFields_4 : decode cX3_commonFields 4 = .ok (.if_icmp .eq 11, 3) := by decide +kernel
theorem dX3_commonFields_7 : decode cX3_commonFields 7 = .ok (.iload 4, 2) := by decide +kernel
theorem dX3_commonFields_9 : decode cX3_commonFields 9 = .ok (.sipush 576, 3) := by decide +kernel
theorem dX3_commonFields_12 : decode cX3_commonFields 12 = .ok (.if_icmp .ne 5, 3) := by decide +kernel
theorem dX3_commonFields_15 : decode cX3_commonFields 15 = .ok (.iconst 0, 1) := by decide +kernel
theorem dX3_commonFields_16 : decode cX3_commonFields 16 = .ok (.ireturn, 1) := by decide +kernel
theorem dX3_commonFields_17 : decode cX3_commonFields 17 = .ok (.iload_n 2, 1) := by decide +kernel
theorem dX3_commonFields_18 : decode cX3_commonFields 18 = .ok (.invokestatic 88, 3) := by decide +kernel
theorem dX3_commonFields_21 : decode cX3_commonFields 21 = .ok (.aload_n 0, 1) := by decide +kernel
theorem dX3_commonFields_22 : decode cX3_commonFields 22 = .ok (.iload_n 1, 1) := by decide +kernel
theorem dX3_commonFields_23 : decode cX3_commonFields 23 = .ok (.iconst 0, 1) := by decide +kernel
theorem dX3_commonFields_24 : decode cX3_commonFields 24 = .ok (.invokevirtual 75, 3) := by decide +kernel
theorem dX3_commonFields_27 : decode cX3_commonFields 27 = .ok (.iload 4, 2) := by decide +kernel
theorem dX3_commonFields_29 : decode cX3_commonFields 29 = .ok (.invokestatic 88, 3) := by decide +kernel
theorem dX3_commonFields_32 : decode cX3_commonFields 32 = .ok (.aload_n 0, 1) := by decide +kernel
theorem dX3_commonFields_33 : decode cX3_commonFields 33 = .ok (.iload_n 3, 1) := by decide +kernel
theorem dX3_commonFields_34 : decode cX3_commonFields 34 = .ok (.iconst 0, 1) := by decide +kernel
theorem dX3_commonFields_35 : decode cX3_commonFields 35 = .ok (.invokevirtual 75, 3) := by decide +kernel
theorem dX3_commonFields_38 : decode cX3_commonFields 38 = .ok (.invokestatic 92, 3) := by decide +kernel
theorem dX3_commonFields_41 : decode cX3_commonFields 41 = .ok (.istore 5, 2) := by decide +kernel
theorem dX3_commonFields_43 : decode cX3_commonFields 43 = .ok (.iload_n 2, 1) := by decide +kernel
theorem dX3_commonFields_44 : decode cX3_commonFields 44 = .ok (.invokestatic 96, 3) := by decide +kernel
theorem dX3_commonFields_47 : decode cX3_commonFields 47 = .ok (.aload_n 0, 1) := by decide +kernel
theorem dX3_commonFields_48 : decode cX3_commonFields 48 = .ok (.iload_n 1, 1) := by decide +kernel
theorem dX3_commonFields_49 : decode cX3_commonFields 49 = .ok (.iconst 1, 1) := by decide +kernel
theorem dX3_commonFields_50 : decode cX3_commonFields 50 = .ok (.invokevirtual 75, 3) := by decide +kernel
theorem dX3_commonFields_53 : decode cX3_commonFields 53 = .ok (.iload 4, 2) := by decide +kernel
theorem dX3_commonFields_55 : decode cX3_commonFields 55 = .ok (.invokestatic 96, 3) := by decide +kernel
theorem dX3_commonFields_58 : decode cX3_commonFields 58 = .ok (.aload_n 0, 1) := by decide +kernel
theorem dX3_commonFields_59 : decode cX3_commonFields 59 = .ok (.iload_n 3, 1) := by decide +kernel
theorem dX3_commonFields_60 : decode cX3_commonFields 60 = .ok (.iconst 1, 1) := by decide +kernel
theorem dX3_commonFields_61 : decode cX3_commonFields 61 = .ok (.invokevirtual 75, 3) := by decide +kernel
theorem dX3_commonFields_64 : decode cX3_commonFields 64 = .ok (.invokestatic 92, 3) := by decide +kernel
theorem dX3_commonFields_67 : decode cX3_commonFields 67 = .ok (.istore 6, 2) := by decide +kernel
theorem dX3_commonFields_69 : decode cX3_commonFields 69 = .ok (.iload 5, 2) := by decide +kernel
theorem dX3_commonFields_71 : decode cX3_commonFields 71 = .ok (.iload 6, 2) := by decide +kernel
theorem dX3_commonFields_73 : decode cX3_commonFields 73 = .ok (.imul, 1) := by decide +kernel
theorem dX3_commonFields_74 : decode cX3_commonFields 74 = .ok (.ireturn, 1) := by decide +kernel
def w_X3_commonFields (a0 a1 a2 a3 : Int) (X : XT) (Q : Int → Prop) : Prop :=
  R32 a1 ∧ (a1 = 576 → Q 0) ∧ (¬ a1 = 576 → R32 a3 ∧ (¬ a3 = 576 → (0 ≤ a1 ∧ a1 ≤ 2147483647) ∧ (0 ≤ a0 ∧ a0 < X 1 9 ∧ X 1 9 ≤ 5) ∧ (0 ≤ a3 ∧ a3 ≤ 2147483647) ∧ (0 ≤ a2 ∧ a2 < X 1 9 ∧ X 1 9 ≤ 5) ∧ (-1000 ≤ (a1 % 24 - 8) ∧ (a1 % 24 - 8) ≤ 1000) ∧ (-1000 ≤ (X 5 (a0 * 5 + 0)) ∧ (X 5 (a0 * 5 + 0)) ≤ 1000) ∧ (-1000 ≤ (a3 % 24 - 8) ∧ (a3 % 24 - 8) ≤ 1000) ∧ (-1000 ≤ (X 5 (a2 * 5 + 0)) ∧ (X 5 (a2 * 5 + 0)) ≤ 1000) ∧ (-1000 ≤ (a1 / 24 - 8) ∧ (a1 / 24 - 8) ≤ 1000) ∧ (-1000 ≤ (X 5 (a0 * 5 + 1)) ∧ (X 5 (a0 * 5 + 1)) ≤ 1000) ∧ (-1000 ≤ (a3 / 24 - 8) ∧ (a3 / 24 - 8) ≤ 1000) ∧ (-1000 ≤ (X 5 (a2 * 5 + 1)) ∧ (X 5 (a2 * 5 + 1)) ≤ 1000) ∧ Q ((max 0 (min 8 (min ((a1 % 24 - 8) + (X 5 (a0 * 5 + 0))) ((a3 % 24 - 8) + (X 5 (a2 * 5 + 0)))) - max 0 (max (a1 % 24 - 8) (a3 % 24 - 8)))) * (max 0 (min 8 (min ((a1 / 24 - 8) + (X 5 (a0 * 5 + 1))) ((a3 / 24 - 8) + (X 5 (a2 * 5 + 1)))) - max 0 (max (a1 / 24 - 8) (a3 / 24 - 8)))))) ∧ (a3 = 576 → Q 0))
set_option maxRecDepth 20000 in
theorem so_X3_commonFields {n : Nat} {h : Nat → sE} {X : XT} {a0 a1 a2 a3 : Int} {Q : Int → Prop} (hn : 115 ≤ n) (hp : Pic X h) (w : w_X3_commonFields  a0 a1 a2 a3 X Q) : Sp m_X3_commonFields 2 0 0 [.ref 1, .int (iI a0), .int (iI a1), .int (iI a2), .int (iI a3)] n h (pIr n h Q) := by
  unfold w_X3_commonFields at w
  refine Sp.ofV (by decide +kernel) (Nat.le_of_ble_eq_true rfl) ?_
  have hf : Fr h h := fun _ _ => rfl
  refine v_iload_n dX3_commonFields_0 rfl ?_
  refine v_sipushI dX3_commonFields_1 rfl ?_
  obtain ⟨q1, w⟩ := w
  refine v_icmp_eqI (tgt := 15) dX3_commonFields_4 (by decide) q1.1 q1.2 (by decide) (by decide) (fun c2 => ?_) (fun c2 => ?_)
  · replace w := w.1 c2
    refine v_iconstI dX3_commonFields_15 ?_
    exact v_iret dX3_commonFields_16 rfl (Nat.zero_le _) (Nat.zero_le _) ⟨rfl, rfl, _, rfl, w⟩
  · replace w := w.2 c2
    refine v_iload dX3_commonFields_7 rfl ?_
    refine v_sipushI dX3_commonFields_9 rfl ?_
    obtain ⟨q3, w⟩ := w
    refine v_icmp_neI (tgt := 17) dX3_commonFields_12 (by decide) q3.1 q3.2 (by decide) (by decide) (fun c4 => ?_) (fun c4 => ?_)
    · replace w := w.1 c4
      refine v_iload_n dX3_commonFields_17 rfl ?_
      obtain ⟨q5, w⟩ := w
      refine v_callSp dX3_commonFields_18 ml_X3_88 (sp_X8_xOf (a := a1) q5) rfl rfl (Nat.le_of_ble_eq_true rfl) (Nat.le_of_ble_eq_true rfl) (Nat.zero_le _) (Nat.zero_le _) ?_
      refine v_aload_n dX3_commonFields_21 rfl ?_
      refine v_iload_n dX3_commonFields_22 rfl ?_
      refine v_iconstI dX3_commonFields_23 ?_
      obtain ⟨q6, w⟩ := w
      refine v_callVp dX3_commonFields_24 ml_X3_75 (sv_X3_cloudFact (a := a0) (b := 0) (g1 := X 1) (g5 := X 5) hn (hp 1 (by decide)) (hp 5 (by decide)) q6 (by decide)) ((hp 1 (by decide)).trans (ent_1 _)) rfl (s_lt hn rfl) rfl rfl (Nat.le_of_ble_eq_true rfl) (Nat.le_of_ble_eq_true rfl) (Nat.zero_le _) (Nat.zero_le _) ?_
      refine v_iload dX3_commonFields_27 rfl ?_
      obtain ⟨q7, w⟩ := w
      refine v_callSp dX3_commonFields_29 ml_X3_88 (sp_X8_xOf (a := a3) q7) rfl rfl (Nat.le_of_ble_eq_true rfl) (Nat.le_of_ble_eq_true rfl) (Nat.zero_le _) (Nat.zero_le _) ?_
      refine v_aload_n dX3_commonFields_32 rfl ?_
      refine v_iload_n dX3_commonFields_33 rfl ?_
      refine v_iconstI dX3_commonFields_34 ?_
      obtain ⟨q8, w⟩ := w
      refine v_callVp dX3_commonFields_35 ml_X3_75 (sv_X3_cloudFact (a := a2) (b := 0) (g1 := X 1) (g5 := X 5) hn (hp 1 (by decide)) (hp 5 (by decide)) q8 (by decide)) ((hp 1 (by decide)).trans (ent_1 _)) rfl (s_lt hn rfl) rfl rfl (Nat.le_of_ble_eq_true rfl) (Nat.le_of_ble_eq_true rfl) (Nat.zero_le _) (Nat.zero_le _) ?_
      obtain ⟨q9, q10, q11, q12, w⟩ := w
      refine v_callSp dX3_commonFields_38 ml_X3_92 (sp_X3_commonLength (a := (a1 % 24 - 8)) (b := (X 5 (a0 * 5 + 0))) (c := (a3 % 24 - 8)) (d := (X 5 (a2 * 5 + 0))) q9 q10 q11 q12) rfl rfl (Nat.le_of_ble_eq_true rfl) (Nat.le_of_ble_eq_true rfl) (Nat.zero_le _) (Nat.zero_le _) ?_
      refine v_istore dX3_commonFields_41 (Nat.le_of_ble_eq_true rfl) ?_
      refine v_iload_n dX3_commonFields_43 rfl ?_
      refine v_callSp dX3_commonFields_44 ml_X3_96 (sp_X8_yOf (a := a1) q5) rfl rfl (Nat.le_of_ble_eq_true rfl) (Nat.le_of_ble_eq_true rfl) (Nat.zero_le _) (Nat.zero_le _) ?_
      refine v_aload_n dX3_commonFields_47 rfl ?_
      refine v_iload_n dX3_commonFields_48 rfl ?_
      refine v_iconstI dX3_commonFields_49 ?_
      refine v_callVp dX3_commonFields_50 ml_X3_75 (sv_X3_cloudFact (a := a0) (b := 1) (g1 := X 1) (g5 := X 5) hn (hp 1 (by decide)) (hp 5 (by decide)) q6 (by decide)) ((hp 1 (by decide)).trans (ent_1 _)) rfl (s_lt hn rfl) rfl rfl (Nat.le_of_ble_eq_true rfl) (Nat.le_of_ble_eq_true rfl) (Nat.zero_le _) (Nat.zero_le _) ?_
      refine v_iload dX3_commonFields_53 rfl ?_
      refine v_callSp dX3_commonFields_55 ml_X3_96 (sp_X8_yOf (a := a3) q7) rfl rfl (Nat.le_of_ble_eq_true rfl) (Nat.le_of_ble_eq_true rfl) (Nat.zero_le _) (Nat.zero_le _) ?_
      refine v_aload_n dX3_commonFields_58 rfl ?_
      refine v_iload_n dX3_commonFields_59 rfl ?_
      refine v_iconstI dX3_commonFields_60 ?_
      refine v_callVp dX3_commonFields_61 ml_X3_75 (sv_X3_cloudFact (a := a2) (b := 1) (g1 := X 1) (g5 := X 5) hn (hp 1 (by decide)) (hp 5 (by decide)) q8 (by decide)) ((hp 1 (by decide)).trans (ent_1 _)) rfl (s_lt hn rfl) rfl rfl (Nat.le_of_ble_eq_true rfl) (Nat.le_of_ble_eq_true rfl) (Nat.zero_le _) (Nat.zero_le _) ?_
      obtain ⟨q13, q14, q15, q16, w⟩ := w
      refine v_callSp dX3_commonFields_64 ml_X3_92 (sp_X3_commonLength (a := (a1 / 24 - 8)) (b := (X 5 (a0 * 5 + 1))) (c := (a3 / 24 - 8)) (d := (X 5 (a2 * 5 + 1))) q13 q14 q15 q16) rfl rfl (Nat.le_of_ble_eq_true rfl) (Nat.le_of_ble_eq_true rfl) (Nat.zero_le _) (Nat.zero_le _) ?_
      refine v_istore dX3_commonFields_67 (Nat.le_of_ble_eq_true rfl) ?_
      refine v_iload dX3_commonFields_69 rfl ?_
      refine v_iload dX3_commonFields_71 rfl ?_
      refine v_imulI dX3_commonFields_73 ?_
      exact v_iret dX3_commonFields_74 rfl (Nat.zero_le _) (Nat.zero_le _) ⟨rfl, rfl, _, rfl, w⟩
    · replace w := w.2 c4
      refine v_iconstI dX3_commonFields_15 ?_
      exact v_iret dX3_commonFields_16 rfl (Nat.zero_le _) (Nat.zero_le _) ⟨rfl, rfl, _, rfl, w⟩
theorem dX11_cross_0 : decode cX11_cross 0 = .ok (.aload_n 0, 1) := by decide +kernel
theorem dX11_cross_1 : decode cX11_cross 1 = .ok (.getfield 12, 3) := by decide +kernel
theorem dX11_cross_4 : decode cX11_cross 4 = .ok (.iload_n 1, 1) := by decide +kernel
theorem dX11_cross_5 : decode cX11_cross 5 = .ok (.invokevirtual 257, 3) := by decide +kernel
theorem dX11_cross_8 : decode cX11_cross 8 = .ok (.ifCond .eq 28, 3) := by decide +kernel
theorem dX11_cross_11 : decode cX11_cross 11 = .ok (.aload_n 0, 1) := by decide +kernel
theorem dX11_cross_12 : decode cX11_cross 12 = .ok (.getfield 12, 3) := by decide +kernel
theorem dX11_cross_15 : decode cX11_cross 15 = .ok (.iload_n 2, 1) := by decide +kernel
theorem dX11_cross_16 : decode cX11_cross 16 = .ok (.invokevirtual 257, 3) := by decide +kernel
theorem dX11_cross_19 : decode cX11_cross 19 = .ok (.ifCond .eq 17, 3) := by decide +kernel
theorem dX11_cross_22 : decode cX11_cross 22 = .ok (.iload_n 1, 1) := by decide +kernel
theorem dX11_cross_23 : decode cX11_cross 23 = .ok (.iload_n 2, 1) := by decide +kernel
theorem dX11_cross_24 : decode cX11_cross 24 = .ok (.if_icmp .eq 12, 3) := by decide +kernel
theorem dX11_cross_27 : decode cX11_cross 27 = .ok (.iload_n 3, 1) := by decide +kernel
theorem dX11_cross_28 : decode cX11_cross 28 = .ok (.iconst 0, 1) := by decide +kernel
theorem dX11_cross_29 : decode cX11_cross 29 = .ok (.iconst 1, 1) := by decide +kernel
theorem dX11_cross_30 : decode cX11_cross 30 = .ok (.invokestatic 115, 3) := by decide +kernel
theorem dX11_cross_33 : decode cX11_cross 33 = .ok (.ifCond .ne 5, 3) := by decide +kernel
theorem dX11_cross_36 : decode cX11_cross 36 = .ok (.iconst (-1), 1) := by decide +kernel
theorem dX11_cross_37 : decode cX11_cross 37 = .ok (.ireturn, 1) := by decide +kernel
theorem dX11_cross_38 : decode cX11_cross 38 = .ok (.aload_n 0, 1) := by decide +kernel
theorem dX11_cross_39 : decode cX11_cross 39 = .ok (.getfield 52, 3) := by decide +kernel
theorem dX11_cross_42 : decode cX11_cross 42 = .ok (.invokevirtual 245, 3) := by decide +kernel
theorem dX11_cross_45 : decode cX11_cross 45 = .ok (.iconst 0, 1) := by decide +kernel
theorem dX11_cross_46 : decode cX11_cross 46 = .ok (.istore 4, 2) := by decide +kernel
theorem dX11_cross_48 : decode cX11_cross 48 = .ok (.iload 4, 2) := by decide +kernel
theorem dX11_cross_50 : decode cX11_cross 50 = .ok (.bipush 12, 2) := by decide +kernel
theorem dX11_cross_52 : decode cX11_cross 52 = .ok (.if_icmp .ge 57, 3) := by decide +kernel
theorem dX11_cross_55 : decode cX11_cross 55 = .ok (.aload_n 0, 1) := by decide +kernel
theorem dX11_cross_56 : decode cX11_cross 56 = .ok (.getfield 12, 3) := by decide +kernel
theorem dX11_cross_59 : decode cX11_cross 59 = .ok (.iload_n 1, 1) := by decide +kernel
theorem dX11_cross_60 : decode cX11_cross 60 = .ok (.aload_n 0, 1) := by decide +kernel
theorem dX11_cross_61 : decode cX11_cross 61 = .ok (.getfield 52, 3) := by decide +kernel
theorem dX11_cross_64 : decode cX11_cross 64 = .ok (.iload_n 1, 1) := by decide +kernel
theorem dX11_cross_65 : decode cX11_cross 65 = .ok (.iload 4, 2) := by decide +kernel
theorem dX11_cross_67 : decode cX11_cross 67 = .ok (.invokevirtual 260, 3) := by decide +kernel
theorem dX11_cross_70 : decode cX11_cross 70 = .ok (.iload_n 2, 1) := by decide +kernel
theorem dX11_cross_71 : decode cX11_cross 71 = .ok (.aload_n 0, 1) := by decide +kernel
theorem dX11_cross_72 : decode cX11_cross 72 = .ok (.getfield 52, 3) := by decide +kernel
theorem dX11_cross_75 : decode cX11_cross 75 = .ok (.iload_n 2, 1) := by decide +kernel
theorem dX11_cross_76 : decode cX11_cross 76 = .ok (.iload 4, 2) := by decide +kernel
theorem dX11_cross_78 : decode cX11_cross 78 = .ok (.invokevirtual 260, 3) := by decide +kernel
theorem dX11_cross_81 : decode cX11_cross 81 = .ok (.invokevirtual 289, 3) := by decide +kernel
theorem dX11_cross_84 : decode cX11_cross 84 = .ok (.istore 5, 2) := by decide +kernel
theorem dX11_cross_86 : decode cX11_cross 86 = .ok (.iload 5, 2) := by decide +kernel
theorem dX11_cross_88 : decode cX11_cross 88 = .ok (.ifCond .le 15, 3) := by decide +kernel
theorem dX11_cross_91 : decode cX11_cross 91 = .ok (.iload_n 3, 1) := by decide +kernel
theorem dX11_cross_92 : decode cX11_cross 92 = .ok (.ifCond .ne 8, 3) := by decide +kernel
theorem dX11_cross_95 : decode cX11_cross 95 = .ok (.iload 4, 2) := by decide +kernel
theorem dX11_cross_97 : decode cX11_cross 97 = .ok (.goto 5, 3) := by decide +kernel
theorem dX11_cross_100 : decode cX11_cross 100 = .ok (.iload 5, 2) := by decide +kernel
theorem dX11_cross_102 : decode cX11_cross 102 = .ok (.ireturn, 1) := by decide +kernel
theorem dX11_cross_103 : decode cX11_cross 103 = .ok (.iinc 4 1, 3) := by decide +kernel
theorem dX11_cross_106 : decode cX11_cross 106 = .ok (.goto (-58), 3) := by decide +kernel
theorem dX11_cross_109 : decode cX11_cross 109 = .ok (.iconst (-1), 1) := by decide +kernel
theorem dX11_cross_110 : decode cX11_cross 110 = .ok (.ireturn, 1) := by decide +kernel
def w_X11_cross (K : LK) (a0 a1 a2 : Int) (X : XT) (Q : Int → XT → Prop) : Prop :=
  R32 a0 ∧ R32 (X 1 9) ∧ (¬ (0 ≤ a0 ∧ a0 < X 1 9) → Q (-1) X) ∧ ((0 ≤ a0 ∧ a0 < X 1 9) → R32 a1 ∧ (¬ (0 ≤ a1 ∧ a1 < X 1 9) → Q (-1) X) ∧ ((0 ≤ a1 ∧ a1 < X 1 9) → (a0 = a1 → Q (-1) X) ∧ (¬ a0 = a1 → R32 a2 ∧ ((0 ≤ a2 ∧ a2 ≤ 1) → w_X8_look K 50 51  X (fun (X10 : XT) => ∃ (I16 : Int → Prop) (m17 : Int → Nat), I16 0 ∧ ∀ (x15 : Int), I16 x15 → R32 x15 ∧ (12 ≤ x15 → Q (-1) X10) ∧ (¬ 12 ≤ x15 → w_X8_spotOf 50 51 a0 x15 X10 (fun (v27 : Int) => w_X8_spotOf 50 51 a1 x15 X10 (fun (v33 : Int) => w_X3_commonFields  a0 v27 a1 v33 X10 (fun (v39 : Int) => R32 v39 ∧ (v39 ≤ 0 → I16 (x15 + 1) ∧ m17 (x15 + 1) < m17 x15) ∧ (¬ v39 ≤ 0 → (¬ a2 = 0 → Q v39 X10) ∧ (a2 = 0 → Q x15 X10)))))))) ∧ (¬ (0 ≤ a2 ∧ a2 ≤ 1) → Q (-1) X))))
set_option maxRecDepth 20000 in
theorem so_X11_cross {n : Nat} {h : Nat → sE} {X : XT} {K : LK} {hk : Nat → sE} (hK : LKok K n hk) {a0 a1 a2 : Int} {Q : Int → XT → Prop} (hn : 115 ≤ n) (hp : Pic X h) (hf9 : Fr hk h) (w : w_X11_cross K  a0 a1 a2 X Q) : Sp m_X11_cross 6 0 0 [.ref 0, .int (iI a0), .int (iI a1), .int (iI a2)] n h (pIw n h Q) := by
  unfold w_X11_cross at w
  refine Sp.ofV (by decide +kernel) (Nat.le_of_ble_eq_true rfl) ?_
  have hf : Fr h h := fun _ _ => rfl
  refine v_aload_n dX11_cross_0 rfl ?_
  refine v_get dX11_cross_1 fl_X11_12 ((hp 0 (by decide)).trans (ent_0 _)) rfl (s_lt hn rfl) ?_
  refine v_iload_n dX11_cross_4 rfl ?_
  obtain ⟨q1, q2, w⟩ := w
  refine v_callVp dX11_cross_5 ml_X11_257 (sq_X3_isCloud (a := a0) (g1 := X 1) hn (hp 1 (by decide)) q1 q2) ((hp 1 (by decide)).trans (ent_1 _)) rfl (s_lt hn rfl) rfl rfl (Nat.le_of_ble_eq_true rfl) (Nat.le_of_ble_eq_true rfl) (Nat.zero_le _) (Nat.zero_le _) ?_
  refine v_ifeqB (tgt := 36) dX11_cross_8 (by decide) (fun c3 => ?_) (fun c3 => ?_)
  · replace w := w.1 c3
    refine v_iconstI dX11_cross_36 ?_
    exact v_iret dX11_cross_37 rfl (Nat.zero_le _) (Nat.zero_le _) ⟨rfl, hf, _, _, rfl, hp, w⟩
  · replace w := w.2 c3
    refine v_aload_n dX11_cross_11 rfl ?_
    refine v_get dX11_cross_12 fl_X11_12 ((hp 0 (by decide)).trans (ent_0 _)) rfl (s_lt hn rfl) ?_
    refine v_iload_n dX11_cross_15 rfl ?_
    obtain ⟨q4, w⟩ := w
    refine v_callVp dX11_cross_16 ml_X11_257 (sq_X3_isCloud (a := a1) (g1 := X 1) hn (hp 1 (by decide)) q4 q2) ((hp 1 (by decide)).trans (ent_1 _)) rfl (s_lt hn rfl) rfl rfl (Nat.le_of_ble_eq_true rfl) (Nat.le_of_ble_eq_true rfl) (Nat.zero_le _) (Nat.zero_le _) ?_
    refine v_ifeqB (tgt := 36) dX11_cross_19 (by decide) (fun c5 => ?_) (fun c5 => ?_)
    · replace w := w.1 c5
      refine v_iconstI dX11_cross_36 ?_
      exact v_iret dX11_cross_37 rfl (Nat.zero_le _) (Nat.zero_le _) ⟨rfl, hf, _, _, rfl, hp, w⟩
    · replace w := w.2 c5
      refine v_iload_n dX11_cross_22 rfl ?_
      refine v_iload_n dX11_cross_23 rfl ?_
      refine v_icmp_eqI (tgt := 36) dX11_cross_24 (by decide) q1.1 q1.2 q4.1 q4.2 (fun c6 => ?_) (fun c6 => ?_)
      · replace w := w.1 c6
        refine v_iconstI dX11_cross_36 ?_
        exact v_iret dX11_cross_37 rfl (Nat.zero_le _) (Nat.zero_le _) ⟨rfl, hf, _, _, rfl, hp, w⟩
      · replace w := w.2 c6
        refine v_iload_n dX11_cross_27 rfl ?_
        refine v_iconstI dX11_cross_28 ?_
        refine v_iconstI dX11_cross_29 ?_
        obtain ⟨q7, w⟩ := w
        refine v_callSp dX11_cross_30 ml_X11_115 (sp_X11_within (a := a2) (b := 0) (c := 1) q7 (by decide) (by decide)) rfl rfl (Nat.le_of_ble_eq_true rfl) (Nat.le_of_ble_eq_true rfl) (Nat.zero_le _) (Nat.zero_le _) ?_
        refine v_ifneB (tgt := 38) dX11_cross_33 (by decide) (fun c8 => ?_) (fun c8 => ?_)
        · replace w := w.1 c8
          refine v_aload_n dX11_cross_38 rfl ?_
          refine v_get dX11_cross_39 fl_X11_52 ((hp 0 (by decide)).trans (ent_0 _)) rfl (s_lt hn rfl) ?_
          refine v_callVVw dX11_cross_42 ml_X11_245 (so_X8_look_49 hK hn hp (Fr.trans hf9 hf) w) ((hp 49 (by decide)).trans (ent_49 _)) rfl (s_lt hn rfl) rfl rfl (Nat.le_of_ble_eq_true rfl) (Nat.le_of_ble_eq_true rfl) (Nat.zero_le _) (Nat.zero_le _) (fun X10 h11 hp13 hf12 w => ?_)
          have hf14 := Fr.trans hf hf12
          refine v_iconstI dX11_cross_45 ?_
          refine v_istore dX11_cross_46 (Nat.le_of_ble_eq_true rfl) ?_
          refine v_pick [1, 2, 3, 4, 0] rfl ?_
          obtain ⟨I16, m17, wi20, wl19⟩ := w
          have hL21 : ∀ (N24 : Nat) (x15 : Int), m17 x15 < N24 → I16 x15 → V (m_X11_cross, 6, 0, 0, n, pIw n h Q, s_G0) 0 0 n h11 48 [(0, .ref 0), (1, .int (iI a0)), (2, .int (iI a1)), (3, .int (iI a2)), (4, .int (iI x15))] [] := by
            intro N24
            induction N24 with
            | zero => intro x15  hm22; exact absurd hm22 (Nat.not_lt_zero _)
            | succ N24 ih18 =>
              intro x15  hm22 hI23
              have w := wl19 x15 hI23
              refine v_iload dX11_cross_48 rfl ?_
              refine v_bipushI dX11_cross_50 rfl ?_
              obtain ⟨q25, w⟩ := w
              refine v_icmp_geI (tgt := 109) dX11_cross_52 (by decide) q25.1 q25.2 (by decide) (by decide) (fun c26 => ?_) (fun c26 => ?_)
              · replace w := w.1 c26
                refine v_iconstI dX11_cross_109 ?_
                exact v_iret dX11_cross_110 rfl (Nat.zero_le _) (Nat.zero_le _) ⟨rfl, hf14, _, _, rfl, hp13, w⟩
              · replace w := w.2 c26
                refine v_aload_n dX11_cross_55 rfl ?_
                refine v_get dX11_cross_56 fl_X11_12 ((hp13 0 (by decide)).trans (ent_0 _)) rfl (s_lt hn rfl) ?_
                refine v_iload_n dX11_cross_59 rfl ?_
                refine v_aload_n dX11_cross_60 rfl ?_
                refine v_get dX11_cross_61 fl_X11_52 ((hp13 0 (by decide)).trans (ent_0 _)) rfl (s_lt hn rfl) ?_
                refine v_iload_n dX11_cross_64 rfl ?_
                refine v_iload dX11_cross_65 rfl ?_
                refine v_callVIr dX11_cross_67 ml_X11_260 (so_X8_spotOf_49 hn hp13  w) ((hp13 49 (by decide)).trans (ent_49 _)) rfl (s_lt hn rfl) rfl rfl (Nat.le_of_ble_eq_true rfl) (Nat.le_of_ble_eq_true rfl) (Nat.zero_le _) (Nat.zero_le _) (fun v27 w => ?_)
                refine v_iload_n dX11_cross_70 rfl ?_
                refine v_aload_n dX11_cross_71 rfl ?_
                refine v_get dX11_cross_72 fl_X11_52 ((hp13 0 (by decide)).trans (ent_0 _)) rfl (s_lt hn rfl) ?_
                refine v_iload_n dX11_cross_75 rfl ?_
                refine v_iload dX11_cross_76 rfl ?_
                refine v_callVIr dX11_cross_78 ml_X11_260 (so_X8_spotOf_49 hn hp13  w) ((hp13 49 (by decide)).trans (ent_49 _)) rfl (s_lt hn rfl) rfl rfl (Nat.le_of_ble_eq_true rfl) (Nat.le_of_ble_eq_true rfl) (Nat.zero_le _) (Nat.zero_le _) (fun v33 w => ?_)
                refine v_callVIr dX11_cross_81 ml_X11_289 (so_X3_commonFields hn hp13  w) ((hp13 1 (by decide)).trans (ent_1 _)) rfl (s_lt hn rfl) rfl rfl (Nat.le_of_ble_eq_true rfl) (Nat.le_of_ble_eq_true rfl) (Nat.zero_le _) (Nat.zero_le _) (fun v39 w => ?_)
                refine v_istore dX11_cross_84 (Nat.le_of_ble_eq_true rfl) ?_
                refine v_iload dX11_cross_86 rfl ?_
                obtain ⟨q45, w⟩ := w
                refine v_if_leI (tgt := 103) dX11_cross_88 (by decide) q45.1 q45.2 (fun c46 => ?_) (fun c46 => ?_)
                · replace w := w.1 c46
                  refine v_iincI dX11_cross_103 rfl (Nat.le_of_ble_eq_true rfl) ?_
                  refine v_goto (tgt := 48) dX11_cross_106 (by decide) ?_
                  refine v_pick [2, 3, 4, 5, 0] rfl ?_
                  exact ih18 _ (Nat.lt_of_lt_of_le w.2 (Nat.le_of_lt_succ hm22)) w.1
                · replace w := w.2 c46
                  refine v_iload_n dX11_cross_91 rfl ?_
                  refine v_if_neI (tgt := 100) dX11_cross_92 (by decide) q7.1 q7.2 (fun c47 => ?_) (fun c47 => ?_)
                  · replace w := w.1 c47
                    refine v_iload dX11_cross_100 rfl ?_
                    exact v_iret dX11_cross_102 rfl (Nat.zero_le _) (Nat.zero_le _) ⟨rfl, hf14, _, _, rfl, hp13, w⟩
                  · replace w := w.2 c47
                    refine v_iload dX11_cross_95 rfl ?_
                    refine v_goto (tgt := 102) dX11_cross_97 (by decide) ?_
                    exact v_iret dX11_cross_102 rfl (Nat.zero_le _) (Nat.zero_le _) ⟨rfl, hf14, _, _, rfl, hp13, w⟩
          exact hL21 _ _ (Nat.lt_succ_self _) wi20
        · replace w := w.2 c8
          refine v_iconstI dX11_cross_36 ?_
          exact v_iret dX11_cross_37 rfl (Nat.zero_le _) (Nat.zero_le _) ⟨rfl, hf, _, _, rfl, hp, w⟩
theorem dX4_parted_0 : decode cX4_parted 0 = .ok (.aload_n 0, 1) := by decide +kernel
theorem dX4_parted_1 : decode cX4_parted 1 = .ok (.getfield 34, 3) := by decide +kernel
theorem dX4_parted_4 : decode cX4_parted 4 = .ok (.iload_n 1, 1) := by decide +kernel
theorem dX4_parted_5 : decode cX4_parted 5 = .ok (.invokevirtual 46, 3) := by decide +kernel
theorem dX4_parted_8 : decode cX4_parted 8 = .ok (.istore 4, 2) := by decide +kernel
theorem dX4_parted_10 : decode cX4_parted 10 = .ok (.aload_n 0, 1) := by decide +kernel
theorem dX4_parted_11 : decode cX4_parted 11 = .ok (.getfield 42, 3) := by decide +kernel
theorem dX4_parted_14 : decode cX4_parted 14 = .ok (.iload_n 1, 1) := by decide +kernel
theorem dX4_parted_15 : decode cX4_parted 15 = .ok (.invokevirtual 52, 3) := by decide +kernel
theorem dX4_parted_18 : decode cX4_parted 18 = .ok (.aload_n 0, 1) := by decide +kernel
theorem dX4_parted_19 : decode cX4_parted 19 = .ok (.getfield 42, 3) := by decide +kernel
theorem dX4_parted_22 : decode cX4_parted 22 = .ok (.iconst 0, 1) := by decide +kernel
theorem dX4_parted_23 : decode cX4_parted 23 = .ok (.iload 4, 2) := by decide +kernel
theorem dX4_parted_25 : decode cX4_parted 25 = .ok (.bipush 11, 2) := by decide +kernel
theorem dX4_parted_27 : decode cX4_parted 27 = .ok (.iconst 1, 1) := by decide +kernel
theorem dX4_parted_28 : decode cX4_parted 28 = .ok (.iconst 0, 1) := by decide +kernel
theorem dX4_parted_29 : decode cX4_parted 29 = .ok (.invokevirtual 58, 3) := by decide +kernel
theorem dX4_parted_32 : decode cX4_parted 32 = .ok (.iconst 0, 1) := by decide +kernel
theorem dX4_parted_33 : decode cX4_parted 33 = .ok (.istore 5, 2) := by decide +kernel
theorem dX4_parted_35 : decode cX4_parted 35 = .ok (.iload 5, 2) := by decide +kernel
theorem dX4_parted_37 : decode cX4_parted 37 = .ok (.bipush 12, 2) := by decide +kernel
theorem dX4_parted_39 : decode cX4_parted 39 = .ok (.if_icmp .ge 62, 3) := by decide +kernel
theorem dX4_parted_42 : decode cX4_parted 42 = .ok (.aload_n 3, 1) := by decide +kernel
theorem dX4_parted_43 : decode cX4_parted 43 = .ok (.iload_n 2, 1) := by decide +kernel
theorem dX4_parted_44 : decode cX4_parted 44 = .ok (.iload 5, 2) := by decide +kernel
theorem dX4_parted_46 : decode cX4_parted 46 = .ok (.invokevirtual 80, 3) := by decide +kernel
theorem dX4_parted_49 : decode cX4_parted 49 = .ok (.istore 6, 2) := by decide +kernel
theorem dX4_parted_51 : decode cX4_parted 51 = .ok (.iconst 0, 1) := by decide +kernel
theorem dX4_parted_52 : decode cX4_parted 52 = .ok (.istore 7, 2) := by decide +kernel
theorem dX4_parted_54 : decode cX4_parted 54 = .ok (.iload 7, 2) := by decide +kernel
theorem dX4_parted_56 : decode cX4_parted 56 = .ok (.sipush 577, 3) := by decide +kernel
theorem dX4_parted_59 : decode cX4_parted 59 = .ok (.if_icmp .ge 36, 3) := by decide +kernel
theorem dX4_parted_62 : decode cX4_parted 62 = .ok (.aload_n 0, 1) := by decide +kernel
theorem dX4_parted_63 : decode cX4_parted 63 = .ok (.getfield 34, 3) := by decide +kernel
theorem dX4_parted_66 : decode cX4_parted 66 = .ok (.iload_n 1, 1) := by decide +kernel
theorem dX4_parted_67 : decode cX4_parted 67 = .ok (.iload 7, 2) := by decide +kernel
theorem dX4_parted_69 : decode cX4_parted 69 = .ok (.iload_n 2, 1) := by decide +kernel
theorem dX4_parted_70 : decode cX4_parted 70 = .ok (.iload 6, 2) := by decide +kernel
theorem dX4_parted_72 : decode cX4_parted 72 = .ok (.invokevirtual 85, 3) := by decide +kernel
theorem dX4_parted_75 : decode cX4_parted 75 = .ok (.ifCond .le 14, 3) := by decide +kernel
theorem dX4_parted_78 : decode cX4_parted 78 = .ok (.aload_n 0, 1) := by decide +kernel
theorem dX4_parted_79 : decode cX4_parted 79 = .ok (.getfield 42, 3) := by decide +kernel
theorem dX4_parted_82 : decode cX4_parted 82 = .ok (.iload 5, 2) := by decide +kernel
theorem dX4_parted_84 : decode cX4_parted 84 = .ok (.iload 7, 2) := by decide +kernel
theorem dX4_parted_86 : decode cX4_parted 86 = .ok (.invokevirtual 66, 3) := by decide +kernel
theorem dX4_parted_89 : decode cX4_parted 89 = .ok (.iinc 7 1, 3) := by decide +kernel
theorem dX4_parted_92 : decode cX4_parted 92 = .ok (.goto (-38), 3) := by decide +kernel
theorem dX4_parted_95 : decode cX4_parted 95 = .ok (.iinc 5 1, 3) := by decide +kernel
theorem dX4_parted_98 : decode cX4_parted 98 = .ok (.goto (-63), 3) := by decide +kernel
theorem dX4_parted_101 : decode cX4_parted 101 = .ok (.aload_n 0, 1) := by decide +kernel
theorem dX4_parted_102 : decode cX4_parted 102 = .ok (.bipush 11, 2) := by decide +kernel
theorem dX4_parted_104 : decode cX4_parted 104 = .ok (.invokevirtual 70, 3) := by decide +kernel
theorem dX4_parted_107 : decode cX4_parted 107 = .ok (.aload_n 0, 1) := by decide +kernel
theorem dX4_parted_108 : decode cX4_parted 108 = .ok (.iconst 0, 1) := by decide +kernel
theorem dX4_parted_109 : decode cX4_parted 109 = .ok (.iload 4, 2) := by decide +kernel
theorem dX4_parted_111 : decode cX4_parted 111 = .ok (.invokevirtual 73, 3) := by decide +kernel
theorem dX4_parted_114 : decode cX4_parted 114 = .ok (.istore 5, 2) := by decide +kernel
theorem dX4_parted_116 : decode cX4_parted 116 = .ok (.iload 5, 2) := by decide +kernel
theorem dX4_parted_118 : decode cX4_parted 118 = .ok (.sipush 1000, 3) := by decide +kernel
theorem dX4_parted_121 : decode cX4_parted 121 = .ok (.if_icmp .lt 7, 3) := by decide +kernel
theorem dX4_parted_124 : decode cX4_parted 124 = .ok (.iconst (-1), 1) := by decide +kernel
theorem dX4_parted_125 : decode cX4_parted 125 = .ok (.goto 5, 3) := by decide +kernel
theorem dX4_parted_128 : decode cX4_parted 128 = .ok (.iload 5, 2) := by decide +kernel
theorem dX4_parted_130 : decode cX4_parted 130 = .ok (.ireturn, 1) := by decide +kernel
def w_X4_parted (K : LK) (ta sb : Nat) (a0 a1 : Int) (X : XT) (Q : Int → XT → Prop) : Prop :=
  w_X3_startOf  a0 X (fun (v1 : Int) => w_X2_take  a0 X (fun (X8 : XT) => w_X2_spread K  0 v1 11 1 0 X8 (fun (X14 : XT) => ∃ (I21 : Int → XT → Prop) (m22 : Int → XT → Nat), I21 0 X14 ∧ ∀ (x19 : Int) (X20 : XT), I21 x19 X20 → R32 x19 ∧ (12 ≤ x19 → w_X4_reckonCosts  11 X20 (fun (X36 : XT) => w_X4_costOf  0 v1 X36 (fun (v41 : Int) => R32 v41 ∧ (v41 < 1000 → Q v41 X36) ∧ (¬ v41 < 1000 → Q (-1) X36)))) ∧ (¬ 12 ≤ x19 → w_X8_spotOf ta sb a1 x19 X20 (fun (v49 : Int) => ∃ (I57 : Int → XT → Prop) (m58 : Int → XT → Nat), I57 0 X20 ∧ ∀ (x55 : Int) (X56 : XT), I57 x55 X56 → R32 x55 ∧ (577 ≤ x55 → I21 (x19 + 1) X56 ∧ m22 (x19 + 1) X56 < m22 x19 X20) ∧ (¬ 577 ≤ x55 → w_X3_commonFields  a0 x55 a1 v49 X56 (fun (v71 : Int) => R32 v71 ∧ (v71 ≤ 0 → I57 (x55 + 1) X56 ∧ m58 (x55 + 1) X56 < m58 x55 X56) ∧ (¬ v71 ≤ 0 → w_X2_strike  x19 x55 X56 (fun (X80 : XT) => I57 (x55 + 1) X80 ∧ m58 (x55 + 1) X80 < m58 x55 X56)))))))))
set_option maxRecDepth 20000 in
theorem so_X4_parted_49 {n : Nat} {h : Nat → sE} {X : XT} {K : LK} {hk : Nat → sE} (hK : LKok K n hk) {a0 a1 : Int} {Q : Int → XT → Prop} (hn : 115 ≤ n) (hp : Pic X h) (hf9 : Fr hk h) (w : w_X4_parted K 50 51 a0 a1 X Q) : Sp m_X4_parted 6 0 0 [.ref 60, .int (iI a0), .int (iI a1), .ref 49] n h (pIw n h Q) := by
  unfold w_X4_parted at w
  refine Sp.ofV (by decide +kernel) (Nat.le_of_ble_eq_true rfl) ?_
  have hf : Fr h h := fun _ _ => rfl
  refine v_aload_n dX4_parted_0 rfl ?_
  refine v_get dX4_parted_1 fl_X4_34 ((hp 60 (by decide)).trans (ent_60 _)) rfl (s_lt hn rfl) ?_
  refine v_iload_n dX4_parted_4 rfl ?_
  refine v_callVIr dX4_parted_5 ml_X4_46 (so_X3_startOf hn hp  w) ((hp 1 (by decide)).trans (ent_1 _)) rfl (s_lt hn rfl) rfl rfl (Nat.le_of_ble_eq_true rfl) (Nat.le_of_ble_eq_true rfl) (Nat.zero_le _) (Nat.zero_le _) (fun v1 w => ?_)
  refine v_istore dX4_parted_8 (Nat.le_of_ble_eq_true rfl) ?_
  refine v_aload_n dX4_parted_10 rfl ?_
  refine v_get dX4_parted_11 fl_X4_42 ((hp 60 (by decide)).trans (ent_60 _)) rfl (s_lt hn rfl) ?_
  refine v_iload_n dX4_parted_14 rfl ?_
  refine v_callVVw dX4_parted_15 ml_X4_52 (so_X2_take hn hp  w) ((hp 58 (by decide)).trans (ent_58 _)) rfl (s_lt hn rfl) rfl rfl (Nat.le_of_ble_eq_true rfl) (Nat.le_of_ble_eq_true rfl) (Nat.zero_le _) (Nat.zero_le _) (fun X8 h9 hp11 hf10 w => ?_)
  have hf12 := Fr.trans hf hf10
  refine v_aload_n dX4_parted_18 rfl ?_
  refine v_get dX4_parted_19 fl_X4_42 ((hp11 60 (by decide)).trans (ent_60 _)) rfl (s_lt hn rfl) ?_
  refine v_iconstI dX4_parted_22 ?_
  refine v_iload dX4_parted_23 rfl ?_
  refine v_bipushI dX4_parted_25 rfl ?_
  refine v_iconstI dX4_parted_27 ?_
  refine v_iconstI dX4_parted_28 ?_
  refine v_callVVw dX4_parted_29 ml_X4_58 (so_X2_spread hK hn hp11 (Fr.trans hf9 hf12) w) ((hp11 58 (by decide)).trans (ent_58 _)) rfl (s_lt hn rfl) rfl rfl (Nat.le_of_ble_eq_true rfl) (Nat.le_of_ble_eq_true rfl) (Nat.zero_le _) (Nat.zero_le _) (fun X14 h15 hp17 hf16 w => ?_)
  have hf18 := Fr.trans hf12 hf16
  refine v_iconstI dX4_parted_32 ?_
  refine v_istore dX4_parted_33 (Nat.le_of_ble_eq_true rfl) ?_
  refine v_pick [2, 3, 4, 5, 1, 0] rfl ?_
  obtain ⟨I21, m22, wi25, wl24⟩ := w
  have hL26 : ∀ (N29 : Nat) (x19 : Int) (X20 : XT) (h30 : Nat → sE), m22 x19 X20 < N29 → I21 x19 X20 → Pic X20 h30 → Fr h h30 → V (m_X4_parted, 6, 0, 0, n, pIw n h Q, s_G0) 0 0 n h30 35 [(0, .ref 60), (1, .int (iI a0)), (2, .int (iI a1)), (3, .ref 49), (4, .int (iI v1)), (5, .int (iI x19))] [] := by
    intro N29
    induction N29 with
    | zero => intro x19 X20 h30 hm27; exact absurd hm27 (Nat.not_lt_zero _)
    | succ N29 ih23 =>
      intro x19 X20 h30 hm27 hI28 hp31 hf32
      have w := wl24 x19 X20 hI28
      refine v_iload dX4_parted_35 rfl ?_
      refine v_bipushI dX4_parted_37 rfl ?_
      obtain ⟨q33, w⟩ := w
      refine v_icmp_geI (tgt := 101) dX4_parted_39 (by decide) q33.1 q33.2 (by decide) (by decide) (fun c34 => ?_) (fun c34 => ?_)
      · replace w := w.1 c34
        refine v_aload_n dX4_parted_101 rfl ?_
        refine v_bipushI dX4_parted_102 rfl ?_
        refine v_callVVw dX4_parted_104 ml_X4_70 (so_X4_reckonCosts hn hp31  w) ((hp31 60 (by decide)).trans (ent_60 _)) rfl (s_lt hn rfl) rfl rfl (Nat.le_of_ble_eq_true rfl) (Nat.le_of_ble_eq_true rfl) (Nat.zero_le _) (Nat.zero_le _) (fun X36 h37 hp39 hf38 w => ?_)
        have hf40 := Fr.trans hf32 hf38
        refine v_aload_n dX4_parted_107 rfl ?_
        refine v_iconstI dX4_parted_108 ?_
        refine v_iload dX4_parted_109 rfl ?_
        refine v_callVIr dX4_parted_111 ml_X4_73 (so_X4_costOf hn hp39  w) ((hp39 60 (by decide)).trans (ent_60 _)) rfl (s_lt hn rfl) rfl rfl (Nat.le_of_ble_eq_true rfl) (Nat.le_of_ble_eq_true rfl) (Nat.zero_le _) (Nat.zero_le _) (fun v41 w => ?_)
        refine v_istore dX4_parted_114 (Nat.le_of_ble_eq_true rfl) ?_
        refine v_iload dX4_parted_116 rfl ?_
        refine v_sipushI dX4_parted_118 rfl ?_
        obtain ⟨q47, w⟩ := w
        refine v_icmp_ltI (tgt := 128) dX4_parted_121 (by decide) q47.1 q47.2 (by decide) (by decide) (fun c48 => ?_) (fun c48 => ?_)
        · replace w := w.1 c48
          refine v_iload dX4_parted_128 rfl ?_
          exact v_iret dX4_parted_130 rfl (Nat.zero_le _) (Nat.zero_le _) ⟨rfl, hf40, _, _, rfl, hp39, w⟩
        · replace w := w.2 c48
          refine v_iconstI dX4_parted_124 ?_
          refine v_goto (tgt := 130) dX4_parted_125 (by decide) ?_
          exact v_iret dX4_parted_130 rfl (Nat.zero_le _) (Nat.zero_le _) ⟨rfl, hf40, _, _, rfl, hp39, w⟩
      · replace w := w.2 c34
        refine v_aload_n dX4_parted_42 rfl ?_
        refine v_iload_n dX4_parted_43 rfl ?_
        refine v_iload dX4_parted_44 rfl ?_
        refine v_callVIr dX4_parted_46 ml_X4_80 (so_X8_spotOf_49 hn hp31  w) ((hp31 49 (by decide)).trans (ent_49 _)) rfl (s_lt hn rfl) rfl rfl (Nat.le_of_ble_eq_true rfl) (Nat.le_of_ble_eq_true rfl) (Nat.zero_le _) (Nat.zero_le _) (fun v49 w => ?_)
        refine v_istore dX4_parted_49 (Nat.le_of_ble_eq_true rfl) ?_
        refine v_iconstI dX4_parted_51 ?_
        refine v_istore dX4_parted_52 (Nat.le_of_ble_eq_true rfl) ?_
        refine v_pick [2, 3, 4, 5, 6, 7, 1, 0] rfl ?_
        obtain ⟨I57, m58, wi61, wl60⟩ := w
        have hL62 : ∀ (N65 : Nat) (x55 : Int) (X56 : XT) (h66 : Nat → sE), m58 x55 X56 < N65 → I57 x55 X56 → Pic X56 h66 → Fr h h66 → V (m_X4_parted, 6, 0, 0, n, pIw n h Q, s_G0) 0 0 n h66 54 [(0, .ref 60), (1, .int (iI a0)), (2, .int (iI a1)), (3, .ref 49), (4, .int (iI v1)), (5, .int (iI x19)), (6, .int (iI v49)), (7, .int (iI x55))] [] := by
          intro N65
          induction N65 with
          | zero => intro x55 X56 h66 hm63; exact absurd hm63 (Nat.not_lt_zero _)
          | succ N65 ih59 =>
            intro x55 X56 h66 hm63 hI64 hp67 hf68
            have w := wl60 x55 X56 hI64
            refine v_iload dX4_parted_54 rfl ?_
            refine v_sipushI dX4_parted_56 rfl ?_
            obtain ⟨q69, w⟩ := w
            refine v_icmp_geI (tgt := 95) dX4_parted_59 (by decide) q69.1 q69.2 (by decide) (by decide) (fun c70 => ?_) (fun c70 => ?_)
            · replace w := w.1 c70
              refine v_iincI dX4_parted_95 rfl (Nat.le_of_ble_eq_true rfl) ?_
              refine v_goto (tgt := 35) dX4_parted_98 (by decide) ?_
              refine v_pick [1, 2, 3, 4, 5, 0] rfl ?_
              exact ih23 _ _ _ (Nat.lt_of_lt_of_le w.2 (Nat.le_of_lt_succ hm27)) w.1 hp67 hf68
            · replace w := w.2 c70
              refine v_aload_n dX4_parted_62 rfl ?_
              refine v_get dX4_parted_63 fl_X4_34 ((hp67 60 (by decide)).trans (ent_60 _)) rfl (s_lt hn rfl) ?_
              refine v_iload_n dX4_parted_66 rfl ?_
              refine v_iload dX4_parted_67 rfl ?_
              refine v_iload_n dX4_parted_69 rfl ?_
              refine v_iload dX4_parted_70 rfl ?_
              refine v_callVIr dX4_parted_72 ml_X4_85 (so_X3_commonFields hn hp67  w) ((hp67 1 (by decide)).trans (ent_1 _)) rfl (s_lt hn rfl) rfl rfl (Nat.le_of_ble_eq_true rfl) (Nat.le_of_ble_eq_true rfl) (Nat.zero_le _) (Nat.zero_le _) (fun v71 w => ?_)
              obtain ⟨q77, w⟩ := w
              refine v_if_leI (tgt := 89) dX4_parted_75 (by decide) q77.1 q77.2 (fun c78 => ?_) (fun c78 => ?_)
              · replace w := w.1 c78
                refine v_iincI dX4_parted_89 rfl (Nat.le_of_ble_eq_true rfl) ?_
                refine v_goto (tgt := 54) dX4_parted_92 (by decide) ?_
                refine v_pick [1, 2, 3, 4, 5, 6, 7, 0] rfl ?_
                exact ih59 _ _ _ (Nat.lt_of_lt_of_le w.2 (Nat.le_of_lt_succ hm63)) w.1 hp67 hf68
              · replace w := w.2 c78
                refine v_aload_n dX4_parted_78 rfl ?_
                refine v_get dX4_parted_79 fl_X4_42 ((hp67 60 (by decide)).trans (ent_60 _)) rfl (s_lt hn rfl) ?_
                refine v_iload dX4_parted_82 rfl ?_
                refine v_iload dX4_parted_84 rfl ?_
                refine v_callVVw dX4_parted_86 ml_X4_66 (so_X2_strike hn hp67  w) ((hp67 58 (by decide)).trans (ent_58 _)) rfl (s_lt hn rfl) rfl rfl (Nat.le_of_ble_eq_true rfl) (Nat.le_of_ble_eq_true rfl) (Nat.zero_le _) (Nat.zero_le _) (fun X80 h81 hp83 hf82 w => ?_)
                have hf84 := Fr.trans hf68 hf82
                refine v_iincI dX4_parted_89 rfl (Nat.le_of_ble_eq_true rfl) ?_
                refine v_goto (tgt := 54) dX4_parted_92 (by decide) ?_
                refine v_pick [1, 2, 3, 4, 5, 6, 7, 0] rfl ?_
                exact ih59 _ _ _ (Nat.lt_of_lt_of_le w.2 (Nat.le_of_lt_succ hm63)) w.1 hp83 hf84
        exact hL62 _ _ _ _ (Nat.lt_succ_self _) wi61 hp31 hf32
  exact hL26 _ _ _ _ (Nat.lt_succ_self _) wi25 hp17 hf18
theorem dX11_part_0 : decode cX11_part 0 = .ok (.aload_n 0, 1) := by decide +kernel
theorem dX11_part_1 : decode cX11_part 1 = .ok (.getfield 12, 3) := by decide +kernel
theorem dX11_part_4 : decode cX11_part 4 = .ok (.iload_n 1, 1) := by decide +kernel
theorem dX11_part_5 : decode cX11_part 5 = .ok (.invokevirtual 257, 3) := by decide +kernel
theorem dX11_part_8 : decode cX11_part 8 = .ok (.ifCond .eq 19, 3) := by decide +kernel
theorem dX11_part_11 : decode cX11_part 11 = .ok (.aload_n 0, 1) := by decide +kernel
theorem dX11_part_12 : decode cX11_part 12 = .ok (.getfield 12, 3) := by decide +kernel
theorem dX11_part_15 : decode cX11_part 15 = .ok (.iload_n 2, 1) := by decide +kernel
theorem dX11_part_16 : decode cX11_part 16 = .ok (.invokevirtual 257, 3) := by decide +kernel
theorem dX11_part_19 : decode cX11_part 19 = .ok (.ifCond .eq 8, 3) := by decide +kernel
theorem dX11_part_22 : decode cX11_part 22 = .ok (.iload_n 1, 1) := by decide +kernel
theorem dX11_part_23 : decode cX11_part 23 = .ok (.iload_n 2, 1) := by decide +kernel
theorem dX11_part_24 : decode cX11_part 24 = .ok (.if_icmp .ne 5, 3) := by decide +kernel
theorem dX11_part_27 : decode cX11_part 27 = .ok (.iconst (-1), 1) := by decide +kernel
theorem dX11_part_28 : decode cX11_part 28 = .ok (.ireturn, 1) := by decide +kernel
theorem dX11_part_29 : decode cX11_part 29 = .ok (.aload_n 0, 1) := by decide +kernel
theorem dX11_part_30 : decode cX11_part 30 = .ok (.getfield 52, 3) := by decide +kernel
theorem dX11_part_33 : decode cX11_part 33 = .ok (.invokevirtual 245, 3) := by decide +kernel
theorem dX11_part_36 : decode cX11_part 36 = .ok (.aload_n 0, 1) := by decide +kernel
theorem dX11_part_37 : decode cX11_part 37 = .ok (.getfield 75, 3) := by decide +kernel
theorem dX11_part_40 : decode cX11_part 40 = .ok (.iload_n 1, 1) := by decide +kernel
theorem dX11_part_41 : decode cX11_part 41 = .ok (.iload_n 2, 1) := by decide +kernel
theorem dX11_part_42 : decode cX11_part 42 = .ok (.aload_n 0, 1) := by decide +kernel
theorem dX11_part_43 : decode cX11_part 43 = .ok (.getfield 52, 3) := by decide +kernel
theorem dX11_part_46 : decode cX11_part 46 = .ok (.invokevirtual 306, 3) := by decide +kernel
theorem dX11_part_49 : decode cX11_part 49 = .ok (.ireturn, 1) := by decide +kernel
def w_X11_part (K : LK) (a0 a1 : Int) (X : XT) (Q : Int → XT → Prop) : Prop :=
  R32 a0 ∧ R32 (X 1 9) ∧ (¬ (0 ≤ a0 ∧ a0 < X 1 9) → Q (-1) X) ∧ ((0 ≤ a0 ∧ a0 < X 1 9) → R32 a1 ∧ (¬ (0 ≤ a1 ∧ a1 < X 1 9) → Q (-1) X) ∧ ((0 ≤ a1 ∧ a1 < X 1 9) → (¬ a0 = a1 → w_X8_look K 50 51  X (fun (X8 : XT) => w_X4_parted K 50 51 a0 a1 X8 (fun (v13 : Int) (X14 : XT) => Q v13 X14))) ∧ (a0 = a1 → Q (-1) X)))
set_option maxRecDepth 20000 in
theorem so_X11_part {n : Nat} {h : Nat → sE} {X : XT} {K : LK} {hk : Nat → sE} (hK : LKok K n hk) {a0 a1 : Int} {Q : Int → XT → Prop} (hn : 115 ≤ n) (hp : Pic X h) (hf9 : Fr hk h) (w : w_X11_part K  a0 a1 X Q) : Sp m_X11_part 7 0 0 [.ref 0, .int (iI a0), .int (iI a1)] n h (pIw n h Q) := by
  unfold w_X11_part at w
  refine Sp.ofV (by decide +kernel) (Nat.le_of_ble_eq_true rfl) ?_
  have hf : Fr h h := fun _ _ => rfl
  refine v_aload_n dX11_part_0 rfl ?_
  refine v_get dX11_part_1 fl_X11_12 ((hp 0 (by decide)).trans (ent_0 _)) rfl (s_lt hn rfl) ?_
  refine v_iload_n dX11_part_4 rfl ?_
  obtain ⟨q1, q2, w⟩ := w
  refine v_callVp dX11_part_5 ml_X11_257 (sq_X3_isCloud (a := a0) (g1 := X 1) hn (hp 1 (by decide)) q1 q2) ((hp 1 (by decide)).trans (ent_1 _)) rfl (s_lt hn rfl) rfl rfl (Nat.le_of_ble_eq_true rfl) (Nat.le_of_ble_eq_true rfl) (Nat.zero_le _) (Nat.zero_le _) ?_
  refine v_ifeqB (tgt := 27) dX11_part_8 (by decide) (fun c3 => ?_) (fun c3 => ?_)
  · replace w := w.1 c3
    refine v_iconstI dX11_part_27 ?_
    exact v_iret dX11_part_28 rfl (Nat.zero_le _) (Nat.zero_le _) ⟨rfl, hf, _, _, rfl, hp, w⟩
  · replace w := w.2 c3
    refine v_aload_n dX11_part_11 rfl ?_
    refine v_get dX11_part_12 fl_X11_12 ((hp 0 (by decide)).trans (ent_0 _)) rfl (s_lt hn rfl) ?_
    refine v_iload_n dX11_part_15 rfl ?_
    obtain ⟨q4, w⟩ := w
    refine v_callVp dX11_part_16 ml_X11_257 (sq_X3_isCloud (a := a1) (g1 := X 1) hn (hp 1 (by decide)) q4 q2) ((hp 1 (by decide)).trans (ent_1 _)) rfl (s_lt hn rfl) rfl rfl (Nat.le_of_ble_eq_true rfl) (Nat.le_of_ble_eq_true rfl) (Nat.zero_le _) (Nat.zero_le _) ?_
    refine v_ifeqB (tgt := 27) dX11_part_19 (by decide) (fun c5 => ?_) (fun c5 => ?_)
    · replace w := w.1 c5
      refine v_iconstI dX11_part_27 ?_
      exact v_iret dX11_part_28 rfl (Nat.zero_le _) (Nat.zero_le _) ⟨rfl, hf, _, _, rfl, hp, w⟩
    · replace w := w.2 c5
      refine v_iload_n dX11_part_22 rfl ?_
      refine v_iload_n dX11_part_23 rfl ?_
      refine v_icmp_neI (tgt := 29) dX11_part_24 (by decide) q1.1 q1.2 q4.1 q4.2 (fun c6 => ?_) (fun c6 => ?_)
      · replace w := w.1 c6
        refine v_aload_n dX11_part_29 rfl ?_
        refine v_get dX11_part_30 fl_X11_52 ((hp 0 (by decide)).trans (ent_0 _)) rfl (s_lt hn rfl) ?_
        refine v_callVVw dX11_part_33 ml_X11_245 (so_X8_look_49 hK hn hp (Fr.trans hf9 hf) w) ((hp 49 (by decide)).trans (ent_49 _)) rfl (s_lt hn rfl) rfl rfl (Nat.le_of_ble_eq_true rfl) (Nat.le_of_ble_eq_true rfl) (Nat.zero_le _) (Nat.zero_le _) (fun X8 h9 hp11 hf10 w => ?_)
        have hf12 := Fr.trans hf hf10
        refine v_aload_n dX11_part_36 rfl ?_
        refine v_get dX11_part_37 fl_X11_75 ((hp11 0 (by decide)).trans (ent_0 _)) rfl (s_lt hn rfl) ?_
        refine v_iload_n dX11_part_40 rfl ?_
        refine v_iload_n dX11_part_41 rfl ?_
        refine v_aload_n dX11_part_42 rfl ?_
        refine v_get dX11_part_43 fl_X11_52 ((hp11 0 (by decide)).trans (ent_0 _)) rfl (s_lt hn rfl) ?_
        refine v_callVIw dX11_part_46 ml_X11_306 (so_X4_parted_49 hK hn hp11 (Fr.trans hf9 hf12) w) ((hp11 60 (by decide)).trans (ent_60 _)) rfl (s_lt hn rfl) rfl rfl (Nat.le_of_ble_eq_true rfl) (Nat.le_of_ble_eq_true rfl) (Nat.zero_le _) (Nat.zero_le _) (fun v13 X14 h15 hp17 hf16 w => ?_)
        have hf18 := Fr.trans hf12 hf16
        exact v_iret dX11_part_49 rfl (Nat.zero_le _) (Nat.zero_le _) ⟨rfl, hf18, _, _, rfl, hp17, w⟩
      · replace w := w.2 c6
        refine v_iconstI dX11_part_27 ?_
        exact v_iret dX11_part_28 rfl (Nat.zero_le _) (Nat.zero_le _) ⟨rfl, hf, _, _, rfl, hp, w⟩
theorem dX1_setChance_0 : decode cX1_setChance 0 = .ok (.iload_n 1, 1) := by decide +kernel
theorem dX1_setChance_1 : decode cX1_setChance 1 = .ok (.iconst 1, 1) := by decide +kernel
theorem dX1_setChance_2 : decode cX1_setChance 2 = .ok (.iand, 1) := by decide +kernel
theorem dX1_setChance_3 : decode cX1_setChance 3 = .ok (.sipush 577, 3) := by decide +kernel
theorem dX1_setChance_6 : decode cX1_setChance 6 = .ok (.imul, 1) := by decide +kernel
theorem dX1_setChance_7 : decode cX1_setChance 7 = .ok (.iload_n 2, 1) := by decide +kernel
theorem dX1_setChance_8 : decode cX1_setChance 8 = .ok (.iadd, 1) := by decide +kernel
theorem dX1_setChance_9 : decode cX1_setChance 9 = .ok (.istore 5, 2) := by decide +kernel
theorem dX1_setChance_11 : decode cX1_setChance 11 = .ok (.iload 5, 2) := by decide +kernel
theorem dX1_setChance_13 : decode cX1_setChance 13 = .ok (.ifCond .lt 21, 3) := by decide +kernel
theorem dX1_setChance_16 : decode cX1_setChance 16 = .ok (.iload 5, 2) := by decide +kernel
theorem dX1_setChance_18 : decode cX1_setChance 18 = .ok (.aload_n 0, 1) := by decide +kernel
theorem dX1_setChance_19 : decode cX1_setChance 19 = .ok (.getfield 9, 3) := by decide +kernel
theorem dX1_setChance_22 : decode cX1_setChance 22 = .ok (.arraylength, 1) := by decide +kernel
theorem dX1_setChance_23 : decode cX1_setChance 23 = .ok (.if_icmp .ge 11, 3) := by decide +kernel
theorem dX1_setChance_26 : decode cX1_setChance 26 = .ok (.aload_n 0, 1) := by decide +kernel
theorem dX1_setChance_27 : decode cX1_setChance 27 = .ok (.getfield 9, 3) := by decide +kernel
theorem dX1_setChance_30 : decode cX1_setChance 30 = .ok (.iload 5, 2) := by decide +kernel
theorem dX1_setChance_32 : decode cX1_setChance 32 = .ok (.lload_n 3, 1) := by decide +kernel
theorem dX1_setChance_33 : decode cX1_setChance 33 = .ok (.lastore, 1) := by decide +kernel
theorem dX1_setChance_34 : decode cX1_setChance 34 = .ok (.return_, 1) := by decide +kernel
def w_X1_setChance (a0 a1 a2 : Int) (X : XT) (Q : XT → Prop) : Prop :=
  R32 (((oAnd a0 1) * 577) + a1) ∧ ((((oAnd a0 1) * 577) + a1) < 0 → Q X) ∧ (¬ (((oAnd a0 1) * 577) + a1) < 0 → (1154 ≤ (((oAnd a0 1) * 577) + a1) → Q X) ∧ (¬ 1154 ≤ (((oAnd a0 1) * 577) + a1) → (0 ≤ (((oAnd a0 1) * 577) + a1) ∧ (((oAnd a0 1) * 577) + a1) < 1154) ∧ Q (x_st X 69 (((oAnd a0 1) * 577) + a1) a2)))
set_option maxRecDepth 20000 in
theorem so_X1_setChance {n : Nat} {h : Nat → sE} {X : XT} {a0 a1 a2 : Int} {Q : XT → Prop} (hn : 115 ≤ n) (hp : Pic X h) (w : w_X1_setChance  a0 a1 a2 X Q) : Sp m_X1_setChance 0 0 0 [.ref 68, .int (iI a0), .int (iI a1), .long (jJ a2)] n h (pVw n h Q) := by
  unfold w_X1_setChance at w
  refine Sp.ofV (by decide +kernel) (Nat.le_of_ble_eq_true rfl) ?_
  have hf : Fr h h := fun _ _ => rfl
  refine v_iload_n dX1_setChance_0 rfl ?_
  refine v_iconstI dX1_setChance_1 ?_
  refine v_iandI dX1_setChance_2 ?_
  refine v_sipushI dX1_setChance_3 rfl ?_
  refine v_imulI dX1_setChance_6 ?_
  refine v_iload_n dX1_setChance_7 rfl ?_
  refine v_iaddI dX1_setChance_8 ?_
  refine v_istore dX1_setChance_9 (Nat.le_of_ble_eq_true rfl) ?_
  refine v_iload dX1_setChance_11 rfl ?_
  obtain ⟨q1, w⟩ := w
  refine v_if_ltI (tgt := 34) dX1_setChance_13 (by decide) q1.1 q1.2 (fun c2 => ?_) (fun c2 => ?_)
  · replace w := w.1 c2
    exact v_vret dX1_setChance_34 rfl (Nat.zero_le _) (Nat.zero_le _) ⟨rfl, hf, _, rfl, hp, w⟩
  · replace w := w.2 c2
    refine v_iload dX1_setChance_16 rfl ?_
    refine v_aload_n dX1_setChance_18 rfl ?_
    refine v_get dX1_setChance_19 fl_X1_9 ((hp 68 (by decide)).trans (ent_68 _)) rfl (s_lt hn rfl) ?_
    refine v_alen_lI dX1_setChance_22 ((hp 69 (by decide)).trans (ent_69 _)) (s_lt hn rfl) ?_
    refine v_icmp_geI (tgt := 34) dX1_setChance_23 (by decide) q1.1 q1.2 (by decide) (by decide) (fun c3 => ?_) (fun c3 => ?_)
    · replace w := w.1 c3
      exact v_vret dX1_setChance_34 rfl (Nat.zero_le _) (Nat.zero_le _) ⟨rfl, hf, _, rfl, hp, w⟩
    · replace w := w.2 c3
      refine v_aload_n dX1_setChance_26 rfl ?_
      refine v_get dX1_setChance_27 fl_X1_9 ((hp 68 (by decide)).trans (ent_68 _)) rfl (s_lt hn rfl) ?_
      refine v_iload dX1_setChance_30 rfl ?_
      refine v_lload_n dX1_setChance_32 rfl ?_
      obtain ⟨q4, w⟩ := w
      refine v_lastI dX1_setChance_33 ((hp 69 (by decide)).trans (ent_69 _)) (s_lt hn rfl) q4.1 q4.2 (ix_le q4.2 (by decide)) (fun h5 E6 F7 => ?_)
      have hp8 := pic_st hp (show h5 69 = ent 69 (uI _ (((oAnd a0 1) * 577) + a1) a2) from E6) F7
      have hf9 := Fr.up (c := 69) hf F7 rfl
      exact v_vret dX1_setChance_34 rfl (Nat.zero_le _) (Nat.zero_le _) ⟨rfl, hf9, _, rfl, hp8, w⟩
theorem dX1_chanceOf_0 : decode cX1_chanceOf 0 = .ok (.iload_n 1, 1) := by decide +kernel
theorem dX1_chanceOf_1 : decode cX1_chanceOf 1 = .ok (.iconst 1, 1) := by decide +kernel
theorem dX1_chanceOf_2 : decode cX1_chanceOf 2 = .ok (.iand, 1) := by decide +kernel
theorem dX1_chanceOf_3 : decode cX1_chanceOf 3 = .ok (.sipush 577, 3) := by decide +kernel
theorem dX1_chanceOf_6 : decode cX1_chanceOf 6 = .ok (.imul, 1) := by decide +kernel
theorem dX1_chanceOf_7 : decode cX1_chanceOf 7 = .ok (.iload_n 2, 1) := by decide +kernel
theorem dX1_chanceOf_8 : decode cX1_chanceOf 8 = .ok (.iadd, 1) := by decide +kernel
theorem dX1_chanceOf_9 : decode cX1_chanceOf 9 = .ok (.istore_n 3, 1) := by decide +kernel
theorem dX1_chanceOf_10 : decode cX1_chanceOf 10 = .ok (.iload_n 3, 1) := by decide +kernel
theorem dX1_chanceOf_11 : decode cX1_chanceOf 11 = .ok (.ifCond .lt 21, 3) := by decide +kernel
theorem dX1_chanceOf_14 : decode cX1_chanceOf 14 = .ok (.iload_n 3, 1) := by decide +kernel
theorem dX1_chanceOf_15 : decode cX1_chanceOf 15 = .ok (.aload_n 0, 1) := by decide +kernel
theorem dX1_chanceOf_16 : decode cX1_chanceOf 16 = .ok (.getfield 9, 3) := by decide +kernel
theorem dX1_chanceOf_19 : decode cX1_chanceOf 19 = .ok (.arraylength, 1) := by decide +kernel
theorem dX1_chanceOf_20 : decode cX1_chanceOf 20 = .ok (.if_icmp .ge 12, 3) := by decide +kernel
theorem dX1_chanceOf_23 : decode cX1_chanceOf 23 = .ok (.aload_n 0, 1) := by decide +kernel
theorem dX1_chanceOf_24 : decode cX1_chanceOf 24 = .ok (.getfield 9, 3) := by decide +kernel
theorem dX1_chanceOf_27 : decode cX1_chanceOf 27 = .ok (.iload_n 3, 1) := by decide +kernel
theorem dX1_chanceOf_28 : decode cX1_chanceOf 28 = .ok (.laload, 1) := by decide +kernel
theorem dX1_chanceOf_29 : decode cX1_chanceOf 29 = .ok (.goto 4, 3) := by decide +kernel
theorem dX1_chanceOf_32 : decode cX1_chanceOf 32 = .ok (.lconst 0, 1) := by decide +kernel
theorem dX1_chanceOf_33 : decode cX1_chanceOf 33 = .ok (.lreturn, 1) := by decide +kernel
def w_X1_chanceOf (a0 a1 : Int) (X : XT) (Q : Int → Prop) : Prop :=
  R32 (((oAnd a0 1) * 577) + a1) ∧ ((((oAnd a0 1) * 577) + a1) < 0 → Q 0) ∧ (¬ (((oAnd a0 1) * 577) + a1) < 0 → (1154 ≤ (((oAnd a0 1) * 577) + a1) → Q 0) ∧ (¬ 1154 ≤ (((oAnd a0 1) * 577) + a1) → (0 ≤ (((oAnd a0 1) * 577) + a1) ∧ (((oAnd a0 1) * 577) + a1) < 1154) ∧ Q (X 69 (((oAnd a0 1) * 577) + a1))))
set_option maxRecDepth 20000 in
theorem so_X1_chanceOf {n : Nat} {h : Nat → sE} {X : XT} {a0 a1 : Int} {Q : Int → Prop} (hn : 115 ≤ n) (hp : Pic X h) (w : w_X1_chanceOf  a0 a1 X Q) : Sp m_X1_chanceOf 0 0 0 [.ref 68, .int (iI a0), .int (iI a1)] n h (pLr n h Q) := by
  unfold w_X1_chanceOf at w
  refine Sp.ofV (by decide +kernel) (Nat.le_of_ble_eq_true rfl) ?_
  have hf : Fr h h := fun _ _ => rfl
  refine v_iload_n dX1_chanceOf_0 rfl ?_
  refine v_iconstI dX1_chanceOf_1 ?_
  refine v_iandI dX1_chanceOf_2 ?_
  refine v_sipushI dX1_chanceOf_3 rfl ?_
  refine v_imulI dX1_chanceOf_6 ?_
  refine v_iload_n dX1_chanceOf_7 rfl ?_
  refine v_iaddI dX1_chanceOf_8 ?_
  refine v_istore_n dX1_chanceOf_9 (Nat.le_of_ble_eq_true rfl) ?_
  refine v_iload_n dX1_chanceOf_10 rfl ?_
  obtain ⟨q1, w⟩ := w
  refine v_if_ltI (tgt := 32) dX1_chanceOf_11 (by decide) q1.1 q1.2 (fun c2 => ?_) (fun c2 => ?_)
  · replace w := w.1 c2
    refine v_lconstI (w := 0) dX1_chanceOf_32 rfl ?_
    exact v_lret dX1_chanceOf_33 rfl (Nat.zero_le _) (Nat.zero_le _) ⟨rfl, rfl, _, rfl, w⟩
  · replace w := w.2 c2
    refine v_iload_n dX1_chanceOf_14 rfl ?_
    refine v_aload_n dX1_chanceOf_15 rfl ?_
    refine v_get dX1_chanceOf_16 fl_X1_9 ((hp 68 (by decide)).trans (ent_68 _)) rfl (s_lt hn rfl) ?_
    refine v_alen_lI dX1_chanceOf_19 ((hp 69 (by decide)).trans (ent_69 _)) (s_lt hn rfl) ?_
    refine v_icmp_geI (tgt := 32) dX1_chanceOf_20 (by decide) q1.1 q1.2 (by decide) (by decide) (fun c3 => ?_) (fun c3 => ?_)
    · replace w := w.1 c3
      refine v_lconstI (w := 0) dX1_chanceOf_32 rfl ?_
      exact v_lret dX1_chanceOf_33 rfl (Nat.zero_le _) (Nat.zero_le _) ⟨rfl, rfl, _, rfl, w⟩
    · replace w := w.2 c3
      refine v_aload_n dX1_chanceOf_23 rfl ?_
      refine v_get dX1_chanceOf_24 fl_X1_9 ((hp 68 (by decide)).trans (ent_68 _)) rfl (s_lt hn rfl) ?_
      refine v_iload_n dX1_chanceOf_27 rfl ?_
      obtain ⟨q4, w⟩ := w
      refine v_laldI dX1_chanceOf_28 ((hp 69 (by decide)).trans (ent_69 _)) (s_lt hn rfl) q4.1 q4.2 (ix_le q4.2 (by decide)) ?_
      refine v_goto (tgt := 33) dX1_chanceOf_29 (by decide) ?_
      exact v_lret dX1_chanceOf_33 rfl (Nat.zero_le _) (Nat.zero_le _) ⟨rfl, rfl, _, rfl, w⟩
theorem dX1_drift_0 : decode cX1_drift 0 = .ok (.iconst 0, 1) := by decide +kernel
theorem dX1_drift_1 : decode cX1_drift 1 = .ok (.istore_n 3, 1) := by decide +kernel
theorem dX1_drift_2 : decode cX1_drift 2 = .ok (.iload_n 3, 1) := by decide +kernel
theorem dX1_drift_3 : decode cX1_drift 3 = .ok (.sipush 577, 3) := by decide +kernel
theorem dX1_drift_6 : decode cX1_drift 6 = .ok (.if_icmp .ge 18, 3) := by decide +kernel
theorem dX1_drift_9 : decode cX1_drift 9 = .ok (.aload_n 0, 1) := by decide +kernel
theorem dX1_drift_10 : decode cX1_drift 10 = .ok (.iload_n 1, 1) := by decide +kernel
theorem dX1_drift_11 : decode cX1_drift 11 = .ok (.iconst 1, 1) := by decide +kernel
theorem dX1_drift_12 : decode cX1_drift 12 = .ok (.iadd, 1) := by decide +kernel
theorem dX1_drift_13 : decode cX1_drift 13 = .ok (.iload_n 3, 1) := by decide +kernel
theorem dX1_drift_14 : decode cX1_drift 14 = .ok (.lconst 0, 1) := by decide +kernel
theorem dX1_drift_15 : decode cX1_drift 15 = .ok (.invokevirtual 52, 3) := by decide +kernel
theorem dX1_drift_18 : decode cX1_drift 18 = .ok (.iinc 3 1, 3) := by decide +kernel
theorem dX1_drift_21 : decode cX1_drift 21 = .ok (.goto (-19), 3) := by decide +kernel
theorem dX1_drift_24 : decode cX1_drift 24 = .ok (.iconst 0, 1) := by decide +kernel
theorem dX1_drift_25 : decode cX1_drift 25 = .ok (.istore_n 3, 1) := by decide +kernel
theorem dX1_drift_26 : decode cX1_drift 26 = .ok (.iload_n 3, 1) := by decide +kernel
theorem dX1_drift_27 : decode cX1_drift 27 = .ok (.sipush 577, 3) := by decide +kernel
theorem dX1_drift_30 : decode cX1_drift 30 = .ok (.if_icmp .ge 113, 3) := by decide +kernel
theorem dX1_drift_33 : decode cX1_drift 33 = .ok (.aload_n 0, 1) := by decide +kernel
theorem dX1_drift_34 : decode cX1_drift 34 = .ok (.iload_n 1, 1) := by decide +kernel
theorem dX1_drift_35 : decode cX1_drift 35 = .ok (.iload_n 3, 1) := by decide +kernel
theorem dX1_drift_36 : decode cX1_drift 36 = .ok (.invokevirtual 70, 3) := by decide +kernel
theorem dX1_drift_39 : decode cX1_drift 39 = .ok (.ldc2_w 74, 3) := by decide +kernel
theorem dX1_drift_42 : decode cX1_drift 42 = .ok (.ldiv, 1) := by decide +kernel
theorem dX1_drift_43 : decode cX1_drift 43 = .ok (.lstore 4, 2) := by decide +kernel
theorem dX1_drift_45 : decode cX1_drift 45 = .ok (.lload 4, 2) := by decide +kernel
theorem dX1_drift_47 : decode cX1_drift 47 = .ok (.lconst 0, 1) := by decide +kernel
theorem dX1_drift_48 : decode cX1_drift 48 = .ok (.lcmp, 1) := by decide +kernel
theorem dX1_drift_49 : decode cX1_drift 49 = .ok (.ifCond .le 88, 3) := by decide +kernel
theorem dX1_drift_52 : decode cX1_drift 52 = .ok (.aload_n 0, 1) := by decide +kernel
theorem dX1_drift_53 : decode cX1_drift 53 = .ok (.getfield 26, 3) := by decide +kernel
theorem dX1_drift_56 : decode cX1_drift 56 = .ok (.iload_n 1, 1) := by decide +kernel
theorem dX1_drift_57 : decode cX1_drift 57 = .ok (.iload_n 3, 1) := by decide +kernel
theorem dX1_drift_58 : decode cX1_drift 58 = .ok (.iload_n 2, 1) := by decide +kernel
theorem dX1_drift_59 : decode cX1_drift 59 = .ok (.iconst 4, 1) := by decide +kernel
theorem dX1_drift_60 : decode cX1_drift 60 = .ok (.iconst 0, 1) := by decide +kernel
theorem dX1_drift_61 : decode cX1_drift 61 = .ok (.invokevirtual 76, 3) := by decide +kernel
theorem dX1_drift_64 : decode cX1_drift 64 = .ok (.istore 6, 2) := by decide +kernel
theorem dX1_drift_66 : decode cX1_drift 66 = .ok (.aload_n 0, 1) := by decide +kernel
theorem dX1_drift_67 : decode cX1_drift 67 = .ok (.getfield 26, 3) := by decide +kernel
theorem dX1_drift_70 : decode cX1_drift 70 = .ok (.iload_n 1, 1) := by decide +kernel
theorem dX1_drift_71 : decode cX1_drift 71 = .ok (.iload_n 3, 1) := by decide +kernel
theorem dX1_drift_72 : decode cX1_drift 72 = .ok (.iload_n 2, 1) := by decide +kernel
theorem dX1_drift_73 : decode cX1_drift 73 = .ok (.iconst 4, 1) := by decide +kernel
theorem dX1_drift_74 : decode cX1_drift 74 = .ok (.iconst 1, 1) := by decide +kernel
theorem dX1_drift_75 : decode cX1_drift 75 = .ok (.invokevirtual 76, 3) := by decide +kernel
theorem dX1_drift_78 : decode cX1_drift 78 = .ok (.istore 7, 2) := by decide +kernel
theorem dX1_drift_80 : decode cX1_drift 80 = .ok (.aload_n 0, 1) := by decide +kernel
theorem dX1_drift_81 : decode cX1_drift 81 = .ok (.iload_n 1, 1) := by decide +kernel
theorem dX1_drift_82 : decode cX1_drift 82 = .ok (.iconst 1, 1) := by decide +kernel
theorem dX1_drift_83 : decode cX1_drift 83 = .ok (.iadd, 1) := by decide +kernel
theorem dX1_drift_84 : decode cX1_drift 84 = .ok (.iload 6, 2) := by decide +kernel
theorem dX1_drift_86 : decode cX1_drift 86 = .ok (.aload_n 0, 1) := by decide +kernel
theorem dX1_drift_87 : decode cX1_drift 87 = .ok (.iload_n 1, 1) := by decide +kernel
theorem dX1_drift_88 : decode cX1_drift 88 = .ok (.iconst 1, 1) := by decide +kernel
theorem dX1_drift_89 : decode cX1_drift 89 = .ok (.iadd, 1) := by decide +kernel
theorem dX1_drift_90 : decode cX1_drift 90 = .ok (.iload 6, 2) := by decide +kernel
theorem dX1_drift_92 : decode cX1_drift 92 = .ok (.invokevirtual 70, 3) := by decide +kernel
theorem dX1_drift_95 : decode cX1_drift 95 = .ok (.lload 4, 2) := by decide +kernel
theorem dX1_drift_97 : decode cX1_drift 97 = .ok (.bipush 10, 2) := by decide +kernel
theorem dX1_drift_99 : decode cX1_drift 99 = .ok (.aload_n 0, 1) := by decide +kernel
theorem dX1_drift_100 : decode cX1_drift 100 = .ok (.getfield 15, 3) := by decide +kernel
theorem dX1_drift_103 : decode cX1_drift 103 = .ok (.isub, 1) := by decide +kernel
theorem dX1_drift_104 : decode cX1_drift 104 = .ok (.i2l, 1) := by decide +kernel
theorem dX1_drift_105 : decode cX1_drift 105 = .ok (.lmul, 1) := by decide +kernel
theorem dX1_drift_106 : decode cX1_drift 106 = .ok (.ladd, 1) := by decide +kernel
theorem dX1_drift_107 : decode cX1_drift 107 = .ok (.invokevirtual 52, 3) := by decide +kernel
theorem dX1_drift_110 : decode cX1_drift 110 = .ok (.aload_n 0, 1) := by decide +kernel
theorem dX1_drift_111 : decode cX1_drift 111 = .ok (.iload_n 1, 1) := by decide +kernel
theorem dX1_drift_112 : decode cX1_drift 112 = .ok (.iconst 1, 1) := by decide +kernel
theorem dX1_drift_113 : decode cX1_drift 113 = .ok (.iadd, 1) := by decide +kernel
theorem dX1_drift_114 : decode cX1_drift 114 = .ok (.iload 7, 2) := by decide +kernel
theorem dX1_drift_116 : decode cX1_drift 116 = .ok (.aload_n 0, 1) := by decide +kernel
theorem dX1_drift_117 : decode cX1_drift 117 = .ok (.iload_n 1, 1) := by decide +kernel
theorem dX1_drift_118 : decode cX1_drift 118 = .ok (.iconst 1, 1) := by decide +kernel
theorem dX1_drift_119 : decode cX1_drift 119 = .ok (.iadd, 1) := by decide +kernel
theorem dX1_drift_120 : decode cX1_drift 120 = .ok (.iload 7, 2) := by decide +kernel
theorem dX1_drift_122 : decode cX1_drift 122 = .ok (.invokevirtual 70, 3) := by decide +kernel
theorem dX1_drift_125 : decode cX1_drift 125 = .ok (.lload 4, 2) := by decide +kernel
theorem dX1_drift_127 : decode cX1_drift 127 = .ok (.aload_n 0, 1) := by decide +kernel
theorem dX1_drift_128 : decode cX1_drift 128 = .ok (.getfield 15, 3) := by decide +kernel
theorem dX1_drift_131 : decode cX1_drift 131 = .ok (.i2l, 1) := by decide +kernel
theorem dX1_drift_132 : decode cX1_drift 132 = .ok (.lmul, 1) := by decide +kernel
theorem dX1_drift_133 : decode cX1_drift 133 = .ok (.ladd, 1) := by decide +kernel
theorem dX1_drift_134 : decode cX1_drift 134 = .ok (.invokevirtual 52, 3) := by decide +kernel
theorem dX1_drift_137 : decode cX1_drift 137 = .ok (.iinc 3 1, 3) := by decide +kernel
theorem dX1_drift_140 : decode cX1_drift 140 = .ok (.goto (-114), 3) := by decide +kernel
theorem dX1_drift_143 : decode cX1_drift 143 = .ok (.return_, 1) := by decide +kernel
def w_X1_drift (a0 a1 : Int) (X : XT) (Q : XT → Prop) : Prop :=
  ∃ (I3 : Int → XT → Prop) (m4 : Int → XT → Nat), I3 0 X ∧ ∀ (x1 : Int) (X2 : XT), I3 x1 X2 → R32 x1 ∧ (577 ≤ x1 → ∃ (I19 : Int → XT → Prop) (m20 : Int → XT → Nat), I19 0 X2 ∧ ∀ (x17 : Int) (X18 : XT), I19 x17 X18 → R32 x17 ∧ (577 ≤ x17 → Q X18) ∧ (¬ 577 ≤ x17 → w_X1_chanceOf  a0 x17 X18 (fun (v33 : Int) => R64 v33 ∧ (0 ≤ v33) ∧ R64 (v33 / 10) ∧ ((v33 / 10) ≤ 0 → I19 (x17 + 1) X18 ∧ m20 (x17 + 1) X18 < m20 x17 X18) ∧ (¬ (v33 / 10) ≤ 0 → w_X2_onward  a0 x17 a1 4 0 X18 (fun (v43 : Int) => w_X2_onward  a0 x17 a1 4 1 X18 (fun (v49 : Int) => w_X1_chanceOf  (a0 + 1) v43 X18 (fun (v55 : Int) => R32 (10 - (X18 68 3)) ∧ w_X1_setChance  (a0 + 1) v43 (v55 + ((v33 / 10) * (10 - (X18 68 3)))) X18 (fun (X63 : XT) => w_X1_chanceOf  (a0 + 1) v49 X63 (fun (v68 : Int) => R32 (X63 68 3) ∧ w_X1_setChance  (a0 + 1) v49 (v68 + ((v33 / 10) * (X63 68 3))) X63 (fun (X76 : XT) => I19 (x17 + 1) X76 ∧ m20 (x17 + 1) X76 < m20 x17 X18)))))))))) ∧ (¬ 577 ≤ x1 → w_X1_setChance  (a0 + 1) x1 0 X2 (fun (X82 : XT) => I3 (x1 + 1) X82 ∧ m4 (x1 + 1) X82 < m4 x1 X2))
set_option maxRecDepth 20000 in
theorem so_X1_drift {n : Nat} {h : Nat → sE} {X : XT} {a0 a1 : Int} {Q : XT → Prop} (hn : 115 ≤ n) (hp : Pic X h) (w : w_X1_drift  a0 a1 X Q) : Sp m_X1_drift 3 0 0 [.ref 68, .int (iI a0), .int (iI a1)] n h (pVw n h Q) := by
  unfold w_X1_drift at w
  refine Sp.ofV (by decide +kernel) (Nat.le_of_ble_eq_true rfl) ?_
  have hf : Fr h h := fun _ _ => rfl
  refine v_iconstI dX1_drift_0 ?_
  refine v_istore_n dX1_drift_1 (Nat.le_of_ble_eq_true rfl) ?_
  refine v_pick [1, 2, 3, 0] rfl ?_
  obtain ⟨I3, m4, wi7, wl6⟩ := w
  have hL8 : ∀ (N11 : Nat) (x1 : Int) (X2 : XT) (h12 : Nat → sE), m4 x1 X2 < N11 → I3 x1 X2 → Pic X2 h12 → Fr h h12 → V (m_X1_drift, 3, 0, 0, n, pVw n h Q, s_G0) 0 0 n h12 2 [(0, .ref 68), (1, .int (iI a0)), (2, .int (iI a1)), (3, .int (iI x1))] [] := by
    intro N11
    induction N11 with
    | zero => intro x1 X2 h12 hm9; exact absurd hm9 (Nat.not_lt_zero _)
    | succ N11 ih5 =>
      intro x1 X2 h12 hm9 hI10 hp13 hf14
      have w := wl6 x1 X2 hI10
      refine v_iload_n dX1_drift_2 rfl ?_
      refine v_sipushI dX1_drift_3 rfl ?_
      obtain ⟨q15, w⟩ := w
      refine v_icmp_geI (tgt := 24) dX1_drift_6 (by decide) q15.1 q15.2 (by decide) (by decide) (fun c16 => ?_) (fun c16 => ?_)
      · replace w := w.1 c16
        refine v_iconstI dX1_drift_24 ?_
        refine v_istore_n dX1_drift_25 (Nat.le_of_ble_eq_true rfl) ?_
        refine v_pick [1, 2, 3, 0] rfl ?_
        obtain ⟨I19, m20, wi23, wl22⟩ := w
        have hL24 : ∀ (N27 : Nat) (x17 : Int) (X18 : XT) (h28 : Nat → sE), m20 x17 X18 < N27 → I19 x17 X18 → Pic X18 h28 → Fr h h28 → V (m_X1_drift, 3, 0, 0, n, pVw n h Q, s_G0) 0 0 n h28 26 [(0, .ref 68), (1, .int (iI a0)), (2, .int (iI a1)), (3, .int (iI x17))] [] := by
          intro N27
          induction N27 with
          | zero => intro x17 X18 h28 hm25; exact absurd hm25 (Nat.not_lt_zero _)
          | succ N27 ih21 =>
            intro x17 X18 h28 hm25 hI26 hp29 hf30
            have w := wl22 x17 X18 hI26
            refine v_iload_n dX1_drift_26 rfl ?_
            refine v_sipushI dX1_drift_27 rfl ?_
            obtain ⟨q31, w⟩ := w
            refine v_icmp_geI (tgt := 143) dX1_drift_30 (by decide) q31.1 q31.2 (by decide) (by decide) (fun c32 => ?_) (fun c32 => ?_)
            · replace w := w.1 c32
              exact v_vret dX1_drift_143 rfl (Nat.zero_le _) (Nat.zero_le _) ⟨rfl, hf30, _, rfl, hp29, w⟩
            · replace w := w.2 c32
              refine v_aload_n dX1_drift_33 rfl ?_
              refine v_iload_n dX1_drift_34 rfl ?_
              refine v_iload_n dX1_drift_35 rfl ?_
              refine v_callVLr dX1_drift_36 ml_X1_70 (so_X1_chanceOf hn hp29  w) ((hp29 68 (by decide)).trans (ent_68 _)) rfl (s_lt hn rfl) rfl rfl (Nat.le_of_ble_eq_true rfl) (Nat.le_of_ble_eq_true rfl) (Nat.zero_le _) (Nat.zero_le _) (fun v33 w => ?_)
              refine v_ldc2I 10 dX1_drift_39 k_X1_74 rfl ?_
              obtain ⟨q39, q40, w⟩ := w
              refine v_ldivI dX1_drift_42 q40 q39.2 (by decide) (by decide) ?_
              refine v_lstore dX1_drift_43 (Nat.le_of_ble_eq_true rfl) ?_
              refine v_lload dX1_drift_45 rfl ?_
              refine v_lconstI (w := 0) dX1_drift_47 rfl ?_
              obtain ⟨q41, w⟩ := w
              refine v_lcmp_leI (tgt := 137) dX1_drift_48 dX1_drift_49 (by decide) q41.1 q41.2 (by decide) (by decide) (fun c42 => ?_) (fun c42 => ?_)
              · replace w := w.1 c42
                refine v_iincI dX1_drift_137 rfl (Nat.le_of_ble_eq_true rfl) ?_
                refine v_goto (tgt := 26) dX1_drift_140 (by decide) ?_
                refine v_pick [2, 3, 4, 0] rfl ?_
                exact ih21 _ _ _ (Nat.lt_of_lt_of_le w.2 (Nat.le_of_lt_succ hm25)) w.1 hp29 hf30
              · replace w := w.2 c42
                refine v_aload_n dX1_drift_52 rfl ?_
                refine v_get dX1_drift_53 fl_X1_26 ((hp29 68 (by decide)).trans (ent_68 _)) rfl (s_lt hn rfl) ?_
                refine v_iload_n dX1_drift_56 rfl ?_
                refine v_iload_n dX1_drift_57 rfl ?_
                refine v_iload_n dX1_drift_58 rfl ?_
                refine v_iconstI dX1_drift_59 ?_
                refine v_iconstI dX1_drift_60 ?_
                refine v_callVIr dX1_drift_61 ml_X1_76 (so_X2_onward hn hp29  w) ((hp29 58 (by decide)).trans (ent_58 _)) rfl (s_lt hn rfl) rfl rfl (Nat.le_of_ble_eq_true rfl) (Nat.le_of_ble_eq_true rfl) (Nat.zero_le _) (Nat.zero_le _) (fun v43 w => ?_)
                refine v_istore dX1_drift_64 (Nat.le_of_ble_eq_true rfl) ?_
                refine v_aload_n dX1_drift_66 rfl ?_
                refine v_get dX1_drift_67 fl_X1_26 ((hp29 68 (by decide)).trans (ent_68 _)) rfl (s_lt hn rfl) ?_
                refine v_iload_n dX1_drift_70 rfl ?_
                refine v_iload_n dX1_drift_71 rfl ?_
                refine v_iload_n dX1_drift_72 rfl ?_
                refine v_iconstI dX1_drift_73 ?_
                refine v_iconstI dX1_drift_74 ?_
                refine v_callVIr dX1_drift_75 ml_X1_76 (so_X2_onward hn hp29  w) ((hp29 58 (by decide)).trans (ent_58 _)) rfl (s_lt hn rfl) rfl rfl (Nat.le_of_ble_eq_true rfl) (Nat.le_of_ble_eq_true rfl) (Nat.zero_le _) (Nat.zero_le _) (fun v49 w => ?_)
                refine v_istore dX1_drift_78 (Nat.le_of_ble_eq_true rfl) ?_
                refine v_aload_n dX1_drift_80 rfl ?_
                refine v_iload_n dX1_drift_81 rfl ?_
                refine v_iconstI dX1_drift_82 ?_
                refine v_iaddI dX1_drift_83 ?_
                refine v_iload dX1_drift_84 rfl ?_
                refine v_aload_n dX1_drift_86 rfl ?_
                refine v_iload_n dX1_drift_87 rfl ?_
                refine v_iconstI dX1_drift_88 ?_
                refine v_iaddI dX1_drift_89 ?_
                refine v_iload dX1_drift_90 rfl ?_
                refine v_callVLr dX1_drift_92 ml_X1_70 (so_X1_chanceOf hn hp29  w) ((hp29 68 (by decide)).trans (ent_68 _)) rfl (s_lt hn rfl) rfl rfl (Nat.le_of_ble_eq_true rfl) (Nat.le_of_ble_eq_true rfl) (Nat.zero_le _) (Nat.zero_le _) (fun v55 w => ?_)
                refine v_lload dX1_drift_95 rfl ?_
                refine v_bipushI dX1_drift_97 rfl ?_
                refine v_aload_n dX1_drift_99 rfl ?_
                refine v_get dX1_drift_100 fl_X1_15 ((hp29 68 (by decide)).trans (ent_68 _)) rfl (s_lt hn rfl) ?_
                refine v_isubI dX1_drift_103 ?_
                obtain ⟨q61, w⟩ := w
                refine v_i2lI dX1_drift_104 q61.1 q61.2 ?_
                refine v_lmulI dX1_drift_105 ?_
                refine v_laddI dX1_drift_106 ?_
                refine v_callVVw dX1_drift_107 ml_X1_52 (so_X1_setChance hn hp29  w) ((hp29 68 (by decide)).trans (ent_68 _)) rfl (s_lt hn rfl) rfl rfl (Nat.le_of_ble_eq_true rfl) (Nat.le_of_ble_eq_true rfl) (Nat.zero_le _) (Nat.zero_le _) (fun X63 h64 hp66 hf65 w => ?_)
                have hf67 := Fr.trans hf30 hf65
                refine v_aload_n dX1_drift_110 rfl ?_
                refine v_iload_n dX1_drift_111 rfl ?_
                refine v_iconstI dX1_drift_112 ?_
                refine v_iaddI dX1_drift_113 ?_
                refine v_iload dX1_drift_114 rfl ?_
                refine v_aload_n dX1_drift_116 rfl ?_
                refine v_iload_n dX1_drift_117 rfl ?_
                refine v_iconstI dX1_drift_118 ?_
                refine v_iaddI dX1_drift_119 ?_
                refine v_iload dX1_drift_120 rfl ?_
                refine v_callVLr dX1_drift_122 ml_X1_70 (so_X1_chanceOf hn hp66  w) ((hp66 68 (by decide)).trans (ent_68 _)) rfl (s_lt hn rfl) rfl rfl (Nat.le_of_ble_eq_true rfl) (Nat.le_of_ble_eq_true rfl) (Nat.zero_le _) (Nat.zero_le _) (fun v68 w => ?_)
                refine v_lload dX1_drift_125 rfl ?_
                refine v_aload_n dX1_drift_127 rfl ?_
                refine v_get dX1_drift_128 fl_X1_15 ((hp66 68 (by decide)).trans (ent_68 _)) rfl (s_lt hn rfl) ?_
                obtain ⟨q74, w⟩ := w
                refine v_i2lI dX1_drift_131 q74.1 q74.2 ?_
                refine v_lmulI dX1_drift_132 ?_
                refine v_laddI dX1_drift_133 ?_
                refine v_callVVw dX1_drift_134 ml_X1_52 (so_X1_setChance hn hp66  w) ((hp66 68 (by decide)).trans (ent_68 _)) rfl (s_lt hn rfl) rfl rfl (Nat.le_of_ble_eq_true rfl) (Nat.le_of_ble_eq_true rfl) (Nat.zero_le _) (Nat.zero_le _) (fun X76 h77 hp79 hf78 w => ?_)
                have hf80 := Fr.trans hf67 hf78
                refine v_iincI dX1_drift_137 rfl (Nat.le_of_ble_eq_true rfl) ?_
                refine v_goto (tgt := 26) dX1_drift_140 (by decide) ?_
                refine v_pick [4, 5, 6, 0] rfl ?_
                exact ih21 _ _ _ (Nat.lt_of_lt_of_le w.2 (Nat.le_of_lt_succ hm25)) w.1 hp79 hf80
        exact hL24 _ _ _ _ (Nat.lt_succ_self _) wi23 hp13 hf14
      · replace w := w.2 c16
        refine v_aload_n dX1_drift_9 rfl ?_
        refine v_iload_n dX1_drift_10 rfl ?_
        refine v_iconstI dX1_drift_11 ?_
        refine v_iaddI dX1_drift_12 ?_
        refine v_iload_n dX1_drift_13 rfl ?_
        refine v_lconstI (w := 0) dX1_drift_14 rfl ?_
        refine v_callVVw dX1_drift_15 ml_X1_52 (so_X1_setChance hn hp13  w) ((hp13 68 (by decide)).trans (ent_68 _)) rfl (s_lt hn rfl) rfl rfl (Nat.le_of_ble_eq_true rfl) (Nat.le_of_ble_eq_true rfl) (Nat.zero_le _) (Nat.zero_le _) (fun X82 h83 hp85 hf84 w => ?_)
        have hf86 := Fr.trans hf14 hf84
        refine v_iincI dX1_drift_18 rfl (Nat.le_of_ble_eq_true rfl) ?_
        refine v_goto (tgt := 2) dX1_drift_21 (by decide) ?_
        refine v_pick [1, 2, 3, 0] rfl ?_
        exact ih5 _ _ _ (Nat.lt_of_lt_of_le w.2 (Nat.le_of_lt_succ hm9)) w.1 hp85 hf86
  exact hL8 _ _ _ _ (Nat.lt_succ_self _) wi7 hp hf
theorem dX1_chanceAsTold_0 : decode cX1_chanceAsTold 0 = .ok (.aload_n 0, 1) := by decide +kernel
theorem dX1_chanceAsTold_1 : decode cX1_chanceAsTold 1 = .ok (.getfield 22, 3) := by decide +kernel
theorem dX1_chanceAsTold_4 : decode cX1_chanceAsTold 4 = .ok (.iload_n 1, 1) := by decide +kernel
theorem dX1_chanceAsTold_5 : decode cX1_chanceAsTold 5 = .ok (.invokevirtual 30, 3) := by decide +kernel
theorem dX1_chanceAsTold_8 : decode cX1_chanceAsTold 8 = .ok (.istore 5, 2) := by decide +kernel
theorem dX1_chanceAsTold_10 : decode cX1_chanceAsTold 10 = .ok (.aload_n 0, 1) := by decide +kernel
theorem dX1_chanceAsTold_11 : decode cX1_chanceAsTold 11 = .ok (.aload_n 0, 1) := by decide +kernel
theorem dX1_chanceAsTold_12 : decode cX1_chanceAsTold 12 = .ok (.getfield 22, 3) := by decide +kernel
theorem dX1_chanceAsTold_15 : decode cX1_chanceAsTold 15 = .ok (.getfield 36, 3) := by decide +kernel
theorem dX1_chanceAsTold_18 : decode cX1_chanceAsTold 18 = .ok (.iconst 1, 1) := by decide +kernel
theorem dX1_chanceAsTold_19 : decode cX1_chanceAsTold 19 = .ok (.iaload, 1) := by decide +kernel
theorem dX1_chanceAsTold_20 : decode cX1_chanceAsTold 20 = .ok (.putfield 15, 3) := by decide +kernel
theorem dX1_chanceAsTold_23 : decode cX1_chanceAsTold 23 = .ok (.aload_n 0, 1) := by decide +kernel
theorem dX1_chanceAsTold_24 : decode cX1_chanceAsTold 24 = .ok (.getfield 26, 3) := by decide +kernel
theorem dX1_chanceAsTold_27 : decode cX1_chanceAsTold 27 = .ok (.iload_n 1, 1) := by decide +kernel
theorem dX1_chanceAsTold_28 : decode cX1_chanceAsTold 28 = .ok (.invokevirtual 40, 3) := by decide +kernel
theorem dX1_chanceAsTold_31 : decode cX1_chanceAsTold 31 = .ok (.aload_n 0, 1) := by decide +kernel
theorem dX1_chanceAsTold_32 : decode cX1_chanceAsTold 32 = .ok (.getfield 26, 3) := by decide +kernel
theorem dX1_chanceAsTold_35 : decode cX1_chanceAsTold 35 = .ok (.iconst 0, 1) := by decide +kernel
theorem dX1_chanceAsTold_36 : decode cX1_chanceAsTold 36 = .ok (.iload 5, 2) := by decide +kernel
theorem dX1_chanceAsTold_38 : decode cX1_chanceAsTold 38 = .ok (.iload_n 3, 1) := by decide +kernel
theorem dX1_chanceAsTold_39 : decode cX1_chanceAsTold 39 = .ok (.iconst 1, 1) := by decide +kernel
theorem dX1_chanceAsTold_40 : decode cX1_chanceAsTold 40 = .ok (.iconst 1, 1) := by decide +kernel
theorem dX1_chanceAsTold_41 : decode cX1_chanceAsTold 41 = .ok (.invokevirtual 46, 3) := by decide +kernel
theorem dX1_chanceAsTold_44 : decode cX1_chanceAsTold 44 = .ok (.iconst 0, 1) := by decide +kernel
theorem dX1_chanceAsTold_45 : decode cX1_chanceAsTold 45 = .ok (.istore 6, 2) := by decide +kernel
theorem dX1_chanceAsTold_47 : decode cX1_chanceAsTold 47 = .ok (.iload 6, 2) := by decide +kernel
theorem dX1_chanceAsTold_49 : decode cX1_chanceAsTold 49 = .ok (.aload_n 0, 1) := by decide +kernel
theorem dX1_chanceAsTold_50 : decode cX1_chanceAsTold 50 = .ok (.getfield 9, 3) := by decide +kernel
theorem dX1_chanceAsTold_53 : decode cX1_chanceAsTold 53 = .ok (.arraylength, 1) := by decide +kernel
theorem dX1_chanceAsTold_54 : decode cX1_chanceAsTold 54 = .ok (.if_icmp .ge 17, 3) := by decide +kernel
theorem dX1_chanceAsTold_57 : decode cX1_chanceAsTold 57 = .ok (.aload_n 0, 1) := by decide +kernel
theorem dX1_chanceAsTold_58 : decode cX1_chanceAsTold 58 = .ok (.getfield 9, 3) := by decide +kernel
theorem dX1_chanceAsTold_61 : decode cX1_chanceAsTold 61 = .ok (.iload 6, 2) := by decide +kernel
theorem dX1_chanceAsTold_63 : decode cX1_chanceAsTold 63 = .ok (.lconst 0, 1) := by decide +kernel
theorem dX1_chanceAsTold_64 : decode cX1_chanceAsTold 64 = .ok (.lastore, 1) := by decide +kernel
theorem dX1_chanceAsTold_65 : decode cX1_chanceAsTold 65 = .ok (.iinc 6 1, 3) := by decide +kernel
theorem dX1_chanceAsTold_68 : decode cX1_chanceAsTold 68 = .ok (.goto (-21), 3) := by decide +kernel
theorem dX1_chanceAsTold_71 : decode cX1_chanceAsTold 71 = .ok (.aload_n 0, 1) := by decide +kernel
theorem dX1_chanceAsTold_72 : decode cX1_chanceAsTold 72 = .ok (.iconst 0, 1) := by decide +kernel
theorem dX1_chanceAsTold_73 : decode cX1_chanceAsTold 73 = .ok (.iload 5, 2) := by decide +kernel
theorem dX1_chanceAsTold_75 : decode cX1_chanceAsTold 75 = .ok (.ldc2_w 50, 3) := by decide +kernel
theorem dX1_chanceAsTold_78 : decode cX1_chanceAsTold 78 = .ok (.invokevirtual 52, 3) := by decide +kernel
theorem dX1_chanceAsTold_81 : decode cX1_chanceAsTold 81 = .ok (.iconst 0, 1) := by decide +kernel
theorem dX1_chanceAsTold_82 : decode cX1_chanceAsTold 82 = .ok (.istore 6, 2) := by decide +kernel
theorem dX1_chanceAsTold_84 : decode cX1_chanceAsTold 84 = .ok (.iload 6, 2) := by decide +kernel
theorem dX1_chanceAsTold_86 : decode cX1_chanceAsTold 86 = .ok (.iload_n 3, 1) := by decide +kernel
theorem dX1_chanceAsTold_87 : decode cX1_chanceAsTold 87 = .ok (.if_icmp .ge 23, 3) := by decide +kernel
theorem dX1_chanceAsTold_90 : decode cX1_chanceAsTold 90 = .ok (.aload_n 0, 1) := by decide +kernel
theorem dX1_chanceAsTold_91 : decode cX1_chanceAsTold 91 = .ok (.iload 6, 2) := by decide +kernel
theorem dX1_chanceAsTold_93 : decode cX1_chanceAsTold 93 = .ok (.aload 4, 2) := by decide +kernel
theorem dX1_chanceAsTold_95 : decode cX1_chanceAsTold 95 = .ok (.iload_n 1, 1) := by decide +kernel
theorem dX1_chanceAsTold_96 : decode cX1_chanceAsTold 96 = .ok (.iload 6, 2) := by decide +kernel
theorem dX1_chanceAsTold_98 : decode cX1_chanceAsTold 98 = .ok (.invokevirtual 56, 3) := by decide +kernel
theorem dX1_chanceAsTold_101 : decode cX1_chanceAsTold 101 = .ok (.invokevirtual 62, 3) := by decide +kernel
theorem dX1_chanceAsTold_104 : decode cX1_chanceAsTold 104 = .ok (.iinc 6 1, 3) := by decide +kernel
theorem dX1_chanceAsTold_107 : decode cX1_chanceAsTold 107 = .ok (.goto (-23), 3) := by decide +kernel
theorem dX1_chanceAsTold_110 : decode cX1_chanceAsTold 110 = .ok (.lconst 0, 1) := by decide +kernel
theorem dX1_chanceAsTold_111 : decode cX1_chanceAsTold 111 = .ok (.lstore 6, 2) := by decide +kernel
theorem dX1_chanceAsTold_113 : decode cX1_chanceAsTold 113 = .ok (.iconst 0, 1) := by decide +kernel
theorem dX1_chanceAsTold_114 : decode cX1_chanceAsTold 114 = .ok (.istore 8, 2) := by decide +kernel
theorem dX1_chanceAsTold_116 : decode cX1_chanceAsTold 116 = .ok (.iload 8, 2) := by decide +kernel
theorem dX1_chanceAsTold_118 : decode cX1_chanceAsTold 118 = .ok (.sipush 576, 3) := by decide +kernel
theorem dX1_chanceAsTold_121 : decode cX1_chanceAsTold 121 = .ok (.if_icmp .ge 34, 3) := by decide +kernel
theorem dX1_chanceAsTold_124 : decode cX1_chanceAsTold 124 = .ok (.aload_n 0, 1) := by decide +kernel
theorem dX1_chanceAsTold_125 : decode cX1_chanceAsTold 125 = .ok (.getfield 26, 3) := by decide +kernel
theorem dX1_chanceAsTold_128 : decode cX1_chanceAsTold 128 = .ok (.iload 8, 2) := by decide +kernel
theorem dX1_chanceAsTold_130 : decode cX1_chanceAsTold 130 = .ok (.iload_n 2, 1) := by decide +kernel
theorem dX1_chanceAsTold_131 : decode cX1_chanceAsTold 131 = .ok (.invokevirtual 66, 3) := by decide +kernel
theorem dX1_chanceAsTold_134 : decode cX1_chanceAsTold 134 = .ok (.ifCond .eq 15, 3) := by decide +kernel
theorem dX1_chanceAsTold_137 : decode cX1_chanceAsTold 137 = .ok (.lload 6, 2) := by decide +kernel
theorem dX1_chanceAsTold_139 : decode cX1_chanceAsTold 139 = .ok (.aload_n 0, 1) := by decide +kernel
theorem dX1_chanceAsTold_140 : decode cX1_chanceAsTold 140 = .ok (.iload_n 3, 1) := by decide +kernel
theorem dX1_chanceAsTold_141 : decode cX1_chanceAsTold 141 = .ok (.iload 8, 2) := by decide +kernel
theorem dX1_chanceAsTold_143 : decode cX1_chanceAsTold 143 = .ok (.invokevirtual 70, 3) := by decide +kernel
theorem dX1_chanceAsTold_146 : decode cX1_chanceAsTold 146 = .ok (.ladd, 1) := by decide +kernel
theorem dX1_chanceAsTold_147 : decode cX1_chanceAsTold 147 = .ok (.lstore 6, 2) := by decide +kernel
theorem dX1_chanceAsTold_149 : decode cX1_chanceAsTold 149 = .ok (.iinc 8 1, 3) := by decide +kernel
theorem dX1_chanceAsTold_152 : decode cX1_chanceAsTold 152 = .ok (.goto (-36), 3) := by decide +kernel
theorem dX1_chanceAsTold_155 : decode cX1_chanceAsTold 155 = .ok (.lload 6, 2) := by decide +kernel
theorem dX1_chanceAsTold_157 : decode cX1_chanceAsTold 157 = .ok (.lreturn, 1) := by decide +kernel
def w_X1_chanceAsTold (K : LK) (ta sb : Nat) (a0 a1 a2 : Int) (X : XT) (Q : Int → XT → Prop) : Prop :=
  w_X3_startOf  a0 X (fun (v1 : Int) => w_X2_take  a0 (x_st X 68 3 (X 9 1)) (fun (X13 : XT) => w_X2_spread K  0 v1 a2 1 1 X13 (fun (X19 : XT) => ∃ (I26 : Int → XT → Prop) (m27 : Int → XT → Nat), I26 0 X19 ∧ ∀ (x24 : Int) (X25 : XT), I26 x24 X25 → R32 x24 ∧ (1154 ≤ x24 → w_X1_setChance  0 v1 1000000000000 X25 (fun (X41 : XT) => ∃ (I48 : Int → XT → Prop) (m49 : Int → XT → Nat), I48 0 X41 ∧ ∀ (x46 : Int) (X47 : XT), I48 x46 X47 → R32 x46 ∧ R32 a2 ∧ (a2 ≤ x46 → ∃ (I65 : Int → Int → Prop) (m66 : Int → Int → Nat), I65 0 0 ∧ ∀ (x63 : Int) (x64 : Int), I65 x63 x64 → R32 x64 ∧ (576 ≤ x64 → Q x63 X47) ∧ (¬ 576 ≤ x64 → w_X2_shades  x64 a1 X47 (fun (v76 : Int) => R32 v76 ∧ (v76 = 0 → I65 x63 (x64 + 1) ∧ m66 x63 (x64 + 1) < m66 x63 x64) ∧ (¬ v76 = 0 → w_X1_chanceOf  a2 x64 X47 (fun (v84 : Int) => I65 (x63 + v84) (x64 + 1) ∧ m66 (x63 + v84) (x64 + 1) < m66 x63 x64))))) ∧ (¬ a2 ≤ x46 → w_X8_flagOf ta sb a0 x46 X47 (fun (v90 : Int) => w_X1_drift  x46 v90 X47 (fun (X97 : XT) => I48 (x46 + 1) X97 ∧ m49 (x46 + 1) X97 < m49 x46 X47))))) ∧ (¬ 1154 ≤ x24 → (0 ≤ x24 ∧ x24 < 1154) ∧ I26 (x24 + 1) (x_st X25 69 x24 0) ∧ m27 (x24 + 1) (x_st X25 69 x24 0) < m27 x24 X25))))
set_option maxRecDepth 20000 in
theorem so_X1_chanceAsTold_49 {n : Nat} {h : Nat → sE} {X : XT} {K : LK} {hk : Nat → sE} (hK : LKok K n hk) {a0 a1 a2 : Int} {Q : Int → XT → Prop} (hn : 115 ≤ n) (hp : Pic X h) (hf9 : Fr hk h) (w : w_X1_chanceAsTold K 50 51 a0 a1 a2 X Q) : Sp m_X1_chanceAsTold 6 0 0 [.ref 68, .int (iI a0), .int (iI a1), .int (iI a2), .ref 49] n h (pLw n h Q) := by
  unfold w_X1_chanceAsTold at w
  refine Sp.ofV (by decide +kernel) (Nat.le_of_ble_eq_true rfl) ?_
  have hf : Fr h h := fun _ _ => rfl
  refine v_aload_n dX1_chanceAsTold_0 rfl ?_
  refine v_get dX1_chanceAsTold_1 fl_X1_22 ((hp 68 (by decide)).trans (ent_68 _)) rfl (s_lt hn rfl) ?_
  refine v_iload_n dX1_chanceAsTold_4 rfl ?_
  refine v_callVIr dX1_chanceAsTold_5 ml_X1_30 (so_X3_startOf hn hp  w) ((hp 1 (by decide)).trans (ent_1 _)) rfl (s_lt hn rfl) rfl rfl (Nat.le_of_ble_eq_true rfl) (Nat.le_of_ble_eq_true rfl) (Nat.zero_le _) (Nat.zero_le _) (fun v1 w => ?_)
  refine v_istore dX1_chanceAsTold_8 (Nat.le_of_ble_eq_true rfl) ?_
  refine v_aload_n dX1_chanceAsTold_10 rfl ?_
  refine v_aload_n dX1_chanceAsTold_11 rfl ?_
  refine v_get dX1_chanceAsTold_12 fl_X1_22 ((hp 68 (by decide)).trans (ent_68 _)) rfl (s_lt hn rfl) ?_
  refine v_get dX1_chanceAsTold_15 fl_X1_36 ((hp 1 (by decide)).trans (ent_1 _)) rfl (s_lt hn rfl) ?_
  refine v_iconstI dX1_chanceAsTold_18 ?_
  refine v_ialdI dX1_chanceAsTold_19 ((hp 9 (by decide)).trans (ent_9 _)) (s_lt hn rfl) (by decide) (by decide) (by decide) ?_
  refine v_put dX1_chanceAsTold_20 fl_X1_15 ((hp 68 (by decide)).trans (ent_68 _)) (s_lt hn rfl) (Nat.le_of_ble_eq_true rfl) (fun _ => ⟨rfl, rfl⟩) trivial (fun h7 E8 F9 => ?_)
  have hp10 := pic_st hp (show h7 68 = ent 68 (uI _ 3 (X 9 1)) from E8) F9
  have hf11 := Fr.up (c := 68) hf F9 rfl
  refine v_aload_n dX1_chanceAsTold_23 rfl ?_
  refine v_get dX1_chanceAsTold_24 fl_X1_26 ((hp10 68 (by decide)).trans (ent_68 _)) rfl (s_lt hn rfl) ?_
  refine v_iload_n dX1_chanceAsTold_27 rfl ?_
  refine v_callVVw dX1_chanceAsTold_28 ml_X1_40 (so_X2_take hn hp10  w) ((hp10 58 (by decide)).trans (ent_58 _)) rfl (s_lt hn rfl) rfl rfl (Nat.le_of_ble_eq_true rfl) (Nat.le_of_ble_eq_true rfl) (Nat.zero_le _) (Nat.zero_le _) (fun X13 h14 hp16 hf15 w => ?_)
  have hf17 := Fr.trans hf11 hf15
  refine v_aload_n dX1_chanceAsTold_31 rfl ?_
  refine v_get dX1_chanceAsTold_32 fl_X1_26 ((hp16 68 (by decide)).trans (ent_68 _)) rfl (s_lt hn rfl) ?_
  refine v_iconstI dX1_chanceAsTold_35 ?_
  refine v_iload dX1_chanceAsTold_36 rfl ?_
  refine v_iload_n dX1_chanceAsTold_38 rfl ?_
  refine v_iconstI dX1_chanceAsTold_39 ?_
  refine v_iconstI dX1_chanceAsTold_40 ?_
  refine v_callVVw dX1_chanceAsTold_41 ml_X1_46 (so_X2_spread hK hn hp16 (Fr.trans hf9 hf17) w) ((hp16 58 (by decide)).trans (ent_58 _)) rfl (s_lt hn rfl) rfl rfl (Nat.le_of_ble_eq_true rfl) (Nat.le_of_ble_eq_true rfl) (Nat.zero_le _) (Nat.zero_le _) (fun X19 h20 hp22 hf21 w => ?_)
  have hf23 := Fr.trans hf17 hf21
  refine v_iconstI dX1_chanceAsTold_44 ?_
  refine v_istore dX1_chanceAsTold_45 (Nat.le_of_ble_eq_true rfl) ?_
  refine v_pick [2, 3, 4, 5, 6, 1, 0] rfl ?_
  obtain ⟨I26, m27, wi30, wl29⟩ := w
  have hL31 : ∀ (N34 : Nat) (x24 : Int) (X25 : XT) (h35 : Nat → sE), m27 x24 X25 < N34 → I26 x24 X25 → Pic X25 h35 → Fr h h35 → V (m_X1_chanceAsTold, 6, 0, 0, n, pLw n h Q, s_G0) 0 0 n h35 47 [(0, .ref 68), (1, .int (iI a0)), (2, .int (iI a1)), (3, .int (iI a2)), (4, .ref 49), (5, .int (iI v1)), (6, .int (iI x24))] [] := by
    intro N34
    induction N34 with
    | zero => intro x24 X25 h35 hm32; exact absurd hm32 (Nat.not_lt_zero _)
    | succ N34 ih28 =>
      intro x24 X25 h35 hm32 hI33 hp36 hf37
      have w := wl29 x24 X25 hI33
      refine v_iload dX1_chanceAsTold_47 rfl ?_
      refine v_aload_n dX1_chanceAsTold_49 rfl ?_
      refine v_get dX1_chanceAsTold_50 fl_X1_9 ((hp36 68 (by decide)).trans (ent_68 _)) rfl (s_lt hn rfl) ?_
      refine v_alen_lI dX1_chanceAsTold_53 ((hp36 69 (by decide)).trans (ent_69 _)) (s_lt hn rfl) ?_
      obtain ⟨q38, w⟩ := w
      refine v_icmp_geI (tgt := 71) dX1_chanceAsTold_54 (by decide) q38.1 q38.2 (by decide) (by decide) (fun c39 => ?_) (fun c39 => ?_)
      · replace w := w.1 c39
        refine v_aload_n dX1_chanceAsTold_71 rfl ?_
        refine v_iconstI dX1_chanceAsTold_72 ?_
        refine v_iload dX1_chanceAsTold_73 rfl ?_
        refine v_ldc2I 1000000000000 dX1_chanceAsTold_75 k_X1_50 rfl ?_
        refine v_callVVw dX1_chanceAsTold_78 ml_X1_52 (so_X1_setChance hn hp36  w) ((hp36 68 (by decide)).trans (ent_68 _)) rfl (s_lt hn rfl) rfl rfl (Nat.le_of_ble_eq_true rfl) (Nat.le_of_ble_eq_true rfl) (Nat.zero_le _) (Nat.zero_le _) (fun X41 h42 hp44 hf43 w => ?_)
        have hf45 := Fr.trans hf37 hf43
        refine v_iconstI dX1_chanceAsTold_81 ?_
        refine v_istore dX1_chanceAsTold_82 (Nat.le_of_ble_eq_true rfl) ?_
        refine v_pick [1, 2, 3, 4, 5, 0] rfl ?_
        obtain ⟨I48, m49, wi52, wl51⟩ := w
        have hL53 : ∀ (N56 : Nat) (x46 : Int) (X47 : XT) (h57 : Nat → sE), m49 x46 X47 < N56 → I48 x46 X47 → Pic X47 h57 → Fr h h57 → V (m_X1_chanceAsTold, 6, 0, 0, n, pLw n h Q, s_G0) 0 0 n h57 84 [(0, .ref 68), (1, .int (iI a0)), (2, .int (iI a1)), (3, .int (iI a2)), (4, .ref 49), (6, .int (iI x46))] [] := by
          intro N56
          induction N56 with
          | zero => intro x46 X47 h57 hm54; exact absurd hm54 (Nat.not_lt_zero _)
          | succ N56 ih50 =>
            intro x46 X47 h57 hm54 hI55 hp58 hf59
            have w := wl51 x46 X47 hI55
            refine v_iload dX1_chanceAsTold_84 rfl ?_
            refine v_iload_n dX1_chanceAsTold_86 rfl ?_
            obtain ⟨q60, q61, w⟩ := w
            refine v_icmp_geI (tgt := 110) dX1_chanceAsTold_87 (by decide) q60.1 q60.2 q61.1 q61.2 (fun c62 => ?_) (fun c62 => ?_)
            · replace w := w.1 c62
              refine v_lconstI (w := 0) dX1_chanceAsTold_110 rfl ?_
              refine v_lstore dX1_chanceAsTold_111 (Nat.le_of_ble_eq_true rfl) ?_
              refine v_iconstI dX1_chanceAsTold_113 ?_
              refine v_istore dX1_chanceAsTold_114 (Nat.le_of_ble_eq_true rfl) ?_
              refine v_pick [2, 4, 5, 1, 0] rfl ?_
              obtain ⟨I65, m66, wi69, wl68⟩ := w
              have hL70 : ∀ (N73 : Nat) (x63 : Int) (x64 : Int), m66 x63 x64 < N73 → I65 x63 x64 → V (m_X1_chanceAsTold, 6, 0, 0, n, pLw n h Q, s_G0) 0 0 n h57 116 [(0, .ref 68), (2, .int (iI a1)), (3, .int (iI a2)), (6, .long (jJ x63)), (8, .int (iI x64))] [] := by
                intro N73
                induction N73 with
                | zero => intro x63 x64  hm71; exact absurd hm71 (Nat.not_lt_zero _)
                | succ N73 ih67 =>
                  intro x63 x64  hm71 hI72
                  have w := wl68 x63 x64 hI72
                  refine v_iload dX1_chanceAsTold_116 rfl ?_
                  refine v_sipushI dX1_chanceAsTold_118 rfl ?_
                  obtain ⟨q74, w⟩ := w
                  refine v_icmp_geI (tgt := 155) dX1_chanceAsTold_121 (by decide) q74.1 q74.2 (by decide) (by decide) (fun c75 => ?_) (fun c75 => ?_)
                  · replace w := w.1 c75
                    refine v_lload dX1_chanceAsTold_155 rfl ?_
                    exact v_lret dX1_chanceAsTold_157 rfl (Nat.zero_le _) (Nat.zero_le _) ⟨rfl, hf59, _, _, rfl, hp58, w⟩
                  · replace w := w.2 c75
                    refine v_aload_n dX1_chanceAsTold_124 rfl ?_
                    refine v_get dX1_chanceAsTold_125 fl_X1_26 ((hp58 68 (by decide)).trans (ent_68 _)) rfl (s_lt hn rfl) ?_
                    refine v_iload dX1_chanceAsTold_128 rfl ?_
                    refine v_iload_n dX1_chanceAsTold_130 rfl ?_
                    refine v_callVIr dX1_chanceAsTold_131 ml_X1_66 (so_X2_shades hn hp58  w) ((hp58 58 (by decide)).trans (ent_58 _)) rfl (s_lt hn rfl) rfl rfl (Nat.le_of_ble_eq_true rfl) (Nat.le_of_ble_eq_true rfl) (Nat.zero_le _) (Nat.zero_le _) (fun v76 w => ?_)
                    obtain ⟨q82, w⟩ := w
                    refine v_if_eqI (tgt := 149) dX1_chanceAsTold_134 (by decide) q82.1 q82.2 (fun c83 => ?_) (fun c83 => ?_)
                    · replace w := w.1 c83
                      refine v_iincI dX1_chanceAsTold_149 rfl (Nat.le_of_ble_eq_true rfl) ?_
                      refine v_goto (tgt := 116) dX1_chanceAsTold_152 (by decide) ?_
                      refine v_pick [1, 2, 3, 4, 0] rfl ?_
                      exact ih67 _ _ (Nat.lt_of_lt_of_le w.2 (Nat.le_of_lt_succ hm71)) w.1
                    · replace w := w.2 c83
                      refine v_lload dX1_chanceAsTold_137 rfl ?_
                      refine v_aload_n dX1_chanceAsTold_139 rfl ?_
                      refine v_iload_n dX1_chanceAsTold_140 rfl ?_
                      refine v_iload dX1_chanceAsTold_141 rfl ?_
                      refine v_callVLr dX1_chanceAsTold_143 ml_X1_70 (so_X1_chanceOf hn hp58  w) ((hp58 68 (by decide)).trans (ent_68 _)) rfl (s_lt hn rfl) rfl rfl (Nat.le_of_ble_eq_true rfl) (Nat.le_of_ble_eq_true rfl) (Nat.zero_le _) (Nat.zero_le _) (fun v84 w => ?_)
                      refine v_laddI dX1_chanceAsTold_146 ?_
                      refine v_lstore dX1_chanceAsTold_147 (Nat.le_of_ble_eq_true rfl) ?_
                      refine v_iincI dX1_chanceAsTold_149 rfl (Nat.le_of_ble_eq_true rfl) ?_
                      refine v_goto (tgt := 116) dX1_chanceAsTold_152 (by decide) ?_
                      refine v_pick [2, 3, 4, 1, 0] rfl ?_
                      exact ih67 _ _ (Nat.lt_of_lt_of_le w.2 (Nat.le_of_lt_succ hm71)) w.1
              exact hL70 _ _ _ (Nat.lt_succ_self _) wi69
            · replace w := w.2 c62
              refine v_aload_n dX1_chanceAsTold_90 rfl ?_
              refine v_iload dX1_chanceAsTold_91 rfl ?_
              refine v_aload dX1_chanceAsTold_93 rfl ?_
              refine v_iload_n dX1_chanceAsTold_95 rfl ?_
              refine v_iload dX1_chanceAsTold_96 rfl ?_
              refine v_callVIr dX1_chanceAsTold_98 ml_X1_56 (so_X8_flagOf_49 hn hp58  w) ((hp58 49 (by decide)).trans (ent_49 _)) rfl (s_lt hn rfl) rfl rfl (Nat.le_of_ble_eq_true rfl) (Nat.le_of_ble_eq_true rfl) (Nat.zero_le _) (Nat.zero_le _) (fun v90 w => ?_)
              refine v_callVVw dX1_chanceAsTold_101 ml_X1_62 (so_X1_drift hn hp58  w) ((hp58 68 (by decide)).trans (ent_68 _)) rfl (s_lt hn rfl) rfl rfl (Nat.le_of_ble_eq_true rfl) (Nat.le_of_ble_eq_true rfl) (Nat.zero_le _) (Nat.zero_le _) (fun X97 h98 hp100 hf99 w => ?_)
              have hf101 := Fr.trans hf59 hf99
              refine v_iincI dX1_chanceAsTold_104 rfl (Nat.le_of_ble_eq_true rfl) ?_
              refine v_goto (tgt := 84) dX1_chanceAsTold_107 (by decide) ?_
              refine v_pick [1, 2, 3, 4, 5, 0] rfl ?_
              exact ih50 _ _ _ (Nat.lt_of_lt_of_le w.2 (Nat.le_of_lt_succ hm54)) w.1 hp100 hf101
        exact hL53 _ _ _ _ (Nat.lt_succ_self _) wi52 hp44 hf45
      · replace w := w.2 c39
        refine v_aload_n dX1_chanceAsTold_57 rfl ?_
        refine v_get dX1_chanceAsTold_58 fl_X1_9 ((hp36 68 (by decide)).trans (ent_68 _)) rfl (s_lt hn rfl) ?_
        refine v_iload dX1_chanceAsTold_61 rfl ?_
        refine v_lconstI (w := 0) dX1_chanceAsTold_63 rfl ?_
        obtain ⟨q102, w⟩ := w
        refine v_lastI dX1_chanceAsTold_64 ((hp36 69 (by decide)).trans (ent_69 _)) (s_lt hn rfl) q102.1 q102.2 (ix_le q102.2 (by decide)) (fun h103 E104 F105 => ?_)
        have hp106 := pic_st hp36 (show h103 69 = ent 69 (uI _ x24 0) from E104) F105
        have hf107 := Fr.up (c := 69) hf37 F105 rfl
        refine v_iincI dX1_chanceAsTold_65 rfl (Nat.le_of_ble_eq_true rfl) ?_
        refine v_goto (tgt := 47) dX1_chanceAsTold_68 (by decide) ?_
        refine v_pick [1, 2, 3, 4, 5, 6, 0] rfl ?_
        exact ih28 _ _ _ (Nat.lt_of_lt_of_le w.2 (Nat.le_of_lt_succ hm32)) w.1 hp106 hf107
  exact hL31 _ _ _ _ (Nat.lt_succ_self _) wi30 hp22 hf23

/-! THE CLASS'S METHODS, 3 of 3: texts over the picture, by program (tools/wp.py) -/
theorem dX11_likely_0 : decode cX11_likely 0 = .ok (.aload_n 0, 1) := by decide +kernel
theorem dX11_likely_1 : decode cX11_likely 1 = .ok (.iload_n 1, 1) := by decide +kernel
theorem dX11_likely_2 : decode cX11_likely 2 = .ok (.iload_n 2, 1) := by decide +kernel
theorem dX11_likely_3 : decode cX11_likely 3 = .ok (.invokevirtual 293, 3) := by decide +kernel
theorem dX11_likely_6 : decode cX11_likely 6 = .ok (.ifCond .eq 10, 3) := by decide +kernel
theorem dX11_likely_9 : decode cX11_likely 9 = .ok (.iload_n 3, 1) := by decide +kernel
theorem dX11_likely_10 : decode cX11_likely 10 = .ok (.invokestatic 185, 3) := by decide +kernel
theorem dX11_likely_13 : decode cX11_likely 13 = .ok (.ifCond .ne 7, 3) := by decide +kernel
theorem dX11_likely_16 : decode cX11_likely 16 = .ok (.ldc2_w 310, 3) := by decide +kernel
theorem dX11_likely_19 : decode cX11_likely 19 = .ok (.lreturn, 1) := by decide +kernel
theorem dX11_likely_20 : decode cX11_likely 20 = .ok (.aload_n 0, 1) := by decide +kernel
theorem dX11_likely_21 : decode cX11_likely 21 = .ok (.getfield 52, 3) := by decide +kernel
theorem dX11_likely_24 : decode cX11_likely 24 = .ok (.invokevirtual 245, 3) := by decide +kernel
theorem dX11_likely_27 : decode cX11_likely 27 = .ok (.aload_n 0, 1) := by decide +kernel
theorem dX11_likely_28 : decode cX11_likely 28 = .ok (.getfield 84, 3) := by decide +kernel
theorem dX11_likely_31 : decode cX11_likely 31 = .ok (.iload_n 1, 1) := by decide +kernel
theorem dX11_likely_32 : decode cX11_likely 32 = .ok (.iload_n 2, 1) := by decide +kernel
theorem dX11_likely_33 : decode cX11_likely 33 = .ok (.iload_n 3, 1) := by decide +kernel
theorem dX11_likely_34 : decode cX11_likely 34 = .ok (.aload_n 0, 1) := by decide +kernel
theorem dX11_likely_35 : decode cX11_likely 35 = .ok (.getfield 52, 3) := by decide +kernel
theorem dX11_likely_38 : decode cX11_likely 38 = .ok (.invokevirtual 312, 3) := by decide +kernel
theorem dX11_likely_41 : decode cX11_likely 41 = .ok (.lreturn, 1) := by decide +kernel
def w_X11_likely (K : LK) (a0 a1 a2 : Int) (X : XT) (Q : Int → XT → Prop) : Prop :=
  w_X11_isOver  a0 a1 X (fun (v1 : Int) => R32 v1 ∧ (v1 = 0 → Q (-1) X) ∧ (¬ v1 = 0 → R32 a2 ∧ ((0 ≤ a2 ∧ a2 ≤ 11) → w_X8_look K 50 51  X (fun (X12 : XT) => w_X1_chanceAsTold K 50 51 a0 a1 a2 X12 (fun (v17 : Int) (X18 : XT) => Q v17 X18))) ∧ (¬ (0 ≤ a2 ∧ a2 ≤ 11) → Q (-1) X)))
set_option maxRecDepth 20000 in
theorem so_X11_likely {n : Nat} {h : Nat → sE} {X : XT} {K : LK} {hk : Nat → sE} (hK : LKok K n hk) {a0 a1 a2 : Int} {Q : Int → XT → Prop} (hn : 115 ≤ n) (hp : Pic X h) (hf9 : Fr hk h) (w : w_X11_likely K  a0 a1 a2 X Q) : Sp m_X11_likely 7 0 0 [.ref 0, .int (iI a0), .int (iI a1), .int (iI a2)] n h (pLw n h Q) := by
  unfold w_X11_likely at w
  refine Sp.ofV (by decide +kernel) (Nat.le_of_ble_eq_true rfl) ?_
  have hf : Fr h h := fun _ _ => rfl
  refine v_aload_n dX11_likely_0 rfl ?_
  refine v_iload_n dX11_likely_1 rfl ?_
  refine v_iload_n dX11_likely_2 rfl ?_
  refine v_callVIr dX11_likely_3 ml_X11_293 (so_X11_isOver hn hp  w) ((hp 0 (by decide)).trans (ent_0 _)) rfl (s_lt hn rfl) rfl rfl (Nat.le_of_ble_eq_true rfl) (Nat.le_of_ble_eq_true rfl) (Nat.zero_le _) (Nat.zero_le _) (fun v1 w => ?_)
  obtain ⟨q7, w⟩ := w
  refine v_if_eqI (tgt := 16) dX11_likely_6 (by decide) q7.1 q7.2 (fun c8 => ?_) (fun c8 => ?_)
  · replace w := w.1 c8
    refine v_ldc2I (-1) dX11_likely_16 k_X11_310 rfl ?_
    exact v_lret dX11_likely_19 rfl (Nat.zero_le _) (Nat.zero_le _) ⟨rfl, hf, _, _, rfl, hp, w⟩
  · replace w := w.2 c8
    refine v_iload_n dX11_likely_9 rfl ?_
    obtain ⟨q9, w⟩ := w
    refine v_callSp dX11_likely_10 ml_X11_185 (sp_X11_isHour (a := a2) q9) rfl rfl (Nat.le_of_ble_eq_true rfl) (Nat.le_of_ble_eq_true rfl) (Nat.zero_le _) (Nat.zero_le _) ?_
    refine v_ifneB (tgt := 20) dX11_likely_13 (by decide) (fun c10 => ?_) (fun c10 => ?_)
    · replace w := w.1 c10
      refine v_aload_n dX11_likely_20 rfl ?_
      refine v_get dX11_likely_21 fl_X11_52 ((hp 0 (by decide)).trans (ent_0 _)) rfl (s_lt hn rfl) ?_
      refine v_callVVw dX11_likely_24 ml_X11_245 (so_X8_look_49 hK hn hp (Fr.trans hf9 hf) w) ((hp 49 (by decide)).trans (ent_49 _)) rfl (s_lt hn rfl) rfl rfl (Nat.le_of_ble_eq_true rfl) (Nat.le_of_ble_eq_true rfl) (Nat.zero_le _) (Nat.zero_le _) (fun X12 h13 hp15 hf14 w => ?_)
      have hf16 := Fr.trans hf hf14
      refine v_aload_n dX11_likely_27 rfl ?_
      refine v_get dX11_likely_28 fl_X11_84 ((hp15 0 (by decide)).trans (ent_0 _)) rfl (s_lt hn rfl) ?_
      refine v_iload_n dX11_likely_31 rfl ?_
      refine v_iload_n dX11_likely_32 rfl ?_
      refine v_iload_n dX11_likely_33 rfl ?_
      refine v_aload_n dX11_likely_34 rfl ?_
      refine v_get dX11_likely_35 fl_X11_52 ((hp15 0 (by decide)).trans (ent_0 _)) rfl (s_lt hn rfl) ?_
      refine v_callVLw dX11_likely_38 ml_X11_312 (so_X1_chanceAsTold_49 hK hn hp15 (Fr.trans hf9 hf16) w) ((hp15 68 (by decide)).trans (ent_68 _)) rfl (s_lt hn rfl) rfl rfl (Nat.le_of_ble_eq_true rfl) (Nat.le_of_ble_eq_true rfl) (Nat.zero_le _) (Nat.zero_le _) (fun v17 X18 h19 hp21 hf20 w => ?_)
      have hf22 := Fr.trans hf16 hf20
      exact v_lret dX11_likely_41 rfl (Nat.zero_le _) (Nat.zero_le _) ⟨rfl, hf22, _, _, rfl, hp21, w⟩
    · replace w := w.2 c10
      refine v_ldc2I (-1) dX11_likely_16 k_X11_310 rfl ?_
      exact v_lret dX11_likely_19 rfl (Nat.zero_le _) (Nat.zero_le _) ⟨rfl, hf, _, _, rfl, hp, w⟩
theorem dX1_worstBy_0 : decode cX1_worstBy 0 = .ok (.ldc2_w 50, 3) := by decide +kernel
theorem dX1_worstBy_3 : decode cX1_worstBy 3 = .ok (.lstore 4, 2) := by decide +kernel
theorem dX1_worstBy_5 : decode cX1_worstBy 5 = .ok (.iconst 0, 1) := by decide +kernel
theorem dX1_worstBy_6 : decode cX1_worstBy 6 = .ok (.istore 6, 2) := by decide +kernel
theorem dX1_worstBy_8 : decode cX1_worstBy 8 = .ok (.iload 6, 2) := by decide +kernel
theorem dX1_worstBy_10 : decode cX1_worstBy 10 = .ok (.iconst 4, 1) := by decide +kernel
theorem dX1_worstBy_11 : decode cX1_worstBy 11 = .ok (.if_icmp .gt 43, 3) := by decide +kernel
theorem dX1_worstBy_14 : decode cX1_worstBy 14 = .ok (.lload 4, 2) := by decide +kernel
theorem dX1_worstBy_16 : decode cX1_worstBy 16 = .ok (.lconst 0, 1) := by decide +kernel
theorem dX1_worstBy_17 : decode cX1_worstBy 17 = .ok (.lcmp, 1) := by decide +kernel
theorem dX1_worstBy_18 : decode cX1_worstBy 18 = .ok (.ifCond .le 36, 3) := by decide +kernel
theorem dX1_worstBy_21 : decode cX1_worstBy 21 = .ok (.lload 4, 2) := by decide +kernel
theorem dX1_worstBy_23 : decode cX1_worstBy 23 = .ok (.aload_n 0, 1) := by decide +kernel
theorem dX1_worstBy_24 : decode cX1_worstBy 24 = .ok (.iload_n 1, 1) := by decide +kernel
theorem dX1_worstBy_25 : decode cX1_worstBy 25 = .ok (.iconst 1, 1) := by decide +kernel
theorem dX1_worstBy_26 : decode cX1_worstBy 26 = .ok (.iadd, 1) := by decide +kernel
theorem dX1_worstBy_27 : decode cX1_worstBy 27 = .ok (.aload_n 0, 1) := by decide +kernel
theorem dX1_worstBy_28 : decode cX1_worstBy 28 = .ok (.getfield 26, 3) := by decide +kernel
theorem dX1_worstBy_31 : decode cX1_worstBy 31 = .ok (.iload_n 1, 1) := by decide +kernel
theorem dX1_worstBy_32 : decode cX1_worstBy 32 = .ok (.iload_n 2, 1) := by decide +kernel
theorem dX1_worstBy_33 : decode cX1_worstBy 33 = .ok (.iload_n 3, 1) := by decide +kernel
theorem dX1_worstBy_34 : decode cX1_worstBy 34 = .ok (.iload 6, 2) := by decide +kernel
theorem dX1_worstBy_36 : decode cX1_worstBy 36 = .ok (.iconst 0, 1) := by decide +kernel
theorem dX1_worstBy_37 : decode cX1_worstBy 37 = .ok (.invokevirtual 76, 3) := by decide +kernel
theorem dX1_worstBy_40 : decode cX1_worstBy 40 = .ok (.invokevirtual 70, 3) := by decide +kernel
theorem dX1_worstBy_43 : decode cX1_worstBy 43 = .ok (.invokestatic 100, 3) := by decide +kernel
theorem dX1_worstBy_46 : decode cX1_worstBy 46 = .ok (.lstore 4, 2) := by decide +kernel
theorem dX1_worstBy_48 : decode cX1_worstBy 48 = .ok (.iinc 6 1, 3) := by decide +kernel
theorem dX1_worstBy_51 : decode cX1_worstBy 51 = .ok (.goto (-43), 3) := by decide +kernel
theorem dX1_worstBy_54 : decode cX1_worstBy 54 = .ok (.lload 4, 2) := by decide +kernel
theorem dX1_worstBy_56 : decode cX1_worstBy 56 = .ok (.lreturn, 1) := by decide +kernel
def w_X1_worstBy (a0 a1 a2 : Int) (X : XT) (Q : Int → Prop) : Prop :=
  ∃ (I3 : Int → Int → Prop) (m4 : Int → Int → Nat), I3 1000000000000 0 ∧ ∀ (x1 : Int) (x2 : Int), I3 x1 x2 → R32 x2 ∧ (4 < x2 → Q x1) ∧ (¬ 4 < x2 → R64 x1 ∧ (x1 ≤ 0 → Q x1) ∧ (¬ x1 ≤ 0 → w_X2_onward  a0 a1 a2 x2 0 X (fun (v16 : Int) => w_X1_chanceOf  (a0 + 1) v16 X (fun (v22 : Int) => R64 v22 ∧ I3 (min x1 v22) (x2 + 1) ∧ m4 (min x1 v22) (x2 + 1) < m4 x1 x2))))
set_option maxRecDepth 20000 in
theorem so_X1_worstBy {n : Nat} {h : Nat → sE} {X : XT} {a0 a1 a2 : Int} {Q : Int → Prop} (hn : 115 ≤ n) (hp : Pic X h) (w : w_X1_worstBy  a0 a1 a2 X Q) : Sp m_X1_worstBy 3 0 0 [.ref 68, .int (iI a0), .int (iI a1), .int (iI a2)] n h (pLr n h Q) := by
  unfold w_X1_worstBy at w
  refine Sp.ofV (by decide +kernel) (Nat.le_of_ble_eq_true rfl) ?_
  have hf : Fr h h := fun _ _ => rfl
  refine v_ldc2I 1000000000000 dX1_worstBy_0 k_X1_50 rfl ?_
  refine v_lstore dX1_worstBy_3 (Nat.le_of_ble_eq_true rfl) ?_
  refine v_iconstI dX1_worstBy_5 ?_
  refine v_istore dX1_worstBy_6 (Nat.le_of_ble_eq_true rfl) ?_
  refine v_pick [2, 3, 4, 5, 1, 0] rfl ?_
  obtain ⟨I3, m4, wi7, wl6⟩ := w
  have hL8 : ∀ (N11 : Nat) (x1 : Int) (x2 : Int), m4 x1 x2 < N11 → I3 x1 x2 → V (m_X1_worstBy, 3, 0, 0, n, pLr n h Q, s_G0) 0 0 n h 8 [(0, .ref 68), (1, .int (iI a0)), (2, .int (iI a1)), (3, .int (iI a2)), (4, .long (jJ x1)), (6, .int (iI x2))] [] := by
    intro N11
    induction N11 with
    | zero => intro x1 x2  hm9; exact absurd hm9 (Nat.not_lt_zero _)
    | succ N11 ih5 =>
      intro x1 x2  hm9 hI10
      have w := wl6 x1 x2 hI10
      refine v_iload dX1_worstBy_8 rfl ?_
      refine v_iconstI dX1_worstBy_10 ?_
      obtain ⟨q12, w⟩ := w
      refine v_icmp_gtI (tgt := 54) dX1_worstBy_11 (by decide) q12.1 q12.2 (by decide) (by decide) (fun c13 => ?_) (fun c13 => ?_)
      · replace w := w.1 c13
        refine v_lload dX1_worstBy_54 rfl ?_
        exact v_lret dX1_worstBy_56 rfl (Nat.zero_le _) (Nat.zero_le _) ⟨rfl, rfl, _, rfl, w⟩
      · replace w := w.2 c13
        refine v_lload dX1_worstBy_14 rfl ?_
        refine v_lconstI (w := 0) dX1_worstBy_16 rfl ?_
        obtain ⟨q14, w⟩ := w
        refine v_lcmp_leI (tgt := 54) dX1_worstBy_17 dX1_worstBy_18 (by decide) q14.1 q14.2 (by decide) (by decide) (fun c15 => ?_) (fun c15 => ?_)
        · replace w := w.1 c15
          refine v_lload dX1_worstBy_54 rfl ?_
          exact v_lret dX1_worstBy_56 rfl (Nat.zero_le _) (Nat.zero_le _) ⟨rfl, rfl, _, rfl, w⟩
        · replace w := w.2 c15
          refine v_lload dX1_worstBy_21 rfl ?_
          refine v_aload_n dX1_worstBy_23 rfl ?_
          refine v_iload_n dX1_worstBy_24 rfl ?_
          refine v_iconstI dX1_worstBy_25 ?_
          refine v_iaddI dX1_worstBy_26 ?_
          refine v_aload_n dX1_worstBy_27 rfl ?_
          refine v_get dX1_worstBy_28 fl_X1_26 ((hp 68 (by decide)).trans (ent_68 _)) rfl (s_lt hn rfl) ?_
          refine v_iload_n dX1_worstBy_31 rfl ?_
          refine v_iload_n dX1_worstBy_32 rfl ?_
          refine v_iload_n dX1_worstBy_33 rfl ?_
          refine v_iload dX1_worstBy_34 rfl ?_
          refine v_iconstI dX1_worstBy_36 ?_
          refine v_callVIr dX1_worstBy_37 ml_X1_76 (so_X2_onward hn hp  w) ((hp 58 (by decide)).trans (ent_58 _)) rfl (s_lt hn rfl) rfl rfl (Nat.le_of_ble_eq_true rfl) (Nat.le_of_ble_eq_true rfl) (Nat.zero_le _) (Nat.zero_le _) (fun v16 w => ?_)
          refine v_callVLr dX1_worstBy_40 ml_X1_70 (so_X1_chanceOf hn hp  w) ((hp 68 (by decide)).trans (ent_68 _)) rfl (s_lt hn rfl) rfl rfl (Nat.le_of_ble_eq_true rfl) (Nat.le_of_ble_eq_true rfl) (Nat.zero_le _) (Nat.zero_le _) (fun v22 w => ?_)
          obtain ⟨q28, w⟩ := w
          refine v_minlI dX1_worstBy_43 ml_X1_100 (Nat.le_of_ble_eq_true rfl) (Nat.le_of_ble_eq_true rfl) (Nat.zero_le _) (Nat.zero_le _) q14.1 q14.2 q28.1 q28.2 ?_
          refine v_lstore dX1_worstBy_46 (Nat.le_of_ble_eq_true rfl) ?_
          refine v_iincI dX1_worstBy_48 rfl (Nat.le_of_ble_eq_true rfl) ?_
          refine v_goto (tgt := 8) dX1_worstBy_51 (by decide) ?_
          refine v_pick [2, 3, 4, 5, 1, 0] rfl ?_
          exact ih5 _ _ (Nat.lt_of_lt_of_le w.2 (Nat.le_of_lt_succ hm9)) w.1
  exact hL8 _ _ _ (Nat.lt_succ_self _) wi7
theorem dX1_chanceBy_0 : decode cX1_chanceBy 0 = .ok (.aload_n 0, 1) := by decide +kernel
theorem dX1_chanceBy_1 : decode cX1_chanceBy 1 = .ok (.iload_n 1, 1) := by decide +kernel
theorem dX1_chanceBy_2 : decode cX1_chanceBy 2 = .ok (.iconst 1, 1) := by decide +kernel
theorem dX1_chanceBy_3 : decode cX1_chanceBy 3 = .ok (.iadd, 1) := by decide +kernel
theorem dX1_chanceBy_4 : decode cX1_chanceBy 4 = .ok (.aload_n 0, 1) := by decide +kernel
theorem dX1_chanceBy_5 : decode cX1_chanceBy 5 = .ok (.getfield 26, 3) := by decide +kernel
theorem dX1_chanceBy_8 : decode cX1_chanceBy 8 = .ok (.iload_n 1, 1) := by decide +kernel
theorem dX1_chanceBy_9 : decode cX1_chanceBy 9 = .ok (.iload_n 2, 1) := by decide +kernel
theorem dX1_chanceBy_10 : decode cX1_chanceBy 10 = .ok (.iload_n 3, 1) := by decide +kernel
theorem dX1_chanceBy_11 : decode cX1_chanceBy 11 = .ok (.iconst 4, 1) := by decide +kernel
theorem dX1_chanceBy_12 : decode cX1_chanceBy 12 = .ok (.iconst 0, 1) := by decide +kernel
theorem dX1_chanceBy_13 : decode cX1_chanceBy 13 = .ok (.invokevirtual 76, 3) := by decide +kernel
theorem dX1_chanceBy_16 : decode cX1_chanceBy 16 = .ok (.invokevirtual 70, 3) := by decide +kernel
theorem dX1_chanceBy_19 : decode cX1_chanceBy 19 = .ok (.lstore 4, 2) := by decide +kernel
theorem dX1_chanceBy_21 : decode cX1_chanceBy 21 = .ok (.aload_n 0, 1) := by decide +kernel
theorem dX1_chanceBy_22 : decode cX1_chanceBy 22 = .ok (.iload_n 1, 1) := by decide +kernel
theorem dX1_chanceBy_23 : decode cX1_chanceBy 23 = .ok (.iconst 1, 1) := by decide +kernel
theorem dX1_chanceBy_24 : decode cX1_chanceBy 24 = .ok (.iadd, 1) := by decide +kernel
theorem dX1_chanceBy_25 : decode cX1_chanceBy 25 = .ok (.aload_n 0, 1) := by decide +kernel
theorem dX1_chanceBy_26 : decode cX1_chanceBy 26 = .ok (.getfield 26, 3) := by decide +kernel
theorem dX1_chanceBy_29 : decode cX1_chanceBy 29 = .ok (.iload_n 1, 1) := by decide +kernel
theorem dX1_chanceBy_30 : decode cX1_chanceBy 30 = .ok (.iload_n 2, 1) := by decide +kernel
theorem dX1_chanceBy_31 : decode cX1_chanceBy 31 = .ok (.iload_n 3, 1) := by decide +kernel
theorem dX1_chanceBy_32 : decode cX1_chanceBy 32 = .ok (.iconst 4, 1) := by decide +kernel
theorem dX1_chanceBy_33 : decode cX1_chanceBy 33 = .ok (.iconst 1, 1) := by decide +kernel
theorem dX1_chanceBy_34 : decode cX1_chanceBy 34 = .ok (.invokevirtual 76, 3) := by decide +kernel
theorem dX1_chanceBy_37 : decode cX1_chanceBy 37 = .ok (.invokevirtual 70, 3) := by decide +kernel
theorem dX1_chanceBy_40 : decode cX1_chanceBy 40 = .ok (.lstore 6, 2) := by decide +kernel
theorem dX1_chanceBy_42 : decode cX1_chanceBy 42 = .ok (.lload 4, 2) := by decide +kernel
theorem dX1_chanceBy_44 : decode cX1_chanceBy 44 = .ok (.ldc2_w 74, 3) := by decide +kernel
theorem dX1_chanceBy_47 : decode cX1_chanceBy 47 = .ok (.ldiv, 1) := by decide +kernel
theorem dX1_chanceBy_48 : decode cX1_chanceBy 48 = .ok (.bipush 10, 2) := by decide +kernel
theorem dX1_chanceBy_50 : decode cX1_chanceBy 50 = .ok (.aload_n 0, 1) := by decide +kernel
theorem dX1_chanceBy_51 : decode cX1_chanceBy 51 = .ok (.getfield 15, 3) := by decide +kernel
theorem dX1_chanceBy_54 : decode cX1_chanceBy 54 = .ok (.isub, 1) := by decide +kernel
theorem dX1_chanceBy_55 : decode cX1_chanceBy 55 = .ok (.i2l, 1) := by decide +kernel
theorem dX1_chanceBy_56 : decode cX1_chanceBy 56 = .ok (.lmul, 1) := by decide +kernel
theorem dX1_chanceBy_57 : decode cX1_chanceBy 57 = .ok (.lload 6, 2) := by decide +kernel
theorem dX1_chanceBy_59 : decode cX1_chanceBy 59 = .ok (.ldc2_w 74, 3) := by decide +kernel
theorem dX1_chanceBy_62 : decode cX1_chanceBy 62 = .ok (.ldiv, 1) := by decide +kernel
theorem dX1_chanceBy_63 : decode cX1_chanceBy 63 = .ok (.aload_n 0, 1) := by decide +kernel
theorem dX1_chanceBy_64 : decode cX1_chanceBy 64 = .ok (.getfield 15, 3) := by decide +kernel
theorem dX1_chanceBy_67 : decode cX1_chanceBy 67 = .ok (.i2l, 1) := by decide +kernel
theorem dX1_chanceBy_68 : decode cX1_chanceBy 68 = .ok (.lmul, 1) := by decide +kernel
theorem dX1_chanceBy_69 : decode cX1_chanceBy 69 = .ok (.ladd, 1) := by decide +kernel
theorem dX1_chanceBy_70 : decode cX1_chanceBy 70 = .ok (.lreturn, 1) := by decide +kernel
def w_X1_chanceBy (a0 a1 a2 : Int) (X : XT) (Q : Int → Prop) : Prop :=
  w_X2_onward  a0 a1 a2 4 0 X (fun (v1 : Int) => w_X1_chanceOf  (a0 + 1) v1 X (fun (v7 : Int) => w_X2_onward  a0 a1 a2 4 1 X (fun (v13 : Int) => w_X1_chanceOf  (a0 + 1) v13 X (fun (v19 : Int) => R64 v7 ∧ (0 ≤ v7) ∧ R32 (10 - (X 68 3)) ∧ R64 v19 ∧ (0 ≤ v19) ∧ R32 (X 68 3) ∧ Q (((v7 / 10) * (10 - (X 68 3))) + ((v19 / 10) * (X 68 3)))))))
set_option maxRecDepth 20000 in
theorem so_X1_chanceBy {n : Nat} {h : Nat → sE} {X : XT} {a0 a1 a2 : Int} {Q : Int → Prop} (hn : 115 ≤ n) (hp : Pic X h) (w : w_X1_chanceBy  a0 a1 a2 X Q) : Sp m_X1_chanceBy 3 0 0 [.ref 68, .int (iI a0), .int (iI a1), .int (iI a2)] n h (pLr n h Q) := by
  unfold w_X1_chanceBy at w
  refine Sp.ofV (by decide +kernel) (Nat.le_of_ble_eq_true rfl) ?_
  have hf : Fr h h := fun _ _ => rfl
  refine v_aload_n dX1_chanceBy_0 rfl ?_
  refine v_iload_n dX1_chanceBy_1 rfl ?_
  refine v_iconstI dX1_chanceBy_2 ?_
  refine v_iaddI dX1_chanceBy_3 ?_
  refine v_aload_n dX1_chanceBy_4 rfl ?_
  refine v_get dX1_chanceBy_5 fl_X1_26 ((hp 68 (by decide)).trans (ent_68 _)) rfl (s_lt hn rfl) ?_
  refine v_iload_n dX1_chanceBy_8 rfl ?_
  refine v_iload_n dX1_chanceBy_9 rfl ?_
  refine v_iload_n dX1_chanceBy_10 rfl ?_
  refine v_iconstI dX1_chanceBy_11 ?_
  refine v_iconstI dX1_chanceBy_12 ?_
  refine v_callVIr dX1_chanceBy_13 ml_X1_76 (so_X2_onward hn hp  w) ((hp 58 (by decide)).trans (ent_58 _)) rfl (s_lt hn rfl) rfl rfl (Nat.le_of_ble_eq_true rfl) (Nat.le_of_ble_eq_true rfl) (Nat.zero_le _) (Nat.zero_le _) (fun v1 w => ?_)
  refine v_callVLr dX1_chanceBy_16 ml_X1_70 (so_X1_chanceOf hn hp  w) ((hp 68 (by decide)).trans (ent_68 _)) rfl (s_lt hn rfl) rfl rfl (Nat.le_of_ble_eq_true rfl) (Nat.le_of_ble_eq_true rfl) (Nat.zero_le _) (Nat.zero_le _) (fun v7 w => ?_)
  refine v_lstore dX1_chanceBy_19 (Nat.le_of_ble_eq_true rfl) ?_
  refine v_aload_n dX1_chanceBy_21 rfl ?_
  refine v_iload_n dX1_chanceBy_22 rfl ?_
  refine v_iconstI dX1_chanceBy_23 ?_
  refine v_iaddI dX1_chanceBy_24 ?_
  refine v_aload_n dX1_chanceBy_25 rfl ?_
  refine v_get dX1_chanceBy_26 fl_X1_26 ((hp 68 (by decide)).trans (ent_68 _)) rfl (s_lt hn rfl) ?_
  refine v_iload_n dX1_chanceBy_29 rfl ?_
  refine v_iload_n dX1_chanceBy_30 rfl ?_
  refine v_iload_n dX1_chanceBy_31 rfl ?_
  refine v_iconstI dX1_chanceBy_32 ?_
  refine v_iconstI dX1_chanceBy_33 ?_
  refine v_callVIr dX1_chanceBy_34 ml_X1_76 (so_X2_onward hn hp  w) ((hp 58 (by decide)).trans (ent_58 _)) rfl (s_lt hn rfl) rfl rfl (Nat.le_of_ble_eq_true rfl) (Nat.le_of_ble_eq_true rfl) (Nat.zero_le _) (Nat.zero_le _) (fun v13 w => ?_)
  refine v_callVLr dX1_chanceBy_37 ml_X1_70 (so_X1_chanceOf hn hp  w) ((hp 68 (by decide)).trans (ent_68 _)) rfl (s_lt hn rfl) rfl rfl (Nat.le_of_ble_eq_true rfl) (Nat.le_of_ble_eq_true rfl) (Nat.zero_le _) (Nat.zero_le _) (fun v19 w => ?_)
  refine v_lstore dX1_chanceBy_40 (Nat.le_of_ble_eq_true rfl) ?_
  refine v_lload dX1_chanceBy_42 rfl ?_
  refine v_ldc2I 10 dX1_chanceBy_44 k_X1_74 rfl ?_
  obtain ⟨q25, q26, w⟩ := w
  refine v_ldivI dX1_chanceBy_47 q26 q25.2 (by decide) (by decide) ?_
  refine v_bipushI dX1_chanceBy_48 rfl ?_
  refine v_aload_n dX1_chanceBy_50 rfl ?_
  refine v_get dX1_chanceBy_51 fl_X1_15 ((hp 68 (by decide)).trans (ent_68 _)) rfl (s_lt hn rfl) ?_
  refine v_isubI dX1_chanceBy_54 ?_
  obtain ⟨q27, w⟩ := w
  refine v_i2lI dX1_chanceBy_55 q27.1 q27.2 ?_
  refine v_lmulI dX1_chanceBy_56 ?_
  refine v_lload dX1_chanceBy_57 rfl ?_
  refine v_ldc2I 10 dX1_chanceBy_59 k_X1_74 rfl ?_
  obtain ⟨q28, q29, w⟩ := w
  refine v_ldivI dX1_chanceBy_62 q29 q28.2 (by decide) (by decide) ?_
  refine v_aload_n dX1_chanceBy_63 rfl ?_
  refine v_get dX1_chanceBy_64 fl_X1_15 ((hp 68 (by decide)).trans (ent_68 _)) rfl (s_lt hn rfl) ?_
  obtain ⟨q30, w⟩ := w
  refine v_i2lI dX1_chanceBy_67 q30.1 q30.2 ?_
  refine v_lmulI dX1_chanceBy_68 ?_
  refine v_laddI dX1_chanceBy_69 ?_
  exact v_lret dX1_chanceBy_70 rfl (Nat.zero_le _) (Nat.zero_le _) ⟨rfl, rfl, _, rfl, w⟩
theorem dX1_bestOf_0 : decode cX1_bestOf 0 = .ok (.ldc2_w 91, 3) := by decide +kernel
theorem dX1_bestOf_3 : decode cX1_bestOf 3 = .ok (.lstore 4, 2) := by decide +kernel
theorem dX1_bestOf_5 : decode cX1_bestOf 5 = .ok (.iconst 0, 1) := by decide +kernel
theorem dX1_bestOf_6 : decode cX1_bestOf 6 = .ok (.istore 6, 2) := by decide +kernel
theorem dX1_bestOf_8 : decode cX1_bestOf 8 = .ok (.iload 6, 2) := by decide +kernel
theorem dX1_bestOf_10 : decode cX1_bestOf 10 = .ok (.iconst 4, 1) := by decide +kernel
theorem dX1_bestOf_11 : decode cX1_bestOf 11 = .ok (.if_icmp .gt 61, 3) := by decide +kernel
theorem dX1_bestOf_14 : decode cX1_bestOf 14 = .ok (.lload 4, 2) := by decide +kernel
theorem dX1_bestOf_16 : decode cX1_bestOf 16 = .ok (.ldc2_w 50, 3) := by decide +kernel
theorem dX1_bestOf_19 : decode cX1_bestOf 19 = .ok (.lcmp, 1) := by decide +kernel
theorem dX1_bestOf_20 : decode cX1_bestOf 20 = .ok (.ifCond .ge 52, 3) := by decide +kernel
theorem dX1_bestOf_23 : decode cX1_bestOf 23 = .ok (.iload_n 3, 1) := by decide +kernel
theorem dX1_bestOf_24 : decode cX1_bestOf 24 = .ok (.ifCond .eq 14, 3) := by decide +kernel
theorem dX1_bestOf_27 : decode cX1_bestOf 27 = .ok (.aload_n 0, 1) := by decide +kernel
theorem dX1_bestOf_28 : decode cX1_bestOf 28 = .ok (.iload_n 1, 1) := by decide +kernel
theorem dX1_bestOf_29 : decode cX1_bestOf 29 = .ok (.iload_n 2, 1) := by decide +kernel
theorem dX1_bestOf_30 : decode cX1_bestOf 30 = .ok (.iload 6, 2) := by decide +kernel
theorem dX1_bestOf_32 : decode cX1_bestOf 32 = .ok (.invokevirtual 93, 3) := by decide +kernel
theorem dX1_bestOf_35 : decode cX1_bestOf 35 = .ok (.goto 11, 3) := by decide +kernel
theorem dX1_bestOf_38 : decode cX1_bestOf 38 = .ok (.aload_n 0, 1) := by decide +kernel
theorem dX1_bestOf_39 : decode cX1_bestOf 39 = .ok (.iload_n 1, 1) := by decide +kernel
theorem dX1_bestOf_40 : decode cX1_bestOf 40 = .ok (.iload_n 2, 1) := by decide +kernel
theorem dX1_bestOf_41 : decode cX1_bestOf 41 = .ok (.iload 6, 2) := by decide +kernel
theorem dX1_bestOf_43 : decode cX1_bestOf 43 = .ok (.invokevirtual 97, 3) := by decide +kernel
theorem dX1_bestOf_46 : decode cX1_bestOf 46 = .ok (.lstore 7, 2) := by decide +kernel
theorem dX1_bestOf_48 : decode cX1_bestOf 48 = .ok (.lload 7, 2) := by decide +kernel
theorem dX1_bestOf_50 : decode cX1_bestOf 50 = .ok (.lload 4, 2) := by decide +kernel
theorem dX1_bestOf_52 : decode cX1_bestOf 52 = .ok (.lcmp, 1) := by decide +kernel
theorem dX1_bestOf_53 : decode cX1_bestOf 53 = .ok (.ifCond .le 13, 3) := by decide +kernel
theorem dX1_bestOf_56 : decode cX1_bestOf 56 = .ok (.lload 7, 2) := by decide +kernel
theorem dX1_bestOf_58 : decode cX1_bestOf 58 = .ok (.lstore 4, 2) := by decide +kernel
theorem dX1_bestOf_60 : decode cX1_bestOf 60 = .ok (.aload_n 0, 1) := by decide +kernel
theorem dX1_bestOf_61 : decode cX1_bestOf 61 = .ok (.iload 6, 2) := by decide +kernel
theorem dX1_bestOf_63 : decode cX1_bestOf 63 = .ok (.putfield 19, 3) := by decide +kernel
theorem dX1_bestOf_66 : decode cX1_bestOf 66 = .ok (.iinc 6 1, 3) := by decide +kernel
theorem dX1_bestOf_69 : decode cX1_bestOf 69 = .ok (.goto (-61), 3) := by decide +kernel
theorem dX1_bestOf_72 : decode cX1_bestOf 72 = .ok (.lload 4, 2) := by decide +kernel
theorem dX1_bestOf_74 : decode cX1_bestOf 74 = .ok (.lreturn, 1) := by decide +kernel
def w_X1_bestOf (a0 a1 a2 : Int) (X : XT) (Q : Int → XT → Prop) : Prop :=
  ∃ (I4 : Int → Int → XT → Prop) (m5 : Int → Int → XT → Nat), I4 (-1) 0 X ∧ ∀ (x1 : Int) (x2 : Int) (X3 : XT), I4 x1 x2 X3 → R32 x2 ∧ (4 < x2 → Q x1 X3) ∧ (¬ 4 < x2 → R64 x1 ∧ (1000000000000 ≤ x1 → Q x1 X3) ∧ (¬ 1000000000000 ≤ x1 → ∀ J21 : Int → Prop, (∀ (v20 : Int), (R64 v20 ∧ (v20 ≤ x1 → I4 x1 (x2 + 1) X3 ∧ m5 x1 (x2 + 1) X3 < m5 x1 x2 X3) ∧ (¬ v20 ≤ x1 → I4 v20 (x2 + 1) (x_st X3 68 4 x2) ∧ m5 v20 (x2 + 1) (x_st X3 68 4 x2) < m5 x1 x2 X3)) → J21 v20) → R32 a2 ∧ (a2 = 0 → w_X1_chanceBy  a0 a1 x2 X3 (fun (v31 : Int) => J21 v31)) ∧ (¬ a2 = 0 → w_X1_worstBy  a0 a1 x2 X3 (fun (v37 : Int) => J21 v37))))
set_option maxRecDepth 20000 in
theorem so_X1_bestOf {n : Nat} {h : Nat → sE} {X : XT} {a0 a1 a2 : Int} {Q : Int → XT → Prop} (hn : 115 ≤ n) (hp : Pic X h) (w : w_X1_bestOf  a0 a1 a2 X Q) : Sp m_X1_bestOf 4 0 0 [.ref 68, .int (iI a0), .int (iI a1), .int (iI a2)] n h (pLw n h Q) := by
  unfold w_X1_bestOf at w
  refine Sp.ofV (by decide +kernel) (Nat.le_of_ble_eq_true rfl) ?_
  have hf : Fr h h := fun _ _ => rfl
  refine v_ldc2I (-1) dX1_bestOf_0 k_X1_91 rfl ?_
  refine v_lstore dX1_bestOf_3 (Nat.le_of_ble_eq_true rfl) ?_
  refine v_iconstI dX1_bestOf_5 ?_
  refine v_istore dX1_bestOf_6 (Nat.le_of_ble_eq_true rfl) ?_
  refine v_pick [2, 3, 4, 5, 1, 0] rfl ?_
  obtain ⟨I4, m5, wi8, wl7⟩ := w
  have hL9 : ∀ (N12 : Nat) (x1 : Int) (x2 : Int) (X3 : XT) (h13 : Nat → sE), m5 x1 x2 X3 < N12 → I4 x1 x2 X3 → Pic X3 h13 → Fr h h13 → V (m_X1_bestOf, 4, 0, 0, n, pLw n h Q, s_G0) 0 0 n h13 8 [(0, .ref 68), (1, .int (iI a0)), (2, .int (iI a1)), (3, .int (iI a2)), (4, .long (jJ x1)), (6, .int (iI x2))] [] := by
    intro N12
    induction N12 with
    | zero => intro x1 x2 X3 h13 hm10; exact absurd hm10 (Nat.not_lt_zero _)
    | succ N12 ih6 =>
      intro x1 x2 X3 h13 hm10 hI11 hp14 hf15
      have w := wl7 x1 x2 X3 hI11
      refine v_iload dX1_bestOf_8 rfl ?_
      refine v_iconstI dX1_bestOf_10 ?_
      obtain ⟨q16, w⟩ := w
      refine v_icmp_gtI (tgt := 72) dX1_bestOf_11 (by decide) q16.1 q16.2 (by decide) (by decide) (fun c17 => ?_) (fun c17 => ?_)
      · replace w := w.1 c17
        refine v_lload dX1_bestOf_72 rfl ?_
        exact v_lret dX1_bestOf_74 rfl (Nat.zero_le _) (Nat.zero_le _) ⟨rfl, hf15, _, _, rfl, hp14, w⟩
      · replace w := w.2 c17
        refine v_lload dX1_bestOf_14 rfl ?_
        refine v_ldc2I 1000000000000 dX1_bestOf_16 k_X1_50 rfl ?_
        obtain ⟨q18, w⟩ := w
        refine v_lcmp_geI (tgt := 72) dX1_bestOf_19 dX1_bestOf_20 (by decide) q18.1 q18.2 (by decide) (by decide) (fun c19 => ?_) (fun c19 => ?_)
        · replace w := w.1 c19
          refine v_lload dX1_bestOf_72 rfl ?_
          exact v_lret dX1_bestOf_74 rfl (Nat.zero_le _) (Nat.zero_le _) ⟨rfl, hf15, _, _, rfl, hp14, w⟩
        · replace w := w.2 c19
          refine v_iload_n dX1_bestOf_23 rfl ?_
          replace w := w (fun (v20 : Int) => V (m_X1_bestOf, 4, 0, 0, n, pLw n h Q, s_G0) 0 0 n h13 46 [(0, .ref 68), (1, .int (iI a0)), (2, .int (iI a1)), (3, .int (iI a2)), (4, .long (jJ x1)), (6, .int (iI x2))] [.long (jJ v20)]) (by
            intro v20 w
            refine v_lstore dX1_bestOf_46 (Nat.le_of_ble_eq_true rfl) ?_
            refine v_lload dX1_bestOf_48 rfl ?_
            refine v_lload dX1_bestOf_50 rfl ?_
            obtain ⟨q22, w⟩ := w
            refine v_lcmp_leI (tgt := 66) dX1_bestOf_52 dX1_bestOf_53 (by decide) q22.1 q22.2 q18.1 q18.2 (fun c23 => ?_) (fun c23 => ?_)
            · replace w := w.1 c23
              refine v_iincI dX1_bestOf_66 rfl (Nat.le_of_ble_eq_true rfl) ?_
              refine v_goto (tgt := 8) dX1_bestOf_69 (by decide) ?_
              refine v_pick [2, 3, 4, 5, 6, 0] rfl ?_
              exact ih6 _ _ _ _ (Nat.lt_of_lt_of_le w.2 (Nat.le_of_lt_succ hm10)) w.1 hp14 hf15
            · replace w := w.2 c23
              refine v_lload dX1_bestOf_56 rfl ?_
              refine v_lstore dX1_bestOf_58 (Nat.le_of_ble_eq_true rfl) ?_
              refine v_aload_n dX1_bestOf_60 rfl ?_
              refine v_iload dX1_bestOf_61 rfl ?_
              refine v_put dX1_bestOf_63 fl_X1_19 ((hp14 68 (by decide)).trans (ent_68 _)) (s_lt hn rfl) (Nat.le_of_ble_eq_true rfl) (fun _ => ⟨rfl, rfl⟩) trivial (fun h24 E25 F26 => ?_)
              have hp27 := pic_st hp14 (show h24 68 = ent 68 (uI _ 4 x2) from E25) F26
              have hf28 := Fr.up (c := 68) hf15 F26 rfl
              refine v_iincI dX1_bestOf_66 rfl (Nat.le_of_ble_eq_true rfl) ?_
              refine v_goto (tgt := 8) dX1_bestOf_69 (by decide) ?_
              refine v_pick [3, 4, 5, 6, 1, 0] rfl ?_
              exact ih6 _ _ _ _ (Nat.lt_of_lt_of_le w.2 (Nat.le_of_lt_succ hm10)) w.1 hp27 hf28
          )
          obtain ⟨q29, w⟩ := w
          refine v_if_eqI (tgt := 38) dX1_bestOf_24 (by decide) q29.1 q29.2 (fun c30 => ?_) (fun c30 => ?_)
          · replace w := w.1 c30
            refine v_aload_n dX1_bestOf_38 rfl ?_
            refine v_iload_n dX1_bestOf_39 rfl ?_
            refine v_iload_n dX1_bestOf_40 rfl ?_
            refine v_iload dX1_bestOf_41 rfl ?_
            refine v_callVLr dX1_bestOf_43 ml_X1_97 (so_X1_chanceBy hn hp14  w) ((hp14 68 (by decide)).trans (ent_68 _)) rfl (s_lt hn rfl) rfl rfl (Nat.le_of_ble_eq_true rfl) (Nat.le_of_ble_eq_true rfl) (Nat.zero_le _) (Nat.zero_le _) (fun v31 w => ?_)
            exact w
          · replace w := w.2 c30
            refine v_aload_n dX1_bestOf_27 rfl ?_
            refine v_iload_n dX1_bestOf_28 rfl ?_
            refine v_iload_n dX1_bestOf_29 rfl ?_
            refine v_iload dX1_bestOf_30 rfl ?_
            refine v_callVLr dX1_bestOf_32 ml_X1_93 (so_X1_worstBy hn hp14  w) ((hp14 68 (by decide)).trans (ent_68 _)) rfl (s_lt hn rfl) rfl rfl (Nat.le_of_ble_eq_true rfl) (Nat.le_of_ble_eq_true rfl) (Nat.zero_le _) (Nat.zero_le _) (fun v37 w => ?_)
            refine v_goto (tgt := 46) dX1_bestOf_35 (by decide) ?_
            exact w
  exact hL9 _ _ _ _ _ (Nat.lt_succ_self _) wi8 hp hf
theorem dX1_reckonBack_0 : decode cX1_reckonBack 0 = .ok (.aload_n 0, 1) := by decide +kernel
theorem dX1_reckonBack_1 : decode cX1_reckonBack 1 = .ok (.aload_n 0, 1) := by decide +kernel
theorem dX1_reckonBack_2 : decode cX1_reckonBack 2 = .ok (.getfield 22, 3) := by decide +kernel
theorem dX1_reckonBack_5 : decode cX1_reckonBack 5 = .ok (.getfield 36, 3) := by decide +kernel
theorem dX1_reckonBack_8 : decode cX1_reckonBack 8 = .ok (.iconst 1, 1) := by decide +kernel
theorem dX1_reckonBack_9 : decode cX1_reckonBack 9 = .ok (.iaload, 1) := by decide +kernel
theorem dX1_reckonBack_10 : decode cX1_reckonBack 10 = .ok (.putfield 15, 3) := by decide +kernel
theorem dX1_reckonBack_13 : decode cX1_reckonBack 13 = .ok (.iconst 0, 1) := by decide +kernel
theorem dX1_reckonBack_14 : decode cX1_reckonBack 14 = .ok (.istore 5, 2) := by decide +kernel
theorem dX1_reckonBack_16 : decode cX1_reckonBack 16 = .ok (.iload 5, 2) := by decide +kernel
theorem dX1_reckonBack_18 : decode cX1_reckonBack 18 = .ok (.sipush 577, 3) := by decide +kernel
theorem dX1_reckonBack_21 : decode cX1_reckonBack 21 = .ok (.if_icmp .ge 36, 3) := by decide +kernel
theorem dX1_reckonBack_24 : decode cX1_reckonBack 24 = .ok (.aload_n 0, 1) := by decide +kernel
theorem dX1_reckonBack_25 : decode cX1_reckonBack 25 = .ok (.iload_n 2, 1) := by decide +kernel
theorem dX1_reckonBack_26 : decode cX1_reckonBack 26 = .ok (.iload 5, 2) := by decide +kernel
theorem dX1_reckonBack_28 : decode cX1_reckonBack 28 = .ok (.aload_n 0, 1) := by decide +kernel
theorem dX1_reckonBack_29 : decode cX1_reckonBack 29 = .ok (.getfield 26, 3) := by decide +kernel
theorem dX1_reckonBack_32 : decode cX1_reckonBack 32 = .ok (.iload 5, 2) := by decide +kernel
theorem dX1_reckonBack_34 : decode cX1_reckonBack 34 = .ok (.iload_n 1, 1) := by decide +kernel
theorem dX1_reckonBack_35 : decode cX1_reckonBack 35 = .ok (.invokevirtual 66, 3) := by decide +kernel
theorem dX1_reckonBack_38 : decode cX1_reckonBack 38 = .ok (.ifCond .eq 9, 3) := by decide +kernel
theorem dX1_reckonBack_41 : decode cX1_reckonBack 41 = .ok (.ldc2_w 50, 3) := by decide +kernel
theorem dX1_reckonBack_44 : decode cX1_reckonBack 44 = .ok (.goto 4, 3) := by decide +kernel
theorem dX1_reckonBack_47 : decode cX1_reckonBack 47 = .ok (.lconst 0, 1) := by decide +kernel
theorem dX1_reckonBack_48 : decode cX1_reckonBack 48 = .ok (.invokevirtual 52, 3) := by decide +kernel
theorem dX1_reckonBack_51 : decode cX1_reckonBack 51 = .ok (.iinc 5 1, 3) := by decide +kernel
theorem dX1_reckonBack_54 : decode cX1_reckonBack 54 = .ok (.goto (-38), 3) := by decide +kernel
theorem dX1_reckonBack_57 : decode cX1_reckonBack 57 = .ok (.iload_n 2, 1) := by decide +kernel
theorem dX1_reckonBack_58 : decode cX1_reckonBack 58 = .ok (.iconst 1, 1) := by decide +kernel
theorem dX1_reckonBack_59 : decode cX1_reckonBack 59 = .ok (.isub, 1) := by decide +kernel
theorem dX1_reckonBack_60 : decode cX1_reckonBack 60 = .ok (.istore 5, 2) := by decide +kernel
theorem dX1_reckonBack_62 : decode cX1_reckonBack 62 = .ok (.iload 5, 2) := by decide +kernel
theorem dX1_reckonBack_64 : decode cX1_reckonBack 64 = .ok (.iload_n 3, 1) := by decide +kernel
theorem dX1_reckonBack_65 : decode cX1_reckonBack 65 = .ok (.if_icmp .lt 58, 3) := by decide +kernel
theorem dX1_reckonBack_68 : decode cX1_reckonBack 68 = .ok (.iconst 0, 1) := by decide +kernel
theorem dX1_reckonBack_69 : decode cX1_reckonBack 69 = .ok (.istore 6, 2) := by decide +kernel
theorem dX1_reckonBack_71 : decode cX1_reckonBack 71 = .ok (.iload 6, 2) := by decide +kernel
theorem dX1_reckonBack_73 : decode cX1_reckonBack 73 = .ok (.sipush 577, 3) := by decide +kernel
theorem dX1_reckonBack_76 : decode cX1_reckonBack 76 = .ok (.if_icmp .ge 41, 3) := by decide +kernel
theorem dX1_reckonBack_79 : decode cX1_reckonBack 79 = .ok (.aload_n 0, 1) := by decide +kernel
theorem dX1_reckonBack_80 : decode cX1_reckonBack 80 = .ok (.getfield 26, 3) := by decide +kernel
theorem dX1_reckonBack_83 : decode cX1_reckonBack 83 = .ok (.iload 5, 2) := by decide +kernel
theorem dX1_reckonBack_85 : decode cX1_reckonBack 85 = .ok (.iload 6, 2) := by decide +kernel
theorem dX1_reckonBack_87 : decode cX1_reckonBack 87 = .ok (.invokevirtual 84, 3) := by decide +kernel
theorem dX1_reckonBack_90 : decode cX1_reckonBack 90 = .ok (.ifCond .eq 21, 3) := by decide +kernel
theorem dX1_reckonBack_93 : decode cX1_reckonBack 93 = .ok (.aload_n 0, 1) := by decide +kernel
theorem dX1_reckonBack_94 : decode cX1_reckonBack 94 = .ok (.iload 5, 2) := by decide +kernel
theorem dX1_reckonBack_96 : decode cX1_reckonBack 96 = .ok (.iload 6, 2) := by decide +kernel
theorem dX1_reckonBack_98 : decode cX1_reckonBack 98 = .ok (.aload_n 0, 1) := by decide +kernel
theorem dX1_reckonBack_99 : decode cX1_reckonBack 99 = .ok (.iload 5, 2) := by decide +kernel
theorem dX1_reckonBack_101 : decode cX1_reckonBack 101 = .ok (.iload 6, 2) := by decide +kernel
theorem dX1_reckonBack_103 : decode cX1_reckonBack 103 = .ok (.iload 4, 2) := by decide +kernel
theorem dX1_reckonBack_105 : decode cX1_reckonBack 105 = .ok (.invokevirtual 87, 3) := by decide +kernel
theorem dX1_reckonBack_108 : decode cX1_reckonBack 108 = .ok (.invokevirtual 52, 3) := by decide +kernel
theorem dX1_reckonBack_111 : decode cX1_reckonBack 111 = .ok (.iinc 6 1, 3) := by decide +kernel
theorem dX1_reckonBack_114 : decode cX1_reckonBack 114 = .ok (.goto (-43), 3) := by decide +kernel
theorem dX1_reckonBack_117 : decode cX1_reckonBack 117 = .ok (.iinc 5 (-1), 3) := by decide +kernel
theorem dX1_reckonBack_120 : decode cX1_reckonBack 120 = .ok (.goto (-58), 3) := by decide +kernel
theorem dX1_reckonBack_123 : decode cX1_reckonBack 123 = .ok (.return_, 1) := by decide +kernel
def w_X1_reckonBack (a0 a1 a2 a3 : Int) (X : XT) (Q : XT → Prop) : Prop :=
  ∃ (I8 : Int → XT → Prop) (m9 : Int → XT → Nat), I8 0 (x_st X 68 3 (X 9 1)) ∧ ∀ (x6 : Int) (X7 : XT), I8 x6 X7 → R32 x6 ∧ (577 ≤ x6 → ∃ (I24 : Int → XT → Prop) (m25 : Int → XT → Nat), I24 (a1 - 1) X7 ∧ ∀ (x22 : Int) (X23 : XT), I24 x22 X23 → R32 x22 ∧ R32 a2 ∧ (x22 < a2 → Q X23) ∧ (¬ x22 < a2 → ∃ (I41 : Int → XT → Prop) (m42 : Int → XT → Nat), I41 0 X23 ∧ ∀ (x39 : Int) (X40 : XT), I41 x39 X40 → R32 x39 ∧ (577 ≤ x39 → I24 (x22 + (-1)) X40 ∧ m25 (x22 + (-1)) X40 < m25 x22 X23) ∧ (¬ 577 ≤ x39 → w_X2_isReached  x22 x39 X40 (fun (v55 : Int) => R32 v55 ∧ (v55 = 0 → I41 (x39 + 1) X40 ∧ m42 (x39 + 1) X40 < m42 x39 X40) ∧ (¬ v55 = 0 → w_X1_bestOf  x22 x39 a3 X40 (fun (v63 : Int) (X64 : XT) => w_X1_setChance  x22 x39 v63 X64 (fun (X70 : XT) => I41 (x39 + 1) X70 ∧ m42 (x39 + 1) X70 < m42 x39 X40))))))) ∧ (¬ 577 ≤ x6 → w_X2_shades  x6 a0 X7 (fun (v75 : Int) => R32 v75 ∧ (v75 = 0 → w_X1_setChance  a1 x6 0 X7 (fun (X84 : XT) => I8 (x6 + 1) X84 ∧ m9 (x6 + 1) X84 < m9 x6 X7)) ∧ (¬ v75 = 0 → w_X1_setChance  a1 x6 1000000000000 X7 (fun (X90 : XT) => I8 (x6 + 1) X90 ∧ m9 (x6 + 1) X90 < m9 x6 X7))))
set_option maxRecDepth 20000 in
theorem so_X1_reckonBack {n : Nat} {h : Nat → sE} {X : XT} {a0 a1 a2 a3 : Int} {Q : XT → Prop} (hn : 115 ≤ n) (hp : Pic X h) (w : w_X1_reckonBack  a0 a1 a2 a3 X Q) : Sp m_X1_reckonBack 5 0 0 [.ref 68, .int (iI a0), .int (iI a1), .int (iI a2), .int (iI a3)] n h (pVw n h Q) := by
  unfold w_X1_reckonBack at w
  refine Sp.ofV (by decide +kernel) (Nat.le_of_ble_eq_true rfl) ?_
  have hf : Fr h h := fun _ _ => rfl
  refine v_aload_n dX1_reckonBack_0 rfl ?_
  refine v_aload_n dX1_reckonBack_1 rfl ?_
  refine v_get dX1_reckonBack_2 fl_X1_22 ((hp 68 (by decide)).trans (ent_68 _)) rfl (s_lt hn rfl) ?_
  refine v_get dX1_reckonBack_5 fl_X1_36 ((hp 1 (by decide)).trans (ent_1 _)) rfl (s_lt hn rfl) ?_
  refine v_iconstI dX1_reckonBack_8 ?_
  refine v_ialdI dX1_reckonBack_9 ((hp 9 (by decide)).trans (ent_9 _)) (s_lt hn rfl) (by decide) (by decide) (by decide) ?_
  refine v_put dX1_reckonBack_10 fl_X1_15 ((hp 68 (by decide)).trans (ent_68 _)) (s_lt hn rfl) (Nat.le_of_ble_eq_true rfl) (fun _ => ⟨rfl, rfl⟩) trivial (fun h1 E2 F3 => ?_)
  have hp4 := pic_st hp (show h1 68 = ent 68 (uI _ 3 (X 9 1)) from E2) F3
  have hf5 := Fr.up (c := 68) hf F3 rfl
  refine v_iconstI dX1_reckonBack_13 ?_
  refine v_istore dX1_reckonBack_14 (Nat.le_of_ble_eq_true rfl) ?_
  refine v_pick [1, 2, 3, 4, 5, 0] rfl ?_
  obtain ⟨I8, m9, wi12, wl11⟩ := w
  have hL13 : ∀ (N16 : Nat) (x6 : Int) (X7 : XT) (h17 : Nat → sE), m9 x6 X7 < N16 → I8 x6 X7 → Pic X7 h17 → Fr h h17 → V (m_X1_reckonBack, 5, 0, 0, n, pVw n h Q, s_G0) 0 0 n h17 16 [(0, .ref 68), (1, .int (iI a0)), (2, .int (iI a1)), (3, .int (iI a2)), (4, .int (iI a3)), (5, .int (iI x6))] [] := by
    intro N16
    induction N16 with
    | zero => intro x6 X7 h17 hm14; exact absurd hm14 (Nat.not_lt_zero _)
    | succ N16 ih10 =>
      intro x6 X7 h17 hm14 hI15 hp18 hf19
      have w := wl11 x6 X7 hI15
      refine v_iload dX1_reckonBack_16 rfl ?_
      refine v_sipushI dX1_reckonBack_18 rfl ?_
      obtain ⟨q20, w⟩ := w
      refine v_icmp_geI (tgt := 57) dX1_reckonBack_21 (by decide) q20.1 q20.2 (by decide) (by decide) (fun c21 => ?_) (fun c21 => ?_)
      · replace w := w.1 c21
        refine v_iload_n dX1_reckonBack_57 rfl ?_
        refine v_iconstI dX1_reckonBack_58 ?_
        refine v_isubI dX1_reckonBack_59 ?_
        refine v_istore dX1_reckonBack_60 (Nat.le_of_ble_eq_true rfl) ?_
        refine v_pick [1, 4, 5, 0] rfl ?_
        obtain ⟨I24, m25, wi28, wl27⟩ := w
        have hL29 : ∀ (N32 : Nat) (x22 : Int) (X23 : XT) (h33 : Nat → sE), m25 x22 X23 < N32 → I24 x22 X23 → Pic X23 h33 → Fr h h33 → V (m_X1_reckonBack, 5, 0, 0, n, pVw n h Q, s_G0) 0 0 n h33 62 [(0, .ref 68), (3, .int (iI a2)), (4, .int (iI a3)), (5, .int (iI x22))] [] := by
          intro N32
          induction N32 with
          | zero => intro x22 X23 h33 hm30; exact absurd hm30 (Nat.not_lt_zero _)
          | succ N32 ih26 =>
            intro x22 X23 h33 hm30 hI31 hp34 hf35
            have w := wl27 x22 X23 hI31
            refine v_iload dX1_reckonBack_62 rfl ?_
            refine v_iload_n dX1_reckonBack_64 rfl ?_
            obtain ⟨q36, q37, w⟩ := w
            refine v_icmp_ltI (tgt := 123) dX1_reckonBack_65 (by decide) q36.1 q36.2 q37.1 q37.2 (fun c38 => ?_) (fun c38 => ?_)
            · replace w := w.1 c38
              exact v_vret dX1_reckonBack_123 rfl (Nat.zero_le _) (Nat.zero_le _) ⟨rfl, hf35, _, rfl, hp34, w⟩
            · replace w := w.2 c38
              refine v_iconstI dX1_reckonBack_68 ?_
              refine v_istore dX1_reckonBack_69 (Nat.le_of_ble_eq_true rfl) ?_
              refine v_pick [1, 2, 3, 4, 0] rfl ?_
              obtain ⟨I41, m42, wi45, wl44⟩ := w
              have hL46 : ∀ (N49 : Nat) (x39 : Int) (X40 : XT) (h50 : Nat → sE), m42 x39 X40 < N49 → I41 x39 X40 → Pic X40 h50 → Fr h h50 → V (m_X1_reckonBack, 5, 0, 0, n, pVw n h Q, s_G0) 0 0 n h50 71 [(0, .ref 68), (3, .int (iI a2)), (4, .int (iI a3)), (5, .int (iI x22)), (6, .int (iI x39))] [] := by
                intro N49
                induction N49 with
                | zero => intro x39 X40 h50 hm47; exact absurd hm47 (Nat.not_lt_zero _)
                | succ N49 ih43 =>
                  intro x39 X40 h50 hm47 hI48 hp51 hf52
                  have w := wl44 x39 X40 hI48
                  refine v_iload dX1_reckonBack_71 rfl ?_
                  refine v_sipushI dX1_reckonBack_73 rfl ?_
                  obtain ⟨q53, w⟩ := w
                  refine v_icmp_geI (tgt := 117) dX1_reckonBack_76 (by decide) q53.1 q53.2 (by decide) (by decide) (fun c54 => ?_) (fun c54 => ?_)
                  · replace w := w.1 c54
                    refine v_iincI dX1_reckonBack_117 rfl (Nat.le_of_ble_eq_true rfl) ?_
                    refine v_goto (tgt := 62) dX1_reckonBack_120 (by decide) ?_
                    refine v_pick [1, 2, 3, 0] rfl ?_
                    exact ih26 _ _ _ (Nat.lt_of_lt_of_le w.2 (Nat.le_of_lt_succ hm30)) w.1 hp51 hf52
                  · replace w := w.2 c54
                    refine v_aload_n dX1_reckonBack_79 rfl ?_
                    refine v_get dX1_reckonBack_80 fl_X1_26 ((hp51 68 (by decide)).trans (ent_68 _)) rfl (s_lt hn rfl) ?_
                    refine v_iload dX1_reckonBack_83 rfl ?_
                    refine v_iload dX1_reckonBack_85 rfl ?_
                    refine v_callVIr dX1_reckonBack_87 ml_X1_84 (so_X2_isReached hn hp51  w) ((hp51 58 (by decide)).trans (ent_58 _)) rfl (s_lt hn rfl) rfl rfl (Nat.le_of_ble_eq_true rfl) (Nat.le_of_ble_eq_true rfl) (Nat.zero_le _) (Nat.zero_le _) (fun v55 w => ?_)
                    obtain ⟨q61, w⟩ := w
                    refine v_if_eqI (tgt := 111) dX1_reckonBack_90 (by decide) q61.1 q61.2 (fun c62 => ?_) (fun c62 => ?_)
                    · replace w := w.1 c62
                      refine v_iincI dX1_reckonBack_111 rfl (Nat.le_of_ble_eq_true rfl) ?_
                      refine v_goto (tgt := 71) dX1_reckonBack_114 (by decide) ?_
                      refine v_pick [1, 2, 3, 4, 0] rfl ?_
                      exact ih43 _ _ _ (Nat.lt_of_lt_of_le w.2 (Nat.le_of_lt_succ hm47)) w.1 hp51 hf52
                    · replace w := w.2 c62
                      refine v_aload_n dX1_reckonBack_93 rfl ?_
                      refine v_iload dX1_reckonBack_94 rfl ?_
                      refine v_iload dX1_reckonBack_96 rfl ?_
                      refine v_aload_n dX1_reckonBack_98 rfl ?_
                      refine v_iload dX1_reckonBack_99 rfl ?_
                      refine v_iload dX1_reckonBack_101 rfl ?_
                      refine v_iload dX1_reckonBack_103 rfl ?_
                      refine v_callVLw dX1_reckonBack_105 ml_X1_87 (so_X1_bestOf hn hp51  w) ((hp51 68 (by decide)).trans (ent_68 _)) rfl (s_lt hn rfl) rfl rfl (Nat.le_of_ble_eq_true rfl) (Nat.le_of_ble_eq_true rfl) (Nat.zero_le _) (Nat.zero_le _) (fun v63 X64 h65 hp67 hf66 w => ?_)
                      have hf68 := Fr.trans hf52 hf66
                      refine v_callVVw dX1_reckonBack_108 ml_X1_52 (so_X1_setChance hn hp67  w) ((hp67 68 (by decide)).trans (ent_68 _)) rfl (s_lt hn rfl) rfl rfl (Nat.le_of_ble_eq_true rfl) (Nat.le_of_ble_eq_true rfl) (Nat.zero_le _) (Nat.zero_le _) (fun X70 h71 hp73 hf72 w => ?_)
                      have hf74 := Fr.trans hf68 hf72
                      refine v_iincI dX1_reckonBack_111 rfl (Nat.le_of_ble_eq_true rfl) ?_
                      refine v_goto (tgt := 71) dX1_reckonBack_114 (by decide) ?_
                      refine v_pick [1, 2, 3, 4, 0] rfl ?_
                      exact ih43 _ _ _ (Nat.lt_of_lt_of_le w.2 (Nat.le_of_lt_succ hm47)) w.1 hp73 hf74
              exact hL46 _ _ _ _ (Nat.lt_succ_self _) wi45 hp34 hf35
        exact hL29 _ _ _ _ (Nat.lt_succ_self _) wi28 hp18 hf19
      · replace w := w.2 c21
        refine v_aload_n dX1_reckonBack_24 rfl ?_
        refine v_iload_n dX1_reckonBack_25 rfl ?_
        refine v_iload dX1_reckonBack_26 rfl ?_
        refine v_aload_n dX1_reckonBack_28 rfl ?_
        refine v_get dX1_reckonBack_29 fl_X1_26 ((hp18 68 (by decide)).trans (ent_68 _)) rfl (s_lt hn rfl) ?_
        refine v_iload dX1_reckonBack_32 rfl ?_
        refine v_iload_n dX1_reckonBack_34 rfl ?_
        refine v_callVIr dX1_reckonBack_35 ml_X1_66 (so_X2_shades hn hp18  w) ((hp18 58 (by decide)).trans (ent_58 _)) rfl (s_lt hn rfl) rfl rfl (Nat.le_of_ble_eq_true rfl) (Nat.le_of_ble_eq_true rfl) (Nat.zero_le _) (Nat.zero_le _) (fun v75 w => ?_)
        obtain ⟨q81, w⟩ := w
        refine v_if_eqI (tgt := 47) dX1_reckonBack_38 (by decide) q81.1 q81.2 (fun c82 => ?_) (fun c82 => ?_)
        · replace w := w.1 c82
          refine v_lconstI (w := 0) dX1_reckonBack_47 rfl ?_
          refine v_callVVw dX1_reckonBack_48 ml_X1_52 (so_X1_setChance hn hp18  w) ((hp18 68 (by decide)).trans (ent_68 _)) rfl (s_lt hn rfl) rfl rfl (Nat.le_of_ble_eq_true rfl) (Nat.le_of_ble_eq_true rfl) (Nat.zero_le _) (Nat.zero_le _) (fun X84 h85 hp87 hf86 w => ?_)
          have hf88 := Fr.trans hf19 hf86
          refine v_iincI dX1_reckonBack_51 rfl (Nat.le_of_ble_eq_true rfl) ?_
          refine v_goto (tgt := 16) dX1_reckonBack_54 (by decide) ?_
          refine v_pick [1, 2, 3, 4, 5, 0] rfl ?_
          exact ih10 _ _ _ (Nat.lt_of_lt_of_le w.2 (Nat.le_of_lt_succ hm14)) w.1 hp87 hf88
        · replace w := w.2 c82
          refine v_ldc2I 1000000000000 dX1_reckonBack_41 k_X1_50 rfl ?_
          refine v_goto (tgt := 48) dX1_reckonBack_44 (by decide) ?_
          refine v_callVVw dX1_reckonBack_48 ml_X1_52 (so_X1_setChance hn hp18  w) ((hp18 68 (by decide)).trans (ent_68 _)) rfl (s_lt hn rfl) rfl rfl (Nat.le_of_ble_eq_true rfl) (Nat.le_of_ble_eq_true rfl) (Nat.zero_le _) (Nat.zero_le _) (fun X90 h91 hp93 hf92 w => ?_)
          have hf94 := Fr.trans hf19 hf92
          refine v_iincI dX1_reckonBack_51 rfl (Nat.le_of_ble_eq_true rfl) ?_
          refine v_goto (tgt := 16) dX1_reckonBack_54 (by decide) ?_
          refine v_pick [1, 2, 3, 4, 5, 0] rfl ?_
          exact ih10 _ _ _ (Nat.lt_of_lt_of_le w.2 (Nat.le_of_lt_succ hm14)) w.1 hp93 hf94
  exact hL13 _ _ _ _ (Nat.lt_succ_self _) wi12 hp4 hf5
theorem dX1_bestChance_0 : decode cX1_bestChance 0 = .ok (.aload_n 0, 1) := by decide +kernel
theorem dX1_bestChance_1 : decode cX1_bestChance 1 = .ok (.getfield 22, 3) := by decide +kernel
theorem dX1_bestChance_4 : decode cX1_bestChance 4 = .ok (.iload_n 1, 1) := by decide +kernel
theorem dX1_bestChance_5 : decode cX1_bestChance 5 = .ok (.invokevirtual 30, 3) := by decide +kernel
theorem dX1_bestChance_8 : decode cX1_bestChance 8 = .ok (.istore 4, 2) := by decide +kernel
theorem dX1_bestChance_10 : decode cX1_bestChance 10 = .ok (.aload_n 0, 1) := by decide +kernel
theorem dX1_bestChance_11 : decode cX1_bestChance 11 = .ok (.getfield 26, 3) := by decide +kernel
theorem dX1_bestChance_14 : decode cX1_bestChance 14 = .ok (.iload_n 1, 1) := by decide +kernel
theorem dX1_bestChance_15 : decode cX1_bestChance 15 = .ok (.invokevirtual 40, 3) := by decide +kernel
theorem dX1_bestChance_18 : decode cX1_bestChance 18 = .ok (.aload_n 0, 1) := by decide +kernel
theorem dX1_bestChance_19 : decode cX1_bestChance 19 = .ok (.getfield 26, 3) := by decide +kernel
theorem dX1_bestChance_22 : decode cX1_bestChance 22 = .ok (.iconst 0, 1) := by decide +kernel
theorem dX1_bestChance_23 : decode cX1_bestChance 23 = .ok (.iload 4, 2) := by decide +kernel
theorem dX1_bestChance_25 : decode cX1_bestChance 25 = .ok (.iload_n 3, 1) := by decide +kernel
theorem dX1_bestChance_26 : decode cX1_bestChance 26 = .ok (.iconst 1, 1) := by decide +kernel
theorem dX1_bestChance_27 : decode cX1_bestChance 27 = .ok (.iconst 1, 1) := by decide +kernel
theorem dX1_bestChance_28 : decode cX1_bestChance 28 = .ok (.invokevirtual 46, 3) := by decide +kernel
theorem dX1_bestChance_31 : decode cX1_bestChance 31 = .ok (.aload_n 0, 1) := by decide +kernel
theorem dX1_bestChance_32 : decode cX1_bestChance 32 = .ok (.iload_n 2, 1) := by decide +kernel
theorem dX1_bestChance_33 : decode cX1_bestChance 33 = .ok (.iload_n 3, 1) := by decide +kernel
theorem dX1_bestChance_34 : decode cX1_bestChance 34 = .ok (.iconst 0, 1) := by decide +kernel
theorem dX1_bestChance_35 : decode cX1_bestChance 35 = .ok (.iconst 0, 1) := by decide +kernel
theorem dX1_bestChance_36 : decode cX1_bestChance 36 = .ok (.invokevirtual 80, 3) := by decide +kernel
theorem dX1_bestChance_39 : decode cX1_bestChance 39 = .ok (.aload_n 0, 1) := by decide +kernel
theorem dX1_bestChance_40 : decode cX1_bestChance 40 = .ok (.iconst 0, 1) := by decide +kernel
theorem dX1_bestChance_41 : decode cX1_bestChance 41 = .ok (.iload 4, 2) := by decide +kernel
theorem dX1_bestChance_43 : decode cX1_bestChance 43 = .ok (.invokevirtual 70, 3) := by decide +kernel
theorem dX1_bestChance_46 : decode cX1_bestChance 46 = .ok (.lreturn, 1) := by decide +kernel
def w_X1_bestChance (K : LK) (a0 a1 a2 : Int) (X : XT) (Q : Int → XT → Prop) : Prop :=
  w_X3_startOf  a0 X (fun (v1 : Int) => w_X2_take  a0 X (fun (X8 : XT) => w_X2_spread K  0 v1 a2 1 1 X8 (fun (X14 : XT) => w_X1_reckonBack  a1 a2 0 0 X14 (fun (X20 : XT) => w_X1_chanceOf  0 v1 X20 (fun (v25 : Int) => Q v25 X20)))))
set_option maxRecDepth 20000 in
theorem so_X1_bestChance {n : Nat} {h : Nat → sE} {X : XT} {K : LK} {hk : Nat → sE} (hK : LKok K n hk) {a0 a1 a2 : Int} {Q : Int → XT → Prop} (hn : 115 ≤ n) (hp : Pic X h) (hf9 : Fr hk h) (w : w_X1_bestChance K  a0 a1 a2 X Q) : Sp m_X1_bestChance 6 0 0 [.ref 68, .int (iI a0), .int (iI a1), .int (iI a2)] n h (pLw n h Q) := by
  unfold w_X1_bestChance at w
  refine Sp.ofV (by decide +kernel) (Nat.le_of_ble_eq_true rfl) ?_
  have hf : Fr h h := fun _ _ => rfl
  refine v_aload_n dX1_bestChance_0 rfl ?_
  refine v_get dX1_bestChance_1 fl_X1_22 ((hp 68 (by decide)).trans (ent_68 _)) rfl (s_lt hn rfl) ?_
  refine v_iload_n dX1_bestChance_4 rfl ?_
  refine v_callVIr dX1_bestChance_5 ml_X1_30 (so_X3_startOf hn hp  w) ((hp 1 (by decide)).trans (ent_1 _)) rfl (s_lt hn rfl) rfl rfl (Nat.le_of_ble_eq_true rfl) (Nat.le_of_ble_eq_true rfl) (Nat.zero_le _) (Nat.zero_le _) (fun v1 w => ?_)
  refine v_istore dX1_bestChance_8 (Nat.le_of_ble_eq_true rfl) ?_
  refine v_aload_n dX1_bestChance_10 rfl ?_
  refine v_get dX1_bestChance_11 fl_X1_26 ((hp 68 (by decide)).trans (ent_68 _)) rfl (s_lt hn rfl) ?_
  refine v_iload_n dX1_bestChance_14 rfl ?_
  refine v_callVVw dX1_bestChance_15 ml_X1_40 (so_X2_take hn hp  w) ((hp 58 (by decide)).trans (ent_58 _)) rfl (s_lt hn rfl) rfl rfl (Nat.le_of_ble_eq_true rfl) (Nat.le_of_ble_eq_true rfl) (Nat.zero_le _) (Nat.zero_le _) (fun X8 h9 hp11 hf10 w => ?_)
  have hf12 := Fr.trans hf hf10
  refine v_aload_n dX1_bestChance_18 rfl ?_
  refine v_get dX1_bestChance_19 fl_X1_26 ((hp11 68 (by decide)).trans (ent_68 _)) rfl (s_lt hn rfl) ?_
  refine v_iconstI dX1_bestChance_22 ?_
  refine v_iload dX1_bestChance_23 rfl ?_
  refine v_iload_n dX1_bestChance_25 rfl ?_
  refine v_iconstI dX1_bestChance_26 ?_
  refine v_iconstI dX1_bestChance_27 ?_
  refine v_callVVw dX1_bestChance_28 ml_X1_46 (so_X2_spread hK hn hp11 (Fr.trans hf9 hf12) w) ((hp11 58 (by decide)).trans (ent_58 _)) rfl (s_lt hn rfl) rfl rfl (Nat.le_of_ble_eq_true rfl) (Nat.le_of_ble_eq_true rfl) (Nat.zero_le _) (Nat.zero_le _) (fun X14 h15 hp17 hf16 w => ?_)
  have hf18 := Fr.trans hf12 hf16
  refine v_aload_n dX1_bestChance_31 rfl ?_
  refine v_iload_n dX1_bestChance_32 rfl ?_
  refine v_iload_n dX1_bestChance_33 rfl ?_
  refine v_iconstI dX1_bestChance_34 ?_
  refine v_iconstI dX1_bestChance_35 ?_
  refine v_callVVw dX1_bestChance_36 ml_X1_80 (so_X1_reckonBack hn hp17  w) ((hp17 68 (by decide)).trans (ent_68 _)) rfl (s_lt hn rfl) rfl rfl (Nat.le_of_ble_eq_true rfl) (Nat.le_of_ble_eq_true rfl) (Nat.zero_le _) (Nat.zero_le _) (fun X20 h21 hp23 hf22 w => ?_)
  have hf24 := Fr.trans hf18 hf22
  refine v_aload_n dX1_bestChance_39 rfl ?_
  refine v_iconstI dX1_bestChance_40 ?_
  refine v_iload dX1_bestChance_41 rfl ?_
  refine v_callVLr dX1_bestChance_43 ml_X1_70 (so_X1_chanceOf hn hp23  w) ((hp23 68 (by decide)).trans (ent_68 _)) rfl (s_lt hn rfl) rfl rfl (Nat.le_of_ble_eq_true rfl) (Nat.le_of_ble_eq_true rfl) (Nat.zero_le _) (Nat.zero_le _) (fun v25 w => ?_)
  exact v_lret dX1_bestChance_46 rfl (Nat.zero_le _) (Nat.zero_le _) ⟨rfl, hf24, _, _, rfl, hp23, w⟩
theorem dX11_surest_0 : decode cX11_surest 0 = .ok (.aload_n 0, 1) := by decide +kernel
theorem dX11_surest_1 : decode cX11_surest 1 = .ok (.iload_n 1, 1) := by decide +kernel
theorem dX11_surest_2 : decode cX11_surest 2 = .ok (.iload_n 2, 1) := by decide +kernel
theorem dX11_surest_3 : decode cX11_surest 3 = .ok (.invokevirtual 293, 3) := by decide +kernel
theorem dX11_surest_6 : decode cX11_surest 6 = .ok (.ifCond .eq 10, 3) := by decide +kernel
theorem dX11_surest_9 : decode cX11_surest 9 = .ok (.iload_n 3, 1) := by decide +kernel
theorem dX11_surest_10 : decode cX11_surest 10 = .ok (.invokestatic 185, 3) := by decide +kernel
theorem dX11_surest_13 : decode cX11_surest 13 = .ok (.ifCond .ne 7, 3) := by decide +kernel
theorem dX11_surest_16 : decode cX11_surest 16 = .ok (.ldc2_w 310, 3) := by decide +kernel
theorem dX11_surest_19 : decode cX11_surest 19 = .ok (.lreturn, 1) := by decide +kernel
theorem dX11_surest_20 : decode cX11_surest 20 = .ok (.aload_n 0, 1) := by decide +kernel
theorem dX11_surest_21 : decode cX11_surest 21 = .ok (.getfield 84, 3) := by decide +kernel
theorem dX11_surest_24 : decode cX11_surest 24 = .ok (.iload_n 1, 1) := by decide +kernel
theorem dX11_surest_25 : decode cX11_surest 25 = .ok (.iload_n 2, 1) := by decide +kernel
theorem dX11_surest_26 : decode cX11_surest 26 = .ok (.iload_n 3, 1) := by decide +kernel
theorem dX11_surest_27 : decode cX11_surest 27 = .ok (.invokevirtual 316, 3) := by decide +kernel
theorem dX11_surest_30 : decode cX11_surest 30 = .ok (.lreturn, 1) := by decide +kernel
def w_X11_surest (K : LK) (a0 a1 a2 : Int) (X : XT) (Q : Int → XT → Prop) : Prop :=
  w_X11_isOver  a0 a1 X (fun (v1 : Int) => R32 v1 ∧ (v1 = 0 → Q (-1) X) ∧ (¬ v1 = 0 → R32 a2 ∧ ((0 ≤ a2 ∧ a2 ≤ 11) → w_X1_bestChance K  a0 a1 a2 X (fun (v11 : Int) (X12 : XT) => Q v11 X12)) ∧ (¬ (0 ≤ a2 ∧ a2 ≤ 11) → Q (-1) X)))
set_option maxRecDepth 20000 in
theorem so_X11_surest {n : Nat} {h : Nat → sE} {X : XT} {K : LK} {hk : Nat → sE} (hK : LKok K n hk) {a0 a1 a2 : Int} {Q : Int → XT → Prop} (hn : 115 ≤ n) (hp : Pic X h) (hf9 : Fr hk h) (w : w_X11_surest K  a0 a1 a2 X Q) : Sp m_X11_surest 7 0 0 [.ref 0, .int (iI a0), .int (iI a1), .int (iI a2)] n h (pLw n h Q) := by
  unfold w_X11_surest at w
  refine Sp.ofV (by decide +kernel) (Nat.le_of_ble_eq_true rfl) ?_
  have hf : Fr h h := fun _ _ => rfl
  refine v_aload_n dX11_surest_0 rfl ?_
  refine v_iload_n dX11_surest_1 rfl ?_
  refine v_iload_n dX11_surest_2 rfl ?_
  refine v_callVIr dX11_surest_3 ml_X11_293 (so_X11_isOver hn hp  w) ((hp 0 (by decide)).trans (ent_0 _)) rfl (s_lt hn rfl) rfl rfl (Nat.le_of_ble_eq_true rfl) (Nat.le_of_ble_eq_true rfl) (Nat.zero_le _) (Nat.zero_le _) (fun v1 w => ?_)
  obtain ⟨q7, w⟩ := w
  refine v_if_eqI (tgt := 16) dX11_surest_6 (by decide) q7.1 q7.2 (fun c8 => ?_) (fun c8 => ?_)
  · replace w := w.1 c8
    refine v_ldc2I (-1) dX11_surest_16 k_X11_310 rfl ?_
    exact v_lret dX11_surest_19 rfl (Nat.zero_le _) (Nat.zero_le _) ⟨rfl, hf, _, _, rfl, hp, w⟩
  · replace w := w.2 c8
    refine v_iload_n dX11_surest_9 rfl ?_
    obtain ⟨q9, w⟩ := w
    refine v_callSp dX11_surest_10 ml_X11_185 (sp_X11_isHour (a := a2) q9) rfl rfl (Nat.le_of_ble_eq_true rfl) (Nat.le_of_ble_eq_true rfl) (Nat.zero_le _) (Nat.zero_le _) ?_
    refine v_ifneB (tgt := 20) dX11_surest_13 (by decide) (fun c10 => ?_) (fun c10 => ?_)
    · replace w := w.1 c10
      refine v_aload_n dX11_surest_20 rfl ?_
      refine v_get dX11_surest_21 fl_X11_84 ((hp 0 (by decide)).trans (ent_0 _)) rfl (s_lt hn rfl) ?_
      refine v_iload_n dX11_surest_24 rfl ?_
      refine v_iload_n dX11_surest_25 rfl ?_
      refine v_iload_n dX11_surest_26 rfl ?_
      refine v_callVLw dX11_surest_27 ml_X11_316 (so_X1_bestChance hK hn hp (Fr.trans hf9 hf) w) ((hp 68 (by decide)).trans (ent_68 _)) rfl (s_lt hn rfl) rfl rfl (Nat.le_of_ble_eq_true rfl) (Nat.le_of_ble_eq_true rfl) (Nat.zero_le _) (Nat.zero_le _) (fun v11 X12 h13 hp15 hf14 w => ?_)
      have hf16 := Fr.trans hf hf14
      exact v_lret dX11_surest_30 rfl (Nat.zero_le _) (Nat.zero_le _) ⟨rfl, hf16, _, _, rfl, hp15, w⟩
    · replace w := w.2 c10
      refine v_ldc2I (-1) dX11_surest_16 k_X11_310 rfl ?_
      exact v_lret dX11_surest_19 rfl (Nat.zero_le _) (Nat.zero_le _) ⟨rfl, hf, _, _, rfl, hp, w⟩
theorem dX1_bestStep_0 : decode cX1_bestStep 0 = .ok (.aload_n 0, 1) := by decide +kernel
theorem dX1_bestStep_1 : decode cX1_bestStep 1 = .ok (.getfield 26, 3) := by decide +kernel
theorem dX1_bestStep_4 : decode cX1_bestStep 4 = .ok (.iload_n 1, 1) := by decide +kernel
theorem dX1_bestStep_5 : decode cX1_bestStep 5 = .ok (.invokevirtual 40, 3) := by decide +kernel
theorem dX1_bestStep_8 : decode cX1_bestStep 8 = .ok (.aload_n 0, 1) := by decide +kernel
theorem dX1_bestStep_9 : decode cX1_bestStep 9 = .ok (.getfield 26, 3) := by decide +kernel
theorem dX1_bestStep_12 : decode cX1_bestStep 12 = .ok (.iload 4, 2) := by decide +kernel
theorem dX1_bestStep_14 : decode cX1_bestStep 14 = .ok (.iload 5, 2) := by decide +kernel
theorem dX1_bestStep_16 : decode cX1_bestStep 16 = .ok (.iload_n 3, 1) := by decide +kernel
theorem dX1_bestStep_17 : decode cX1_bestStep 17 = .ok (.iconst 1, 1) := by decide +kernel
theorem dX1_bestStep_18 : decode cX1_bestStep 18 = .ok (.iconst 1, 1) := by decide +kernel
theorem dX1_bestStep_19 : decode cX1_bestStep 19 = .ok (.invokevirtual 46, 3) := by decide +kernel
theorem dX1_bestStep_22 : decode cX1_bestStep 22 = .ok (.aload_n 0, 1) := by decide +kernel
theorem dX1_bestStep_23 : decode cX1_bestStep 23 = .ok (.iload_n 2, 1) := by decide +kernel
theorem dX1_bestStep_24 : decode cX1_bestStep 24 = .ok (.iload_n 3, 1) := by decide +kernel
theorem dX1_bestStep_25 : decode cX1_bestStep 25 = .ok (.iload 4, 2) := by decide +kernel
theorem dX1_bestStep_27 : decode cX1_bestStep 27 = .ok (.iconst 0, 1) := by decide +kernel
theorem dX1_bestStep_28 : decode cX1_bestStep 28 = .ok (.invokevirtual 80, 3) := by decide +kernel
theorem dX1_bestStep_31 : decode cX1_bestStep 31 = .ok (.aload_n 0, 1) := by decide +kernel
theorem dX1_bestStep_32 : decode cX1_bestStep 32 = .ok (.getfield 19, 3) := by decide +kernel
theorem dX1_bestStep_35 : decode cX1_bestStep 35 = .ok (.ireturn, 1) := by decide +kernel
def w_X1_bestStep (K : LK) (a0 a1 a2 a3 a4 : Int) (X : XT) (Q : Int → XT → Prop) : Prop :=
  w_X2_take  a0 X (fun (X2 : XT) => w_X2_spread K  a3 a4 a2 1 1 X2 (fun (X8 : XT) => w_X1_reckonBack  a1 a2 a3 0 X8 (fun (X14 : XT) => Q (X14 68 4) X14)))
set_option maxRecDepth 20000 in
theorem so_X1_bestStep {n : Nat} {h : Nat → sE} {X : XT} {K : LK} {hk : Nat → sE} (hK : LKok K n hk) {a0 a1 a2 a3 a4 : Int} {Q : Int → XT → Prop} (hn : 115 ≤ n) (hp : Pic X h) (hf9 : Fr hk h) (w : w_X1_bestStep K  a0 a1 a2 a3 a4 X Q) : Sp m_X1_bestStep 6 0 0 [.ref 68, .int (iI a0), .int (iI a1), .int (iI a2), .int (iI a3), .int (iI a4)] n h (pIw n h Q) := by
  unfold w_X1_bestStep at w
  refine Sp.ofV (by decide +kernel) (Nat.le_of_ble_eq_true rfl) ?_
  have hf : Fr h h := fun _ _ => rfl
  refine v_aload_n dX1_bestStep_0 rfl ?_
  refine v_get dX1_bestStep_1 fl_X1_26 ((hp 68 (by decide)).trans (ent_68 _)) rfl (s_lt hn rfl) ?_
  refine v_iload_n dX1_bestStep_4 rfl ?_
  refine v_callVVw dX1_bestStep_5 ml_X1_40 (so_X2_take hn hp  w) ((hp 58 (by decide)).trans (ent_58 _)) rfl (s_lt hn rfl) rfl rfl (Nat.le_of_ble_eq_true rfl) (Nat.le_of_ble_eq_true rfl) (Nat.zero_le _) (Nat.zero_le _) (fun X2 h3 hp5 hf4 w => ?_)
  have hf6 := Fr.trans hf hf4
  refine v_aload_n dX1_bestStep_8 rfl ?_
  refine v_get dX1_bestStep_9 fl_X1_26 ((hp5 68 (by decide)).trans (ent_68 _)) rfl (s_lt hn rfl) ?_
  refine v_iload dX1_bestStep_12 rfl ?_
  refine v_iload dX1_bestStep_14 rfl ?_
  refine v_iload_n dX1_bestStep_16 rfl ?_
  refine v_iconstI dX1_bestStep_17 ?_
  refine v_iconstI dX1_bestStep_18 ?_
  refine v_callVVw dX1_bestStep_19 ml_X1_46 (so_X2_spread hK hn hp5 (Fr.trans hf9 hf6) w) ((hp5 58 (by decide)).trans (ent_58 _)) rfl (s_lt hn rfl) rfl rfl (Nat.le_of_ble_eq_true rfl) (Nat.le_of_ble_eq_true rfl) (Nat.zero_le _) (Nat.zero_le _) (fun X8 h9 hp11 hf10 w => ?_)
  have hf12 := Fr.trans hf6 hf10
  refine v_aload_n dX1_bestStep_22 rfl ?_
  refine v_iload_n dX1_bestStep_23 rfl ?_
  refine v_iload_n dX1_bestStep_24 rfl ?_
  refine v_iload dX1_bestStep_25 rfl ?_
  refine v_iconstI dX1_bestStep_27 ?_
  refine v_callVVw dX1_bestStep_28 ml_X1_80 (so_X1_reckonBack hn hp11  w) ((hp11 68 (by decide)).trans (ent_68 _)) rfl (s_lt hn rfl) rfl rfl (Nat.le_of_ble_eq_true rfl) (Nat.le_of_ble_eq_true rfl) (Nat.zero_le _) (Nat.zero_le _) (fun X14 h15 hp17 hf16 w => ?_)
  have hf18 := Fr.trans hf12 hf16
  refine v_aload_n dX1_bestStep_31 rfl ?_
  refine v_get dX1_bestStep_32 fl_X1_19 ((hp17 68 (by decide)).trans (ent_68 _)) rfl (s_lt hn rfl) ?_
  exact v_iret dX1_bestStep_35 rfl (Nat.zero_le _) (Nat.zero_le _) ⟨rfl, hf18, _, _, rfl, hp17, w⟩
theorem dX11_steer_0 : decode cX11_steer 0 = .ok (.aload_n 0, 1) := by decide +kernel
theorem dX11_steer_1 : decode cX11_steer 1 = .ok (.iload_n 1, 1) := by decide +kernel
theorem dX11_steer_2 : decode cX11_steer 2 = .ok (.iload_n 2, 1) := by decide +kernel
theorem dX11_steer_3 : decode cX11_steer 3 = .ok (.invokevirtual 293, 3) := by decide +kernel
theorem dX11_steer_6 : decode cX11_steer 6 = .ok (.ifCond .eq 22, 3) := by decide +kernel
theorem dX11_steer_9 : decode cX11_steer 9 = .ok (.iload_n 3, 1) := by decide +kernel
theorem dX11_steer_10 : decode cX11_steer 10 = .ok (.invokestatic 185, 3) := by decide +kernel
theorem dX11_steer_13 : decode cX11_steer 13 = .ok (.ifCond .eq 15, 3) := by decide +kernel
theorem dX11_steer_16 : decode cX11_steer 16 = .ok (.iload 4, 2) := by decide +kernel
theorem dX11_steer_18 : decode cX11_steer 18 = .ok (.iconst 0, 1) := by decide +kernel
theorem dX11_steer_19 : decode cX11_steer 19 = .ok (.iload_n 3, 1) := by decide +kernel
theorem dX11_steer_20 : decode cX11_steer 20 = .ok (.iconst 1, 1) := by decide +kernel
theorem dX11_steer_21 : decode cX11_steer 21 = .ok (.isub, 1) := by decide +kernel
theorem dX11_steer_22 : decode cX11_steer 22 = .ok (.invokestatic 115, 3) := by decide +kernel
theorem dX11_steer_25 : decode cX11_steer 25 = .ok (.ifCond .ne 5, 3) := by decide +kernel
theorem dX11_steer_28 : decode cX11_steer 28 = .ok (.iconst (-1), 1) := by decide +kernel
theorem dX11_steer_29 : decode cX11_steer 29 = .ok (.ireturn, 1) := by decide +kernel
theorem dX11_steer_30 : decode cX11_steer 30 = .ok (.iload 5, 2) := by decide +kernel
theorem dX11_steer_32 : decode cX11_steer 32 = .ok (.bipush (-8), 2) := by decide +kernel
theorem dX11_steer_34 : decode cX11_steer 34 = .ok (.bipush 15, 2) := by decide +kernel
theorem dX11_steer_36 : decode cX11_steer 36 = .ok (.invokestatic 115, 3) := by decide +kernel
theorem dX11_steer_39 : decode cX11_steer 39 = .ok (.ifCond .eq 15, 3) := by decide +kernel
theorem dX11_steer_42 : decode cX11_steer 42 = .ok (.iload 6, 2) := by decide +kernel
theorem dX11_steer_44 : decode cX11_steer 44 = .ok (.bipush (-8), 2) := by decide +kernel
theorem dX11_steer_46 : decode cX11_steer 46 = .ok (.bipush 15, 2) := by decide +kernel
theorem dX11_steer_48 : decode cX11_steer 48 = .ok (.invokestatic 115, 3) := by decide +kernel
theorem dX11_steer_51 : decode cX11_steer 51 = .ok (.ifCond .ne 5, 3) := by decide +kernel
theorem dX11_steer_54 : decode cX11_steer 54 = .ok (.iconst (-1), 1) := by decide +kernel
theorem dX11_steer_55 : decode cX11_steer 55 = .ok (.ireturn, 1) := by decide +kernel
theorem dX11_steer_56 : decode cX11_steer 56 = .ok (.aload_n 0, 1) := by decide +kernel
theorem dX11_steer_57 : decode cX11_steer 57 = .ok (.getfield 84, 3) := by decide +kernel
theorem dX11_steer_60 : decode cX11_steer 60 = .ok (.iload_n 1, 1) := by decide +kernel
theorem dX11_steer_61 : decode cX11_steer 61 = .ok (.iload_n 2, 1) := by decide +kernel
theorem dX11_steer_62 : decode cX11_steer 62 = .ok (.iload_n 3, 1) := by decide +kernel
theorem dX11_steer_63 : decode cX11_steer 63 = .ok (.iload 4, 2) := by decide +kernel
theorem dX11_steer_65 : decode cX11_steer 65 = .ok (.iload 5, 2) := by decide +kernel
theorem dX11_steer_67 : decode cX11_steer 67 = .ok (.iload 6, 2) := by decide +kernel
theorem dX11_steer_69 : decode cX11_steer 69 = .ok (.invokestatic 320, 3) := by decide +kernel
theorem dX11_steer_72 : decode cX11_steer 72 = .ok (.invokevirtual 323, 3) := by decide +kernel
theorem dX11_steer_75 : decode cX11_steer 75 = .ok (.ireturn, 1) := by decide +kernel
def w_X11_steer (K : LK) (a0 a1 a2 a3 a4 a5 : Int) (X : XT) (Q : Int → XT → Prop) : Prop :=
  w_X11_isOver  a0 a1 X (fun (v1 : Int) => R32 v1 ∧ (v1 = 0 → Q (-1) X) ∧ (¬ v1 = 0 → R32 a2 ∧ (¬ (0 ≤ a2 ∧ a2 ≤ 11) → Q (-1) X) ∧ ((0 ≤ a2 ∧ a2 ≤ 11) → R32 a3 ∧ R32 (a2 - 1) ∧ ((0 ≤ a3 ∧ a3 ≤ (a2 - 1)) → R32 a4 ∧ (¬ ((-8) ≤ a4 ∧ a4 ≤ 15) → Q (-1) X) ∧ (((-8) ≤ a4 ∧ a4 ≤ 15) → R32 a5 ∧ (((-8) ≤ a5 ∧ a5 ≤ 15) → (-8 ≤ a4 ∧ a4 ≤ 15 ∧ -8 ≤ a5 ∧ a5 ≤ 15) ∧ w_X1_bestStep K  a0 a1 a2 a3 (24 * (a5 + 8) + a4 + 8) X (fun (v19 : Int) (X20 : XT) => Q v19 X20)) ∧ (¬ ((-8) ≤ a5 ∧ a5 ≤ 15) → Q (-1) X))) ∧ (¬ (0 ≤ a3 ∧ a3 ≤ (a2 - 1)) → Q (-1) X))))
set_option maxRecDepth 20000 in
theorem so_X11_steer {n : Nat} {h : Nat → sE} {X : XT} {K : LK} {hk : Nat → sE} (hK : LKok K n hk) {a0 a1 a2 a3 a4 a5 : Int} {Q : Int → XT → Prop} (hn : 115 ≤ n) (hp : Pic X h) (hf9 : Fr hk h) (w : w_X11_steer K  a0 a1 a2 a3 a4 a5 X Q) : Sp m_X11_steer 7 0 0 [.ref 0, .int (iI a0), .int (iI a1), .int (iI a2), .int (iI a3), .int (iI a4), .int (iI a5)] n h (pIw n h Q) := by
  unfold w_X11_steer at w
  refine Sp.ofV (by decide +kernel) (Nat.le_of_ble_eq_true rfl) ?_
  have hf : Fr h h := fun _ _ => rfl
  refine v_aload_n dX11_steer_0 rfl ?_
  refine v_iload_n dX11_steer_1 rfl ?_
  refine v_iload_n dX11_steer_2 rfl ?_
  refine v_callVIr dX11_steer_3 ml_X11_293 (so_X11_isOver hn hp  w) ((hp 0 (by decide)).trans (ent_0 _)) rfl (s_lt hn rfl) rfl rfl (Nat.le_of_ble_eq_true rfl) (Nat.le_of_ble_eq_true rfl) (Nat.zero_le _) (Nat.zero_le _) (fun v1 w => ?_)
  obtain ⟨q7, w⟩ := w
  refine v_if_eqI (tgt := 28) dX11_steer_6 (by decide) q7.1 q7.2 (fun c8 => ?_) (fun c8 => ?_)
  · replace w := w.1 c8
    refine v_iconstI dX11_steer_28 ?_
    exact v_iret dX11_steer_29 rfl (Nat.zero_le _) (Nat.zero_le _) ⟨rfl, hf, _, _, rfl, hp, w⟩
  · replace w := w.2 c8
    refine v_iload_n dX11_steer_9 rfl ?_
    obtain ⟨q9, w⟩ := w
    refine v_callSp dX11_steer_10 ml_X11_185 (sp_X11_isHour (a := a2) q9) rfl rfl (Nat.le_of_ble_eq_true rfl) (Nat.le_of_ble_eq_true rfl) (Nat.zero_le _) (Nat.zero_le _) ?_
    refine v_ifeqB (tgt := 28) dX11_steer_13 (by decide) (fun c10 => ?_) (fun c10 => ?_)
    · replace w := w.1 c10
      refine v_iconstI dX11_steer_28 ?_
      exact v_iret dX11_steer_29 rfl (Nat.zero_le _) (Nat.zero_le _) ⟨rfl, hf, _, _, rfl, hp, w⟩
    · replace w := w.2 c10
      refine v_iload dX11_steer_16 rfl ?_
      refine v_iconstI dX11_steer_18 ?_
      refine v_iload_n dX11_steer_19 rfl ?_
      refine v_iconstI dX11_steer_20 ?_
      refine v_isubI dX11_steer_21 ?_
      obtain ⟨q11, q12, w⟩ := w
      refine v_callSp dX11_steer_22 ml_X11_115 (sp_X11_within (a := a3) (b := 0) (c := (a2 - 1)) q11 (by decide) q12) rfl rfl (Nat.le_of_ble_eq_true rfl) (Nat.le_of_ble_eq_true rfl) (Nat.zero_le _) (Nat.zero_le _) ?_
      refine v_ifneB (tgt := 30) dX11_steer_25 (by decide) (fun c13 => ?_) (fun c13 => ?_)
      · replace w := w.1 c13
        refine v_iload dX11_steer_30 rfl ?_
        refine v_bipushI dX11_steer_32 rfl ?_
        refine v_bipushI dX11_steer_34 rfl ?_
        obtain ⟨q14, w⟩ := w
        refine v_callSp dX11_steer_36 ml_X11_115 (sp_X11_within (a := a4) (b := (-8)) (c := 15) q14 (by decide) (by decide)) rfl rfl (Nat.le_of_ble_eq_true rfl) (Nat.le_of_ble_eq_true rfl) (Nat.zero_le _) (Nat.zero_le _) ?_
        refine v_ifeqB (tgt := 54) dX11_steer_39 (by decide) (fun c15 => ?_) (fun c15 => ?_)
        · replace w := w.1 c15
          refine v_iconstI dX11_steer_54 ?_
          exact v_iret dX11_steer_55 rfl (Nat.zero_le _) (Nat.zero_le _) ⟨rfl, hf, _, _, rfl, hp, w⟩
        · replace w := w.2 c15
          refine v_iload dX11_steer_42 rfl ?_
          refine v_bipushI dX11_steer_44 rfl ?_
          refine v_bipushI dX11_steer_46 rfl ?_
          obtain ⟨q16, w⟩ := w
          refine v_callSp dX11_steer_48 ml_X11_115 (sp_X11_within (a := a5) (b := (-8)) (c := 15) q16 (by decide) (by decide)) rfl rfl (Nat.le_of_ble_eq_true rfl) (Nat.le_of_ble_eq_true rfl) (Nat.zero_le _) (Nat.zero_le _) ?_
          refine v_ifneB (tgt := 56) dX11_steer_51 (by decide) (fun c17 => ?_) (fun c17 => ?_)
          · replace w := w.1 c17
            refine v_aload_n dX11_steer_56 rfl ?_
            refine v_get dX11_steer_57 fl_X11_84 ((hp 0 (by decide)).trans (ent_0 _)) rfl (s_lt hn rfl) ?_
            refine v_iload_n dX11_steer_60 rfl ?_
            refine v_iload_n dX11_steer_61 rfl ?_
            refine v_iload_n dX11_steer_62 rfl ?_
            refine v_iload dX11_steer_63 rfl ?_
            refine v_iload dX11_steer_65 rfl ?_
            refine v_iload dX11_steer_67 rfl ?_
            obtain ⟨q18, w⟩ := w
            refine v_callSp dX11_steer_69 ml_X11_320 (sv_X8_spotAt (a := a4) (b := a5) q18) rfl rfl (Nat.le_of_ble_eq_true rfl) (Nat.le_of_ble_eq_true rfl) (Nat.zero_le _) (Nat.zero_le _) ?_
            refine v_callVIw dX11_steer_72 ml_X11_323 (so_X1_bestStep hK hn hp (Fr.trans hf9 hf) w) ((hp 68 (by decide)).trans (ent_68 _)) rfl (s_lt hn rfl) rfl rfl (Nat.le_of_ble_eq_true rfl) (Nat.le_of_ble_eq_true rfl) (Nat.zero_le _) (Nat.zero_le _) (fun v19 X20 h21 hp23 hf22 w => ?_)
            have hf24 := Fr.trans hf hf22
            exact v_iret dX11_steer_75 rfl (Nat.zero_le _) (Nat.zero_le _) ⟨rfl, hf24, _, _, rfl, hp23, w⟩
          · replace w := w.2 c17
            refine v_iconstI dX11_steer_54 ?_
            exact v_iret dX11_steer_55 rfl (Nat.zero_le _) (Nat.zero_le _) ⟨rfl, hf, _, _, rfl, hp, w⟩
      · replace w := w.2 c13
        refine v_iconstI dX11_steer_28 ?_
        exact v_iret dX11_steer_29 rfl (Nat.zero_le _) (Nat.zero_le _) ⟨rfl, hf, _, _, rfl, hp, w⟩
theorem dX10_drift_0 : decode cX10_drift 0 = .ok (.iload_n 2, 1) := by decide +kernel
theorem dX10_drift_1 : decode cX10_drift 1 = .ok (.iconst 0, 1) := by decide +kernel
theorem dX10_drift_2 : decode cX10_drift 2 = .ok (.iconst 2, 1) := by decide +kernel
theorem dX10_drift_3 : decode cX10_drift 3 = .ok (.invokestatic 39, 3) := by decide +kernel
theorem dX10_drift_6 : decode cX10_drift 6 = .ok (.ifCond .eq 15, 3) := by decide +kernel
theorem dX10_drift_9 : decode cX10_drift 9 = .ok (.aload_n 0, 1) := by decide +kernel
theorem dX10_drift_10 : decode cX10_drift 10 = .ok (.getfield 27, 3) := by decide +kernel
theorem dX10_drift_13 : decode cX10_drift 13 = .ok (.getfield 43, 3) := by decide +kernel
theorem dX10_drift_16 : decode cX10_drift 16 = .ok (.iload_n 2, 1) := by decide +kernel
theorem dX10_drift_17 : decode cX10_drift 17 = .ok (.iaload, 1) := by decide +kernel
theorem dX10_drift_18 : decode cX10_drift 18 = .ok (.goto 4, 3) := by decide +kernel
theorem dX10_drift_21 : decode cX10_drift 21 = .ok (.iconst 0, 1) := by decide +kernel
theorem dX10_drift_22 : decode cX10_drift 22 = .ok (.istore_n 3, 1) := by decide +kernel
theorem dX10_drift_23 : decode cX10_drift 23 = .ok (.iload_n 2, 1) := by decide +kernel
theorem dX10_drift_24 : decode cX10_drift 24 = .ok (.iconst 0, 1) := by decide +kernel
theorem dX10_drift_25 : decode cX10_drift 25 = .ok (.iconst 2, 1) := by decide +kernel
theorem dX10_drift_26 : decode cX10_drift 26 = .ok (.invokestatic 39, 3) := by decide +kernel
theorem dX10_drift_29 : decode cX10_drift 29 = .ok (.ifCond .eq 15, 3) := by decide +kernel
theorem dX10_drift_32 : decode cX10_drift 32 = .ok (.aload_n 0, 1) := by decide +kernel
theorem dX10_drift_33 : decode cX10_drift 33 = .ok (.getfield 27, 3) := by decide +kernel
theorem dX10_drift_36 : decode cX10_drift 36 = .ok (.getfield 48, 3) := by decide +kernel
theorem dX10_drift_39 : decode cX10_drift 39 = .ok (.iload_n 2, 1) := by decide +kernel
theorem dX10_drift_40 : decode cX10_drift 40 = .ok (.iaload, 1) := by decide +kernel
theorem dX10_drift_41 : decode cX10_drift 41 = .ok (.goto 4, 3) := by decide +kernel
theorem dX10_drift_44 : decode cX10_drift 44 = .ok (.iconst 0, 1) := by decide +kernel
theorem dX10_drift_45 : decode cX10_drift 45 = .ok (.istore 4, 2) := by decide +kernel
theorem dX10_drift_47 : decode cX10_drift 47 = .ok (.iload_n 1, 1) := by decide +kernel
theorem dX10_drift_48 : decode cX10_drift 48 = .ok (.istore 5, 2) := by decide +kernel
theorem dX10_drift_50 : decode cX10_drift 50 = .ok (.iconst 0, 1) := by decide +kernel
theorem dX10_drift_51 : decode cX10_drift 51 = .ok (.istore 6, 2) := by decide +kernel
theorem dX10_drift_53 : decode cX10_drift 53 = .ok (.iload 6, 2) := by decide +kernel
theorem dX10_drift_55 : decode cX10_drift 55 = .ok (.bipush 12, 2) := by decide +kernel
theorem dX10_drift_57 : decode cX10_drift 57 = .ok (.if_icmp .ge 28, 3) := by decide +kernel
theorem dX10_drift_60 : decode cX10_drift 60 = .ok (.aload_n 0, 1) := by decide +kernel
theorem dX10_drift_61 : decode cX10_drift 61 = .ok (.getfield 9, 3) := by decide +kernel
theorem dX10_drift_64 : decode cX10_drift 64 = .ok (.iload 6, 2) := by decide +kernel
theorem dX10_drift_66 : decode cX10_drift 66 = .ok (.iload 5, 2) := by decide +kernel
theorem dX10_drift_68 : decode cX10_drift 68 = .ok (.iastore, 1) := by decide +kernel
theorem dX10_drift_69 : decode cX10_drift 69 = .ok (.iload 5, 2) := by decide +kernel
theorem dX10_drift_71 : decode cX10_drift 71 = .ok (.iload_n 3, 1) := by decide +kernel
theorem dX10_drift_72 : decode cX10_drift 72 = .ok (.iload 4, 2) := by decide +kernel
theorem dX10_drift_74 : decode cX10_drift 74 = .ok (.invokestatic 51, 3) := by decide +kernel
theorem dX10_drift_77 : decode cX10_drift 77 = .ok (.istore 5, 2) := by decide +kernel
theorem dX10_drift_79 : decode cX10_drift 79 = .ok (.iinc 6 1, 3) := by decide +kernel
theorem dX10_drift_82 : decode cX10_drift 82 = .ok (.goto (-29), 3) := by decide +kernel
theorem dX10_drift_85 : decode cX10_drift 85 = .ok (.return_, 1) := by decide +kernel
def w_X10_drift (a0 a1 : Int) (X : XT) (Q : XT → Prop) : Prop :=
  R32 a1 ∧ ∀ J3 : Int → Prop, (∀ (v2 : Int), (∀ J5 : Int → Prop, (∀ (v4 : Int), (∃ (I9 : Int → Int → XT → Prop) (m10 : Int → Int → XT → Nat), I9 a0 0 X ∧ ∀ (x6 : Int) (x7 : Int) (X8 : XT), I9 x6 x7 X8 → R32 x7 ∧ (12 ≤ x7 → Q X8) ∧ (¬ 12 ≤ x7 → (0 ≤ x7 ∧ x7 < 12) ∧ (0 ≤ x6 ∧ x6 ≤ 576) ∧ (-3 ≤ v2 ∧ v2 ≤ 3) ∧ (-3 ≤ v4 ∧ v4 ≤ 3) ∧ I9 (mvF x6 v2 v4) (x7 + 1) (x_st X8 71 x7 x6) ∧ m10 (mvF x6 v2 v4) (x7 + 1) (x_st X8 71 x7 x6) < m10 x6 x7 X8)) → J5 v4) → (¬ (0 ≤ a1 ∧ a1 ≤ 2) → J5 0) ∧ ((0 ≤ a1 ∧ a1 ≤ 2) → (0 ≤ a1 ∧ a1 < 3) ∧ J5 (X 4 a1))) → J3 v2) → (¬ (0 ≤ a1 ∧ a1 ≤ 2) → J3 0) ∧ ((0 ≤ a1 ∧ a1 ≤ 2) → (0 ≤ a1 ∧ a1 < 3) ∧ J3 (X 3 a1))
set_option maxRecDepth 20000 in
theorem so_X10_drift {n : Nat} {h : Nat → sE} {X : XT} {a0 a1 : Int} {Q : XT → Prop} (hn : 115 ≤ n) (hp : Pic X h) (w : w_X10_drift  a0 a1 X Q) : Sp m_X10_drift 1 0 0 [.ref 70, .int (iI a0), .int (iI a1)] n h (pVw n h Q) := by
  unfold w_X10_drift at w
  refine Sp.ofV (by decide +kernel) (Nat.le_of_ble_eq_true rfl) ?_
  have hf : Fr h h := fun _ _ => rfl
  refine v_iload_n dX10_drift_0 rfl ?_
  refine v_iconstI dX10_drift_1 ?_
  refine v_iconstI dX10_drift_2 ?_
  obtain ⟨q1, w⟩ := w
  refine v_callSp dX10_drift_3 ml_X10_39 (sp_X11_within (a := a1) (b := 0) (c := 2) q1 (by decide) (by decide)) rfl rfl (Nat.le_of_ble_eq_true rfl) (Nat.le_of_ble_eq_true rfl) (Nat.zero_le _) (Nat.zero_le _) ?_
  replace w := w (fun (v2 : Int) => V (m_X10_drift, 1, 0, 0, n, pVw n h Q, s_G0) 0 0 n h 22 [(0, .ref 70), (1, .int (iI a0)), (2, .int (iI a1))] [.int (iI v2)]) (by
    intro v2 w
    refine v_istore_n dX10_drift_22 (Nat.le_of_ble_eq_true rfl) ?_
    refine v_iload_n dX10_drift_23 rfl ?_
    refine v_iconstI dX10_drift_24 ?_
    refine v_iconstI dX10_drift_25 ?_
    refine v_callSp dX10_drift_26 ml_X10_39 (sp_X11_within (a := a1) (b := 0) (c := 2) q1 (by decide) (by decide)) rfl rfl (Nat.le_of_ble_eq_true rfl) (Nat.le_of_ble_eq_true rfl) (Nat.zero_le _) (Nat.zero_le _) ?_
    replace w := w (fun (v4 : Int) => V (m_X10_drift, 1, 0, 0, n, pVw n h Q, s_G0) 0 0 n h 45 [(0, .ref 70), (1, .int (iI a0)), (3, .int (iI v2))] [.int (iI v4)]) (by
      intro v4 w
      refine v_istore dX10_drift_45 (Nat.le_of_ble_eq_true rfl) ?_
      refine v_iload_n dX10_drift_47 rfl ?_
      refine v_istore dX10_drift_48 (Nat.le_of_ble_eq_true rfl) ?_
      refine v_iconstI dX10_drift_50 ?_
      refine v_istore dX10_drift_51 (Nat.le_of_ble_eq_true rfl) ?_
      refine v_pick [3, 5, 2, 1, 0] rfl ?_
      obtain ⟨I9, m10, wi13, wl12⟩ := w
      have hL14 : ∀ (N17 : Nat) (x6 : Int) (x7 : Int) (X8 : XT) (h18 : Nat → sE), m10 x6 x7 X8 < N17 → I9 x6 x7 X8 → Pic X8 h18 → Fr h h18 → V (m_X10_drift, 1, 0, 0, n, pVw n h Q, s_G0) 0 0 n h18 53 [(0, .ref 70), (3, .int (iI v2)), (4, .int (iI v4)), (5, .int (iI x6)), (6, .int (iI x7))] [] := by
        intro N17
        induction N17 with
        | zero => intro x6 x7 X8 h18 hm15; exact absurd hm15 (Nat.not_lt_zero _)
        | succ N17 ih11 =>
          intro x6 x7 X8 h18 hm15 hI16 hp19 hf20
          have w := wl12 x6 x7 X8 hI16
          refine v_iload dX10_drift_53 rfl ?_
          refine v_bipushI dX10_drift_55 rfl ?_
          obtain ⟨q21, w⟩ := w
          refine v_icmp_geI (tgt := 85) dX10_drift_57 (by decide) q21.1 q21.2 (by decide) (by decide) (fun c22 => ?_) (fun c22 => ?_)
          · replace w := w.1 c22
            exact v_vret dX10_drift_85 rfl (Nat.zero_le _) (Nat.zero_le _) ⟨rfl, hf20, _, rfl, hp19, w⟩
          · replace w := w.2 c22
            refine v_aload_n dX10_drift_60 rfl ?_
            refine v_get dX10_drift_61 fl_X10_9 ((hp19 70 (by decide)).trans (ent_70 _)) rfl (s_lt hn rfl) ?_
            refine v_iload dX10_drift_64 rfl ?_
            refine v_iload dX10_drift_66 rfl ?_
            obtain ⟨q23, w⟩ := w
            refine v_iastI dX10_drift_68 ((hp19 71 (by decide)).trans (ent_71 _)) (s_lt hn rfl) q23.1 q23.2 (ix_le q23.2 (by decide)) (fun h24 E25 F26 => ?_)
            have hp27 := pic_st hp19 (show h24 71 = ent 71 (uI _ x7 x6) from E25) F26
            have hf28 := Fr.up (c := 71) hf20 F26 rfl
            refine v_iload dX10_drift_69 rfl ?_
            refine v_iload_n dX10_drift_71 rfl ?_
            refine v_iload dX10_drift_72 rfl ?_
            obtain ⟨q29, q30, q31, w⟩ := w
            refine v_callSp dX10_drift_74 ml_X10_51 (sp_X8_movedBy (a := x6) (x := v2) (y := v4) q29 q30 q31) rfl rfl (Nat.le_of_ble_eq_true rfl) (Nat.le_of_ble_eq_true rfl) (Nat.zero_le _) (Nat.zero_le _) ?_
            refine v_istore dX10_drift_77 (Nat.le_of_ble_eq_true rfl) ?_
            refine v_iincI dX10_drift_79 rfl (Nat.le_of_ble_eq_true rfl) ?_
            refine v_goto (tgt := 53) dX10_drift_82 (by decide) ?_
            refine v_pick [2, 3, 4, 1, 0] rfl ?_
            exact ih11 _ _ _ _ (Nat.lt_of_lt_of_le w.2 (Nat.le_of_lt_succ hm15)) w.1 hp27 hf28
      exact hL14 _ _ _ _ _ (Nat.lt_succ_self _) wi13 hp hf
    )
    refine v_ifeqB (tgt := 44) dX10_drift_29 (by decide) (fun c32 => ?_) (fun c32 => ?_)
    · replace w := w.1 c32
      refine v_iconstI dX10_drift_44 ?_
      refine v_pick [1, 2, 0] rfl ?_
      exact w
    · replace w := w.2 c32
      refine v_aload_n dX10_drift_32 rfl ?_
      refine v_get dX10_drift_33 fl_X10_27 ((hp 70 (by decide)).trans (ent_70 _)) rfl (s_lt hn rfl) ?_
      refine v_get dX10_drift_36 fl_X10_48 ((hp 1 (by decide)).trans (ent_1 _)) rfl (s_lt hn rfl) ?_
      refine v_iload_n dX10_drift_39 rfl ?_
      obtain ⟨q33, w⟩ := w
      refine v_ialdI dX10_drift_40 ((hp 4 (by decide)).trans (ent_4 _)) (s_lt hn rfl) q33.1 q33.2 (ix_le q33.2 (by decide)) ?_
      refine v_goto (tgt := 45) dX10_drift_41 (by decide) ?_
      refine v_pick [1, 2, 0] rfl ?_
      exact w
  )
  refine v_ifeqB (tgt := 21) dX10_drift_6 (by decide) (fun c34 => ?_) (fun c34 => ?_)
  · replace w := w.1 c34
    refine v_iconstI dX10_drift_21 ?_
    exact w
  · replace w := w.2 c34
    refine v_aload_n dX10_drift_9 rfl ?_
    refine v_get dX10_drift_10 fl_X10_27 ((hp 70 (by decide)).trans (ent_70 _)) rfl (s_lt hn rfl) ?_
    refine v_get dX10_drift_13 fl_X10_43 ((hp 1 (by decide)).trans (ent_1 _)) rfl (s_lt hn rfl) ?_
    refine v_iload_n dX10_drift_16 rfl ?_
    obtain ⟨q35, w⟩ := w
    refine v_ialdI dX10_drift_17 ((hp 3 (by decide)).trans (ent_3 _)) (s_lt hn rfl) q35.1 q35.2 (ix_le q35.2 (by decide)) ?_
    refine v_goto (tgt := 22) dX10_drift_18 (by decide) ?_
    exact w
theorem dX10_isAsSeen_0 : decode cX10_isAsSeen 0 = .ok (.iconst 0, 1) := by decide +kernel
theorem dX10_isAsSeen_1 : decode cX10_isAsSeen 1 = .ok (.istore_n 3, 1) := by decide +kernel
theorem dX10_isAsSeen_2 : decode cX10_isAsSeen 2 = .ok (.iload_n 3, 1) := by decide +kernel
theorem dX10_isAsSeen_3 : decode cX10_isAsSeen 3 = .ok (.aload_n 0, 1) := by decide +kernel
theorem dX10_isAsSeen_4 : decode cX10_isAsSeen 4 = .ok (.getfield 27, 3) := by decide +kernel
theorem dX10_isAsSeen_7 : decode cX10_isAsSeen 7 = .ok (.getfield 57, 3) := by decide +kernel
theorem dX10_isAsSeen_10 : decode cX10_isAsSeen 10 = .ok (.if_icmp .ge 86, 3) := by decide +kernel
theorem dX10_isAsSeen_13 : decode cX10_isAsSeen 13 = .ok (.aload_n 0, 1) := by decide +kernel
theorem dX10_isAsSeen_14 : decode cX10_isAsSeen 14 = .ok (.getfield 27, 3) := by decide +kernel
theorem dX10_isAsSeen_17 : decode cX10_isAsSeen 17 = .ok (.iload_n 3, 1) := by decide +kernel
theorem dX10_isAsSeen_18 : decode cX10_isAsSeen 18 = .ok (.iconst 0, 1) := by decide +kernel
theorem dX10_isAsSeen_19 : decode cX10_isAsSeen 19 = .ok (.invokevirtual 61, 3) := by decide +kernel
theorem dX10_isAsSeen_22 : decode cX10_isAsSeen 22 = .ok (.istore 4, 2) := by decide +kernel
theorem dX10_isAsSeen_24 : decode cX10_isAsSeen 24 = .ok (.iload 4, 2) := by decide +kernel
theorem dX10_isAsSeen_26 : decode cX10_isAsSeen 26 = .ok (.invokestatic 65, 3) := by decide +kernel
theorem dX10_isAsSeen_29 : decode cX10_isAsSeen 29 = .ok (.ifCond .eq 13, 3) := by decide +kernel
theorem dX10_isAsSeen_32 : decode cX10_isAsSeen 32 = .ok (.aload_n 0, 1) := by decide +kernel
theorem dX10_isAsSeen_33 : decode cX10_isAsSeen 33 = .ok (.getfield 9, 3) := by decide +kernel
theorem dX10_isAsSeen_36 : decode cX10_isAsSeen 36 = .ok (.iload 4, 2) := by decide +kernel
theorem dX10_isAsSeen_38 : decode cX10_isAsSeen 38 = .ok (.iaload, 1) := by decide +kernel
theorem dX10_isAsSeen_39 : decode cX10_isAsSeen 39 = .ok (.goto 6, 3) := by decide +kernel
theorem dX10_isAsSeen_42 : decode cX10_isAsSeen 42 = .ok (.sipush 576, 3) := by decide +kernel
theorem dX10_isAsSeen_45 : decode cX10_isAsSeen 45 = .ok (.istore 5, 2) := by decide +kernel
theorem dX10_isAsSeen_47 : decode cX10_isAsSeen 47 = .ok (.iload 5, 2) := by decide +kernel
theorem dX10_isAsSeen_49 : decode cX10_isAsSeen 49 = .ok (.iload_n 1, 1) := by decide +kernel
theorem dX10_isAsSeen_50 : decode cX10_isAsSeen 50 = .ok (.iload_n 2, 1) := by decide +kernel
theorem dX10_isAsSeen_51 : decode cX10_isAsSeen 51 = .ok (.aload_n 0, 1) := by decide +kernel
theorem dX10_isAsSeen_52 : decode cX10_isAsSeen 52 = .ok (.getfield 27, 3) := by decide +kernel
theorem dX10_isAsSeen_55 : decode cX10_isAsSeen 55 = .ok (.iload_n 3, 1) := by decide +kernel
theorem dX10_isAsSeen_56 : decode cX10_isAsSeen 56 = .ok (.iconst 1, 1) := by decide +kernel
theorem dX10_isAsSeen_57 : decode cX10_isAsSeen 57 = .ok (.invokevirtual 61, 3) := by decide +kernel
theorem dX10_isAsSeen_60 : decode cX10_isAsSeen 60 = .ok (.invokestatic 69, 3) := by decide +kernel
theorem dX10_isAsSeen_63 : decode cX10_isAsSeen 63 = .ok (.istore 6, 2) := by decide +kernel
theorem dX10_isAsSeen_65 : decode cX10_isAsSeen 65 = .ok (.iload 6, 2) := by decide +kernel
theorem dX10_isAsSeen_67 : decode cX10_isAsSeen 67 = .ok (.aload_n 0, 1) := by decide +kernel
theorem dX10_isAsSeen_68 : decode cX10_isAsSeen 68 = .ok (.getfield 27, 3) := by decide +kernel
theorem dX10_isAsSeen_71 : decode cX10_isAsSeen 71 = .ok (.iload_n 3, 1) := by decide +kernel
theorem dX10_isAsSeen_72 : decode cX10_isAsSeen 72 = .ok (.iconst 2, 1) := by decide +kernel
theorem dX10_isAsSeen_73 : decode cX10_isAsSeen 73 = .ok (.invokevirtual 61, 3) := by decide +kernel
theorem dX10_isAsSeen_76 : decode cX10_isAsSeen 76 = .ok (.iconst 1, 1) := by decide +kernel
theorem dX10_isAsSeen_77 : decode cX10_isAsSeen 77 = .ok (.if_icmp .ne 7, 3) := by decide +kernel
theorem dX10_isAsSeen_80 : decode cX10_isAsSeen 80 = .ok (.iconst 1, 1) := by decide +kernel
theorem dX10_isAsSeen_81 : decode cX10_isAsSeen 81 = .ok (.goto 4, 3) := by decide +kernel
theorem dX10_isAsSeen_84 : decode cX10_isAsSeen 84 = .ok (.iconst 0, 1) := by decide +kernel
theorem dX10_isAsSeen_85 : decode cX10_isAsSeen 85 = .ok (.if_icmp .eq 5, 3) := by decide +kernel
theorem dX10_isAsSeen_88 : decode cX10_isAsSeen 88 = .ok (.iconst 0, 1) := by decide +kernel
theorem dX10_isAsSeen_89 : decode cX10_isAsSeen 89 = .ok (.ireturn, 1) := by decide +kernel
theorem dX10_isAsSeen_90 : decode cX10_isAsSeen 90 = .ok (.iinc 3 1, 3) := by decide +kernel
theorem dX10_isAsSeen_93 : decode cX10_isAsSeen 93 = .ok (.goto (-91), 3) := by decide +kernel
theorem dX10_isAsSeen_96 : decode cX10_isAsSeen 96 = .ok (.iconst 1, 1) := by decide +kernel
theorem dX10_isAsSeen_97 : decode cX10_isAsSeen 97 = .ok (.ireturn, 1) := by decide +kernel
def w_X10_isAsSeen (a0 a1 : Int) (X : XT) (Q : Int → Prop) : Prop :=
  ∃ (I2 : Int → Prop) (m3 : Int → Nat), I2 0 ∧ ∀ (x1 : Int), I2 x1 → R32 x1 ∧ R32 (X 1 12) ∧ ((X 1 12) ≤ x1 → Q 1) ∧ (¬ (X 1 12) ≤ x1 → (0 ≤ x1 ∧ x1 ≤ 9) ∧ R32 (X 8 (x1 * 3 + 0)) ∧ ∀ J17 : Int → Prop, (∀ (v16 : Int), ((0 ≤ v16 ∧ v16 ≤ 576) ∧ (0 ≤ a0 ∧ a0 ≤ 1000) ∧ (0 ≤ a1 ∧ a1 ≤ 1000) ∧ (0 ≤ (X 8 (x1 * 3 + 1)) ∧ (X 8 (x1 * 3 + 1)) ≤ 63) ∧ ∀ J23 : Int → Prop, (∀ (v22 : Int), (R32 (if (¬ v16 = 576 ∧ cvB v16 a0 a1 (X 8 (x1 * 3 + 1))) then 1 else 0) ∧ R32 v22 ∧ ((if (¬ v16 = 576 ∧ cvB v16 a0 a1 (X 8 (x1 * 3 + 1))) then 1 else 0) = v22 → I2 (x1 + 1) ∧ m3 (x1 + 1) < m3 x1) ∧ (¬ (if (¬ v16 = 576 ∧ cvB v16 a0 a1 (X 8 (x1 * 3 + 1))) then 1 else 0) = v22 → Q 0)) → J23 v22) → R32 (X 8 (x1 * 3 + 2)) ∧ (¬ (X 8 (x1 * 3 + 2)) = 1 → J23 0) ∧ ((X 8 (x1 * 3 + 2)) = 1 → J23 1)) → J17 v16) → (¬ (0 ≤ (X 8 (x1 * 3 + 0)) ∧ (X 8 (x1 * 3 + 0)) ≤ 11) → J17 576) ∧ ((0 ≤ (X 8 (x1 * 3 + 0)) ∧ (X 8 (x1 * 3 + 0)) ≤ 11) → (0 ≤ (X 8 (x1 * 3 + 0)) ∧ (X 8 (x1 * 3 + 0)) < 12) ∧ J17 (X 71 (X 8 (x1 * 3 + 0)))))
set_option maxRecDepth 20000 in
theorem so_X10_isAsSeen {n : Nat} {h : Nat → sE} {X : XT} {a0 a1 : Int} {Q : Int → Prop} (hn : 115 ≤ n) (hp : Pic X h) (w : w_X10_isAsSeen  a0 a1 X Q) : Sp m_X10_isAsSeen 3 0 0 [.ref 70, .int (iI a0), .int (iI a1)] n h (pIr n h Q) := by
  unfold w_X10_isAsSeen at w
  refine Sp.ofV (by decide +kernel) (Nat.le_of_ble_eq_true rfl) ?_
  have hf : Fr h h := fun _ _ => rfl
  refine v_iconstI dX10_isAsSeen_0 ?_
  refine v_istore_n dX10_isAsSeen_1 (Nat.le_of_ble_eq_true rfl) ?_
  refine v_pick [1, 2, 3, 0] rfl ?_
  obtain ⟨I2, m3, wi6, wl5⟩ := w
  have hL7 : ∀ (N10 : Nat) (x1 : Int), m3 x1 < N10 → I2 x1 → V (m_X10_isAsSeen, 3, 0, 0, n, pIr n h Q, s_G0) 0 0 n h 2 [(0, .ref 70), (1, .int (iI a0)), (2, .int (iI a1)), (3, .int (iI x1))] [] := by
    intro N10
    induction N10 with
    | zero => intro x1  hm8; exact absurd hm8 (Nat.not_lt_zero _)
    | succ N10 ih4 =>
      intro x1  hm8 hI9
      have w := wl5 x1 hI9
      refine v_iload_n dX10_isAsSeen_2 rfl ?_
      refine v_aload_n dX10_isAsSeen_3 rfl ?_
      refine v_get dX10_isAsSeen_4 fl_X10_27 ((hp 70 (by decide)).trans (ent_70 _)) rfl (s_lt hn rfl) ?_
      refine v_get dX10_isAsSeen_7 fl_X10_57 ((hp 1 (by decide)).trans (ent_1 _)) rfl (s_lt hn rfl) ?_
      obtain ⟨q11, q12, w⟩ := w
      refine v_icmp_geI (tgt := 96) dX10_isAsSeen_10 (by decide) q11.1 q11.2 q12.1 q12.2 (fun c13 => ?_) (fun c13 => ?_)
      · replace w := w.1 c13
        refine v_iconstI dX10_isAsSeen_96 ?_
        exact v_z1 dX10_isAsSeen_97 rfl (Nat.zero_le _) (Nat.zero_le _) ⟨rfl, rfl, _, rfl, w⟩
      · replace w := w.2 c13
        refine v_aload_n dX10_isAsSeen_13 rfl ?_
        refine v_get dX10_isAsSeen_14 fl_X10_27 ((hp 70 (by decide)).trans (ent_70 _)) rfl (s_lt hn rfl) ?_
        refine v_iload_n dX10_isAsSeen_17 rfl ?_
        refine v_iconstI dX10_isAsSeen_18 ?_
        obtain ⟨q14, w⟩ := w
        refine v_callVp dX10_isAsSeen_19 ml_X10_61 (sv_X3_sightFact (a := x1) (b := 0) (g1 := X 1) (g8 := X 8) hn (hp 1 (by decide)) (hp 8 (by decide)) q14 (by decide)) ((hp 1 (by decide)).trans (ent_1 _)) rfl (s_lt hn rfl) rfl rfl (Nat.le_of_ble_eq_true rfl) (Nat.le_of_ble_eq_true rfl) (Nat.zero_le _) (Nat.zero_le _) ?_
        refine v_istore dX10_isAsSeen_22 (Nat.le_of_ble_eq_true rfl) ?_
        refine v_iload dX10_isAsSeen_24 rfl ?_
        obtain ⟨q15, w⟩ := w
        refine v_callSp dX10_isAsSeen_26 ml_X10_65 (sp_X11_isHour (a := (X 8 (x1 * 3 + 0))) q15) rfl rfl (Nat.le_of_ble_eq_true rfl) (Nat.le_of_ble_eq_true rfl) (Nat.zero_le _) (Nat.zero_le _) ?_
        replace w := w (fun (v16 : Int) => V (m_X10_isAsSeen, 3, 0, 0, n, pIr n h Q, s_G0) 0 0 n h 45 [(0, .ref 70), (1, .int (iI a0)), (2, .int (iI a1)), (3, .int (iI x1))] [.int (iI v16)]) (by
          intro v16 w
          refine v_istore dX10_isAsSeen_45 (Nat.le_of_ble_eq_true rfl) ?_
          refine v_iload dX10_isAsSeen_47 rfl ?_
          refine v_iload_n dX10_isAsSeen_49 rfl ?_
          refine v_iload_n dX10_isAsSeen_50 rfl ?_
          refine v_aload_n dX10_isAsSeen_51 rfl ?_
          refine v_get dX10_isAsSeen_52 fl_X10_27 ((hp 70 (by decide)).trans (ent_70 _)) rfl (s_lt hn rfl) ?_
          refine v_iload_n dX10_isAsSeen_55 rfl ?_
          refine v_iconstI dX10_isAsSeen_56 ?_
          refine v_callVp dX10_isAsSeen_57 ml_X10_61 (sv_X3_sightFact (a := x1) (b := 1) (g1 := X 1) (g8 := X 8) hn (hp 1 (by decide)) (hp 8 (by decide)) q14 (by decide)) ((hp 1 (by decide)).trans (ent_1 _)) rfl (s_lt hn rfl) rfl rfl (Nat.le_of_ble_eq_true rfl) (Nat.le_of_ble_eq_true rfl) (Nat.zero_le _) (Nat.zero_le _) ?_
          obtain ⟨q18, q19, q20, q21, w⟩ := w
          refine v_callSp dX10_isAsSeen_60 ml_X10_69 (sp_X8_covers (s := v16) (wd := a0) (tl := a1) (f := (X 8 (x1 * 3 + 1))) q18 q19 q20 q21) rfl rfl (Nat.le_of_ble_eq_true rfl) (Nat.le_of_ble_eq_true rfl) (Nat.zero_le _) (Nat.zero_le _) ?_
          refine v_istore dX10_isAsSeen_63 (Nat.le_of_ble_eq_true rfl) ?_
          refine v_iload dX10_isAsSeen_65 rfl ?_
          refine v_aload_n dX10_isAsSeen_67 rfl ?_
          refine v_get dX10_isAsSeen_68 fl_X10_27 ((hp 70 (by decide)).trans (ent_70 _)) rfl (s_lt hn rfl) ?_
          refine v_iload_n dX10_isAsSeen_71 rfl ?_
          refine v_iconstI dX10_isAsSeen_72 ?_
          refine v_callVp dX10_isAsSeen_73 ml_X10_61 (sv_X3_sightFact (a := x1) (b := 2) (g1 := X 1) (g8 := X 8) hn (hp 1 (by decide)) (hp 8 (by decide)) q14 (by decide)) ((hp 1 (by decide)).trans (ent_1 _)) rfl (s_lt hn rfl) rfl rfl (Nat.le_of_ble_eq_true rfl) (Nat.le_of_ble_eq_true rfl) (Nat.zero_le _) (Nat.zero_le _) ?_
          refine v_iconstI dX10_isAsSeen_76 ?_
          replace w := w (fun (v22 : Int) => V (m_X10_isAsSeen, 3, 0, 0, n, pIr n h Q, s_G0) 0 0 n h 85 [(0, .ref 70), (1, .int (iI a0)), (2, .int (iI a1)), (3, .int (iI x1))] [.int (iI v22), .int (bI (¬ v16 = 576 ∧ cvB v16 a0 a1 (X 8 (x1 * 3 + 1))))]) (by
            intro v22 w
            obtain ⟨q24, q25, w⟩ := w
            refine v_icmp_eqI (tgt := 90) dX10_isAsSeen_85 (by decide) q24.1 q24.2 q25.1 q25.2 (fun c26 => ?_) (fun c26 => ?_)
            · replace w := w.1 c26
              refine v_iincI dX10_isAsSeen_90 rfl (Nat.le_of_ble_eq_true rfl) ?_
              refine v_goto (tgt := 2) dX10_isAsSeen_93 (by decide) ?_
              refine v_pick [1, 2, 3, 0] rfl ?_
              exact ih4 _ (Nat.lt_of_lt_of_le w.2 (Nat.le_of_lt_succ hm8)) w.1
            · replace w := w.2 c26
              refine v_iconstI dX10_isAsSeen_88 ?_
              exact v_z0 dX10_isAsSeen_89 rfl (Nat.zero_le _) (Nat.zero_le _) ⟨rfl, rfl, _, rfl, w⟩
          )
          obtain ⟨q27, w⟩ := w
          refine v_icmp_neI (tgt := 84) dX10_isAsSeen_77 (by decide) q27.1 q27.2 (by decide) (by decide) (fun c28 => ?_) (fun c28 => ?_)
          · replace w := w.1 c28
            refine v_iconstI dX10_isAsSeen_84 ?_
            refine v_pick [2, 3, 4, 5] rfl ?_
            exact w
          · replace w := w.2 c28
            refine v_iconstI dX10_isAsSeen_80 ?_
            refine v_goto (tgt := 85) dX10_isAsSeen_81 (by decide) ?_
            refine v_pick [2, 3, 4, 5] rfl ?_
            exact w
        )
        refine v_ifeqB (tgt := 42) dX10_isAsSeen_29 (by decide) (fun c29 => ?_) (fun c29 => ?_)
        · replace w := w.1 c29
          refine v_sipushI dX10_isAsSeen_42 rfl ?_
          refine v_pick [1, 2, 3, 4] rfl ?_
          exact w
        · replace w := w.2 c29
          refine v_aload_n dX10_isAsSeen_32 rfl ?_
          refine v_get dX10_isAsSeen_33 fl_X10_9 ((hp 70 (by decide)).trans (ent_70 _)) rfl (s_lt hn rfl) ?_
          refine v_iload dX10_isAsSeen_36 rfl ?_
          obtain ⟨q30, w⟩ := w
          refine v_ialdI dX10_isAsSeen_38 ((hp 71 (by decide)).trans (ent_71 _)) (s_lt hn rfl) q30.1 q30.2 (ix_le q30.2 (by decide)) ?_
          refine v_goto (tgt := 45) dX10_isAsSeen_39 (by decide) ?_
          refine v_pick [1, 2, 3, 4] rfl ?_
          exact w
  exact hL7 _ _ (Nat.lt_succ_self _) wi6
theorem dX10_strayed_0 : decode cX10_strayed 0 = .ok (.iconst 0, 1) := by decide +kernel
theorem dX10_strayed_1 : decode cX10_strayed 1 = .ok (.istore 5, 2) := by decide +kernel
theorem dX10_strayed_3 : decode cX10_strayed 3 = .ok (.iconst 0, 1) := by decide +kernel
theorem dX10_strayed_4 : decode cX10_strayed 4 = .ok (.istore 6, 2) := by decide +kernel
theorem dX10_strayed_6 : decode cX10_strayed 6 = .ok (.iload 6, 2) := by decide +kernel
theorem dX10_strayed_8 : decode cX10_strayed 8 = .ok (.sipush 576, 3) := by decide +kernel
theorem dX10_strayed_11 : decode cX10_strayed 11 = .ok (.if_icmp .ge 38, 3) := by decide +kernel
theorem dX10_strayed_14 : decode cX10_strayed 14 = .ok (.aload_n 0, 1) := by decide +kernel
theorem dX10_strayed_15 : decode cX10_strayed 15 = .ok (.iload 6, 2) := by decide +kernel
theorem dX10_strayed_17 : decode cX10_strayed 17 = .ok (.iload_n 3, 1) := by decide +kernel
theorem dX10_strayed_18 : decode cX10_strayed 18 = .ok (.invokevirtual 31, 3) := by decide +kernel
theorem dX10_strayed_21 : decode cX10_strayed 21 = .ok (.aload_n 0, 1) := by decide +kernel
theorem dX10_strayed_22 : decode cX10_strayed 22 = .ok (.iload_n 1, 1) := by decide +kernel
theorem dX10_strayed_23 : decode cX10_strayed 23 = .ok (.iload_n 2, 1) := by decide +kernel
theorem dX10_strayed_24 : decode cX10_strayed 24 = .ok (.invokevirtual 35, 3) := by decide +kernel
theorem dX10_strayed_27 : decode cX10_strayed 27 = .ok (.ifCond .eq 16, 3) := by decide +kernel
theorem dX10_strayed_30 : decode cX10_strayed 30 = .ok (.iload 5, 2) := by decide +kernel
theorem dX10_strayed_32 : decode cX10_strayed 32 = .ok (.iload 4, 2) := by decide +kernel
theorem dX10_strayed_34 : decode cX10_strayed 34 = .ok (.if_icmp .ne 6, 3) := by decide +kernel
theorem dX10_strayed_37 : decode cX10_strayed 37 = .ok (.iload 6, 2) := by decide +kernel
theorem dX10_strayed_39 : decode cX10_strayed 39 = .ok (.ireturn, 1) := by decide +kernel
theorem dX10_strayed_40 : decode cX10_strayed 40 = .ok (.iinc 5 1, 3) := by decide +kernel
theorem dX10_strayed_43 : decode cX10_strayed 43 = .ok (.iinc 6 1, 3) := by decide +kernel
theorem dX10_strayed_46 : decode cX10_strayed 46 = .ok (.goto (-40), 3) := by decide +kernel
theorem dX10_strayed_49 : decode cX10_strayed 49 = .ok (.iload 4, 2) := by decide +kernel
theorem dX10_strayed_51 : decode cX10_strayed 51 = .ok (.iconst (-1), 1) := by decide +kernel
theorem dX10_strayed_52 : decode cX10_strayed 52 = .ok (.if_icmp .ne 8, 3) := by decide +kernel
theorem dX10_strayed_55 : decode cX10_strayed 55 = .ok (.iload 5, 2) := by decide +kernel
theorem dX10_strayed_57 : decode cX10_strayed 57 = .ok (.goto 4, 3) := by decide +kernel
theorem dX10_strayed_60 : decode cX10_strayed 60 = .ok (.iconst (-1), 1) := by decide +kernel
theorem dX10_strayed_61 : decode cX10_strayed 61 = .ok (.ireturn, 1) := by decide +kernel
def w_X10_strayed (a0 a1 a2 a3 : Int) (X : XT) (Q : Int → XT → Prop) : Prop :=
  ∃ (I4 : Int → Int → XT → Prop) (m5 : Int → Int → XT → Nat), I4 0 0 X ∧ ∀ (x1 : Int) (x2 : Int) (X3 : XT), I4 x1 x2 X3 → R32 x2 ∧ (576 ≤ x2 → R32 a3 ∧ (¬ a3 = (-1) → Q (-1) X3) ∧ (a3 = (-1) → Q x1 X3)) ∧ (¬ 576 ≤ x2 → w_X10_drift  x2 a2 X3 (fun (X21 : XT) => w_X10_isAsSeen  a0 a1 X21 (fun (v26 : Int) => R32 v26 ∧ (v26 = 0 → I4 x1 (x2 + 1) X21 ∧ m5 x1 (x2 + 1) X21 < m5 x1 x2 X3) ∧ (¬ v26 = 0 → R32 x1 ∧ R32 a3 ∧ (¬ x1 = a3 → I4 (x1 + 1) (x2 + 1) X21 ∧ m5 (x1 + 1) (x2 + 1) X21 < m5 x1 x2 X3) ∧ (x1 = a3 → Q x2 X21)))))
set_option maxRecDepth 20000 in
theorem so_X10_strayed {n : Nat} {h : Nat → sE} {X : XT} {a0 a1 a2 a3 : Int} {Q : Int → XT → Prop} (hn : 115 ≤ n) (hp : Pic X h) (w : w_X10_strayed  a0 a1 a2 a3 X Q) : Sp m_X10_strayed 4 0 0 [.ref 70, .int (iI a0), .int (iI a1), .int (iI a2), .int (iI a3)] n h (pIw n h Q) := by
  unfold w_X10_strayed at w
  refine Sp.ofV (by decide +kernel) (Nat.le_of_ble_eq_true rfl) ?_
  have hf : Fr h h := fun _ _ => rfl
  refine v_iconstI dX10_strayed_0 ?_
  refine v_istore dX10_strayed_1 (Nat.le_of_ble_eq_true rfl) ?_
  refine v_iconstI dX10_strayed_3 ?_
  refine v_istore dX10_strayed_4 (Nat.le_of_ble_eq_true rfl) ?_
  refine v_pick [2, 3, 4, 5, 6, 1, 0] rfl ?_
  obtain ⟨I4, m5, wi8, wl7⟩ := w
  have hL9 : ∀ (N12 : Nat) (x1 : Int) (x2 : Int) (X3 : XT) (h13 : Nat → sE), m5 x1 x2 X3 < N12 → I4 x1 x2 X3 → Pic X3 h13 → Fr h h13 → V (m_X10_strayed, 4, 0, 0, n, pIw n h Q, s_G0) 0 0 n h13 6 [(0, .ref 70), (1, .int (iI a0)), (2, .int (iI a1)), (3, .int (iI a2)), (4, .int (iI a3)), (5, .int (iI x1)), (6, .int (iI x2))] [] := by
    intro N12
    induction N12 with
    | zero => intro x1 x2 X3 h13 hm10; exact absurd hm10 (Nat.not_lt_zero _)
    | succ N12 ih6 =>
      intro x1 x2 X3 h13 hm10 hI11 hp14 hf15
      have w := wl7 x1 x2 X3 hI11
      refine v_iload dX10_strayed_6 rfl ?_
      refine v_sipushI dX10_strayed_8 rfl ?_
      obtain ⟨q16, w⟩ := w
      refine v_icmp_geI (tgt := 49) dX10_strayed_11 (by decide) q16.1 q16.2 (by decide) (by decide) (fun c17 => ?_) (fun c17 => ?_)
      · replace w := w.1 c17
        refine v_iload dX10_strayed_49 rfl ?_
        refine v_iconstI dX10_strayed_51 ?_
        obtain ⟨q18, w⟩ := w
        refine v_icmp_neI (tgt := 60) dX10_strayed_52 (by decide) q18.1 q18.2 (by decide) (by decide) (fun c19 => ?_) (fun c19 => ?_)
        · replace w := w.1 c19
          refine v_iconstI dX10_strayed_60 ?_
          exact v_iret dX10_strayed_61 rfl (Nat.zero_le _) (Nat.zero_le _) ⟨rfl, hf15, _, _, rfl, hp14, w⟩
        · replace w := w.2 c19
          refine v_iload dX10_strayed_55 rfl ?_
          refine v_goto (tgt := 61) dX10_strayed_57 (by decide) ?_
          exact v_iret dX10_strayed_61 rfl (Nat.zero_le _) (Nat.zero_le _) ⟨rfl, hf15, _, _, rfl, hp14, w⟩
      · replace w := w.2 c17
        refine v_aload_n dX10_strayed_14 rfl ?_
        refine v_iload dX10_strayed_15 rfl ?_
        refine v_iload_n dX10_strayed_17 rfl ?_
        refine v_callVVw dX10_strayed_18 ml_X10_31 (so_X10_drift hn hp14  w) ((hp14 70 (by decide)).trans (ent_70 _)) rfl (s_lt hn rfl) rfl rfl (Nat.le_of_ble_eq_true rfl) (Nat.le_of_ble_eq_true rfl) (Nat.zero_le _) (Nat.zero_le _) (fun X21 h22 hp24 hf23 w => ?_)
        have hf25 := Fr.trans hf15 hf23
        refine v_aload_n dX10_strayed_21 rfl ?_
        refine v_iload_n dX10_strayed_22 rfl ?_
        refine v_iload_n dX10_strayed_23 rfl ?_
        refine v_callVIr dX10_strayed_24 ml_X10_35 (so_X10_isAsSeen hn hp24  w) ((hp24 70 (by decide)).trans (ent_70 _)) rfl (s_lt hn rfl) rfl rfl (Nat.le_of_ble_eq_true rfl) (Nat.le_of_ble_eq_true rfl) (Nat.zero_le _) (Nat.zero_le _) (fun v26 w => ?_)
        obtain ⟨q32, w⟩ := w
        refine v_if_eqI (tgt := 43) dX10_strayed_27 (by decide) q32.1 q32.2 (fun c33 => ?_) (fun c33 => ?_)
        · replace w := w.1 c33
          refine v_iincI dX10_strayed_43 rfl (Nat.le_of_ble_eq_true rfl) ?_
          refine v_goto (tgt := 6) dX10_strayed_46 (by decide) ?_
          refine v_pick [1, 2, 3, 4, 5, 6, 0] rfl ?_
          exact ih6 _ _ _ _ (Nat.lt_of_lt_of_le w.2 (Nat.le_of_lt_succ hm10)) w.1 hp24 hf25
        · replace w := w.2 c33
          refine v_iload dX10_strayed_30 rfl ?_
          refine v_iload dX10_strayed_32 rfl ?_
          obtain ⟨q34, q35, w⟩ := w
          refine v_icmp_neI (tgt := 40) dX10_strayed_34 (by decide) q34.1 q34.2 q35.1 q35.2 (fun c36 => ?_) (fun c36 => ?_)
          · replace w := w.1 c36
            refine v_iincI dX10_strayed_40 rfl (Nat.le_of_ble_eq_true rfl) ?_
            refine v_iincI dX10_strayed_43 rfl (Nat.le_of_ble_eq_true rfl) ?_
            refine v_goto (tgt := 6) dX10_strayed_46 (by decide) ?_
            refine v_pick [2, 3, 4, 5, 6, 1, 0] rfl ?_
            exact ih6 _ _ _ _ (Nat.lt_of_lt_of_le w.2 (Nat.le_of_lt_succ hm10)) w.1 hp24 hf25
          · replace w := w.2 c36
            refine v_iload dX10_strayed_37 rfl ?_
            exact v_iret dX10_strayed_39 rfl (Nat.zero_le _) (Nat.zero_le _) ⟨rfl, hf25, _, _, rfl, hp24, w⟩
  exact hL9 _ _ _ _ _ (Nat.lt_succ_self _) wi8 hp hf
theorem dX11_stray_0 : decode cX11_stray 0 = .ok (.iload_n 1, 1) := by decide +kernel
theorem dX11_stray_1 : decode cX11_stray 1 = .ok (.iload_n 2, 1) := by decide +kernel
theorem dX11_stray_2 : decode cX11_stray 2 = .ok (.iload_n 3, 1) := by decide +kernel
theorem dX11_stray_3 : decode cX11_stray 3 = .ok (.invokestatic 144, 3) := by decide +kernel
theorem dX11_stray_6 : decode cX11_stray 6 = .ok (.ifCond .eq 9, 3) := by decide +kernel
theorem dX11_stray_9 : decode cX11_stray 9 = .ok (.iload 4, 2) := by decide +kernel
theorem dX11_stray_11 : decode cX11_stray 11 = .ok (.iconst (-1), 1) := by decide +kernel
theorem dX11_stray_12 : decode cX11_stray 12 = .ok (.if_icmp .ge 5, 3) := by decide +kernel
theorem dX11_stray_15 : decode cX11_stray 15 = .ok (.iconst (-1), 1) := by decide +kernel
theorem dX11_stray_16 : decode cX11_stray 16 = .ok (.ireturn, 1) := by decide +kernel
theorem dX11_stray_17 : decode cX11_stray 17 = .ok (.aload_n 0, 1) := by decide +kernel
theorem dX11_stray_18 : decode cX11_stray 18 = .ok (.getfield 91, 3) := by decide +kernel
theorem dX11_stray_21 : decode cX11_stray 21 = .ok (.iload_n 1, 1) := by decide +kernel
theorem dX11_stray_22 : decode cX11_stray 22 = .ok (.iload_n 2, 1) := by decide +kernel
theorem dX11_stray_23 : decode cX11_stray 23 = .ok (.iload_n 3, 1) := by decide +kernel
theorem dX11_stray_24 : decode cX11_stray 24 = .ok (.iload 4, 2) := by decide +kernel
theorem dX11_stray_26 : decode cX11_stray 26 = .ok (.invokevirtual 326, 3) := by decide +kernel
theorem dX11_stray_29 : decode cX11_stray 29 = .ok (.ireturn, 1) := by decide +kernel
def w_X11_stray (a0 a1 a2 a3 : Int) (X : XT) (Q : Int → XT → Prop) : Prop :=
  R32 a0 ∧ R32 a1 ∧ R32 a2 ∧ (¬ (1 ≤ a0 ∧ a0 ≤ 3 ∧ 1 ≤ a1 ∧ a1 ≤ 3 ∧ 0 ≤ a2 ∧ a2 ≤ 2) → Q (-1) X) ∧ ((1 ≤ a0 ∧ a0 ≤ 3 ∧ 1 ≤ a1 ∧ a1 ≤ 3 ∧ 0 ≤ a2 ∧ a2 ≤ 2) → R32 a3 ∧ ((-1) ≤ a3 → w_X10_strayed  a0 a1 a2 a3 X (fun (v7 : Int) (X8 : XT) => Q v7 X8)) ∧ (¬ (-1) ≤ a3 → Q (-1) X))
set_option maxRecDepth 20000 in
theorem so_X11_stray {n : Nat} {h : Nat → sE} {X : XT} {a0 a1 a2 a3 : Int} {Q : Int → XT → Prop} (hn : 115 ≤ n) (hp : Pic X h) (w : w_X11_stray  a0 a1 a2 a3 X Q) : Sp m_X11_stray 5 0 0 [.ref 0, .int (iI a0), .int (iI a1), .int (iI a2), .int (iI a3)] n h (pIw n h Q) := by
  unfold w_X11_stray at w
  refine Sp.ofV (by decide +kernel) (Nat.le_of_ble_eq_true rfl) ?_
  have hf : Fr h h := fun _ _ => rfl
  refine v_iload_n dX11_stray_0 rfl ?_
  refine v_iload_n dX11_stray_1 rfl ?_
  refine v_iload_n dX11_stray_2 rfl ?_
  obtain ⟨q1, q2, q3, w⟩ := w
  refine v_callSp dX11_stray_3 ml_X11_144 (sp_X3_isShape (a := a0) (b := a1) (c := a2) q1 q2 q3) rfl rfl (Nat.le_of_ble_eq_true rfl) (Nat.le_of_ble_eq_true rfl) (Nat.zero_le _) (Nat.zero_le _) ?_
  refine v_ifeqB (tgt := 15) dX11_stray_6 (by decide) (fun c4 => ?_) (fun c4 => ?_)
  · replace w := w.1 c4
    refine v_iconstI dX11_stray_15 ?_
    exact v_iret dX11_stray_16 rfl (Nat.zero_le _) (Nat.zero_le _) ⟨rfl, hf, _, _, rfl, hp, w⟩
  · replace w := w.2 c4
    refine v_iload dX11_stray_9 rfl ?_
    refine v_iconstI dX11_stray_11 ?_
    obtain ⟨q5, w⟩ := w
    refine v_icmp_geI (tgt := 17) dX11_stray_12 (by decide) q5.1 q5.2 (by decide) (by decide) (fun c6 => ?_) (fun c6 => ?_)
    · replace w := w.1 c6
      refine v_aload_n dX11_stray_17 rfl ?_
      refine v_get dX11_stray_18 fl_X11_91 ((hp 0 (by decide)).trans (ent_0 _)) rfl (s_lt hn rfl) ?_
      refine v_iload_n dX11_stray_21 rfl ?_
      refine v_iload_n dX11_stray_22 rfl ?_
      refine v_iload_n dX11_stray_23 rfl ?_
      refine v_iload dX11_stray_24 rfl ?_
      refine v_callVIw dX11_stray_26 ml_X11_326 (so_X10_strayed hn hp  w) ((hp 70 (by decide)).trans (ent_70 _)) rfl (s_lt hn rfl) rfl rfl (Nat.le_of_ble_eq_true rfl) (Nat.le_of_ble_eq_true rfl) (Nat.zero_le _) (Nat.zero_le _) (fun v7 X8 h9 hp11 hf10 w => ?_)
      have hf12 := Fr.trans hf hf10
      exact v_iret dX11_stray_29 rfl (Nat.zero_le _) (Nat.zero_le _) ⟨rfl, hf12, _, _, rfl, hp11, w⟩
    · replace w := w.2 c6
      refine v_iconstI dX11_stray_15 ?_
      exact v_iret dX11_stray_16 rfl (Nat.zero_le _) (Nat.zero_le _) ⟨rfl, hf, _, _, rfl, hp, w⟩
theorem dX8_follow_0 : decode cX8_follow 0 = .ok (.aload_n 0, 1) := by decide +kernel
theorem dX8_follow_1 : decode cX8_follow 1 = .ok (.iload_n 1, 1) := by decide +kernel
theorem dX8_follow_2 : decode cX8_follow 2 = .ok (.iconst 0, 1) := by decide +kernel
theorem dX8_follow_3 : decode cX8_follow 3 = .ok (.aload_n 0, 1) := by decide +kernel
theorem dX8_follow_4 : decode cX8_follow 4 = .ok (.getfield 18, 3) := by decide +kernel
theorem dX8_follow_7 : decode cX8_follow 7 = .ok (.iload_n 1, 1) := by decide +kernel
theorem dX8_follow_8 : decode cX8_follow 8 = .ok (.invokevirtual 52, 3) := by decide +kernel
theorem dX8_follow_11 : decode cX8_follow 11 = .ok (.invokevirtual 55, 3) := by decide +kernel
theorem dX8_follow_14 : decode cX8_follow 14 = .ok (.iconst 0, 1) := by decide +kernel
theorem dX8_follow_15 : decode cX8_follow 15 = .ok (.istore_n 2, 1) := by decide +kernel
theorem dX8_follow_16 : decode cX8_follow 16 = .ok (.iload_n 2, 1) := by decide +kernel
theorem dX8_follow_17 : decode cX8_follow 17 = .ok (.bipush 11, 2) := by decide +kernel
theorem dX8_follow_19 : decode cX8_follow 19 = .ok (.if_icmp .ge 16, 3) := by decide +kernel
theorem dX8_follow_22 : decode cX8_follow 22 = .ok (.aload_n 0, 1) := by decide +kernel
theorem dX8_follow_23 : decode cX8_follow 23 = .ok (.iload_n 1, 1) := by decide +kernel
theorem dX8_follow_24 : decode cX8_follow 24 = .ok (.iload_n 2, 1) := by decide +kernel
theorem dX8_follow_25 : decode cX8_follow 25 = .ok (.iconst 0, 1) := by decide +kernel
theorem dX8_follow_26 : decode cX8_follow 26 = .ok (.invokevirtual 59, 3) := by decide +kernel
theorem dX8_follow_29 : decode cX8_follow 29 = .ok (.iinc 2 1, 3) := by decide +kernel
theorem dX8_follow_32 : decode cX8_follow 32 = .ok (.goto (-16), 3) := by decide +kernel
theorem dX8_follow_35 : decode cX8_follow 35 = .ok (.return_, 1) := by decide +kernel
def w_X8_follow (K : LK) (ta sb : Nat) (a0 : Int) (X : XT) (Q : XT → Prop) : Prop :=
  w_X3_startOf  a0 X (fun (v1 : Int) => w_X8_place ta sb a0 0 v1 X (fun (X8 : XT) => ∃ (I15 : Int → XT → Prop) (m16 : Int → XT → Nat), I15 0 X8 ∧ ∀ (x13 : Int) (X14 : XT), I15 x13 X14 → R32 x13 ∧ (11 ≤ x13 → Q X14) ∧ (¬ 11 ≤ x13 → w_X8_goOn K ta sb a0 x13 0 X14 (fun (X30 : XT) => I15 (x13 + 1) X30 ∧ m16 (x13 + 1) X30 < m16 x13 X14))))
set_option maxRecDepth 20000 in
theorem so_X8_follow_49 {n : Nat} {h : Nat → sE} {X : XT} {K : LK} {hk : Nat → sE} (hK : LKok K n hk) {a0 : Int} {Q : XT → Prop} (hn : 115 ≤ n) (hp : Pic X h) (hf9 : Fr hk h) (w : w_X8_follow K 50 51 a0 X Q) : Sp m_X8_follow 5 0 0 [.ref 49, .int (iI a0)] n h (pVw n h Q) := by
  unfold w_X8_follow at w
  refine Sp.ofV (by decide +kernel) (Nat.le_of_ble_eq_true rfl) ?_
  have hf : Fr h h := fun _ _ => rfl
  refine v_aload_n dX8_follow_0 rfl ?_
  refine v_iload_n dX8_follow_1 rfl ?_
  refine v_iconstI dX8_follow_2 ?_
  refine v_aload_n dX8_follow_3 rfl ?_
  refine v_get dX8_follow_4 fl_X8_18 ((hp 49 (by decide)).trans (ent_49 _)) rfl (s_lt hn rfl) ?_
  refine v_iload_n dX8_follow_7 rfl ?_
  refine v_callVIr dX8_follow_8 ml_X8_52 (so_X3_startOf hn hp  w) ((hp 1 (by decide)).trans (ent_1 _)) rfl (s_lt hn rfl) rfl rfl (Nat.le_of_ble_eq_true rfl) (Nat.le_of_ble_eq_true rfl) (Nat.zero_le _) (Nat.zero_le _) (fun v1 w => ?_)
  refine v_callVVw dX8_follow_11 ml_X8_55 (so_X8_place_49 hn hp  w) ((hp 49 (by decide)).trans (ent_49 _)) rfl (s_lt hn rfl) rfl rfl (Nat.le_of_ble_eq_true rfl) (Nat.le_of_ble_eq_true rfl) (Nat.zero_le _) (Nat.zero_le _) (fun X8 h9 hp11 hf10 w => ?_)
  have hf12 := Fr.trans hf hf10
  refine v_iconstI dX8_follow_14 ?_
  refine v_istore_n dX8_follow_15 (Nat.le_of_ble_eq_true rfl) ?_
  refine v_pick [1, 2, 0] rfl ?_
  obtain ⟨I15, m16, wi19, wl18⟩ := w
  have hL20 : ∀ (N23 : Nat) (x13 : Int) (X14 : XT) (h24 : Nat → sE), m16 x13 X14 < N23 → I15 x13 X14 → Pic X14 h24 → Fr h h24 → V (m_X8_follow, 5, 0, 0, n, pVw n h Q, s_G0) 0 0 n h24 16 [(0, .ref 49), (1, .int (iI a0)), (2, .int (iI x13))] [] := by
    intro N23
    induction N23 with
    | zero => intro x13 X14 h24 hm21; exact absurd hm21 (Nat.not_lt_zero _)
    | succ N23 ih17 =>
      intro x13 X14 h24 hm21 hI22 hp25 hf26
      have w := wl18 x13 X14 hI22
      refine v_iload_n dX8_follow_16 rfl ?_
      refine v_bipushI dX8_follow_17 rfl ?_
      obtain ⟨q27, w⟩ := w
      refine v_icmp_geI (tgt := 35) dX8_follow_19 (by decide) q27.1 q27.2 (by decide) (by decide) (fun c28 => ?_) (fun c28 => ?_)
      · replace w := w.1 c28
        exact v_vret dX8_follow_35 rfl (Nat.zero_le _) (Nat.zero_le _) ⟨rfl, hf26, _, rfl, hp25, w⟩
      · replace w := w.2 c28
        refine v_aload_n dX8_follow_22 rfl ?_
        refine v_iload_n dX8_follow_23 rfl ?_
        refine v_iload_n dX8_follow_24 rfl ?_
        refine v_iconstI dX8_follow_25 ?_
        refine v_callVVw dX8_follow_26 ml_X8_59 (so_X8_goOn_49 hK hn hp25 (Fr.trans hf9 hf26) w) ((hp25 49 (by decide)).trans (ent_49 _)) rfl (s_lt hn rfl) rfl rfl (Nat.le_of_ble_eq_true rfl) (Nat.le_of_ble_eq_true rfl) (Nat.zero_le _) (Nat.zero_le _) (fun X30 h31 hp33 hf32 w => ?_)
        have hf34 := Fr.trans hf26 hf32
        refine v_iincI dX8_follow_29 rfl (Nat.le_of_ble_eq_true rfl) ?_
        refine v_goto (tgt := 16) dX8_follow_32 (by decide) ?_
        refine v_pick [1, 2, 0] rfl ?_
        exact ih17 _ _ _ (Nat.lt_of_lt_of_le w.2 (Nat.le_of_lt_succ hm21)) w.1 hp33 hf34
  exact hL20 _ _ _ _ (Nat.lt_succ_self _) wi19 hp11 hf12
theorem dX8_sightsAreSo_0 : decode cX8_sightsAreSo 0 = .ok (.iconst 0, 1) := by decide +kernel
theorem dX8_sightsAreSo_1 : decode cX8_sightsAreSo 1 = .ok (.istore_n 1, 1) := by decide +kernel
theorem dX8_sightsAreSo_2 : decode cX8_sightsAreSo 2 = .ok (.iload_n 1, 1) := by decide +kernel
theorem dX8_sightsAreSo_3 : decode cX8_sightsAreSo 3 = .ok (.aload_n 0, 1) := by decide +kernel
theorem dX8_sightsAreSo_4 : decode cX8_sightsAreSo 4 = .ok (.getfield 18, 3) := by decide +kernel
theorem dX8_sightsAreSo_7 : decode cX8_sightsAreSo 7 = .ok (.getfield 113, 3) := by decide +kernel
theorem dX8_sightsAreSo_10 : decode cX8_sightsAreSo 10 = .ok (.if_icmp .ge 66, 3) := by decide +kernel
theorem dX8_sightsAreSo_13 : decode cX8_sightsAreSo 13 = .ok (.aload_n 0, 1) := by decide +kernel
theorem dX8_sightsAreSo_14 : decode cX8_sightsAreSo 14 = .ok (.getfield 18, 3) := by decide +kernel
theorem dX8_sightsAreSo_17 : decode cX8_sightsAreSo 17 = .ok (.iload_n 1, 1) := by decide +kernel
theorem dX8_sightsAreSo_18 : decode cX8_sightsAreSo 18 = .ok (.iconst 0, 1) := by decide +kernel
theorem dX8_sightsAreSo_19 : decode cX8_sightsAreSo 19 = .ok (.invokevirtual 116, 3) := by decide +kernel
theorem dX8_sightsAreSo_22 : decode cX8_sightsAreSo 22 = .ok (.istore_n 2, 1) := by decide +kernel
theorem dX8_sightsAreSo_23 : decode cX8_sightsAreSo 23 = .ok (.aload_n 0, 1) := by decide +kernel
theorem dX8_sightsAreSo_24 : decode cX8_sightsAreSo 24 = .ok (.aload_n 0, 1) := by decide +kernel
theorem dX8_sightsAreSo_25 : decode cX8_sightsAreSo 25 = .ok (.getfield 18, 3) := by decide +kernel
theorem dX8_sightsAreSo_28 : decode cX8_sightsAreSo 28 = .ok (.iload_n 1, 1) := by decide +kernel
theorem dX8_sightsAreSo_29 : decode cX8_sightsAreSo 29 = .ok (.iconst 1, 1) := by decide +kernel
theorem dX8_sightsAreSo_30 : decode cX8_sightsAreSo 30 = .ok (.invokevirtual 116, 3) := by decide +kernel
theorem dX8_sightsAreSo_33 : decode cX8_sightsAreSo 33 = .ok (.iload_n 2, 1) := by decide +kernel
theorem dX8_sightsAreSo_34 : decode cX8_sightsAreSo 34 = .ok (.invokevirtual 110, 3) := by decide +kernel
theorem dX8_sightsAreSo_37 : decode cX8_sightsAreSo 37 = .ok (.ifCond .le 7, 3) := by decide +kernel
theorem dX8_sightsAreSo_40 : decode cX8_sightsAreSo 40 = .ok (.iconst 1, 1) := by decide +kernel
theorem dX8_sightsAreSo_41 : decode cX8_sightsAreSo 41 = .ok (.goto 4, 3) := by decide +kernel
theorem dX8_sightsAreSo_44 : decode cX8_sightsAreSo 44 = .ok (.iconst 0, 1) := by decide +kernel
theorem dX8_sightsAreSo_45 : decode cX8_sightsAreSo 45 = .ok (.istore_n 3, 1) := by decide +kernel
theorem dX8_sightsAreSo_46 : decode cX8_sightsAreSo 46 = .ok (.iload_n 3, 1) := by decide +kernel
theorem dX8_sightsAreSo_47 : decode cX8_sightsAreSo 47 = .ok (.aload_n 0, 1) := by decide +kernel
theorem dX8_sightsAreSo_48 : decode cX8_sightsAreSo 48 = .ok (.getfield 18, 3) := by decide +kernel
theorem dX8_sightsAreSo_51 : decode cX8_sightsAreSo 51 = .ok (.iload_n 1, 1) := by decide +kernel
theorem dX8_sightsAreSo_52 : decode cX8_sightsAreSo 52 = .ok (.iconst 2, 1) := by decide +kernel
theorem dX8_sightsAreSo_53 : decode cX8_sightsAreSo 53 = .ok (.invokevirtual 116, 3) := by decide +kernel
theorem dX8_sightsAreSo_56 : decode cX8_sightsAreSo 56 = .ok (.iconst 1, 1) := by decide +kernel
theorem dX8_sightsAreSo_57 : decode cX8_sightsAreSo 57 = .ok (.if_icmp .ne 7, 3) := by decide +kernel
theorem dX8_sightsAreSo_60 : decode cX8_sightsAreSo 60 = .ok (.iconst 1, 1) := by decide +kernel
theorem dX8_sightsAreSo_61 : decode cX8_sightsAreSo 61 = .ok (.goto 4, 3) := by decide +kernel
theorem dX8_sightsAreSo_64 : decode cX8_sightsAreSo 64 = .ok (.iconst 0, 1) := by decide +kernel
theorem dX8_sightsAreSo_65 : decode cX8_sightsAreSo 65 = .ok (.if_icmp .eq 5, 3) := by decide +kernel
theorem dX8_sightsAreSo_68 : decode cX8_sightsAreSo 68 = .ok (.iconst 0, 1) := by decide +kernel
theorem dX8_sightsAreSo_69 : decode cX8_sightsAreSo 69 = .ok (.ireturn, 1) := by decide +kernel
theorem dX8_sightsAreSo_70 : decode cX8_sightsAreSo 70 = .ok (.iinc 1 1, 3) := by decide +kernel
theorem dX8_sightsAreSo_73 : decode cX8_sightsAreSo 73 = .ok (.goto (-71), 3) := by decide +kernel
theorem dX8_sightsAreSo_76 : decode cX8_sightsAreSo 76 = .ok (.iconst 1, 1) := by decide +kernel
theorem dX8_sightsAreSo_77 : decode cX8_sightsAreSo 77 = .ok (.ireturn, 1) := by decide +kernel
def w_X8_sightsAreSo (ta sb : Nat) (X : XT) (Q : Int → Prop) : Prop :=
  ∃ (I2 : Int → Prop) (m3 : Int → Nat), I2 0 ∧ ∀ (x1 : Int), I2 x1 → R32 x1 ∧ R32 (X 1 12) ∧ ((X 1 12) ≤ x1 → Q 1) ∧ (¬ (X 1 12) ≤ x1 → (0 ≤ x1 ∧ x1 ≤ 9) ∧ w_X8_shadeOf ta sb (X 8 (x1 * 3 + 1)) (X 8 (x1 * 3 + 0)) X (fun (v15 : Int) => ∀ J22 : Int → Prop, (∀ (v21 : Int), (∀ J24 : Int → Prop, (∀ (v23 : Int), (R32 v21 ∧ R32 v23 ∧ (v21 = v23 → I2 (x1 + 1) ∧ m3 (x1 + 1) < m3 x1) ∧ (¬ v21 = v23 → Q 0)) → J24 v23) → R32 (X 8 (x1 * 3 + 2)) ∧ (¬ (X 8 (x1 * 3 + 2)) = 1 → J24 0) ∧ ((X 8 (x1 * 3 + 2)) = 1 → J24 1)) → J22 v21) → R32 v15 ∧ (v15 ≤ 0 → J22 0) ∧ (¬ v15 ≤ 0 → J22 1)))
set_option maxRecDepth 20000 in
theorem so_X8_sightsAreSo_49 {n : Nat} {h : Nat → sE} {X : XT} {Q : Int → Prop} (hn : 115 ≤ n) (hp : Pic X h) (w : w_X8_sightsAreSo 50 51  X Q) : Sp m_X8_sightsAreSo 5 0 0 [.ref 49] n h (pIr n h Q) := by
  unfold w_X8_sightsAreSo at w
  refine Sp.ofV (by decide +kernel) (Nat.le_of_ble_eq_true rfl) ?_
  have hf : Fr h h := fun _ _ => rfl
  refine v_iconstI dX8_sightsAreSo_0 ?_
  refine v_istore_n dX8_sightsAreSo_1 (Nat.le_of_ble_eq_true rfl) ?_
  refine v_pick [1, 0] rfl ?_
  obtain ⟨I2, m3, wi6, wl5⟩ := w
  have hL7 : ∀ (N10 : Nat) (x1 : Int), m3 x1 < N10 → I2 x1 → V (m_X8_sightsAreSo, 5, 0, 0, n, pIr n h Q, s_G0) 0 0 n h 2 [(0, .ref 49), (1, .int (iI x1))] [] := by
    intro N10
    induction N10 with
    | zero => intro x1  hm8; exact absurd hm8 (Nat.not_lt_zero _)
    | succ N10 ih4 =>
      intro x1  hm8 hI9
      have w := wl5 x1 hI9
      refine v_iload_n dX8_sightsAreSo_2 rfl ?_
      refine v_aload_n dX8_sightsAreSo_3 rfl ?_
      refine v_get dX8_sightsAreSo_4 fl_X8_18 ((hp 49 (by decide)).trans (ent_49 _)) rfl (s_lt hn rfl) ?_
      refine v_get dX8_sightsAreSo_7 fl_X8_113 ((hp 1 (by decide)).trans (ent_1 _)) rfl (s_lt hn rfl) ?_
      obtain ⟨q11, q12, w⟩ := w
      refine v_icmp_geI (tgt := 76) dX8_sightsAreSo_10 (by decide) q11.1 q11.2 q12.1 q12.2 (fun c13 => ?_) (fun c13 => ?_)
      · replace w := w.1 c13
        refine v_iconstI dX8_sightsAreSo_76 ?_
        exact v_z1 dX8_sightsAreSo_77 rfl (Nat.zero_le _) (Nat.zero_le _) ⟨rfl, rfl, _, rfl, w⟩
      · replace w := w.2 c13
        refine v_aload_n dX8_sightsAreSo_13 rfl ?_
        refine v_get dX8_sightsAreSo_14 fl_X8_18 ((hp 49 (by decide)).trans (ent_49 _)) rfl (s_lt hn rfl) ?_
        refine v_iload_n dX8_sightsAreSo_17 rfl ?_
        refine v_iconstI dX8_sightsAreSo_18 ?_
        obtain ⟨q14, w⟩ := w
        refine v_callVp dX8_sightsAreSo_19 ml_X8_116 (sv_X3_sightFact (a := x1) (b := 0) (g1 := X 1) (g8 := X 8) hn (hp 1 (by decide)) (hp 8 (by decide)) q14 (by decide)) ((hp 1 (by decide)).trans (ent_1 _)) rfl (s_lt hn rfl) rfl rfl (Nat.le_of_ble_eq_true rfl) (Nat.le_of_ble_eq_true rfl) (Nat.zero_le _) (Nat.zero_le _) ?_
        refine v_istore_n dX8_sightsAreSo_22 (Nat.le_of_ble_eq_true rfl) ?_
        refine v_aload_n dX8_sightsAreSo_23 rfl ?_
        refine v_aload_n dX8_sightsAreSo_24 rfl ?_
        refine v_get dX8_sightsAreSo_25 fl_X8_18 ((hp 49 (by decide)).trans (ent_49 _)) rfl (s_lt hn rfl) ?_
        refine v_iload_n dX8_sightsAreSo_28 rfl ?_
        refine v_iconstI dX8_sightsAreSo_29 ?_
        refine v_callVp dX8_sightsAreSo_30 ml_X8_116 (sv_X3_sightFact (a := x1) (b := 1) (g1 := X 1) (g8 := X 8) hn (hp 1 (by decide)) (hp 8 (by decide)) q14 (by decide)) ((hp 1 (by decide)).trans (ent_1 _)) rfl (s_lt hn rfl) rfl rfl (Nat.le_of_ble_eq_true rfl) (Nat.le_of_ble_eq_true rfl) (Nat.zero_le _) (Nat.zero_le _) ?_
        refine v_iload_n dX8_sightsAreSo_33 rfl ?_
        refine v_callVIr dX8_sightsAreSo_34 ml_X8_110 (so_X8_shadeOf_49 hn hp  w) ((hp 49 (by decide)).trans (ent_49 _)) rfl (s_lt hn rfl) rfl rfl (Nat.le_of_ble_eq_true rfl) (Nat.le_of_ble_eq_true rfl) (Nat.zero_le _) (Nat.zero_le _) (fun v15 w => ?_)
        replace w := w (fun (v21 : Int) => V (m_X8_sightsAreSo, 5, 0, 0, n, pIr n h Q, s_G0) 0 0 n h 45 [(0, .ref 49), (1, .int (iI x1))] [.int (iI v21)]) (by
          intro v21 w
          refine v_istore_n dX8_sightsAreSo_45 (Nat.le_of_ble_eq_true rfl) ?_
          refine v_iload_n dX8_sightsAreSo_46 rfl ?_
          refine v_aload_n dX8_sightsAreSo_47 rfl ?_
          refine v_get dX8_sightsAreSo_48 fl_X8_18 ((hp 49 (by decide)).trans (ent_49 _)) rfl (s_lt hn rfl) ?_
          refine v_iload_n dX8_sightsAreSo_51 rfl ?_
          refine v_iconstI dX8_sightsAreSo_52 ?_
          refine v_callVp dX8_sightsAreSo_53 ml_X8_116 (sv_X3_sightFact (a := x1) (b := 2) (g1 := X 1) (g8 := X 8) hn (hp 1 (by decide)) (hp 8 (by decide)) q14 (by decide)) ((hp 1 (by decide)).trans (ent_1 _)) rfl (s_lt hn rfl) rfl rfl (Nat.le_of_ble_eq_true rfl) (Nat.le_of_ble_eq_true rfl) (Nat.zero_le _) (Nat.zero_le _) ?_
          refine v_iconstI dX8_sightsAreSo_56 ?_
          replace w := w (fun (v23 : Int) => V (m_X8_sightsAreSo, 5, 0, 0, n, pIr n h Q, s_G0) 0 0 n h 65 [(0, .ref 49), (1, .int (iI x1))] [.int (iI v23), .int (iI v21)]) (by
            intro v23 w
            obtain ⟨q25, q26, w⟩ := w
            refine v_icmp_eqI (tgt := 70) dX8_sightsAreSo_65 (by decide) q25.1 q25.2 q26.1 q26.2 (fun c27 => ?_) (fun c27 => ?_)
            · replace w := w.1 c27
              refine v_iincI dX8_sightsAreSo_70 rfl (Nat.le_of_ble_eq_true rfl) ?_
              refine v_goto (tgt := 2) dX8_sightsAreSo_73 (by decide) ?_
              refine v_pick [1, 0] rfl ?_
              exact ih4 _ (Nat.lt_of_lt_of_le w.2 (Nat.le_of_lt_succ hm8)) w.1
            · replace w := w.2 c27
              refine v_iconstI dX8_sightsAreSo_68 ?_
              exact v_z0 dX8_sightsAreSo_69 rfl (Nat.zero_le _) (Nat.zero_le _) ⟨rfl, rfl, _, rfl, w⟩
          )
          obtain ⟨q28, w⟩ := w
          refine v_icmp_neI (tgt := 64) dX8_sightsAreSo_57 (by decide) q28.1 q28.2 (by decide) (by decide) (fun c29 => ?_) (fun c29 => ?_)
          · replace w := w.1 c29
            refine v_iconstI dX8_sightsAreSo_64 ?_
            refine v_pick [1, 2] rfl ?_
            exact w
          · replace w := w.2 c29
            refine v_iconstI dX8_sightsAreSo_60 ?_
            refine v_goto (tgt := 65) dX8_sightsAreSo_61 (by decide) ?_
            refine v_pick [1, 2] rfl ?_
            exact w
        )
        obtain ⟨q30, w⟩ := w
        refine v_if_leI (tgt := 44) dX8_sightsAreSo_37 (by decide) q30.1 q30.2 (fun c31 => ?_) (fun c31 => ?_)
        · replace w := w.1 c31
          refine v_iconstI dX8_sightsAreSo_44 ?_
          refine v_pick [1, 2] rfl ?_
          exact w
        · replace w := w.2 c31
          refine v_iconstI dX8_sightsAreSo_40 ?_
          refine v_goto (tgt := 45) dX8_sightsAreSo_41 (by decide) ?_
          refine v_pick [1, 2] rfl ?_
          exact w
  exact hL7 _ _ (Nat.lt_succ_self _) wi6
theorem dX10_rustlings_0 : decode cX10_rustlings 0 = .ok (.iconst 0, 1) := by decide +kernel
theorem dX10_rustlings_1 : decode cX10_rustlings 1 = .ok (.istore_n 3, 1) := by decide +kernel
theorem dX10_rustlings_2 : decode cX10_rustlings 2 = .ok (.iconst 0, 1) := by decide +kernel
theorem dX10_rustlings_3 : decode cX10_rustlings 3 = .ok (.istore 4, 2) := by decide +kernel
theorem dX10_rustlings_5 : decode cX10_rustlings 5 = .ok (.iload 4, 2) := by decide +kernel
theorem dX10_rustlings_7 : decode cX10_rustlings 7 = .ok (.sipush 220, 3) := by decide +kernel
theorem dX10_rustlings_10 : decode cX10_rustlings 10 = .ok (.if_icmp .ge 114, 3) := by decide +kernel
theorem dX10_rustlings_13 : decode cX10_rustlings 13 = .ok (.iload 4, 2) := by decide +kernel
theorem dX10_rustlings_15 : decode cX10_rustlings 15 = .ok (.bipush 20, 2) := by decide +kernel
theorem dX10_rustlings_17 : decode cX10_rustlings 17 = .ok (.idiv, 1) := by decide +kernel
theorem dX10_rustlings_18 : decode cX10_rustlings 18 = .ok (.istore 5, 2) := by decide +kernel
theorem dX10_rustlings_20 : decode cX10_rustlings 20 = .ok (.iload 4, 2) := by decide +kernel
theorem dX10_rustlings_22 : decode cX10_rustlings 22 = .ok (.bipush 20, 2) := by decide +kernel
theorem dX10_rustlings_24 : decode cX10_rustlings 24 = .ok (.irem, 1) := by decide +kernel
theorem dX10_rustlings_25 : decode cX10_rustlings 25 = .ok (.iconst 4, 1) := by decide +kernel
theorem dX10_rustlings_26 : decode cX10_rustlings 26 = .ok (.idiv, 1) := by decide +kernel
theorem dX10_rustlings_27 : decode cX10_rustlings 27 = .ok (.istore 6, 2) := by decide +kernel
theorem dX10_rustlings_29 : decode cX10_rustlings 29 = .ok (.aload_n 0, 1) := by decide +kernel
theorem dX10_rustlings_30 : decode cX10_rustlings 30 = .ok (.getfield 27, 3) := by decide +kernel
theorem dX10_rustlings_33 : decode cX10_rustlings 33 = .ok (.iload 6, 2) := by decide +kernel
theorem dX10_rustlings_35 : decode cX10_rustlings 35 = .ok (.invokevirtual 73, 3) := by decide +kernel
theorem dX10_rustlings_38 : decode cX10_rustlings 38 = .ok (.ifCond .eq 80, 3) := by decide +kernel
theorem dX10_rustlings_41 : decode cX10_rustlings 41 = .ok (.aload_n 1, 1) := by decide +kernel
theorem dX10_rustlings_42 : decode cX10_rustlings 42 = .ok (.iload 6, 2) := by decide +kernel
theorem dX10_rustlings_44 : decode cX10_rustlings 44 = .ok (.iload 5, 2) := by decide +kernel
theorem dX10_rustlings_46 : decode cX10_rustlings 46 = .ok (.invokevirtual 76, 3) := by decide +kernel
theorem dX10_rustlings_49 : decode cX10_rustlings 49 = .ok (.iconst 4, 1) := by decide +kernel
theorem dX10_rustlings_50 : decode cX10_rustlings 50 = .ok (.if_icmp .ne 68, 3) := by decide +kernel
theorem dX10_rustlings_53 : decode cX10_rustlings 53 = .ok (.aload_n 1, 1) := by decide +kernel
theorem dX10_rustlings_54 : decode cX10_rustlings 54 = .ok (.iload 6, 2) := by decide +kernel
theorem dX10_rustlings_56 : decode cX10_rustlings 56 = .ok (.iload 5, 2) := by decide +kernel
theorem dX10_rustlings_58 : decode cX10_rustlings 58 = .ok (.iload 4, 2) := by decide +kernel
theorem dX10_rustlings_60 : decode cX10_rustlings 60 = .ok (.iconst 4, 1) := by decide +kernel
theorem dX10_rustlings_61 : decode cX10_rustlings 61 = .ok (.irem, 1) := by decide +kernel
theorem dX10_rustlings_62 : decode cX10_rustlings 62 = .ok (.invokevirtual 79, 3) := by decide +kernel
theorem dX10_rustlings_65 : decode cX10_rustlings 65 = .ok (.aload_n 1, 1) := by decide +kernel
theorem dX10_rustlings_66 : decode cX10_rustlings 66 = .ok (.iload 6, 2) := by decide +kernel
theorem dX10_rustlings_68 : decode cX10_rustlings 68 = .ok (.invokevirtual 83, 3) := by decide +kernel
theorem dX10_rustlings_71 : decode cX10_rustlings 71 = .ok (.aload_n 1, 1) := by decide +kernel
theorem dX10_rustlings_72 : decode cX10_rustlings 72 = .ok (.invokevirtual 87, 3) := by decide +kernel
theorem dX10_rustlings_75 : decode cX10_rustlings 75 = .ok (.istore 7, 2) := by decide +kernel
theorem dX10_rustlings_77 : decode cX10_rustlings 77 = .ok (.aload_n 1, 1) := by decide +kernel
theorem dX10_rustlings_78 : decode cX10_rustlings 78 = .ok (.iload 6, 2) := by decide +kernel
theorem dX10_rustlings_80 : decode cX10_rustlings 80 = .ok (.iload 5, 2) := by decide +kernel
theorem dX10_rustlings_82 : decode cX10_rustlings 82 = .ok (.iconst 4, 1) := by decide +kernel
theorem dX10_rustlings_83 : decode cX10_rustlings 83 = .ok (.invokevirtual 79, 3) := by decide +kernel
theorem dX10_rustlings_86 : decode cX10_rustlings 86 = .ok (.aload_n 1, 1) := by decide +kernel
theorem dX10_rustlings_87 : decode cX10_rustlings 87 = .ok (.iload 6, 2) := by decide +kernel
theorem dX10_rustlings_89 : decode cX10_rustlings 89 = .ok (.invokevirtual 83, 3) := by decide +kernel
theorem dX10_rustlings_92 : decode cX10_rustlings 92 = .ok (.iload 7, 2) := by decide +kernel
theorem dX10_rustlings_94 : decode cX10_rustlings 94 = .ok (.ifCond .eq 11, 3) := by decide +kernel
theorem dX10_rustlings_97 : decode cX10_rustlings 97 = .ok (.iload_n 3, 1) := by decide +kernel
theorem dX10_rustlings_98 : decode cX10_rustlings 98 = .ok (.iload_n 2, 1) := by decide +kernel
theorem dX10_rustlings_99 : decode cX10_rustlings 99 = .ok (.if_icmp .ne 6, 3) := by decide +kernel
theorem dX10_rustlings_102 : decode cX10_rustlings 102 = .ok (.iload 4, 2) := by decide +kernel
theorem dX10_rustlings_104 : decode cX10_rustlings 104 = .ok (.ireturn, 1) := by decide +kernel
theorem dX10_rustlings_105 : decode cX10_rustlings 105 = .ok (.iload_n 3, 1) := by decide +kernel
theorem dX10_rustlings_106 : decode cX10_rustlings 106 = .ok (.iload 7, 2) := by decide +kernel
theorem dX10_rustlings_108 : decode cX10_rustlings 108 = .ok (.ifCond .eq 7, 3) := by decide +kernel
theorem dX10_rustlings_111 : decode cX10_rustlings 111 = .ok (.iconst 1, 1) := by decide +kernel
theorem dX10_rustlings_112 : decode cX10_rustlings 112 = .ok (.goto 4, 3) := by decide +kernel
theorem dX10_rustlings_115 : decode cX10_rustlings 115 = .ok (.iconst 0, 1) := by decide +kernel
theorem dX10_rustlings_116 : decode cX10_rustlings 116 = .ok (.iadd, 1) := by decide +kernel
theorem dX10_rustlings_117 : decode cX10_rustlings 117 = .ok (.istore_n 3, 1) := by decide +kernel
theorem dX10_rustlings_118 : decode cX10_rustlings 118 = .ok (.iinc 4 1, 3) := by decide +kernel
theorem dX10_rustlings_121 : decode cX10_rustlings 121 = .ok (.goto (-116), 3) := by decide +kernel
theorem dX10_rustlings_124 : decode cX10_rustlings 124 = .ok (.iload_n 2, 1) := by decide +kernel
theorem dX10_rustlings_125 : decode cX10_rustlings 125 = .ok (.iconst (-1), 1) := by decide +kernel
theorem dX10_rustlings_126 : decode cX10_rustlings 126 = .ok (.if_icmp .ne 7, 3) := by decide +kernel
theorem dX10_rustlings_129 : decode cX10_rustlings 129 = .ok (.iload_n 3, 1) := by decide +kernel
theorem dX10_rustlings_130 : decode cX10_rustlings 130 = .ok (.goto 4, 3) := by decide +kernel
theorem dX10_rustlings_133 : decode cX10_rustlings 133 = .ok (.iconst (-1), 1) := by decide +kernel
theorem dX10_rustlings_134 : decode cX10_rustlings 134 = .ok (.ireturn, 1) := by decide +kernel
def w_X10_rustlings (K : LK) (ta sb : Nat) (a1 : Int) (X : XT) (Q : Int → XT → Prop) : Prop :=
  ∃ (I4 : Int → Int → XT → Prop) (m5 : Int → Int → XT → Nat), I4 0 0 X ∧ ∀ (x1 : Int) (x2 : Int) (X3 : XT), I4 x1 x2 X3 → R32 x2 ∧ (220 ≤ x2 → R32 a1 ∧ (¬ a1 = (-1) → Q (-1) X3) ∧ (a1 = (-1) → Q x1 X3)) ∧ (¬ 220 ≤ x2 → (0 ≤ x2) ∧ R32 (x2 % 20) ∧ (0 ≤ (x2 % 20)) ∧ R32 ((x2 % 20) / 4) ∧ R32 (X3 1 9) ∧ (¬ (0 ≤ ((x2 % 20) / 4) ∧ ((x2 % 20) / 4) < X3 1 9) → I4 x1 (x2 + 1) X3 ∧ m5 x1 (x2 + 1) X3 < m5 x1 x2 X3) ∧ ((0 ≤ ((x2 % 20) / 4) ∧ ((x2 % 20) / 4) < X3 1 9) → w_X8_flagOf ta sb ((x2 % 20) / 4) (x2 / 20) X3 (fun (v26 : Int) => R32 v26 ∧ (¬ v26 = 4 → I4 x1 (x2 + 1) X3 ∧ m5 x1 (x2 + 1) X3 < m5 x1 x2 X3) ∧ (v26 = 4 → w_X8_tell ta sb ((x2 % 20) / 4) (x2 / 20) (x2 % 4) X3 (fun (X35 : XT) => w_X8_follow K ta sb ((x2 % 20) / 4) X35 (fun (X41 : XT) => w_X8_sightsAreSo ta sb  X41 (fun (v46 : Int) => w_X8_tell ta sb ((x2 % 20) / 4) (x2 / 20) 4 X41 (fun (X53 : XT) => w_X8_follow K ta sb ((x2 % 20) / 4) X53 (fun (X59 : XT) => ∀ J64 : Prop, ((∀ J66 : Int → Prop, (∀ (v65 : Int), (I4 (x1 + v65) (x2 + 1) X59 ∧ m5 (x1 + v65) (x2 + 1) X59 < m5 x1 x2 X3) → J66 v65) → R32 v46 ∧ (v46 = 0 → J66 0) ∧ (¬ v46 = 0 → J66 1)) → J64) → R32 v46 ∧ (v46 = 0 → J64 ) ∧ (¬ v46 = 0 → R32 x1 ∧ R32 a1 ∧ (¬ x1 = a1 → J64 ) ∧ (x1 = a1 → Q x2 X59)))))))))))
set_option maxRecDepth 20000 in
theorem so_X10_rustlings_49 {n : Nat} {h : Nat → sE} {X : XT} {K : LK} {hk : Nat → sE} (hK : LKok K n hk) {a1 : Int} {Q : Int → XT → Prop} (hn : 115 ≤ n) (hp : Pic X h) (hf9 : Fr hk h) (w : w_X10_rustlings K 50 51 a1 X Q) : Sp m_X10_rustlings 6 0 0 [.ref 70, .ref 49, .int (iI a1)] n h (pIw n h Q) := by
  unfold w_X10_rustlings at w
  refine Sp.ofV (by decide +kernel) (Nat.le_of_ble_eq_true rfl) ?_
  have hf : Fr h h := fun _ _ => rfl
  refine v_iconstI dX10_rustlings_0 ?_
  refine v_istore_n dX10_rustlings_1 (Nat.le_of_ble_eq_true rfl) ?_
  refine v_iconstI dX10_rustlings_2 ?_
  refine v_istore dX10_rustlings_3 (Nat.le_of_ble_eq_true rfl) ?_
  refine v_pick [2, 3, 4, 1, 0] rfl ?_
  obtain ⟨I4, m5, wi8, wl7⟩ := w
  have hL9 : ∀ (N12 : Nat) (x1 : Int) (x2 : Int) (X3 : XT) (h13 : Nat → sE), m5 x1 x2 X3 < N12 → I4 x1 x2 X3 → Pic X3 h13 → Fr h h13 → V (m_X10_rustlings, 6, 0, 0, n, pIw n h Q, s_G0) 0 0 n h13 5 [(0, .ref 70), (1, .ref 49), (2, .int (iI a1)), (3, .int (iI x1)), (4, .int (iI x2))] [] := by
    intro N12
    induction N12 with
    | zero => intro x1 x2 X3 h13 hm10; exact absurd hm10 (Nat.not_lt_zero _)
    | succ N12 ih6 =>
      intro x1 x2 X3 h13 hm10 hI11 hp14 hf15
      have w := wl7 x1 x2 X3 hI11
      refine v_iload dX10_rustlings_5 rfl ?_
      refine v_sipushI dX10_rustlings_7 rfl ?_
      obtain ⟨q16, w⟩ := w
      refine v_icmp_geI (tgt := 124) dX10_rustlings_10 (by decide) q16.1 q16.2 (by decide) (by decide) (fun c17 => ?_) (fun c17 => ?_)
      · replace w := w.1 c17
        refine v_iload_n dX10_rustlings_124 rfl ?_
        refine v_iconstI dX10_rustlings_125 ?_
        obtain ⟨q18, w⟩ := w
        refine v_icmp_neI (tgt := 133) dX10_rustlings_126 (by decide) q18.1 q18.2 (by decide) (by decide) (fun c19 => ?_) (fun c19 => ?_)
        · replace w := w.1 c19
          refine v_iconstI dX10_rustlings_133 ?_
          exact v_iret dX10_rustlings_134 rfl (Nat.zero_le _) (Nat.zero_le _) ⟨rfl, hf15, _, _, rfl, hp14, w⟩
        · replace w := w.2 c19
          refine v_iload_n dX10_rustlings_129 rfl ?_
          refine v_goto (tgt := 134) dX10_rustlings_130 (by decide) ?_
          exact v_iret dX10_rustlings_134 rfl (Nat.zero_le _) (Nat.zero_le _) ⟨rfl, hf15, _, _, rfl, hp14, w⟩
      · replace w := w.2 c17
        refine v_iload dX10_rustlings_13 rfl ?_
        refine v_bipushI dX10_rustlings_15 rfl ?_
        obtain ⟨q20, w⟩ := w
        refine v_idivI dX10_rustlings_17 q20 q16.2 (by decide) (by decide) ?_
        refine v_istore dX10_rustlings_18 (Nat.le_of_ble_eq_true rfl) ?_
        refine v_iload dX10_rustlings_20 rfl ?_
        refine v_bipushI dX10_rustlings_22 rfl ?_
        refine v_iremI dX10_rustlings_24 q20 q16.2 (by decide) (by decide) ?_
        refine v_iconstI dX10_rustlings_25 ?_
        obtain ⟨q21, q22, w⟩ := w
        refine v_idivI dX10_rustlings_26 q22 q21.2 (by decide) (by decide) ?_
        refine v_istore dX10_rustlings_27 (Nat.le_of_ble_eq_true rfl) ?_
        refine v_aload_n dX10_rustlings_29 rfl ?_
        refine v_get dX10_rustlings_30 fl_X10_27 ((hp14 70 (by decide)).trans (ent_70 _)) rfl (s_lt hn rfl) ?_
        refine v_iload dX10_rustlings_33 rfl ?_
        obtain ⟨q23, q24, w⟩ := w
        refine v_callVp dX10_rustlings_35 ml_X10_73 (sq_X3_isCloud (a := ((x2 % 20) / 4)) (g1 := X3 1) hn (hp14 1 (by decide)) q23 q24) ((hp14 1 (by decide)).trans (ent_1 _)) rfl (s_lt hn rfl) rfl rfl (Nat.le_of_ble_eq_true rfl) (Nat.le_of_ble_eq_true rfl) (Nat.zero_le _) (Nat.zero_le _) ?_
        refine v_ifeqB (tgt := 118) dX10_rustlings_38 (by decide) (fun c25 => ?_) (fun c25 => ?_)
        · replace w := w.1 c25
          refine v_iincI dX10_rustlings_118 rfl (Nat.le_of_ble_eq_true rfl) ?_
          refine v_goto (tgt := 5) dX10_rustlings_121 (by decide) ?_
          refine v_pick [3, 4, 5, 6, 0] rfl ?_
          exact ih6 _ _ _ _ (Nat.lt_of_lt_of_le w.2 (Nat.le_of_lt_succ hm10)) w.1 hp14 hf15
        · replace w := w.2 c25
          refine v_aload_n dX10_rustlings_41 rfl ?_
          refine v_iload dX10_rustlings_42 rfl ?_
          refine v_iload dX10_rustlings_44 rfl ?_
          refine v_callVIr dX10_rustlings_46 ml_X10_76 (so_X8_flagOf_49 hn hp14  w) ((hp14 49 (by decide)).trans (ent_49 _)) rfl (s_lt hn rfl) rfl rfl (Nat.le_of_ble_eq_true rfl) (Nat.le_of_ble_eq_true rfl) (Nat.zero_le _) (Nat.zero_le _) (fun v26 w => ?_)
          refine v_iconstI dX10_rustlings_49 ?_
          obtain ⟨q32, w⟩ := w
          refine v_icmp_neI (tgt := 118) dX10_rustlings_50 (by decide) q32.1 q32.2 (by decide) (by decide) (fun c33 => ?_) (fun c33 => ?_)
          · replace w := w.1 c33
            refine v_iincI dX10_rustlings_118 rfl (Nat.le_of_ble_eq_true rfl) ?_
            refine v_goto (tgt := 5) dX10_rustlings_121 (by decide) ?_
            refine v_pick [3, 4, 5, 6, 0] rfl ?_
            exact ih6 _ _ _ _ (Nat.lt_of_lt_of_le w.2 (Nat.le_of_lt_succ hm10)) w.1 hp14 hf15
          · replace w := w.2 c33
            refine v_aload_n dX10_rustlings_53 rfl ?_
            refine v_iload dX10_rustlings_54 rfl ?_
            refine v_iload dX10_rustlings_56 rfl ?_
            refine v_iload dX10_rustlings_58 rfl ?_
            refine v_iconstI dX10_rustlings_60 ?_
            refine v_iremI dX10_rustlings_61 q20 q16.2 (by decide) (by decide) ?_
            refine v_callVVw dX10_rustlings_62 ml_X10_79 (so_X8_tell_49 hn hp14  w) ((hp14 49 (by decide)).trans (ent_49 _)) rfl (s_lt hn rfl) rfl rfl (Nat.le_of_ble_eq_true rfl) (Nat.le_of_ble_eq_true rfl) (Nat.zero_le _) (Nat.zero_le _) (fun X35 h36 hp38 hf37 w => ?_)
            have hf39 := Fr.trans hf15 hf37
            refine v_aload_n dX10_rustlings_65 rfl ?_
            refine v_iload dX10_rustlings_66 rfl ?_
            refine v_callVVw dX10_rustlings_68 ml_X10_83 (so_X8_follow_49 hK hn hp38 (Fr.trans hf9 hf39) w) ((hp38 49 (by decide)).trans (ent_49 _)) rfl (s_lt hn rfl) rfl rfl (Nat.le_of_ble_eq_true rfl) (Nat.le_of_ble_eq_true rfl) (Nat.zero_le _) (Nat.zero_le _) (fun X41 h42 hp44 hf43 w => ?_)
            have hf45 := Fr.trans hf39 hf43
            refine v_aload_n dX10_rustlings_71 rfl ?_
            refine v_callVIr dX10_rustlings_72 ml_X10_87 (so_X8_sightsAreSo_49 hn hp44  w) ((hp44 49 (by decide)).trans (ent_49 _)) rfl (s_lt hn rfl) rfl rfl (Nat.le_of_ble_eq_true rfl) (Nat.le_of_ble_eq_true rfl) (Nat.zero_le _) (Nat.zero_le _) (fun v46 w => ?_)
            refine v_istore dX10_rustlings_75 (Nat.le_of_ble_eq_true rfl) ?_
            refine v_aload_n dX10_rustlings_77 rfl ?_
            refine v_iload dX10_rustlings_78 rfl ?_
            refine v_iload dX10_rustlings_80 rfl ?_
            refine v_iconstI dX10_rustlings_82 ?_
            refine v_callVVw dX10_rustlings_83 ml_X10_79 (so_X8_tell_49 hn hp44  w) ((hp44 49 (by decide)).trans (ent_49 _)) rfl (s_lt hn rfl) rfl rfl (Nat.le_of_ble_eq_true rfl) (Nat.le_of_ble_eq_true rfl) (Nat.zero_le _) (Nat.zero_le _) (fun X53 h54 hp56 hf55 w => ?_)
            have hf57 := Fr.trans hf45 hf55
            refine v_aload_n dX10_rustlings_86 rfl ?_
            refine v_iload dX10_rustlings_87 rfl ?_
            refine v_callVVw dX10_rustlings_89 ml_X10_83 (so_X8_follow_49 hK hn hp56 (Fr.trans hf9 hf57) w) ((hp56 49 (by decide)).trans (ent_49 _)) rfl (s_lt hn rfl) rfl rfl (Nat.le_of_ble_eq_true rfl) (Nat.le_of_ble_eq_true rfl) (Nat.zero_le _) (Nat.zero_le _) (fun X59 h60 hp62 hf61 w => ?_)
            have hf63 := Fr.trans hf57 hf61
            refine v_iload dX10_rustlings_92 rfl ?_
            replace w := w (V (m_X10_rustlings, 6, 0, 0, n, pIw n h Q, s_G0) 0 0 n h60 105 [(0, .ref 70), (1, .ref 49), (2, .int (iI a1)), (3, .int (iI x1)), (4, .int (iI x2)), (7, .int (iI v46))] []) (by
              intro  w
              refine v_iload_n dX10_rustlings_105 rfl ?_
              refine v_iload dX10_rustlings_106 rfl ?_
              replace w := w (fun (v65 : Int) => V (m_X10_rustlings, 6, 0, 0, n, pIw n h Q, s_G0) 0 0 n h60 116 [(0, .ref 70), (1, .ref 49), (2, .int (iI a1)), (4, .int (iI x2))] [.int (iI v65), .int (iI x1)]) (by
                intro v65 w
                refine v_iaddI dX10_rustlings_116 ?_
                refine v_istore_n dX10_rustlings_117 (Nat.le_of_ble_eq_true rfl) ?_
                refine v_iincI dX10_rustlings_118 rfl (Nat.le_of_ble_eq_true rfl) ?_
                refine v_goto (tgt := 5) dX10_rustlings_121 (by decide) ?_
                refine v_pick [2, 3, 4, 1, 0] rfl ?_
                exact ih6 _ _ _ _ (Nat.lt_of_lt_of_le w.2 (Nat.le_of_lt_succ hm10)) w.1 hp62 hf63
              )
              obtain ⟨q67, w⟩ := w
              refine v_if_eqI (tgt := 115) dX10_rustlings_108 (by decide) q67.1 q67.2 (fun c68 => ?_) (fun c68 => ?_)
              · replace w := w.1 c68
                refine v_iconstI dX10_rustlings_115 ?_
                refine v_pick [0, 1, 2, 4] rfl ?_
                exact w
              · replace w := w.2 c68
                refine v_iconstI dX10_rustlings_111 ?_
                refine v_goto (tgt := 116) dX10_rustlings_112 (by decide) ?_
                refine v_pick [0, 1, 2, 4] rfl ?_
                exact w
            )
            obtain ⟨q69, w⟩ := w
            refine v_if_eqI (tgt := 105) dX10_rustlings_94 (by decide) q69.1 q69.2 (fun c70 => ?_) (fun c70 => ?_)
            · replace w := w.1 c70
              refine v_pick [3, 4, 5, 6, 7, 0] rfl ?_
              exact w
            · replace w := w.2 c70
              refine v_iload_n dX10_rustlings_97 rfl ?_
              refine v_iload_n dX10_rustlings_98 rfl ?_
              obtain ⟨q71, q72, w⟩ := w
              refine v_icmp_neI (tgt := 105) dX10_rustlings_99 (by decide) q71.1 q71.2 q72.1 q72.2 (fun c73 => ?_) (fun c73 => ?_)
              · replace w := w.1 c73
                refine v_pick [3, 4, 5, 6, 7, 0] rfl ?_
                exact w
              · replace w := w.2 c73
                refine v_iload dX10_rustlings_102 rfl ?_
                exact v_iret dX10_rustlings_104 rfl (Nat.zero_le _) (Nat.zero_le _) ⟨rfl, hf63, _, _, rfl, hp62, w⟩
  exact hL9 _ _ _ _ _ (Nat.lt_succ_self _) wi8 hp hf
theorem dX11_rustled_0 : decode cX11_rustled 0 = .ok (.iload_n 1, 1) := by decide +kernel
theorem dX11_rustled_1 : decode cX11_rustled 1 = .ok (.iconst (-1), 1) := by decide +kernel
theorem dX11_rustled_2 : decode cX11_rustled 2 = .ok (.if_icmp .ge 5, 3) := by decide +kernel
theorem dX11_rustled_5 : decode cX11_rustled 5 = .ok (.iconst (-1), 1) := by decide +kernel
theorem dX11_rustled_6 : decode cX11_rustled 6 = .ok (.ireturn, 1) := by decide +kernel
theorem dX11_rustled_7 : decode cX11_rustled 7 = .ok (.aload_n 0, 1) := by decide +kernel
theorem dX11_rustled_8 : decode cX11_rustled 8 = .ok (.getfield 52, 3) := by decide +kernel
theorem dX11_rustled_11 : decode cX11_rustled 11 = .ok (.invokevirtual 245, 3) := by decide +kernel
theorem dX11_rustled_14 : decode cX11_rustled 14 = .ok (.aload_n 0, 1) := by decide +kernel
theorem dX11_rustled_15 : decode cX11_rustled 15 = .ok (.getfield 91, 3) := by decide +kernel
theorem dX11_rustled_18 : decode cX11_rustled 18 = .ok (.aload_n 0, 1) := by decide +kernel
theorem dX11_rustled_19 : decode cX11_rustled 19 = .ok (.getfield 52, 3) := by decide +kernel
theorem dX11_rustled_22 : decode cX11_rustled 22 = .ok (.iload_n 1, 1) := by decide +kernel
theorem dX11_rustled_23 : decode cX11_rustled 23 = .ok (.invokevirtual 329, 3) := by decide +kernel
theorem dX11_rustled_26 : decode cX11_rustled 26 = .ok (.ireturn, 1) := by decide +kernel
def w_X11_rustled (K : LK) (a0 : Int) (X : XT) (Q : Int → XT → Prop) : Prop :=
  R32 a0 ∧ ((-1) ≤ a0 → w_X8_look K 50 51  X (fun (X4 : XT) => w_X10_rustlings K 50 51 a0 X4 (fun (v9 : Int) (X10 : XT) => Q v9 X10))) ∧ (¬ (-1) ≤ a0 → Q (-1) X)
set_option maxRecDepth 20000 in
theorem so_X11_rustled {n : Nat} {h : Nat → sE} {X : XT} {K : LK} {hk : Nat → sE} (hK : LKok K n hk) {a0 : Int} {Q : Int → XT → Prop} (hn : 115 ≤ n) (hp : Pic X h) (hf9 : Fr hk h) (w : w_X11_rustled K  a0 X Q) : Sp m_X11_rustled 7 0 0 [.ref 0, .int (iI a0)] n h (pIw n h Q) := by
  unfold w_X11_rustled at w
  refine Sp.ofV (by decide +kernel) (Nat.le_of_ble_eq_true rfl) ?_
  have hf : Fr h h := fun _ _ => rfl
  refine v_iload_n dX11_rustled_0 rfl ?_
  refine v_iconstI dX11_rustled_1 ?_
  obtain ⟨q1, w⟩ := w
  refine v_icmp_geI (tgt := 7) dX11_rustled_2 (by decide) q1.1 q1.2 (by decide) (by decide) (fun c2 => ?_) (fun c2 => ?_)
  · replace w := w.1 c2
    refine v_aload_n dX11_rustled_7 rfl ?_
    refine v_get dX11_rustled_8 fl_X11_52 ((hp 0 (by decide)).trans (ent_0 _)) rfl (s_lt hn rfl) ?_
    refine v_callVVw dX11_rustled_11 ml_X11_245 (so_X8_look_49 hK hn hp (Fr.trans hf9 hf) w) ((hp 49 (by decide)).trans (ent_49 _)) rfl (s_lt hn rfl) rfl rfl (Nat.le_of_ble_eq_true rfl) (Nat.le_of_ble_eq_true rfl) (Nat.zero_le _) (Nat.zero_le _) (fun X4 h5 hp7 hf6 w => ?_)
    have hf8 := Fr.trans hf hf6
    refine v_aload_n dX11_rustled_14 rfl ?_
    refine v_get dX11_rustled_15 fl_X11_91 ((hp7 0 (by decide)).trans (ent_0 _)) rfl (s_lt hn rfl) ?_
    refine v_aload_n dX11_rustled_18 rfl ?_
    refine v_get dX11_rustled_19 fl_X11_52 ((hp7 0 (by decide)).trans (ent_0 _)) rfl (s_lt hn rfl) ?_
    refine v_iload_n dX11_rustled_22 rfl ?_
    refine v_callVIw dX11_rustled_23 ml_X11_329 (so_X10_rustlings_49 hK hn hp7 (Fr.trans hf9 hf8) w) ((hp7 70 (by decide)).trans (ent_70 _)) rfl (s_lt hn rfl) rfl rfl (Nat.le_of_ble_eq_true rfl) (Nat.le_of_ble_eq_true rfl) (Nat.zero_le _) (Nat.zero_le _) (fun v9 X10 h11 hp13 hf12 w => ?_)
    have hf14 := Fr.trans hf8 hf12
    exact v_iret dX11_rustled_26 rfl (Nat.zero_le _) (Nat.zero_le _) ⟨rfl, hf14, _, _, rfl, hp13, w⟩
  · replace w := w.2 c2
    refine v_iconstI dX11_rustled_5 ?_
    exact v_iret dX11_rustled_6 rfl (Nat.zero_le _) (Nat.zero_le _) ⟨rfl, hf, _, _, rfl, hp, w⟩
theorem dX1_fought_0 : decode cX1_fought 0 = .ok (.aload_n 0, 1) := by decide +kernel
theorem dX1_fought_1 : decode cX1_fought 1 = .ok (.getfield 22, 3) := by decide +kernel
theorem dX1_fought_4 : decode cX1_fought 4 = .ok (.iload_n 1, 1) := by decide +kernel
theorem dX1_fought_5 : decode cX1_fought 5 = .ok (.invokevirtual 30, 3) := by decide +kernel
theorem dX1_fought_8 : decode cX1_fought 8 = .ok (.istore 5, 2) := by decide +kernel
theorem dX1_fought_10 : decode cX1_fought 10 = .ok (.aload_n 0, 1) := by decide +kernel
theorem dX1_fought_11 : decode cX1_fought 11 = .ok (.getfield 26, 3) := by decide +kernel
theorem dX1_fought_14 : decode cX1_fought 14 = .ok (.iload_n 1, 1) := by decide +kernel
theorem dX1_fought_15 : decode cX1_fought 15 = .ok (.invokevirtual 40, 3) := by decide +kernel
theorem dX1_fought_18 : decode cX1_fought 18 = .ok (.aload_n 0, 1) := by decide +kernel
theorem dX1_fought_19 : decode cX1_fought 19 = .ok (.getfield 26, 3) := by decide +kernel
theorem dX1_fought_22 : decode cX1_fought 22 = .ok (.iconst 0, 1) := by decide +kernel
theorem dX1_fought_23 : decode cX1_fought 23 = .ok (.iload 5, 2) := by decide +kernel
theorem dX1_fought_25 : decode cX1_fought 25 = .ok (.iload_n 3, 1) := by decide +kernel
theorem dX1_fought_26 : decode cX1_fought 26 = .ok (.iconst 2, 1) := by decide +kernel
theorem dX1_fought_27 : decode cX1_fought 27 = .ok (.iconst 0, 1) := by decide +kernel
theorem dX1_fought_28 : decode cX1_fought 28 = .ok (.invokevirtual 46, 3) := by decide +kernel
theorem dX1_fought_31 : decode cX1_fought 31 = .ok (.aload_n 0, 1) := by decide +kernel
theorem dX1_fought_32 : decode cX1_fought 32 = .ok (.iload_n 2, 1) := by decide +kernel
theorem dX1_fought_33 : decode cX1_fought 33 = .ok (.iload_n 3, 1) := by decide +kernel
theorem dX1_fought_34 : decode cX1_fought 34 = .ok (.iconst 0, 1) := by decide +kernel
theorem dX1_fought_35 : decode cX1_fought 35 = .ok (.iconst 1, 1) := by decide +kernel
theorem dX1_fought_36 : decode cX1_fought 36 = .ok (.invokevirtual 80, 3) := by decide +kernel
theorem dX1_fought_39 : decode cX1_fought 39 = .ok (.aload_n 0, 1) := by decide +kernel
theorem dX1_fought_40 : decode cX1_fought 40 = .ok (.iconst 0, 1) := by decide +kernel
theorem dX1_fought_41 : decode cX1_fought 41 = .ok (.iload 5, 2) := by decide +kernel
theorem dX1_fought_43 : decode cX1_fought 43 = .ok (.invokevirtual 70, 3) := by decide +kernel
theorem dX1_fought_46 : decode cX1_fought 46 = .ok (.lconst 0, 1) := by decide +kernel
theorem dX1_fought_47 : decode cX1_fought 47 = .ok (.lcmp, 1) := by decide +kernel
theorem dX1_fought_48 : decode cX1_fought 48 = .ok (.ifCond .le 7, 3) := by decide +kernel
theorem dX1_fought_51 : decode cX1_fought 51 = .ok (.iconst 1, 1) := by decide +kernel
theorem dX1_fought_52 : decode cX1_fought 52 = .ok (.goto 4, 3) := by decide +kernel
theorem dX1_fought_55 : decode cX1_fought 55 = .ok (.iconst 0, 1) := by decide +kernel
theorem dX1_fought_56 : decode cX1_fought 56 = .ok (.istore 6, 2) := by decide +kernel
theorem dX1_fought_58 : decode cX1_fought 58 = .ok (.iload 4, 2) := by decide +kernel
theorem dX1_fought_60 : decode cX1_fought 60 = .ok (.ifCond .ne 14, 3) := by decide +kernel
theorem dX1_fought_63 : decode cX1_fought 63 = .ok (.iload 6, 2) := by decide +kernel
theorem dX1_fought_65 : decode cX1_fought 65 = .ok (.ifCond .eq 7, 3) := by decide +kernel
theorem dX1_fought_68 : decode cX1_fought 68 = .ok (.iconst 1, 1) := by decide +kernel
theorem dX1_fought_69 : decode cX1_fought 69 = .ok (.goto 4, 3) := by decide +kernel
theorem dX1_fought_72 : decode cX1_fought 72 = .ok (.iconst 0, 1) := by decide +kernel
theorem dX1_fought_73 : decode cX1_fought 73 = .ok (.ireturn, 1) := by decide +kernel
theorem dX1_fought_74 : decode cX1_fought 74 = .ok (.iload 6, 2) := by decide +kernel
theorem dX1_fought_76 : decode cX1_fought 76 = .ok (.ifCond .eq 14, 3) := by decide +kernel
theorem dX1_fought_79 : decode cX1_fought 79 = .ok (.iload_n 3, 1) := by decide +kernel
theorem dX1_fought_80 : decode cX1_fought 80 = .ok (.ifCond .le 10, 3) := by decide +kernel
theorem dX1_fought_83 : decode cX1_fought 83 = .ok (.aload_n 0, 1) := by decide +kernel
theorem dX1_fought_84 : decode cX1_fought 84 = .ok (.getfield 19, 3) := by decide +kernel
theorem dX1_fought_87 : decode cX1_fought 87 = .ok (.goto 4, 3) := by decide +kernel
theorem dX1_fought_90 : decode cX1_fought 90 = .ok (.iconst (-1), 1) := by decide +kernel
theorem dX1_fought_91 : decode cX1_fought 91 = .ok (.ireturn, 1) := by decide +kernel
def w_X1_fought (K : LK) (a0 a1 a2 a3 : Int) (X : XT) (Q : Int → XT → Prop) : Prop :=
  w_X3_startOf  a0 X (fun (v1 : Int) => w_X2_take  a0 X (fun (X8 : XT) => w_X2_spread K  0 v1 a2 2 0 X8 (fun (X14 : XT) => w_X1_reckonBack  a1 a2 0 1 X14 (fun (X20 : XT) => w_X1_chanceOf  0 v1 X20 (fun (v25 : Int) => ∀ J32 : Int → Prop, (∀ (v31 : Int), (R32 a3 ∧ (¬ a3 = 0 → R32 v31 ∧ (v31 = 0 → Q (-1) X20) ∧ (¬ v31 = 0 → R32 a2 ∧ (a2 ≤ 0 → Q (-1) X20) ∧ (¬ a2 ≤ 0 → Q (X20 68 4) X20))) ∧ (a3 = 0 → R32 v31 ∧ (v31 = 0 → Q 0 X20) ∧ (¬ v31 = 0 → Q 1 X20))) → J32 v31) → R64 v25 ∧ (v25 ≤ 0 → J32 0) ∧ (¬ v25 ≤ 0 → J32 1))))))
set_option maxRecDepth 20000 in
theorem so_X1_fought {n : Nat} {h : Nat → sE} {X : XT} {K : LK} {hk : Nat → sE} (hK : LKok K n hk) {a0 a1 a2 a3 : Int} {Q : Int → XT → Prop} (hn : 115 ≤ n) (hp : Pic X h) (hf9 : Fr hk h) (w : w_X1_fought K  a0 a1 a2 a3 X Q) : Sp m_X1_fought 6 0 0 [.ref 68, .int (iI a0), .int (iI a1), .int (iI a2), .int (iI a3)] n h (pIw n h Q) := by
  unfold w_X1_fought at w
  refine Sp.ofV (by decide +kernel) (Nat.le_of_ble_eq_true rfl) ?_
  have hf : Fr h h := fun _ _ => rfl
  refine v_aload_n dX1_fought_0 rfl ?_
  refine v_get dX1_fought_1 fl_X1_22 ((hp 68 (by decide)).trans (ent_68 _)) rfl (s_lt hn rfl) ?_
  refine v_iload_n dX1_fought_4 rfl ?_
  refine v_callVIr dX1_fought_5 ml_X1_30 (so_X3_startOf hn hp  w) ((hp 1 (by decide)).trans (ent_1 _)) rfl (s_lt hn rfl) rfl rfl (Nat.le_of_ble_eq_true rfl) (Nat.le_of_ble_eq_true rfl) (Nat.zero_le _) (Nat.zero_le _) (fun v1 w => ?_)
  refine v_istore dX1_fought_8 (Nat.le_of_ble_eq_true rfl) ?_
  refine v_aload_n dX1_fought_10 rfl ?_
  refine v_get dX1_fought_11 fl_X1_26 ((hp 68 (by decide)).trans (ent_68 _)) rfl (s_lt hn rfl) ?_
  refine v_iload_n dX1_fought_14 rfl ?_
  refine v_callVVw dX1_fought_15 ml_X1_40 (so_X2_take hn hp  w) ((hp 58 (by decide)).trans (ent_58 _)) rfl (s_lt hn rfl) rfl rfl (Nat.le_of_ble_eq_true rfl) (Nat.le_of_ble_eq_true rfl) (Nat.zero_le _) (Nat.zero_le _) (fun X8 h9 hp11 hf10 w => ?_)
  have hf12 := Fr.trans hf hf10
  refine v_aload_n dX1_fought_18 rfl ?_
  refine v_get dX1_fought_19 fl_X1_26 ((hp11 68 (by decide)).trans (ent_68 _)) rfl (s_lt hn rfl) ?_
  refine v_iconstI dX1_fought_22 ?_
  refine v_iload dX1_fought_23 rfl ?_
  refine v_iload_n dX1_fought_25 rfl ?_
  refine v_iconstI dX1_fought_26 ?_
  refine v_iconstI dX1_fought_27 ?_
  refine v_callVVw dX1_fought_28 ml_X1_46 (so_X2_spread hK hn hp11 (Fr.trans hf9 hf12) w) ((hp11 58 (by decide)).trans (ent_58 _)) rfl (s_lt hn rfl) rfl rfl (Nat.le_of_ble_eq_true rfl) (Nat.le_of_ble_eq_true rfl) (Nat.zero_le _) (Nat.zero_le _) (fun X14 h15 hp17 hf16 w => ?_)
  have hf18 := Fr.trans hf12 hf16
  refine v_aload_n dX1_fought_31 rfl ?_
  refine v_iload_n dX1_fought_32 rfl ?_
  refine v_iload_n dX1_fought_33 rfl ?_
  refine v_iconstI dX1_fought_34 ?_
  refine v_iconstI dX1_fought_35 ?_
  refine v_callVVw dX1_fought_36 ml_X1_80 (so_X1_reckonBack hn hp17  w) ((hp17 68 (by decide)).trans (ent_68 _)) rfl (s_lt hn rfl) rfl rfl (Nat.le_of_ble_eq_true rfl) (Nat.le_of_ble_eq_true rfl) (Nat.zero_le _) (Nat.zero_le _) (fun X20 h21 hp23 hf22 w => ?_)
  have hf24 := Fr.trans hf18 hf22
  refine v_aload_n dX1_fought_39 rfl ?_
  refine v_iconstI dX1_fought_40 ?_
  refine v_iload dX1_fought_41 rfl ?_
  refine v_callVLr dX1_fought_43 ml_X1_70 (so_X1_chanceOf hn hp23  w) ((hp23 68 (by decide)).trans (ent_68 _)) rfl (s_lt hn rfl) rfl rfl (Nat.le_of_ble_eq_true rfl) (Nat.le_of_ble_eq_true rfl) (Nat.zero_le _) (Nat.zero_le _) (fun v25 w => ?_)
  refine v_lconstI (w := 0) dX1_fought_46 rfl ?_
  replace w := w (fun (v31 : Int) => V (m_X1_fought, 6, 0, 0, n, pIw n h Q, s_G0) 0 0 n h21 56 [(0, .ref 68), (3, .int (iI a2)), (4, .int (iI a3))] [.int (iI v31)]) (by
    intro v31 w
    refine v_istore dX1_fought_56 (Nat.le_of_ble_eq_true rfl) ?_
    refine v_iload dX1_fought_58 rfl ?_
    obtain ⟨q33, w⟩ := w
    refine v_if_neI (tgt := 74) dX1_fought_60 (by decide) q33.1 q33.2 (fun c34 => ?_) (fun c34 => ?_)
    · replace w := w.1 c34
      refine v_iload dX1_fought_74 rfl ?_
      obtain ⟨q35, w⟩ := w
      refine v_if_eqI (tgt := 90) dX1_fought_76 (by decide) q35.1 q35.2 (fun c36 => ?_) (fun c36 => ?_)
      · replace w := w.1 c36
        refine v_iconstI dX1_fought_90 ?_
        exact v_iret dX1_fought_91 rfl (Nat.zero_le _) (Nat.zero_le _) ⟨rfl, hf24, _, _, rfl, hp23, w⟩
      · replace w := w.2 c36
        refine v_iload_n dX1_fought_79 rfl ?_
        obtain ⟨q37, w⟩ := w
        refine v_if_leI (tgt := 90) dX1_fought_80 (by decide) q37.1 q37.2 (fun c38 => ?_) (fun c38 => ?_)
        · replace w := w.1 c38
          refine v_iconstI dX1_fought_90 ?_
          exact v_iret dX1_fought_91 rfl (Nat.zero_le _) (Nat.zero_le _) ⟨rfl, hf24, _, _, rfl, hp23, w⟩
        · replace w := w.2 c38
          refine v_aload_n dX1_fought_83 rfl ?_
          refine v_get dX1_fought_84 fl_X1_19 ((hp23 68 (by decide)).trans (ent_68 _)) rfl (s_lt hn rfl) ?_
          refine v_goto (tgt := 91) dX1_fought_87 (by decide) ?_
          exact v_iret dX1_fought_91 rfl (Nat.zero_le _) (Nat.zero_le _) ⟨rfl, hf24, _, _, rfl, hp23, w⟩
    · replace w := w.2 c34
      refine v_iload dX1_fought_63 rfl ?_
      obtain ⟨q39, w⟩ := w
      refine v_if_eqI (tgt := 72) dX1_fought_65 (by decide) q39.1 q39.2 (fun c40 => ?_) (fun c40 => ?_)
      · replace w := w.1 c40
        refine v_iconstI dX1_fought_72 ?_
        exact v_iret dX1_fought_73 rfl (Nat.zero_le _) (Nat.zero_le _) ⟨rfl, hf24, _, _, rfl, hp23, w⟩
      · replace w := w.2 c40
        refine v_iconstI dX1_fought_68 ?_
        refine v_goto (tgt := 73) dX1_fought_69 (by decide) ?_
        exact v_iret dX1_fought_73 rfl (Nat.zero_le _) (Nat.zero_le _) ⟨rfl, hf24, _, _, rfl, hp23, w⟩
  )
  obtain ⟨q41, w⟩ := w
  refine v_lcmp_leI (tgt := 55) dX1_fought_47 dX1_fought_48 (by decide) q41.1 q41.2 (by decide) (by decide) (fun c42 => ?_) (fun c42 => ?_)
  · replace w := w.1 c42
    refine v_iconstI dX1_fought_55 ?_
    refine v_pick [1, 4, 5] rfl ?_
    exact w
  · replace w := w.2 c42
    refine v_iconstI dX1_fought_51 ?_
    refine v_goto (tgt := 56) dX1_fought_52 (by decide) ?_
    refine v_pick [1, 4, 5] rfl ?_
    exact w
theorem dX11_duel_0 : decode cX11_duel 0 = .ok (.aload_n 0, 1) := by decide +kernel
theorem dX11_duel_1 : decode cX11_duel 1 = .ok (.iload_n 1, 1) := by decide +kernel
theorem dX11_duel_2 : decode cX11_duel 2 = .ok (.iload_n 2, 1) := by decide +kernel
theorem dX11_duel_3 : decode cX11_duel 3 = .ok (.invokevirtual 293, 3) := by decide +kernel
theorem dX11_duel_6 : decode cX11_duel 6 = .ok (.ifCond .eq 20, 3) := by decide +kernel
theorem dX11_duel_9 : decode cX11_duel 9 = .ok (.iload_n 3, 1) := by decide +kernel
theorem dX11_duel_10 : decode cX11_duel 10 = .ok (.invokestatic 185, 3) := by decide +kernel
theorem dX11_duel_13 : decode cX11_duel 13 = .ok (.ifCond .eq 13, 3) := by decide +kernel
theorem dX11_duel_16 : decode cX11_duel 16 = .ok (.iload 4, 2) := by decide +kernel
theorem dX11_duel_18 : decode cX11_duel 18 = .ok (.iconst 0, 1) := by decide +kernel
theorem dX11_duel_19 : decode cX11_duel 19 = .ok (.iconst 1, 1) := by decide +kernel
theorem dX11_duel_20 : decode cX11_duel 20 = .ok (.invokestatic 115, 3) := by decide +kernel
theorem dX11_duel_23 : decode cX11_duel 23 = .ok (.ifCond .ne 5, 3) := by decide +kernel
theorem dX11_duel_26 : decode cX11_duel 26 = .ok (.iconst (-1), 1) := by decide +kernel
theorem dX11_duel_27 : decode cX11_duel 27 = .ok (.ireturn, 1) := by decide +kernel
theorem dX11_duel_28 : decode cX11_duel 28 = .ok (.aload_n 0, 1) := by decide +kernel
theorem dX11_duel_29 : decode cX11_duel 29 = .ok (.getfield 84, 3) := by decide +kernel
theorem dX11_duel_32 : decode cX11_duel 32 = .ok (.iload_n 1, 1) := by decide +kernel
theorem dX11_duel_33 : decode cX11_duel 33 = .ok (.iload_n 2, 1) := by decide +kernel
theorem dX11_duel_34 : decode cX11_duel 34 = .ok (.iload_n 3, 1) := by decide +kernel
theorem dX11_duel_35 : decode cX11_duel 35 = .ok (.iload 4, 2) := by decide +kernel
theorem dX11_duel_37 : decode cX11_duel 37 = .ok (.invokevirtual 337, 3) := by decide +kernel
theorem dX11_duel_40 : decode cX11_duel 40 = .ok (.ireturn, 1) := by decide +kernel
def w_X11_duel (K : LK) (a0 a1 a2 a3 : Int) (X : XT) (Q : Int → XT → Prop) : Prop :=
  w_X11_isOver  a0 a1 X (fun (v1 : Int) => R32 v1 ∧ (v1 = 0 → Q (-1) X) ∧ (¬ v1 = 0 → R32 a2 ∧ (¬ (0 ≤ a2 ∧ a2 ≤ 11) → Q (-1) X) ∧ ((0 ≤ a2 ∧ a2 ≤ 11) → R32 a3 ∧ ((0 ≤ a3 ∧ a3 ≤ 1) → w_X1_fought K  a0 a1 a2 a3 X (fun (v13 : Int) (X14 : XT) => Q v13 X14)) ∧ (¬ (0 ≤ a3 ∧ a3 ≤ 1) → Q (-1) X))))
set_option maxRecDepth 20000 in
theorem so_X11_duel {n : Nat} {h : Nat → sE} {X : XT} {K : LK} {hk : Nat → sE} (hK : LKok K n hk) {a0 a1 a2 a3 : Int} {Q : Int → XT → Prop} (hn : 115 ≤ n) (hp : Pic X h) (hf9 : Fr hk h) (w : w_X11_duel K  a0 a1 a2 a3 X Q) : Sp m_X11_duel 7 0 0 [.ref 0, .int (iI a0), .int (iI a1), .int (iI a2), .int (iI a3)] n h (pIw n h Q) := by
  unfold w_X11_duel at w
  refine Sp.ofV (by decide +kernel) (Nat.le_of_ble_eq_true rfl) ?_
  have hf : Fr h h := fun _ _ => rfl
  refine v_aload_n dX11_duel_0 rfl ?_
  refine v_iload_n dX11_duel_1 rfl ?_
  refine v_iload_n dX11_duel_2 rfl ?_
  refine v_callVIr dX11_duel_3 ml_X11_293 (so_X11_isOver hn hp  w) ((hp 0 (by decide)).trans (ent_0 _)) rfl (s_lt hn rfl) rfl rfl (Nat.le_of_ble_eq_true rfl) (Nat.le_of_ble_eq_true rfl) (Nat.zero_le _) (Nat.zero_le _) (fun v1 w => ?_)
  obtain ⟨q7, w⟩ := w
  refine v_if_eqI (tgt := 26) dX11_duel_6 (by decide) q7.1 q7.2 (fun c8 => ?_) (fun c8 => ?_)
  · replace w := w.1 c8
    refine v_iconstI dX11_duel_26 ?_
    exact v_iret dX11_duel_27 rfl (Nat.zero_le _) (Nat.zero_le _) ⟨rfl, hf, _, _, rfl, hp, w⟩
  · replace w := w.2 c8
    refine v_iload_n dX11_duel_9 rfl ?_
    obtain ⟨q9, w⟩ := w
    refine v_callSp dX11_duel_10 ml_X11_185 (sp_X11_isHour (a := a2) q9) rfl rfl (Nat.le_of_ble_eq_true rfl) (Nat.le_of_ble_eq_true rfl) (Nat.zero_le _) (Nat.zero_le _) ?_
    refine v_ifeqB (tgt := 26) dX11_duel_13 (by decide) (fun c10 => ?_) (fun c10 => ?_)
    · replace w := w.1 c10
      refine v_iconstI dX11_duel_26 ?_
      exact v_iret dX11_duel_27 rfl (Nat.zero_le _) (Nat.zero_le _) ⟨rfl, hf, _, _, rfl, hp, w⟩
    · replace w := w.2 c10
      refine v_iload dX11_duel_16 rfl ?_
      refine v_iconstI dX11_duel_18 ?_
      refine v_iconstI dX11_duel_19 ?_
      obtain ⟨q11, w⟩ := w
      refine v_callSp dX11_duel_20 ml_X11_115 (sp_X11_within (a := a3) (b := 0) (c := 1) q11 (by decide) (by decide)) rfl rfl (Nat.le_of_ble_eq_true rfl) (Nat.le_of_ble_eq_true rfl) (Nat.zero_le _) (Nat.zero_le _) ?_
      refine v_ifneB (tgt := 28) dX11_duel_23 (by decide) (fun c12 => ?_) (fun c12 => ?_)
      · replace w := w.1 c12
        refine v_aload_n dX11_duel_28 rfl ?_
        refine v_get dX11_duel_29 fl_X11_84 ((hp 0 (by decide)).trans (ent_0 _)) rfl (s_lt hn rfl) ?_
        refine v_iload_n dX11_duel_32 rfl ?_
        refine v_iload_n dX11_duel_33 rfl ?_
        refine v_iload_n dX11_duel_34 rfl ?_
        refine v_iload dX11_duel_35 rfl ?_
        refine v_callVIw dX11_duel_37 ml_X11_337 (so_X1_fought hK hn hp (Fr.trans hf9 hf) w) ((hp 68 (by decide)).trans (ent_68 _)) rfl (s_lt hn rfl) rfl rfl (Nat.le_of_ble_eq_true rfl) (Nat.le_of_ble_eq_true rfl) (Nat.zero_le _) (Nat.zero_le _) (fun v13 X14 h15 hp17 hf16 w => ?_)
        have hf18 := Fr.trans hf hf16
        exact v_iret dX11_duel_40 rfl (Nat.zero_le _) (Nat.zero_le _) ⟨rfl, hf18, _, _, rfl, hp17, w⟩
      · replace w := w.2 c12
        refine v_iconstI dX11_duel_26 ?_
        exact v_iret dX11_duel_27 rfl (Nat.zero_le _) (Nat.zero_le _) ⟨rfl, hf, _, _, rfl, hp, w⟩
set_option maxRecDepth 20000 in
theorem so_X8_tell_55 {n : Nat} {h : Nat → sE} {X : XT} {a0 a1 a2 : Int} {Q : XT → Prop} (hn : 115 ≤ n) (hp : Pic X h) (w : w_X8_tell 56 57 a0 a1 a2 X Q) : Sp m_X8_tell 1 0 0 [.ref 55, .int (iI a0), .int (iI a1), .int (iI a2)] n h (pVw n h Q) := by
  unfold w_X8_tell at w
  refine Sp.ofV (by decide +kernel) (Nat.le_of_ble_eq_true rfl) ?_
  have hf : Fr h h := fun _ _ => rfl
  refine v_iload_n dX8_tell_0 rfl ?_
  refine v_iconstI dX8_tell_1 ?_
  refine v_iconstI dX8_tell_2 ?_
  obtain ⟨q1, w⟩ := w
  refine v_callSp dX8_tell_3 ml_X8_26 (sp_X11_within (a := a0) (b := 0) (c := 4) q1 (by decide) (by decide)) rfl rfl (Nat.le_of_ble_eq_true rfl) (Nat.le_of_ble_eq_true rfl) (Nat.zero_le _) (Nat.zero_le _) ?_
  refine v_ifeqB (tgt := 31) dX8_tell_6 (by decide) (fun c2 => ?_) (fun c2 => ?_)
  · replace w := w.1 c2
    exact v_vret dX8_tell_31 rfl (Nat.zero_le _) (Nat.zero_le _) ⟨rfl, hf, _, rfl, hp, w⟩
  · replace w := w.2 c2
    refine v_iload_n dX8_tell_9 rfl ?_
    refine v_iconstI dX8_tell_10 ?_
    refine v_bipushI dX8_tell_11 rfl ?_
    obtain ⟨q3, w⟩ := w
    refine v_callSp dX8_tell_13 ml_X8_26 (sp_X11_within (a := a1) (b := 0) (c := 10) q3 (by decide) (by decide)) rfl rfl (Nat.le_of_ble_eq_true rfl) (Nat.le_of_ble_eq_true rfl) (Nat.zero_le _) (Nat.zero_le _) ?_
    refine v_ifeqB (tgt := 31) dX8_tell_16 (by decide) (fun c4 => ?_) (fun c4 => ?_)
    · replace w := w.1 c4
      exact v_vret dX8_tell_31 rfl (Nat.zero_le _) (Nat.zero_le _) ⟨rfl, hf, _, rfl, hp, w⟩
    · replace w := w.2 c4
      refine v_aload_n dX8_tell_19 rfl ?_
      refine v_get dX8_tell_20 fl_X8_9 ((hp 55 (by decide)).trans (ent_55 _)) rfl (s_lt hn rfl) ?_
      refine v_iload_n dX8_tell_23 rfl ?_
      refine v_bipushI dX8_tell_24 rfl ?_
      refine v_imulI dX8_tell_26 ?_
      refine v_iload_n dX8_tell_27 rfl ?_
      refine v_iaddI dX8_tell_28 ?_
      refine v_iload_n dX8_tell_29 rfl ?_
      obtain ⟨q5, w⟩ := w
      refine v_iastI dX8_tell_30 ((hp 56 (by decide)).trans (ent_56 _)) (s_lt hn rfl) q5.1 q5.2 (ix_le q5.2 (by decide)) (fun h6 E7 F8 => ?_)
      have hp9 := pic_st hp (show h6 56 = ent 56 (uI _ ((a0 * 11) + a1) a2) from E7) F8
      have hf10 := Fr.up (c := 56) hf F8 rfl
      exact v_vret dX8_tell_31 rfl (Nat.zero_le _) (Nat.zero_le _) ⟨rfl, hf10, _, rfl, hp9, w⟩
set_option maxRecDepth 20000 in
theorem so_X8_hearFlags_55 {n : Nat} {h : Nat → sE} {X : XT} {Q : XT → Prop} (hn : 115 ≤ n) (hp : Pic X h) (w : w_X8_hearFlags 56 57  X Q) : Sp m_X8_hearFlags 2 0 0 [.ref 55] n h (pVw n h Q) := by
  unfold w_X8_hearFlags at w
  refine Sp.ofV (by decide +kernel) (Nat.le_of_ble_eq_true rfl) ?_
  have hf : Fr h h := fun _ _ => rfl
  refine v_iconstI dX8_hearFlags_0 ?_
  refine v_istore_n dX8_hearFlags_1 (Nat.le_of_ble_eq_true rfl) ?_
  refine v_pick [1, 0] rfl ?_
  obtain ⟨I3, m4, wi7, wl6⟩ := w
  have hL8 : ∀ (N11 : Nat) (x1 : Int) (X2 : XT) (h12 : Nat → sE), m4 x1 X2 < N11 → I3 x1 X2 → Pic X2 h12 → Fr h h12 → V (m_X8_hearFlags, 2, 0, 0, n, pVw n h Q, s_G0) 0 0 n h12 2 [(0, .ref 55), (1, .int (iI x1))] [] := by
    intro N11
    induction N11 with
    | zero => intro x1 X2 h12 hm9; exact absurd hm9 (Nat.not_lt_zero _)
    | succ N11 ih5 =>
      intro x1 X2 h12 hm9 hI10 hp13 hf14
      have w := wl6 x1 X2 hI10
      refine v_iload_n dX8_hearFlags_2 rfl ?_
      refine v_aload_n dX8_hearFlags_3 rfl ?_
      refine v_get dX8_hearFlags_4 fl_X8_9 ((hp13 55 (by decide)).trans (ent_55 _)) rfl (s_lt hn rfl) ?_
      refine v_alen_aI dX8_hearFlags_7 ((hp13 56 (by decide)).trans (ent_56 _)) (s_lt hn rfl) ?_
      obtain ⟨q15, w⟩ := w
      refine v_icmp_geI (tgt := 24) dX8_hearFlags_8 (by decide) q15.1 q15.2 (by decide) (by decide) (fun c16 => ?_) (fun c16 => ?_)
      · replace w := w.1 c16
        refine v_iconstI dX8_hearFlags_24 ?_
        refine v_istore_n dX8_hearFlags_25 (Nat.le_of_ble_eq_true rfl) ?_
        refine v_pick [1, 0] rfl ?_
        obtain ⟨I19, m20, wi23, wl22⟩ := w
        have hL24 : ∀ (N27 : Nat) (x17 : Int) (X18 : XT) (h28 : Nat → sE), m20 x17 X18 < N27 → I19 x17 X18 → Pic X18 h28 → Fr h h28 → V (m_X8_hearFlags, 2, 0, 0, n, pVw n h Q, s_G0) 0 0 n h28 26 [(0, .ref 55), (1, .int (iI x17))] [] := by
          intro N27
          induction N27 with
          | zero => intro x17 X18 h28 hm25; exact absurd hm25 (Nat.not_lt_zero _)
          | succ N27 ih21 =>
            intro x17 X18 h28 hm25 hI26 hp29 hf30
            have w := wl22 x17 X18 hI26
            refine v_iload_n dX8_hearFlags_26 rfl ?_
            refine v_aload_n dX8_hearFlags_27 rfl ?_
            refine v_get dX8_hearFlags_28 fl_X8_18 ((hp29 55 (by decide)).trans (ent_55 _)) rfl (s_lt hn rfl) ?_
            refine v_get dX8_hearFlags_31 fl_X8_63 ((hp29 1 (by decide)).trans (ent_1 _)) rfl (s_lt hn rfl) ?_
            obtain ⟨q31, q32, w⟩ := w
            refine v_icmp_geI (tgt := 76) dX8_hearFlags_34 (by decide) q31.1 q31.2 q32.1 q32.2 (fun c33 => ?_) (fun c33 => ?_)
            · replace w := w.1 c33
              exact v_vret dX8_hearFlags_76 rfl (Nat.zero_le _) (Nat.zero_le _) ⟨rfl, hf30, _, rfl, hp29, w⟩
            · replace w := w.2 c33
              refine v_aload_n dX8_hearFlags_37 rfl ?_
              refine v_get dX8_hearFlags_38 fl_X8_18 ((hp29 55 (by decide)).trans (ent_55 _)) rfl (s_lt hn rfl) ?_
              refine v_iload_n dX8_hearFlags_41 rfl ?_
              refine v_iconstI dX8_hearFlags_42 ?_
              obtain ⟨q34, w⟩ := w
              refine v_callVp dX8_hearFlags_43 ml_X8_66 (sv_X3_flagFact (a := x17) (b := 0) (g1 := X18 1) (g6 := X18 6) hn (hp29 1 (by decide)) (hp29 6 (by decide)) q34 (by decide)) ((hp29 1 (by decide)).trans (ent_1 _)) rfl (s_lt hn rfl) rfl rfl (Nat.le_of_ble_eq_true rfl) (Nat.le_of_ble_eq_true rfl) (Nat.zero_le _) (Nat.zero_le _) ?_
              refine v_istore_n dX8_hearFlags_46 (Nat.le_of_ble_eq_true rfl) ?_
              refine v_aload_n dX8_hearFlags_47 rfl ?_
              refine v_aload_n dX8_hearFlags_48 rfl ?_
              refine v_get dX8_hearFlags_49 fl_X8_18 ((hp29 55 (by decide)).trans (ent_55 _)) rfl (s_lt hn rfl) ?_
              refine v_iload_n dX8_hearFlags_52 rfl ?_
              refine v_iconstI dX8_hearFlags_53 ?_
              refine v_callVp dX8_hearFlags_54 ml_X8_66 (sv_X3_flagFact (a := x17) (b := 1) (g1 := X18 1) (g6 := X18 6) hn (hp29 1 (by decide)) (hp29 6 (by decide)) q34 (by decide)) ((hp29 1 (by decide)).trans (ent_1 _)) rfl (s_lt hn rfl) rfl rfl (Nat.le_of_ble_eq_true rfl) (Nat.le_of_ble_eq_true rfl) (Nat.zero_le _) (Nat.zero_le _) ?_
              refine v_iload_n dX8_hearFlags_57 rfl ?_
              refine v_aload_n dX8_hearFlags_58 rfl ?_
              refine v_get dX8_hearFlags_59 fl_X8_18 ((hp29 55 (by decide)).trans (ent_55 _)) rfl (s_lt hn rfl) ?_
              refine v_iload_n dX8_hearFlags_62 rfl ?_
              refine v_iconstI dX8_hearFlags_63 ?_
              refine v_callVp dX8_hearFlags_64 ml_X8_66 (sv_X3_flagFact (a := x17) (b := 2) (g1 := X18 1) (g6 := X18 6) hn (hp29 1 (by decide)) (hp29 6 (by decide)) q34 (by decide)) ((hp29 1 (by decide)).trans (ent_1 _)) rfl (s_lt hn rfl) rfl rfl (Nat.le_of_ble_eq_true rfl) (Nat.le_of_ble_eq_true rfl) (Nat.zero_le _) (Nat.zero_le _) ?_
              refine v_callVVw dX8_hearFlags_67 ml_X8_70 (so_X8_tell_55 hn hp29  w) ((hp29 55 (by decide)).trans (ent_55 _)) rfl (s_lt hn rfl) rfl rfl (Nat.le_of_ble_eq_true rfl) (Nat.le_of_ble_eq_true rfl) (Nat.zero_le _) (Nat.zero_le _) (fun X36 h37 hp39 hf38 w => ?_)
              have hf40 := Fr.trans hf30 hf38
              refine v_iincI dX8_hearFlags_70 rfl (Nat.le_of_ble_eq_true rfl) ?_
              refine v_goto (tgt := 26) dX8_hearFlags_73 (by decide) ?_
              refine v_pick [2, 0] rfl ?_
              exact ih21 _ _ _ (Nat.lt_of_lt_of_le w.2 (Nat.le_of_lt_succ hm25)) w.1 hp39 hf40
        exact hL24 _ _ _ _ (Nat.lt_succ_self _) wi23 hp13 hf14
      · replace w := w.2 c16
        refine v_aload_n dX8_hearFlags_11 rfl ?_
        refine v_get dX8_hearFlags_12 fl_X8_9 ((hp13 55 (by decide)).trans (ent_55 _)) rfl (s_lt hn rfl) ?_
        refine v_iload_n dX8_hearFlags_15 rfl ?_
        refine v_iconstI dX8_hearFlags_16 ?_
        obtain ⟨q41, w⟩ := w
        refine v_iastI dX8_hearFlags_17 ((hp13 56 (by decide)).trans (ent_56 _)) (s_lt hn rfl) q41.1 q41.2 (ix_le q41.2 (by decide)) (fun h42 E43 F44 => ?_)
        have hp45 := pic_st hp13 (show h42 56 = ent 56 (uI _ x1 4) from E43) F44
        have hf46 := Fr.up (c := 56) hf14 F44 rfl
        refine v_iincI dX8_hearFlags_18 rfl (Nat.le_of_ble_eq_true rfl) ?_
        refine v_goto (tgt := 2) dX8_hearFlags_21 (by decide) ?_
        refine v_pick [1, 0] rfl ?_
        exact ih5 _ _ _ (Nat.lt_of_lt_of_le w.2 (Nat.le_of_lt_succ hm9)) w.1 hp45 hf46
  exact hL8 _ _ _ _ (Nat.lt_succ_self _) wi7 hp hf
set_option maxRecDepth 20000 in
theorem so_X8_place_55 {n : Nat} {h : Nat → sE} {X : XT} {a0 a1 a2 : Int} {Q : XT → Prop} (hn : 115 ≤ n) (hp : Pic X h) (w : w_X8_place 56 57 a0 a1 a2 X Q) : Sp m_X8_place 2 0 0 [.ref 55, .int (iI a0), .int (iI a1), .int (iI a2)] n h (pVw n h Q) := by
  unfold w_X8_place at w
  refine Sp.ofV (by decide +kernel) (Nat.le_of_ble_eq_true rfl) ?_
  have hf : Fr h h := fun _ _ => rfl
  refine v_iload_n dX8_place_0 rfl ?_
  refine v_iconstI dX8_place_1 ?_
  refine v_iconstI dX8_place_2 ?_
  obtain ⟨q1, w⟩ := w
  refine v_callSp dX8_place_3 ml_X8_26 (sp_X11_within (a := a0) (b := 0) (c := 4) q1 (by decide) (by decide)) rfl rfl (Nat.le_of_ble_eq_true rfl) (Nat.le_of_ble_eq_true rfl) (Nat.zero_le _) (Nat.zero_le _) ?_
  refine v_ifeqB (tgt := 28) dX8_place_6 (by decide) (fun c2 => ?_) (fun c2 => ?_)
  · replace w := w.1 c2
    exact v_vret dX8_place_28 rfl (Nat.zero_le _) (Nat.zero_le _) ⟨rfl, hf, _, rfl, hp, w⟩
  · replace w := w.2 c2
    refine v_iload_n dX8_place_9 rfl ?_
    obtain ⟨q3, w⟩ := w
    refine v_callSp dX8_place_10 ml_X8_100 (sp_X11_isHour (a := a1) q3) rfl rfl (Nat.le_of_ble_eq_true rfl) (Nat.le_of_ble_eq_true rfl) (Nat.zero_le _) (Nat.zero_le _) ?_
    refine v_ifeqB (tgt := 28) dX8_place_13 (by decide) (fun c4 => ?_) (fun c4 => ?_)
    · replace w := w.1 c4
      exact v_vret dX8_place_28 rfl (Nat.zero_le _) (Nat.zero_le _) ⟨rfl, hf, _, rfl, hp, w⟩
    · replace w := w.2 c4
      refine v_aload_n dX8_place_16 rfl ?_
      refine v_get dX8_place_17 fl_X8_15 ((hp 55 (by decide)).trans (ent_55 _)) rfl (s_lt hn rfl) ?_
      refine v_iload_n dX8_place_20 rfl ?_
      refine v_bipushI dX8_place_21 rfl ?_
      refine v_imulI dX8_place_23 ?_
      refine v_iload_n dX8_place_24 rfl ?_
      refine v_iaddI dX8_place_25 ?_
      refine v_iload_n dX8_place_26 rfl ?_
      obtain ⟨q5, w⟩ := w
      refine v_iastI dX8_place_27 ((hp 57 (by decide)).trans (ent_57 _)) (s_lt hn rfl) q5.1 q5.2 (ix_le q5.2 (by decide)) (fun h6 E7 F8 => ?_)
      have hp9 := pic_st hp (show h6 57 = ent 57 (uI _ ((a0 * 12) + a1) a2) from E7) F8
      have hf10 := Fr.up (c := 57) hf F8 rfl
      exact v_vret dX8_place_28 rfl (Nat.zero_le _) (Nat.zero_le _) ⟨rfl, hf10, _, rfl, hp9, w⟩
set_option maxRecDepth 20000 in
theorem so_X8_spotOf_55 {n : Nat} {h : Nat → sE} {X : XT} {a0 a1 : Int} {Q : Int → Prop} (hn : 115 ≤ n) (hp : Pic X h) (w : w_X8_spotOf 56 57 a0 a1 X Q) : Sp m_X8_spotOf 2 0 0 [.ref 55, .int (iI a0), .int (iI a1)] n h (pIr n h Q) := by
  unfold w_X8_spotOf at w
  refine Sp.ofV (by decide +kernel) (Nat.le_of_ble_eq_true rfl) ?_
  have hf : Fr h h := fun _ _ => rfl
  refine v_iload_n dX8_spotOf_0 rfl ?_
  refine v_iconstI dX8_spotOf_1 ?_
  refine v_iconstI dX8_spotOf_2 ?_
  obtain ⟨q1, w⟩ := w
  refine v_callSp dX8_spotOf_3 ml_X8_26 (sp_X11_within (a := a0) (b := 0) (c := 4) q1 (by decide) (by decide)) rfl rfl (Nat.le_of_ble_eq_true rfl) (Nat.le_of_ble_eq_true rfl) (Nat.zero_le _) (Nat.zero_le _) ?_
  refine v_ifeqB (tgt := 16) dX8_spotOf_6 (by decide) (fun c2 => ?_) (fun c2 => ?_)
  · replace w := w.1 c2
    refine v_sipushI dX8_spotOf_16 rfl ?_
    exact v_iret dX8_spotOf_19 rfl (Nat.zero_le _) (Nat.zero_le _) ⟨rfl, rfl, _, rfl, w⟩
  · replace w := w.2 c2
    refine v_iload_n dX8_spotOf_9 rfl ?_
    obtain ⟨q3, w⟩ := w
    refine v_callSp dX8_spotOf_10 ml_X8_100 (sp_X11_isHour (a := a1) q3) rfl rfl (Nat.le_of_ble_eq_true rfl) (Nat.le_of_ble_eq_true rfl) (Nat.zero_le _) (Nat.zero_le _) ?_
    refine v_ifneB (tgt := 20) dX8_spotOf_13 (by decide) (fun c4 => ?_) (fun c4 => ?_)
    · replace w := w.1 c4
      refine v_aload_n dX8_spotOf_20 rfl ?_
      refine v_get dX8_spotOf_21 fl_X8_15 ((hp 55 (by decide)).trans (ent_55 _)) rfl (s_lt hn rfl) ?_
      refine v_iload_n dX8_spotOf_24 rfl ?_
      refine v_bipushI dX8_spotOf_25 rfl ?_
      refine v_imulI dX8_spotOf_27 ?_
      refine v_iload_n dX8_spotOf_28 rfl ?_
      refine v_iaddI dX8_spotOf_29 ?_
      obtain ⟨q5, w⟩ := w
      refine v_ialdI dX8_spotOf_30 ((hp 57 (by decide)).trans (ent_57 _)) (s_lt hn rfl) q5.1 q5.2 (ix_le q5.2 (by decide)) ?_
      exact v_iret dX8_spotOf_31 rfl (Nat.zero_le _) (Nat.zero_le _) ⟨rfl, rfl, _, rfl, w⟩
    · replace w := w.2 c4
      refine v_sipushI dX8_spotOf_16 rfl ?_
      exact v_iret dX8_spotOf_19 rfl (Nat.zero_le _) (Nat.zero_le _) ⟨rfl, rfl, _, rfl, w⟩
theorem dX9_drawOfTen_0 : decode cX9_drawOfTen 0 = .ok (.aload_n 0, 1) := by decide +kernel
theorem dX9_drawOfTen_1 : decode cX9_drawOfTen 1 = .ok (.aload_n 0, 1) := by decide +kernel
theorem dX9_drawOfTen_2 : decode cX9_drawOfTen 2 = .ok (.getfield 24, 3) := by decide +kernel
theorem dX9_drawOfTen_5 : decode cX9_drawOfTen 5 = .ok (.i2l, 1) := by decide +kernel
theorem dX9_drawOfTen_6 : decode cX9_drawOfTen 6 = .ok (.ldc2_w 115, 3) := by decide +kernel
theorem dX9_drawOfTen_9 : decode cX9_drawOfTen 9 = .ok (.lmul, 1) := by decide +kernel
theorem dX9_drawOfTen_10 : decode cX9_drawOfTen 10 = .ok (.ldc2_w 117, 3) := by decide +kernel
theorem dX9_drawOfTen_13 : decode cX9_drawOfTen 13 = .ok (.ladd, 1) := by decide +kernel
theorem dX9_drawOfTen_14 : decode cX9_drawOfTen 14 = .ok (.ldc2_w 119, 3) := by decide +kernel
theorem dX9_drawOfTen_17 : decode cX9_drawOfTen 17 = .ok (.lrem, 1) := by decide +kernel
theorem dX9_drawOfTen_18 : decode cX9_drawOfTen 18 = .ok (.l2i, 1) := by decide +kernel
theorem dX9_drawOfTen_19 : decode cX9_drawOfTen 19 = .ok (.putfield 24, 3) := by decide +kernel
theorem dX9_drawOfTen_22 : decode cX9_drawOfTen 22 = .ok (.aload_n 0, 1) := by decide +kernel
theorem dX9_drawOfTen_23 : decode cX9_drawOfTen 23 = .ok (.getfield 24, 3) := by decide +kernel
theorem dX9_drawOfTen_26 : decode cX9_drawOfTen 26 = .ok (.bipush 10, 2) := by decide +kernel
theorem dX9_drawOfTen_28 : decode cX9_drawOfTen 28 = .ok (.irem, 1) := by decide +kernel
theorem dX9_drawOfTen_29 : decode cX9_drawOfTen 29 = .ok (.ireturn, 1) := by decide +kernel
def w_X9_drawOfTen (X : XT) (Q : Int → XT → Prop) : Prop :=
  R32 (X 52 6) ∧ R64 (((X 52 6) * 1103) + 12345) ∧ (0 ≤ (((X 52 6) * 1103) + 12345)) ∧ R32 ((x_st X 52 6 ((((X 52 6) * 1103) + 12345) % 1000003)) 52 6) ∧ (0 ≤ ((x_st X 52 6 ((((X 52 6) * 1103) + 12345) % 1000003)) 52 6)) ∧ Q (((x_st X 52 6 ((((X 52 6) * 1103) + 12345) % 1000003)) 52 6) % 10) (x_st X 52 6 ((((X 52 6) * 1103) + 12345) % 1000003))
set_option maxRecDepth 20000 in
theorem so_X9_drawOfTen {n : Nat} {h : Nat → sE} {X : XT} {Q : Int → XT → Prop} (hn : 115 ≤ n) (hp : Pic X h) (w : w_X9_drawOfTen   X Q) : Sp m_X9_drawOfTen 0 0 0 [.ref 52] n h (pIw n h Q) := by
  unfold w_X9_drawOfTen at w
  refine Sp.ofV (by decide +kernel) (Nat.le_of_ble_eq_true rfl) ?_
  have hf : Fr h h := fun _ _ => rfl
  refine v_aload_n dX9_drawOfTen_0 rfl ?_
  refine v_aload_n dX9_drawOfTen_1 rfl ?_
  refine v_get dX9_drawOfTen_2 fl_X9_24 ((hp 52 (by decide)).trans (ent_52 _)) rfl (s_lt hn rfl) ?_
  obtain ⟨q1, w⟩ := w
  refine v_i2lI dX9_drawOfTen_5 q1.1 q1.2 ?_
  refine v_ldc2I 1103 dX9_drawOfTen_6 k_X9_115 rfl ?_
  refine v_lmulI dX9_drawOfTen_9 ?_
  refine v_ldc2I 12345 dX9_drawOfTen_10 k_X9_117 rfl ?_
  refine v_laddI dX9_drawOfTen_13 ?_
  refine v_ldc2I 1000003 dX9_drawOfTen_14 k_X9_119 rfl ?_
  obtain ⟨q2, q3, w⟩ := w
  refine v_lremI dX9_drawOfTen_17 q3 q2.2 (by decide) (by decide) ?_
  refine v_l2iI dX9_drawOfTen_18 ?_
  refine v_put dX9_drawOfTen_19 fl_X9_24 ((hp 52 (by decide)).trans (ent_52 _)) (s_lt hn rfl) (Nat.le_of_ble_eq_true rfl) (fun _ => ⟨rfl, rfl⟩) trivial (fun h4 E5 F6 => ?_)
  have hp7 := pic_st hp (show h4 52 = ent 52 (uI _ 6 ((((X 52 6) * 1103) + 12345) % 1000003)) from E5) F6
  have hf8 := Fr.up (c := 52) hf F6 rfl
  refine v_aload_n dX9_drawOfTen_22 rfl ?_
  refine v_get dX9_drawOfTen_23 fl_X9_24 ((hp7 52 (by decide)).trans (ent_52 _)) rfl (s_lt hn rfl) ?_
  refine v_bipushI dX9_drawOfTen_26 rfl ?_
  obtain ⟨q9, q10, w⟩ := w
  refine v_iremI dX9_drawOfTen_28 q10 q9.2 (by decide) (by decide) ?_
  exact v_iret dX9_drawOfTen_29 rfl (Nat.zero_le _) (Nat.zero_le _) ⟨rfl, hf8, _, _, rfl, hp7, w⟩
set_option maxRecDepth 20000 in
theorem so_X8_flagOf_55 {n : Nat} {h : Nat → sE} {X : XT} {a0 a1 : Int} {Q : Int → Prop} (hn : 115 ≤ n) (hp : Pic X h) (w : w_X8_flagOf 56 57 a0 a1 X Q) : Sp m_X8_flagOf 1 0 0 [.ref 55, .int (iI a0), .int (iI a1)] n h (pIr n h Q) := by
  unfold w_X8_flagOf at w
  refine Sp.ofV (by decide +kernel) (Nat.le_of_ble_eq_true rfl) ?_
  have hf : Fr h h := fun _ _ => rfl
  refine v_iload_n dX8_flagOf_0 rfl ?_
  refine v_iconstI dX8_flagOf_1 ?_
  refine v_iconstI dX8_flagOf_2 ?_
  obtain ⟨q1, w⟩ := w
  refine v_callSp dX8_flagOf_3 ml_X8_26 (sp_X11_within (a := a0) (b := 0) (c := 4) q1 (by decide) (by decide)) rfl rfl (Nat.le_of_ble_eq_true rfl) (Nat.le_of_ble_eq_true rfl) (Nat.zero_le _) (Nat.zero_le _) ?_
  refine v_ifeqB (tgt := 19) dX8_flagOf_6 (by decide) (fun c2 => ?_) (fun c2 => ?_)
  · replace w := w.1 c2
    refine v_iconstI dX8_flagOf_19 ?_
    exact v_iret dX8_flagOf_20 rfl (Nat.zero_le _) (Nat.zero_le _) ⟨rfl, rfl, _, rfl, w⟩
  · replace w := w.2 c2
    refine v_iload_n dX8_flagOf_9 rfl ?_
    refine v_iconstI dX8_flagOf_10 ?_
    refine v_bipushI dX8_flagOf_11 rfl ?_
    obtain ⟨q3, w⟩ := w
    refine v_callSp dX8_flagOf_13 ml_X8_26 (sp_X11_within (a := a1) (b := 0) (c := 10) q3 (by decide) (by decide)) rfl rfl (Nat.le_of_ble_eq_true rfl) (Nat.le_of_ble_eq_true rfl) (Nat.zero_le _) (Nat.zero_le _) ?_
    refine v_ifneB (tgt := 21) dX8_flagOf_16 (by decide) (fun c4 => ?_) (fun c4 => ?_)
    · replace w := w.1 c4
      refine v_aload_n dX8_flagOf_21 rfl ?_
      refine v_get dX8_flagOf_22 fl_X8_9 ((hp 55 (by decide)).trans (ent_55 _)) rfl (s_lt hn rfl) ?_
      refine v_iload_n dX8_flagOf_25 rfl ?_
      refine v_bipushI dX8_flagOf_26 rfl ?_
      refine v_imulI dX8_flagOf_28 ?_
      refine v_iload_n dX8_flagOf_29 rfl ?_
      refine v_iaddI dX8_flagOf_30 ?_
      obtain ⟨q5, w⟩ := w
      refine v_ialdI dX8_flagOf_31 ((hp 56 (by decide)).trans (ent_56 _)) (s_lt hn rfl) q5.1 q5.2 (ix_le q5.2 (by decide)) ?_
      exact v_iret dX8_flagOf_32 rfl (Nat.zero_le _) (Nat.zero_le _) ⟨rfl, rfl, _, rfl, w⟩
    · replace w := w.2 c4
      refine v_iconstI dX8_flagOf_19 ?_
      exact v_iret dX8_flagOf_20 rfl (Nat.zero_le _) (Nat.zero_le _) ⟨rfl, rfl, _, rfl, w⟩
set_option maxRecDepth 20000 in
theorem so_X8_goOn_55 {n : Nat} {h : Nat → sE} {X : XT} {K : LK} {hk : Nat → sE} (hK : LKok K n hk) {a0 a1 a2 : Int} {Q : XT → Prop} (hn : 115 ≤ n) (hp : Pic X h) (hf9 : Fr hk h) (w : w_X8_goOn K 56 57 a0 a1 a2 X Q) : Sp m_X8_goOn 4 0 0 [.ref 55, .int (iI a0), .int (iI a1), .int (iI a2)] n h (pVw n h Q) := by
  unfold w_X8_goOn at w
  refine Sp.ofV (by decide +kernel) (Nat.le_of_ble_eq_true rfl) ?_
  have hf : Fr h h := fun _ _ => rfl
  refine v_aload_n dX8_goOn_0 rfl ?_
  refine v_iload_n dX8_goOn_1 rfl ?_
  refine v_iload_n dX8_goOn_2 rfl ?_
  refine v_callVIr dX8_goOn_3 ml_X8_73 (so_X8_spotOf_55 hn hp  w) ((hp 55 (by decide)).trans (ent_55 _)) rfl (s_lt hn rfl) rfl rfl (Nat.le_of_ble_eq_true rfl) (Nat.le_of_ble_eq_true rfl) (Nat.zero_le _) (Nat.zero_le _) (fun v1 w => ?_)
  refine v_istore dX8_goOn_6 (Nat.le_of_ble_eq_true rfl) ?_
  refine v_aload_n dX8_goOn_8 rfl ?_
  refine v_iload_n dX8_goOn_9 rfl ?_
  refine v_iload_n dX8_goOn_10 rfl ?_
  refine v_callVIr dX8_goOn_11 ml_X8_76 (so_X8_flagOf_55 hn hp  w) ((hp 55 (by decide)).trans (ent_55 _)) rfl (s_lt hn rfl) rfl rfl (Nat.le_of_ble_eq_true rfl) (Nat.le_of_ble_eq_true rfl) (Nat.zero_le _) (Nat.zero_le _) (fun v7 w => ?_)
  refine v_istore dX8_goOn_14 (Nat.le_of_ble_eq_true rfl) ?_
  refine v_iload dX8_goOn_16 rfl ?_
  refine v_sipushI dX8_goOn_18 rfl ?_
  replace w := w (fun (v13 : Int) (X14 : XT) => ∀ h18 : Nat → sE, Pic X14 h18 → Fr h h18 → V (m_X8_goOn, 4, 0, 0, n, pVw n h Q, s_G0) 0 0 n h18 47 [(0, .ref 55), (1, .int (iI a0)), (2, .int (iI a1)), (3, .int (iI a2)), (4, .int (iI v1)), (5, .int (iI v13))] []) (by
    intro v13 X14 w h18 hp16 hf17
    refine v_aload_n dX8_goOn_47 rfl ?_
    refine v_get dX8_goOn_48 fl_X8_18 ((hp16 55 (by decide)).trans (ent_55 _)) rfl (s_lt hn rfl) ?_
    refine v_iload_n dX8_goOn_51 rfl ?_
    refine v_callVIr dX8_goOn_52 ml_X8_85 (so_X3_windXOf hn hp16  w) ((hp16 1 (by decide)).trans (ent_1 _)) rfl (s_lt hn rfl) rfl rfl (Nat.le_of_ble_eq_true rfl) (Nat.le_of_ble_eq_true rfl) (Nat.zero_le _) (Nat.zero_le _) (fun v19 w => ?_)
    refine v_istore dX8_goOn_55 (Nat.le_of_ble_eq_true rfl) ?_
    refine v_aload_n dX8_goOn_57 rfl ?_
    refine v_get dX8_goOn_58 fl_X8_18 ((hp16 55 (by decide)).trans (ent_55 _)) rfl (s_lt hn rfl) ?_
    refine v_iload_n dX8_goOn_61 rfl ?_
    refine v_callVIr dX8_goOn_62 ml_X8_88 (so_X3_windYOf hn hp16  w) ((hp16 1 (by decide)).trans (ent_1 _)) rfl (s_lt hn rfl) rfl rfl (Nat.le_of_ble_eq_true rfl) (Nat.le_of_ble_eq_true rfl) (Nat.zero_le _) (Nat.zero_le _) (fun v25 w => ?_)
    refine v_istore dX8_goOn_65 (Nat.le_of_ble_eq_true rfl) ?_
    refine v_iload_n dX8_goOn_67 rfl ?_
    replace w := w (fun (v31 : Int) => V (m_X8_goOn, 4, 0, 0, n, pVw n h Q, s_G0) 0 0 n h18 79 [(0, .ref 55), (1, .int (iI a0)), (2, .int (iI a1)), (3, .int (iI a2)), (4, .int (iI v1)), (5, .int (iI v13)), (6, .int (iI v19)), (7, .int (iI v25))] [.int (iI v31)]) (by
      intro v31 w
      refine v_istore dX8_goOn_79 (Nat.le_of_ble_eq_true rfl) ?_
      refine v_iload_n dX8_goOn_81 rfl ?_
      replace w := w (fun (v33 : Int) => V (m_X8_goOn, 4, 0, 0, n, pVw n h Q, s_G0) 0 0 n h18 92 [(0, .ref 55), (1, .int (iI a0)), (2, .int (iI a1)), (4, .int (iI v1)), (5, .int (iI v13)), (8, .int (iI v31))] [.int (iI v33)]) (by
        intro v33 w
        refine v_istore dX8_goOn_92 (Nat.le_of_ble_eq_true rfl) ?_
        refine v_aload_n dX8_goOn_94 rfl ?_
        refine v_iload_n dX8_goOn_95 rfl ?_
        refine v_iload_n dX8_goOn_96 rfl ?_
        refine v_iconstI dX8_goOn_97 ?_
        refine v_iaddI dX8_goOn_98 ?_
        refine v_iload dX8_goOn_99 rfl ?_
        refine v_iload dX8_goOn_101 rfl ?_
        refine v_iload dX8_goOn_103 rfl ?_
        obtain ⟨q35, w⟩ := w
        refine v_callSp dX8_goOn_105 ml_X8_91 (sp_X8_stepX (a := v13) q35) rfl rfl (Nat.le_of_ble_eq_true rfl) (Nat.le_of_ble_eq_true rfl) (Nat.zero_le _) (Nat.zero_le _) ?_
        refine v_iaddI dX8_goOn_108 ?_
        refine v_iload dX8_goOn_109 rfl ?_
        refine v_iload dX8_goOn_111 rfl ?_
        refine v_callSp dX8_goOn_113 ml_X8_94 (sp_X8_stepY (a := v13) q35) rfl rfl (Nat.le_of_ble_eq_true rfl) (Nat.le_of_ble_eq_true rfl) (Nat.zero_le _) (Nat.zero_le _) ?_
        refine v_iaddI dX8_goOn_116 ?_
        obtain ⟨q36, q37, q38, w⟩ := w
        refine v_callSp dX8_goOn_117 ml_X8_97 (sp_X8_movedBy (a := v1) (x := (v31 + (sxF v13))) (y := (v33 + (syF v13))) q36 q37 q38) rfl rfl (Nat.le_of_ble_eq_true rfl) (Nat.le_of_ble_eq_true rfl) (Nat.zero_le _) (Nat.zero_le _) ?_
        refine v_callVVw dX8_goOn_120 ml_X8_55 (so_X8_place_55 hn hp16  w) ((hp16 55 (by decide)).trans (ent_55 _)) rfl (s_lt hn rfl) rfl rfl (Nat.le_of_ble_eq_true rfl) (Nat.le_of_ble_eq_true rfl) (Nat.zero_le _) (Nat.zero_le _) (fun X40 h41 hp43 hf42 w => ?_)
        have hf44 := Fr.trans hf17 hf42
        exact v_vret dX8_goOn_123 rfl (Nat.zero_le _) (Nat.zero_le _) ⟨rfl, hf44, _, rfl, hp43, w⟩
      )
      obtain ⟨q45, w⟩ := w
      refine v_if_eqI (tgt := 90) dX8_goOn_82 (by decide) q45.1 q45.2 (fun c46 => ?_) (fun c46 => ?_)
      · replace w := w.1 c46
        refine v_iload dX8_goOn_90 rfl ?_
        refine v_pick [1, 2, 3, 5, 6, 0] rfl ?_
        exact w
      · replace w := w.2 c46
        refine v_iload dX8_goOn_85 rfl ?_
        refine v_goto (tgt := 92) dX8_goOn_87 (by decide) ?_
        refine v_pick [1, 2, 3, 5, 6, 0] rfl ?_
        exact w
    )
    obtain ⟨q47, w⟩ := w
    refine v_if_eqI (tgt := 77) dX8_goOn_68 (by decide) q47.1 q47.2 (fun c48 => ?_) (fun c48 => ?_)
    · replace w := w.1 c48
      refine v_iload dX8_goOn_77 rfl ?_
      refine v_pick [2, 3, 4, 5, 6, 7, 1, 0] rfl ?_
      exact w
    · replace w := w.2 c48
      refine v_iload dX8_goOn_71 rfl ?_
      refine v_inegI dX8_goOn_73 ?_
      refine v_goto (tgt := 79) dX8_goOn_74 (by decide) ?_
      refine v_pick [2, 3, 4, 5, 6, 7, 1, 0] rfl ?_
      exact w
  )
  obtain ⟨q49, w⟩ := w
  refine v_icmp_eqI (tgt := 47) dX8_goOn_21 (by decide) q49.1 q49.2 (by decide) (by decide) (fun c50 => ?_) (fun c50 => ?_)
  · replace w := w.1 c50
    refine v_pick [2, 3, 4, 5, 1, 0] rfl ?_
    exact w _ hp hf
  · replace w := w.2 c50
    refine v_iload dX8_goOn_24 rfl ?_
    refine v_iconstI dX8_goOn_26 ?_
    obtain ⟨q51, w⟩ := w
    refine v_icmp_eqI (tgt := 47) dX8_goOn_27 (by decide) q51.1 q51.2 (by decide) (by decide) (fun c52 => ?_) (fun c52 => ?_)
    · replace w := w.1 c52
      refine v_pick [2, 3, 4, 5, 1, 0] rfl ?_
      exact w _ hp hf
    · replace w := w.2 c52
      refine v_aload_n dX8_goOn_30 rfl ?_
      refine v_get dX8_goOn_31 fl_X8_22 ((hp 55 (by decide)).trans (ent_55 _)) rfl (s_lt hn rfl) ?_
      refine v_iload_n dX8_goOn_34 rfl ?_
      refine v_iload_n dX8_goOn_35 rfl ?_
      refine v_iload dX8_goOn_36 rfl ?_
      refine v_callVIw dX8_goOn_38 ml_X8_79 (so_X0_hindrance hK hn hp (Fr.trans hf9 hf) w) ((hp 44 (by decide)).trans (ent_44 _)) rfl (s_lt hn rfl) rfl rfl (Nat.le_of_ble_eq_true rfl) (Nat.le_of_ble_eq_true rfl) (Nat.zero_le _) (Nat.zero_le _) (fun v53 X54 h55 hp57 hf56 w => ?_)
      have hf58 := Fr.trans hf hf56
      obtain ⟨q59, w⟩ := w
      refine v_if_eqI (tgt := 47) dX8_goOn_41 (by decide) q59.1 q59.2 (fun c60 => ?_) (fun c60 => ?_)
      · replace w := w.1 c60
        refine v_pick [2, 3, 4, 5, 1, 0] rfl ?_
        exact w _ hp57 hf58
      · replace w := w.2 c60
        refine v_iconstI dX8_goOn_44 ?_
        refine v_istore dX8_goOn_45 (Nat.le_of_ble_eq_true rfl) ?_
        refine v_pick [2, 3, 4, 5, 1, 0] rfl ?_
        exact w _ hp57 hf58
theorem dX9_drawDay_0 : decode cX9_drawDay 0 = .ok (.iconst 0, 1) := by decide +kernel
theorem dX9_drawDay_1 : decode cX9_drawDay 1 = .ok (.istore_n 1, 1) := by decide +kernel
theorem dX9_drawDay_2 : decode cX9_drawDay 2 = .ok (.iload_n 1, 1) := by decide +kernel
theorem dX9_drawDay_3 : decode cX9_drawDay 3 = .ok (.aload_n 0, 1) := by decide +kernel
theorem dX9_drawDay_4 : decode cX9_drawDay 4 = .ok (.getfield 28, 3) := by decide +kernel
theorem dX9_drawDay_7 : decode cX9_drawDay 7 = .ok (.getfield 90, 3) := by decide +kernel
theorem dX9_drawDay_10 : decode cX9_drawDay 10 = .ok (.if_icmp .ge 26, 3) := by decide +kernel
theorem dX9_drawDay_13 : decode cX9_drawDay 13 = .ok (.aload_n 0, 1) := by decide +kernel
theorem dX9_drawDay_14 : decode cX9_drawDay 14 = .ok (.getfield 41, 3) := by decide +kernel
theorem dX9_drawDay_17 : decode cX9_drawDay 17 = .ok (.iload_n 1, 1) := by decide +kernel
theorem dX9_drawDay_18 : decode cX9_drawDay 18 = .ok (.iconst 0, 1) := by decide +kernel
theorem dX9_drawDay_19 : decode cX9_drawDay 19 = .ok (.aload_n 0, 1) := by decide +kernel
theorem dX9_drawDay_20 : decode cX9_drawDay 20 = .ok (.getfield 28, 3) := by decide +kernel
theorem dX9_drawDay_23 : decode cX9_drawDay 23 = .ok (.iload_n 1, 1) := by decide +kernel
theorem dX9_drawDay_24 : decode cX9_drawDay 24 = .ok (.invokevirtual 93, 3) := by decide +kernel
theorem dX9_drawDay_27 : decode cX9_drawDay 27 = .ok (.invokevirtual 97, 3) := by decide +kernel
theorem dX9_drawDay_30 : decode cX9_drawDay 30 = .ok (.iinc 1 1, 3) := by decide +kernel
theorem dX9_drawDay_33 : decode cX9_drawDay 33 = .ok (.goto (-31), 3) := by decide +kernel
theorem dX9_drawDay_36 : decode cX9_drawDay 36 = .ok (.iconst 0, 1) := by decide +kernel
theorem dX9_drawDay_37 : decode cX9_drawDay 37 = .ok (.istore_n 1, 1) := by decide +kernel
theorem dX9_drawDay_38 : decode cX9_drawDay 38 = .ok (.iload_n 1, 1) := by decide +kernel
theorem dX9_drawDay_39 : decode cX9_drawDay 39 = .ok (.bipush 11, 2) := by decide +kernel
theorem dX9_drawDay_41 : decode cX9_drawDay 41 = .ok (.if_icmp .ge 83, 3) := by decide +kernel
theorem dX9_drawDay_44 : decode cX9_drawDay 44 = .ok (.iconst 0, 1) := by decide +kernel
theorem dX9_drawDay_45 : decode cX9_drawDay 45 = .ok (.istore_n 2, 1) := by decide +kernel
theorem dX9_drawDay_46 : decode cX9_drawDay 46 = .ok (.iload_n 2, 1) := by decide +kernel
theorem dX9_drawDay_47 : decode cX9_drawDay 47 = .ok (.aload_n 0, 1) := by decide +kernel
theorem dX9_drawDay_48 : decode cX9_drawDay 48 = .ok (.getfield 28, 3) := by decide +kernel
theorem dX9_drawDay_51 : decode cX9_drawDay 51 = .ok (.getfield 90, 3) := by decide +kernel
theorem dX9_drawDay_54 : decode cX9_drawDay 54 = .ok (.if_icmp .ge 64, 3) := by decide +kernel
theorem dX9_drawDay_57 : decode cX9_drawDay 57 = .ok (.aload_n 0, 1) := by decide +kernel
theorem dX9_drawDay_58 : decode cX9_drawDay 58 = .ok (.getfield 41, 3) := by decide +kernel
theorem dX9_drawDay_61 : decode cX9_drawDay 61 = .ok (.iload_n 2, 1) := by decide +kernel
theorem dX9_drawDay_62 : decode cX9_drawDay 62 = .ok (.iload_n 1, 1) := by decide +kernel
theorem dX9_drawDay_63 : decode cX9_drawDay 63 = .ok (.invokevirtual 101, 3) := by decide +kernel
theorem dX9_drawDay_66 : decode cX9_drawDay 66 = .ok (.sipush 576, 3) := by decide +kernel
theorem dX9_drawDay_69 : decode cX9_drawDay 69 = .ok (.if_icmp .ne 7, 3) := by decide +kernel
theorem dX9_drawDay_72 : decode cX9_drawDay 72 = .ok (.iconst 1, 1) := by decide +kernel
theorem dX9_drawDay_73 : decode cX9_drawDay 73 = .ok (.goto 4, 3) := by decide +kernel
theorem dX9_drawDay_76 : decode cX9_drawDay 76 = .ok (.iconst 0, 1) := by decide +kernel
theorem dX9_drawDay_77 : decode cX9_drawDay 77 = .ok (.istore_n 3, 1) := by decide +kernel
theorem dX9_drawDay_78 : decode cX9_drawDay 78 = .ok (.aload_n 0, 1) := by decide +kernel
theorem dX9_drawDay_79 : decode cX9_drawDay 79 = .ok (.getfield 41, 3) := by decide +kernel
theorem dX9_drawDay_82 : decode cX9_drawDay 82 = .ok (.iload_n 2, 1) := by decide +kernel
theorem dX9_drawDay_83 : decode cX9_drawDay 83 = .ok (.iload_n 1, 1) := by decide +kernel
theorem dX9_drawDay_84 : decode cX9_drawDay 84 = .ok (.iload_n 3, 1) := by decide +kernel
theorem dX9_drawDay_85 : decode cX9_drawDay 85 = .ok (.ifCond .ne 23, 3) := by decide +kernel
theorem dX9_drawDay_88 : decode cX9_drawDay 88 = .ok (.aload_n 0, 1) := by decide +kernel
theorem dX9_drawDay_89 : decode cX9_drawDay 89 = .ok (.invokevirtual 104, 3) := by decide +kernel
theorem dX9_drawDay_92 : decode cX9_drawDay 92 = .ok (.aload_n 0, 1) := by decide +kernel
theorem dX9_drawDay_93 : decode cX9_drawDay 93 = .ok (.getfield 28, 3) := by decide +kernel
theorem dX9_drawDay_96 : decode cX9_drawDay 96 = .ok (.getfield 108, 3) := by decide +kernel
theorem dX9_drawDay_99 : decode cX9_drawDay 99 = .ok (.iconst 1, 1) := by decide +kernel
theorem dX9_drawDay_100 : decode cX9_drawDay 100 = .ok (.iaload, 1) := by decide +kernel
theorem dX9_drawDay_101 : decode cX9_drawDay 101 = .ok (.if_icmp .ge 7, 3) := by decide +kernel
theorem dX9_drawDay_104 : decode cX9_drawDay 104 = .ok (.iconst 1, 1) := by decide +kernel
theorem dX9_drawDay_105 : decode cX9_drawDay 105 = .ok (.goto 4, 3) := by decide +kernel
theorem dX9_drawDay_108 : decode cX9_drawDay 108 = .ok (.iconst 0, 1) := by decide +kernel
theorem dX9_drawDay_109 : decode cX9_drawDay 109 = .ok (.invokevirtual 111, 3) := by decide +kernel
theorem dX9_drawDay_112 : decode cX9_drawDay 112 = .ok (.iinc 2 1, 3) := by decide +kernel
theorem dX9_drawDay_115 : decode cX9_drawDay 115 = .ok (.goto (-69), 3) := by decide +kernel
theorem dX9_drawDay_118 : decode cX9_drawDay 118 = .ok (.iinc 1 1, 3) := by decide +kernel
theorem dX9_drawDay_121 : decode cX9_drawDay 121 = .ok (.goto (-83), 3) := by decide +kernel
theorem dX9_drawDay_124 : decode cX9_drawDay 124 = .ok (.return_, 1) := by decide +kernel
def w_X9_drawDay (K : LK) (X : XT) (Q : XT → Prop) : Prop :=
  ∃ (I3 : Int → XT → Prop) (m4 : Int → XT → Nat), I3 0 X ∧ ∀ (x1 : Int) (X2 : XT), I3 x1 X2 → R32 x1 ∧ R32 (X2 1 9) ∧ ((X2 1 9) ≤ x1 → ∃ (I20 : Int → XT → Prop) (m21 : Int → XT → Nat), I20 0 X2 ∧ ∀ (x18 : Int) (X19 : XT), I20 x18 X19 → R32 x18 ∧ (11 ≤ x18 → Q X19) ∧ (¬ 11 ≤ x18 → ∃ (I36 : Int → XT → Prop) (m37 : Int → XT → Nat), I36 0 X19 ∧ ∀ (x34 : Int) (X35 : XT), I36 x34 X35 → R32 x34 ∧ R32 (X35 1 9) ∧ ((X35 1 9) ≤ x34 → I20 (x18 + 1) X35 ∧ m21 (x18 + 1) X35 < m21 x18 X19) ∧ (¬ (X35 1 9) ≤ x34 → w_X8_spotOf 56 57 x34 x18 X35 (fun (v51 : Int) => ∀ J58 : Int → Prop, (∀ (v57 : Int), (∀ J60 : XT → Prop, (∀  (X59 : XT), (w_X8_goOn K 56 57 x34 x18 0 X59 (fun (X65 : XT) => I36 (x34 + 1) X65 ∧ m37 (x34 + 1) X65 < m37 x34 X35)) → J60  X59) → R32 v57 ∧ (¬ v57 = 0 → J60  X35) ∧ (v57 = 0 → w_X9_drawOfTen   X35 (fun (v72 : Int) (X73 : XT) => R32 v72 ∧ R32 (X73 9 1) ∧ ((X73 9 1) ≤ v72 → J60  X73) ∧ (¬ (X73 9 1) ≤ v72 → w_X8_goOn K 56 57 x34 x18 1 X73 (fun (X82 : XT) => I36 (x34 + 1) X82 ∧ m37 (x34 + 1) X82 < m37 x34 X35))))) → J58 v57) → R32 v51 ∧ (¬ v51 = 576 → J58 0) ∧ (v51 = 576 → J58 1))))) ∧ (¬ (X2 1 9) ≤ x1 → w_X3_startOf  x1 X2 (fun (v89 : Int) => w_X8_place 56 57 x1 0 v89 X2 (fun (X96 : XT) => I3 (x1 + 1) X96 ∧ m4 (x1 + 1) X96 < m4 x1 X2)))
set_option maxRecDepth 20000 in
theorem so_X9_drawDay {n : Nat} {h : Nat → sE} {X : XT} {K : LK} {hk : Nat → sE} (hK : LKok K n hk) {Q : XT → Prop} (hn : 115 ≤ n) (hp : Pic X h) (hf9 : Fr hk h) (w : w_X9_drawDay K   X Q) : Sp m_X9_drawDay 5 0 0 [.ref 52] n h (pVw n h Q) := by
  unfold w_X9_drawDay at w
  refine Sp.ofV (by decide +kernel) (Nat.le_of_ble_eq_true rfl) ?_
  have hf : Fr h h := fun _ _ => rfl
  refine v_iconstI dX9_drawDay_0 ?_
  refine v_istore_n dX9_drawDay_1 (Nat.le_of_ble_eq_true rfl) ?_
  refine v_pick [1, 0] rfl ?_
  obtain ⟨I3, m4, wi7, wl6⟩ := w
  have hL8 : ∀ (N11 : Nat) (x1 : Int) (X2 : XT) (h12 : Nat → sE), m4 x1 X2 < N11 → I3 x1 X2 → Pic X2 h12 → Fr h h12 → V (m_X9_drawDay, 5, 0, 0, n, pVw n h Q, s_G0) 0 0 n h12 2 [(0, .ref 52), (1, .int (iI x1))] [] := by
    intro N11
    induction N11 with
    | zero => intro x1 X2 h12 hm9; exact absurd hm9 (Nat.not_lt_zero _)
    | succ N11 ih5 =>
      intro x1 X2 h12 hm9 hI10 hp13 hf14
      have w := wl6 x1 X2 hI10
      refine v_iload_n dX9_drawDay_2 rfl ?_
      refine v_aload_n dX9_drawDay_3 rfl ?_
      refine v_get dX9_drawDay_4 fl_X9_28 ((hp13 52 (by decide)).trans (ent_52 _)) rfl (s_lt hn rfl) ?_
      refine v_get dX9_drawDay_7 fl_X9_90 ((hp13 1 (by decide)).trans (ent_1 _)) rfl (s_lt hn rfl) ?_
      obtain ⟨q15, q16, w⟩ := w
      refine v_icmp_geI (tgt := 36) dX9_drawDay_10 (by decide) q15.1 q15.2 q16.1 q16.2 (fun c17 => ?_) (fun c17 => ?_)
      · replace w := w.1 c17
        refine v_iconstI dX9_drawDay_36 ?_
        refine v_istore_n dX9_drawDay_37 (Nat.le_of_ble_eq_true rfl) ?_
        refine v_pick [1, 0] rfl ?_
        obtain ⟨I20, m21, wi24, wl23⟩ := w
        have hL25 : ∀ (N28 : Nat) (x18 : Int) (X19 : XT) (h29 : Nat → sE), m21 x18 X19 < N28 → I20 x18 X19 → Pic X19 h29 → Fr h h29 → V (m_X9_drawDay, 5, 0, 0, n, pVw n h Q, s_G0) 0 0 n h29 38 [(0, .ref 52), (1, .int (iI x18))] [] := by
          intro N28
          induction N28 with
          | zero => intro x18 X19 h29 hm26; exact absurd hm26 (Nat.not_lt_zero _)
          | succ N28 ih22 =>
            intro x18 X19 h29 hm26 hI27 hp30 hf31
            have w := wl23 x18 X19 hI27
            refine v_iload_n dX9_drawDay_38 rfl ?_
            refine v_bipushI dX9_drawDay_39 rfl ?_
            obtain ⟨q32, w⟩ := w
            refine v_icmp_geI (tgt := 124) dX9_drawDay_41 (by decide) q32.1 q32.2 (by decide) (by decide) (fun c33 => ?_) (fun c33 => ?_)
            · replace w := w.1 c33
              exact v_vret dX9_drawDay_124 rfl (Nat.zero_le _) (Nat.zero_le _) ⟨rfl, hf31, _, rfl, hp30, w⟩
            · replace w := w.2 c33
              refine v_iconstI dX9_drawDay_44 ?_
              refine v_istore_n dX9_drawDay_45 (Nat.le_of_ble_eq_true rfl) ?_
              refine v_pick [1, 2, 0] rfl ?_
              obtain ⟨I36, m37, wi40, wl39⟩ := w
              have hL41 : ∀ (N44 : Nat) (x34 : Int) (X35 : XT) (h45 : Nat → sE), m37 x34 X35 < N44 → I36 x34 X35 → Pic X35 h45 → Fr h h45 → V (m_X9_drawDay, 5, 0, 0, n, pVw n h Q, s_G0) 0 0 n h45 46 [(0, .ref 52), (1, .int (iI x18)), (2, .int (iI x34))] [] := by
                intro N44
                induction N44 with
                | zero => intro x34 X35 h45 hm42; exact absurd hm42 (Nat.not_lt_zero _)
                | succ N44 ih38 =>
                  intro x34 X35 h45 hm42 hI43 hp46 hf47
                  have w := wl39 x34 X35 hI43
                  refine v_iload_n dX9_drawDay_46 rfl ?_
                  refine v_aload_n dX9_drawDay_47 rfl ?_
                  refine v_get dX9_drawDay_48 fl_X9_28 ((hp46 52 (by decide)).trans (ent_52 _)) rfl (s_lt hn rfl) ?_
                  refine v_get dX9_drawDay_51 fl_X9_90 ((hp46 1 (by decide)).trans (ent_1 _)) rfl (s_lt hn rfl) ?_
                  obtain ⟨q48, q49, w⟩ := w
                  refine v_icmp_geI (tgt := 118) dX9_drawDay_54 (by decide) q48.1 q48.2 q49.1 q49.2 (fun c50 => ?_) (fun c50 => ?_)
                  · replace w := w.1 c50
                    refine v_iincI dX9_drawDay_118 rfl (Nat.le_of_ble_eq_true rfl) ?_
                    refine v_goto (tgt := 38) dX9_drawDay_121 (by decide) ?_
                    refine v_pick [1, 0] rfl ?_
                    exact ih22 _ _ _ (Nat.lt_of_lt_of_le w.2 (Nat.le_of_lt_succ hm26)) w.1 hp46 hf47
                  · replace w := w.2 c50
                    refine v_aload_n dX9_drawDay_57 rfl ?_
                    refine v_get dX9_drawDay_58 fl_X9_41 ((hp46 52 (by decide)).trans (ent_52 _)) rfl (s_lt hn rfl) ?_
                    refine v_iload_n dX9_drawDay_61 rfl ?_
                    refine v_iload_n dX9_drawDay_62 rfl ?_
                    refine v_callVIr dX9_drawDay_63 ml_X9_101 (so_X8_spotOf_55 hn hp46  w) ((hp46 55 (by decide)).trans (ent_55 _)) rfl (s_lt hn rfl) rfl rfl (Nat.le_of_ble_eq_true rfl) (Nat.le_of_ble_eq_true rfl) (Nat.zero_le _) (Nat.zero_le _) (fun v51 w => ?_)
                    refine v_sipushI dX9_drawDay_66 rfl ?_
                    replace w := w (fun (v57 : Int) => V (m_X9_drawDay, 5, 0, 0, n, pVw n h Q, s_G0) 0 0 n h45 77 [(0, .ref 52), (1, .int (iI x18)), (2, .int (iI x34))] [.int (iI v57)]) (by
                      intro v57 w
                      refine v_istore_n dX9_drawDay_77 (Nat.le_of_ble_eq_true rfl) ?_
                      refine v_aload_n dX9_drawDay_78 rfl ?_
                      refine v_get dX9_drawDay_79 fl_X9_41 ((hp46 52 (by decide)).trans (ent_52 _)) rfl (s_lt hn rfl) ?_
                      refine v_iload_n dX9_drawDay_82 rfl ?_
                      refine v_iload_n dX9_drawDay_83 rfl ?_
                      refine v_iload_n dX9_drawDay_84 rfl ?_
                      replace w := w (fun  (X59 : XT) => ∀ h63 : Nat → sE, Pic X59 h63 → Fr h h63 → V (m_X9_drawDay, 5, 0, 0, n, pVw n h Q, s_G0) 0 0 n h63 108 [(0, .ref 52), (1, .int (iI x18)), (2, .int (iI x34))] [.int (iI x18), .int (iI x34), .ref 55]) (by
                        intro  X59 w h63 hp61 hf62
                        refine v_iconstI dX9_drawDay_108 ?_
                        refine v_callVVw dX9_drawDay_109 ml_X9_111 (so_X8_goOn_55 hK hn hp61 (Fr.trans hf9 hf62) w) ((hp61 55 (by decide)).trans (ent_55 _)) rfl (s_lt hn rfl) rfl rfl (Nat.le_of_ble_eq_true rfl) (Nat.le_of_ble_eq_true rfl) (Nat.zero_le _) (Nat.zero_le _) (fun X65 h66 hp68 hf67 w => ?_)
                        have hf69 := Fr.trans hf62 hf67
                        refine v_iincI dX9_drawDay_112 rfl (Nat.le_of_ble_eq_true rfl) ?_
                        refine v_goto (tgt := 46) dX9_drawDay_115 (by decide) ?_
                        refine v_pick [1, 2, 0] rfl ?_
                        exact ih38 _ _ _ (Nat.lt_of_lt_of_le w.2 (Nat.le_of_lt_succ hm42)) w.1 hp68 hf69
                      )
                      obtain ⟨q70, w⟩ := w
                      refine v_if_neI (tgt := 108) dX9_drawDay_85 (by decide) q70.1 q70.2 (fun c71 => ?_) (fun c71 => ?_)
                      · replace w := w.1 c71
                        refine v_pick [1, 2, 3] rfl ?_
                        exact w _ hp46 hf47
                      · replace w := w.2 c71
                        refine v_aload_n dX9_drawDay_88 rfl ?_
                        refine v_callVIw dX9_drawDay_89 ml_X9_104 (so_X9_drawOfTen hn hp46  w) ((hp46 52 (by decide)).trans (ent_52 _)) rfl (s_lt hn rfl) rfl rfl (Nat.le_of_ble_eq_true rfl) (Nat.le_of_ble_eq_true rfl) (Nat.zero_le _) (Nat.zero_le _) (fun v72 X73 h74 hp76 hf75 w => ?_)
                        have hf77 := Fr.trans hf47 hf75
                        refine v_aload_n dX9_drawDay_92 rfl ?_
                        refine v_get dX9_drawDay_93 fl_X9_28 ((hp76 52 (by decide)).trans (ent_52 _)) rfl (s_lt hn rfl) ?_
                        refine v_get dX9_drawDay_96 fl_X9_108 ((hp76 1 (by decide)).trans (ent_1 _)) rfl (s_lt hn rfl) ?_
                        refine v_iconstI dX9_drawDay_99 ?_
                        refine v_ialdI dX9_drawDay_100 ((hp76 9 (by decide)).trans (ent_9 _)) (s_lt hn rfl) (by decide) (by decide) (by decide) ?_
                        obtain ⟨q78, q79, w⟩ := w
                        refine v_icmp_geI (tgt := 108) dX9_drawDay_101 (by decide) q78.1 q78.2 q79.1 q79.2 (fun c80 => ?_) (fun c80 => ?_)
                        · replace w := w.1 c80
                          refine v_pick [1, 2, 3] rfl ?_
                          exact w _ hp76 hf77
                        · replace w := w.2 c80
                          refine v_iconstI dX9_drawDay_104 ?_
                          refine v_goto (tgt := 109) dX9_drawDay_105 (by decide) ?_
                          refine v_callVVw dX9_drawDay_109 ml_X9_111 (so_X8_goOn_55 hK hn hp76 (Fr.trans hf9 hf77) w) ((hp76 55 (by decide)).trans (ent_55 _)) rfl (s_lt hn rfl) rfl rfl (Nat.le_of_ble_eq_true rfl) (Nat.le_of_ble_eq_true rfl) (Nat.zero_le _) (Nat.zero_le _) (fun X82 h83 hp85 hf84 w => ?_)
                          have hf86 := Fr.trans hf77 hf84
                          refine v_iincI dX9_drawDay_112 rfl (Nat.le_of_ble_eq_true rfl) ?_
                          refine v_goto (tgt := 46) dX9_drawDay_115 (by decide) ?_
                          refine v_pick [2, 3, 0] rfl ?_
                          exact ih38 _ _ _ (Nat.lt_of_lt_of_le w.2 (Nat.le_of_lt_succ hm42)) w.1 hp85 hf86
                    )
                    obtain ⟨q87, w⟩ := w
                    refine v_icmp_neI (tgt := 76) dX9_drawDay_69 (by decide) q87.1 q87.2 (by decide) (by decide) (fun c88 => ?_) (fun c88 => ?_)
                    · replace w := w.1 c88
                      refine v_iconstI dX9_drawDay_76 ?_
                      exact w
                    · replace w := w.2 c88
                      refine v_iconstI dX9_drawDay_72 ?_
                      refine v_goto (tgt := 77) dX9_drawDay_73 (by decide) ?_
                      exact w
              exact hL41 _ _ _ _ (Nat.lt_succ_self _) wi40 hp30 hf31
        exact hL25 _ _ _ _ (Nat.lt_succ_self _) wi24 hp13 hf14
      · replace w := w.2 c17
        refine v_aload_n dX9_drawDay_13 rfl ?_
        refine v_get dX9_drawDay_14 fl_X9_41 ((hp13 52 (by decide)).trans (ent_52 _)) rfl (s_lt hn rfl) ?_
        refine v_iload_n dX9_drawDay_17 rfl ?_
        refine v_iconstI dX9_drawDay_18 ?_
        refine v_aload_n dX9_drawDay_19 rfl ?_
        refine v_get dX9_drawDay_20 fl_X9_28 ((hp13 52 (by decide)).trans (ent_52 _)) rfl (s_lt hn rfl) ?_
        refine v_iload_n dX9_drawDay_23 rfl ?_
        refine v_callVIr dX9_drawDay_24 ml_X9_93 (so_X3_startOf hn hp13  w) ((hp13 1 (by decide)).trans (ent_1 _)) rfl (s_lt hn rfl) rfl rfl (Nat.le_of_ble_eq_true rfl) (Nat.le_of_ble_eq_true rfl) (Nat.zero_le _) (Nat.zero_le _) (fun v89 w => ?_)
        refine v_callVVw dX9_drawDay_27 ml_X9_97 (so_X8_place_55 hn hp13  w) ((hp13 55 (by decide)).trans (ent_55 _)) rfl (s_lt hn rfl) rfl rfl (Nat.le_of_ble_eq_true rfl) (Nat.le_of_ble_eq_true rfl) (Nat.zero_le _) (Nat.zero_le _) (fun X96 h97 hp99 hf98 w => ?_)
        have hf100 := Fr.trans hf14 hf98
        refine v_iincI dX9_drawDay_30 rfl (Nat.le_of_ble_eq_true rfl) ?_
        refine v_goto (tgt := 2) dX9_drawDay_33 (by decide) ?_
        refine v_pick [1, 0] rfl ?_
        exact ih5 _ _ _ (Nat.lt_of_lt_of_le w.2 (Nat.le_of_lt_succ hm9)) w.1 hp99 hf100
  exact hL8 _ _ _ _ (Nat.lt_succ_self _) wi7 hp hf
set_option maxRecDepth 20000 in
theorem so_X8_shadeOf_55 {n : Nat} {h : Nat → sE} {X : XT} {a0 a1 : Int} {Q : Int → Prop} (hn : 115 ≤ n) (hp : Pic X h) (w : w_X8_shadeOf 56 57 a0 a1 X Q) : Sp m_X8_shadeOf 4 0 0 [.ref 55, .int (iI a0), .int (iI a1)] n h (pIr n h Q) := by
  unfold w_X8_shadeOf at w
  refine Sp.ofV (by decide +kernel) (Nat.le_of_ble_eq_true rfl) ?_
  have hf : Fr h h := fun _ _ => rfl
  refine v_iconstI dX8_shadeOf_0 ?_
  refine v_istore_n dX8_shadeOf_1 (Nat.le_of_ble_eq_true rfl) ?_
  refine v_iconstI dX8_shadeOf_2 ?_
  refine v_istore dX8_shadeOf_3 (Nat.le_of_ble_eq_true rfl) ?_
  refine v_pick [2, 3, 4, 1, 0] rfl ?_
  obtain ⟨I3, m4, wi7, wl6⟩ := w
  have hL8 : ∀ (N11 : Nat) (x1 : Int) (x2 : Int), m4 x1 x2 < N11 → I3 x1 x2 → V (m_X8_shadeOf, 4, 0, 0, n, pIr n h Q, s_G0) 0 0 n h 5 [(0, .ref 55), (1, .int (iI a0)), (2, .int (iI a1)), (3, .int (iI x1)), (4, .int (iI x2))] [] := by
    intro N11
    induction N11 with
    | zero => intro x1 x2  hm9; exact absurd hm9 (Nat.not_lt_zero _)
    | succ N11 ih5 =>
      intro x1 x2  hm9 hI10
      have w := wl6 x1 x2 hI10
      refine v_iload dX8_shadeOf_5 rfl ?_
      refine v_aload_n dX8_shadeOf_7 rfl ?_
      refine v_get dX8_shadeOf_8 fl_X8_18 ((hp 55 (by decide)).trans (ent_55 _)) rfl (s_lt hn rfl) ?_
      refine v_get dX8_shadeOf_11 fl_X8_46 ((hp 1 (by decide)).trans (ent_1 _)) rfl (s_lt hn rfl) ?_
      obtain ⟨q12, q13, w⟩ := w
      refine v_icmp_geI (tgt := 46) dX8_shadeOf_14 (by decide) q12.1 q12.2 q13.1 q13.2 (fun c14 => ?_) (fun c14 => ?_)
      · replace w := w.1 c14
        refine v_iload_n dX8_shadeOf_46 rfl ?_
        exact v_iret dX8_shadeOf_47 rfl (Nat.zero_le _) (Nat.zero_le _) ⟨rfl, rfl, _, rfl, w⟩
      · replace w := w.2 c14
        refine v_aload_n dX8_shadeOf_17 rfl ?_
        refine v_get dX8_shadeOf_18 fl_X8_18 ((hp 55 (by decide)).trans (ent_55 _)) rfl (s_lt hn rfl) ?_
        refine v_iload dX8_shadeOf_21 rfl ?_
        refine v_aload_n dX8_shadeOf_23 rfl ?_
        refine v_iload dX8_shadeOf_24 rfl ?_
        refine v_iload_n dX8_shadeOf_26 rfl ?_
        refine v_callVIr dX8_shadeOf_27 ml_X8_73 (so_X8_spotOf_55 hn hp  w) ((hp 55 (by decide)).trans (ent_55 _)) rfl (s_lt hn rfl) rfl rfl (Nat.le_of_ble_eq_true rfl) (Nat.le_of_ble_eq_true rfl) (Nat.zero_le _) (Nat.zero_le _) (fun v15 w => ?_)
        refine v_iload_n dX8_shadeOf_30 rfl ?_
        refine v_callVIr dX8_shadeOf_31 ml_X8_104 (so_X3_shadowCovers hn hp  w) ((hp 1 (by decide)).trans (ent_1 _)) rfl (s_lt hn rfl) rfl rfl (Nat.le_of_ble_eq_true rfl) (Nat.le_of_ble_eq_true rfl) (Nat.zero_le _) (Nat.zero_le _) (fun v21 w => ?_)
        obtain ⟨q27, w⟩ := w
        refine v_if_eqI (tgt := 40) dX8_shadeOf_34 (by decide) q27.1 q27.2 (fun c28 => ?_) (fun c28 => ?_)
        · replace w := w.1 c28
          refine v_iincI dX8_shadeOf_40 rfl (Nat.le_of_ble_eq_true rfl) ?_
          refine v_goto (tgt := 5) dX8_shadeOf_43 (by decide) ?_
          refine v_pick [1, 2, 3, 4, 0] rfl ?_
          exact ih5 _ _ (Nat.lt_of_lt_of_le w.2 (Nat.le_of_lt_succ hm9)) w.1
        · replace w := w.2 c28
          refine v_iincI dX8_shadeOf_37 rfl (Nat.le_of_ble_eq_true rfl) ?_
          refine v_iincI dX8_shadeOf_40 rfl (Nat.le_of_ble_eq_true rfl) ?_
          refine v_goto (tgt := 5) dX8_shadeOf_43 (by decide) ?_
          refine v_pick [2, 3, 4, 1, 0] rfl ?_
          exact ih5 _ _ (Nat.lt_of_lt_of_le w.2 (Nat.le_of_lt_succ hm9)) w.1
  exact hL8 _ _ _ (Nat.lt_succ_self _) wi7
set_option maxRecDepth 20000 in
theorem so_X9_changeOf_55 {n : Nat} {h : Nat → sE} {X : XT} {K : LK} {hk : Nat → sE} (hK : LKok K n hk) {a1 a2 : Int} {Q : Int → XT → Prop} (hn : 115 ≤ n) (hp : Pic X h) (hf9 : Fr hk h) (w : w_X9_changeOf K 56 57 a1 a2 X Q) : Sp m_X9_changeOf 5 0 0 [.ref 52, .ref 55, .int (iI a1), .int (iI a2)] n h (pIw n h Q) := by
  unfold w_X9_changeOf at w
  refine Sp.ofV (by decide +kernel) (Nat.le_of_ble_eq_true rfl) ?_
  have hf : Fr h h := fun _ _ => rfl
  refine v_aload_n dX9_changeOf_0 rfl ?_
  refine v_iload_n dX9_changeOf_1 rfl ?_
  refine v_iload_n dX9_changeOf_2 rfl ?_
  refine v_callVIr dX9_changeOf_3 ml_X9_61 (so_X8_shadeOf_55 hn hp  w) ((hp 55 (by decide)).trans (ent_55 _)) rfl (s_lt hn rfl) rfl rfl (Nat.le_of_ble_eq_true rfl) (Nat.le_of_ble_eq_true rfl) (Nat.zero_le _) (Nat.zero_le _) (fun v1 w => ?_)
  refine v_istore dX9_changeOf_6 (Nat.le_of_ble_eq_true rfl) ?_
  refine v_iload_n dX9_changeOf_8 rfl ?_
  refine v_bipushI dX9_changeOf_9 rfl ?_
  refine v_imulI dX9_changeOf_11 ?_
  refine v_iload_n dX9_changeOf_12 rfl ?_
  refine v_iaddI dX9_changeOf_13 ?_
  refine v_bipushI dX9_changeOf_14 rfl ?_
  refine v_imulI dX9_changeOf_16 ?_
  refine v_iload dX9_changeOf_17 rfl ?_
  refine v_iaddI dX9_changeOf_19 ?_
  refine v_istore dX9_changeOf_20 (Nat.le_of_ble_eq_true rfl) ?_
  refine v_iload dX9_changeOf_22 rfl ?_
  obtain ⟨q7, w⟩ := w
  refine v_if_ltI (tgt := 37) dX9_changeOf_24 (by decide) q7.1 q7.2 (fun c8 => ?_) (fun c8 => ?_)
  · replace w := w.1 c8
    refine v_iconstI dX9_changeOf_37 ?_
    exact v_iret dX9_changeOf_38 rfl (Nat.zero_le _) (Nat.zero_le _) ⟨rfl, hf, _, _, rfl, hp, w⟩
  · replace w := w.2 c8
    refine v_iload dX9_changeOf_27 rfl ?_
    refine v_aload_n dX9_changeOf_29 rfl ?_
    refine v_get dX9_changeOf_30 fl_X9_13 ((hp 52 (by decide)).trans (ent_52 _)) rfl (s_lt hn rfl) ?_
    refine v_alen_aI dX9_changeOf_33 ((hp 53 (by decide)).trans (ent_53 _)) (s_lt hn rfl) ?_
    refine v_icmp_ltI (tgt := 39) dX9_changeOf_34 (by decide) q7.1 q7.2 (by decide) (by decide) (fun c9 => ?_) (fun c9 => ?_)
    · replace w := w.1 c9
      refine v_aload_n dX9_changeOf_39 rfl ?_
      refine v_get dX9_changeOf_40 fl_X9_13 ((hp 52 (by decide)).trans (ent_52 _)) rfl (s_lt hn rfl) ?_
      refine v_iload dX9_changeOf_43 rfl ?_
      obtain ⟨q10, w⟩ := w
      refine v_ialdI dX9_changeOf_45 ((hp 53 (by decide)).trans (ent_53 _)) (s_lt hn rfl) q10.1 q10.2 (ix_le q10.2 (by decide)) ?_
      refine v_ldcI (-2147483648) dX9_changeOf_46 k_X9_45 rfl ?_
      obtain ⟨q11, w⟩ := w
      refine v_icmp_neI (tgt := 93) dX9_changeOf_48 (by decide) q11.1 q11.2 (by decide) (by decide) (fun c12 => ?_) (fun c12 => ?_)
      · replace w := w.1 c12
        refine v_aload_n dX9_changeOf_93 rfl ?_
        refine v_get dX9_changeOf_94 fl_X9_13 ((hp 52 (by decide)).trans (ent_52 _)) rfl (s_lt hn rfl) ?_
        refine v_iload dX9_changeOf_97 rfl ?_
        refine v_ialdI dX9_changeOf_99 ((hp 53 (by decide)).trans (ent_53 _)) (s_lt hn rfl) q10.1 q10.2 (ix_le q10.2 (by decide)) ?_
        exact v_iret dX9_changeOf_100 rfl (Nat.zero_le _) (Nat.zero_le _) ⟨rfl, hf, _, _, rfl, hp, w⟩
      · replace w := w.2 c12
        refine v_iload dX9_changeOf_51 rfl ?_
        replace w := w (fun (v13 : Int) (X14 : XT) => ∀ h18 : Nat → sE, Pic X14 h18 → Fr h h18 → V (m_X9_changeOf, 5, 0, 0, n, pIw n h Q, s_G0) 0 0 n h18 82 [(0, .ref 52), (5, .int (iI ((((a2 * 64) + a1) * 6) + v1)))] [.int (iI v13)]) (by
          intro v13 X14 w h18 hp16 hf17
          refine v_istore dX9_changeOf_82 (Nat.le_of_ble_eq_true rfl) ?_
          refine v_aload_n dX9_changeOf_84 rfl ?_
          refine v_get dX9_changeOf_85 fl_X9_13 ((hp16 52 (by decide)).trans (ent_52 _)) rfl (s_lt hn rfl) ?_
          refine v_iload dX9_changeOf_88 rfl ?_
          refine v_iload dX9_changeOf_90 rfl ?_
          refine v_iastI dX9_changeOf_92 ((hp16 53 (by decide)).trans (ent_53 _)) (s_lt hn rfl) q10.1 q10.2 (ix_le q10.2 (by decide)) (fun h19 E20 F21 => ?_)
          have hp22 := pic_st hp16 (show h19 53 = ent 53 (uI _ ((((a2 * 64) + a1) * 6) + v1) v13) from E20) F21
          have hf23 := Fr.up (c := 53) hf17 F21 rfl
          refine v_aload_n dX9_changeOf_93 rfl ?_
          refine v_get dX9_changeOf_94 fl_X9_13 ((hp22 52 (by decide)).trans (ent_52 _)) rfl (s_lt hn rfl) ?_
          refine v_iload dX9_changeOf_97 rfl ?_
          refine v_ialdI dX9_changeOf_99 ((hp22 53 (by decide)).trans (ent_53 _)) (s_lt hn rfl) q10.1 q10.2 (ix_le q10.2 (by decide)) ?_
          exact v_iret dX9_changeOf_100 rfl (Nat.zero_le _) (Nat.zero_le _) ⟨rfl, hf23, _, _, rfl, hp22, w⟩
        )
        obtain ⟨q24, w⟩ := w
        refine v_if_neI (tgt := 70) dX9_changeOf_53 (by decide) q24.1 q24.2 (fun c25 => ?_) (fun c25 => ?_)
        · replace w := w.1 c25
          refine v_aload_n dX9_changeOf_70 rfl ?_
          refine v_get dX9_changeOf_71 fl_X9_32 ((hp 52 (by decide)).trans (ent_52 _)) rfl (s_lt hn rfl) ?_
          refine v_iload_n dX9_changeOf_74 rfl ?_
          refine v_iload_n dX9_changeOf_75 rfl ?_
          refine v_iload dX9_changeOf_76 rfl ?_
          refine v_callVIw dX9_changeOf_78 ml_X9_70 (so_X0_coolsBy hK hn hp (Fr.trans hf9 hf) w) ((hp 44 (by decide)).trans (ent_44 _)) rfl (s_lt hn rfl) rfl rfl (Nat.le_of_ble_eq_true rfl) (Nat.le_of_ble_eq_true rfl) (Nat.zero_le _) (Nat.zero_le _) (fun v26 X27 h28 hp30 hf29 w => ?_)
          have hf31 := Fr.trans hf hf29
          refine v_inegI dX9_changeOf_81 ?_
          refine v_pick [2, 0] rfl ?_
          exact w _ hp30 hf31
        · replace w := w.2 c25
          refine v_aload_n dX9_changeOf_56 rfl ?_
          refine v_get dX9_changeOf_57 fl_X9_32 ((hp 52 (by decide)).trans (ent_52 _)) rfl (s_lt hn rfl) ?_
          refine v_iload_n dX9_changeOf_60 rfl ?_
          refine v_iload_n dX9_changeOf_61 rfl ?_
          refine v_iload dX9_changeOf_62 rfl ?_
          refine v_callVIw dX9_changeOf_64 ml_X9_64 (so_X0_heatsBy hK hn hp (Fr.trans hf9 hf) w) ((hp 44 (by decide)).trans (ent_44 _)) rfl (s_lt hn rfl) rfl rfl (Nat.le_of_ble_eq_true rfl) (Nat.le_of_ble_eq_true rfl) (Nat.zero_le _) (Nat.zero_le _) (fun v32 X33 h34 hp36 hf35 w => ?_)
          have hf37 := Fr.trans hf hf35
          refine v_goto (tgt := 82) dX9_changeOf_67 (by decide) ?_
          refine v_pick [2, 0] rfl ?_
          exact w _ hp36 hf37
    · replace w := w.2 c9
      refine v_iconstI dX9_changeOf_37 ?_
      exact v_iret dX9_changeOf_38 rfl (Nat.zero_le _) (Nat.zero_le _) ⟨rfl, hf, _, _, rfl, hp, w⟩
set_option maxRecDepth 20000 in
theorem so_X9_isScorched_55 {n : Nat} {h : Nat → sE} {X : XT} {K : LK} {hk : Nat → sE} (hK : LKok K n hk) {a1 : Int} {Q : Int → XT → Prop} (hn : 115 ≤ n) (hp : Pic X h) (hf9 : Fr hk h) (w : w_X9_isScorched K 56 57 a1 X Q) : Sp m_X9_isScorched 6 0 0 [.ref 52, .ref 55, .int (iI a1)] n h (pIw n h Q) := by
  unfold w_X9_isScorched at w
  refine Sp.ofV (by decide +kernel) (Nat.le_of_ble_eq_true rfl) ?_
  have hf : Fr h h := fun _ _ => rfl
  refine v_aload_n dX9_isScorched_0 rfl ?_
  refine v_get dX9_isScorched_1 fl_X9_28 ((hp 52 (by decide)).trans (ent_52 _)) rfl (s_lt hn rfl) ?_
  refine v_iload_n dX9_isScorched_4 rfl ?_
  refine v_iconstI dX9_isScorched_5 ?_
  obtain ⟨q1, w⟩ := w
  refine v_callVp dX9_isScorched_6 ml_X9_46 (sv_X3_fieldFact (a := a1) (b := 1) (g1 := X 1) (g2 := X 2) hn (hp 1 (by decide)) (hp 2 (by decide)) q1 (by decide)) ((hp 1 (by decide)).trans (ent_1 _)) rfl (s_lt hn rfl) rfl rfl (Nat.le_of_ble_eq_true rfl) (Nat.le_of_ble_eq_true rfl) (Nat.zero_le _) (Nat.zero_le _) ?_
  refine v_istore_n dX9_isScorched_9 (Nat.le_of_ble_eq_true rfl) ?_
  refine v_aload_n dX9_isScorched_10 rfl ?_
  refine v_get dX9_isScorched_11 fl_X9_28 ((hp 52 (by decide)).trans (ent_52 _)) rfl (s_lt hn rfl) ?_
  refine v_iload_n dX9_isScorched_14 rfl ?_
  refine v_iconstI dX9_isScorched_15 ?_
  refine v_callVp dX9_isScorched_16 ml_X9_46 (sv_X3_fieldFact (a := a1) (b := 0) (g1 := X 1) (g2 := X 2) hn (hp 1 (by decide)) (hp 2 (by decide)) q1 (by decide)) ((hp 1 (by decide)).trans (ent_1 _)) rfl (s_lt hn rfl) rfl rfl (Nat.le_of_ble_eq_true rfl) (Nat.le_of_ble_eq_true rfl) (Nat.zero_le _) (Nat.zero_le _) ?_
  refine v_istore dX9_isScorched_19 (Nat.le_of_ble_eq_true rfl) ?_
  refine v_iconstI dX9_isScorched_21 ?_
  refine v_istore dX9_isScorched_22 (Nat.le_of_ble_eq_true rfl) ?_
  refine v_pick [3, 4, 5, 2, 1, 0] rfl ?_
  obtain ⟨I5, m6, wi9, wl8⟩ := w
  have hL10 : ∀ (N13 : Nat) (x2 : Int) (x3 : Int) (X4 : XT) (h14 : Nat → sE), m6 x2 x3 X4 < N13 → I5 x2 x3 X4 → Pic X4 h14 → Fr h h14 → V (m_X9_isScorched, 6, 0, 0, n, pIw n h Q, s_G0) 0 0 n h14 24 [(0, .ref 52), (1, .ref 55), (2, .int (iI a1)), (3, .int (iI (X 2 (1 * 64 + a1)))), (4, .int (iI x2)), (5, .int (iI x3))] [] := by
    intro N13
    induction N13 with
    | zero => intro x2 x3 X4 h14 hm11; exact absurd hm11 (Nat.not_lt_zero _)
    | succ N13 ih7 =>
      intro x2 x3 X4 h14 hm11 hI12 hp15 hf16
      have w := wl8 x2 x3 X4 hI12
      refine v_iload dX9_isScorched_24 rfl ?_
      refine v_bipushI dX9_isScorched_26 rfl ?_
      replace w := w (V (m_X9_isScorched, 6, 0, 0, n, pIw n h Q, s_G0) 0 0 n h14 60 [(3, .int (iI (X 2 (1 * 64 + a1)))), (4, .int (iI x2))] []) (by
        intro  w
        refine v_iload dX9_isScorched_60 rfl ?_
        refine v_iload_n dX9_isScorched_62 rfl ?_
        obtain ⟨q18, q19, w⟩ := w
        refine v_icmp_leI (tgt := 70) dX9_isScorched_63 (by decide) q18.1 q18.2 q19.1 q19.2 (fun c20 => ?_) (fun c20 => ?_)
        · replace w := w.1 c20
          refine v_iconstI dX9_isScorched_70 ?_
          exact v_z0 dX9_isScorched_71 rfl (Nat.zero_le _) (Nat.zero_le _) ⟨rfl, hf16, _, _, rfl, hp15, w⟩
        · replace w := w.2 c20
          refine v_iconstI dX9_isScorched_66 ?_
          refine v_goto (tgt := 71) dX9_isScorched_67 (by decide) ?_
          exact v_z1 dX9_isScorched_71 rfl (Nat.zero_le _) (Nat.zero_le _) ⟨rfl, hf16, _, _, rfl, hp15, w⟩
      )
      obtain ⟨q21, w⟩ := w
      refine v_icmp_geI (tgt := 60) dX9_isScorched_28 (by decide) q21.1 q21.2 (by decide) (by decide) (fun c22 => ?_) (fun c22 => ?_)
      · replace w := w.1 c22
        refine v_pick [3, 4] rfl ?_
        exact w
      · replace w := w.2 c22
        refine v_iload dX9_isScorched_31 rfl ?_
        refine v_iload_n dX9_isScorched_33 rfl ?_
        obtain ⟨q23, q24, w⟩ := w
        refine v_icmp_gtI (tgt := 60) dX9_isScorched_34 (by decide) q23.1 q23.2 q24.1 q24.2 (fun c25 => ?_) (fun c25 => ?_)
        · replace w := w.1 c25
          refine v_pick [3, 4] rfl ?_
          exact w
        · replace w := w.2 c25
          refine v_iconstI dX9_isScorched_37 ?_
          refine v_iload dX9_isScorched_38 rfl ?_
          refine v_aload_n dX9_isScorched_40 rfl ?_
          refine v_aload_n dX9_isScorched_41 rfl ?_
          refine v_iload_n dX9_isScorched_42 rfl ?_
          refine v_iload dX9_isScorched_43 rfl ?_
          refine v_callVIw dX9_isScorched_45 ml_X9_52 (so_X9_changeOf_55 hK hn hp15 (Fr.trans hf9 hf16) w) ((hp15 52 (by decide)).trans (ent_52 _)) rfl (s_lt hn rfl) rfl rfl (Nat.le_of_ble_eq_true rfl) (Nat.le_of_ble_eq_true rfl) (Nat.zero_le _) (Nat.zero_le _) (fun v26 X27 h28 hp30 hf29 w => ?_)
          have hf31 := Fr.trans hf16 hf29
          refine v_iaddI dX9_isScorched_48 ?_
          obtain ⟨q32, w⟩ := w
          refine v_maxI dX9_isScorched_49 ml_X9_56 (Nat.le_of_ble_eq_true rfl) (Nat.le_of_ble_eq_true rfl) (Nat.zero_le _) (Nat.zero_le _) (by decide) (by decide) q32.1 q32.2 ?_
          refine v_istore dX9_isScorched_52 (Nat.le_of_ble_eq_true rfl) ?_
          refine v_iincI dX9_isScorched_54 rfl (Nat.le_of_ble_eq_true rfl) ?_
          refine v_goto (tgt := 24) dX9_isScorched_57 (by decide) ?_
          refine v_pick [2, 3, 4, 5, 1, 0] rfl ?_
          exact ih7 _ _ _ _ (Nat.lt_of_lt_of_le w.2 (Nat.le_of_lt_succ hm11)) w.1 hp30 hf31
  exact hL10 _ _ _ _ _ (Nat.lt_succ_self _) wi9 hp hf
theorem dX9_lastSummer_0 : decode cX9_lastSummer 0 = .ok (.aload_n 0, 1) := by decide +kernel
theorem dX9_lastSummer_1 : decode cX9_lastSummer 1 = .ok (.invokevirtual 77, 3) := by decide +kernel
theorem dX9_lastSummer_4 : decode cX9_lastSummer 4 = .ok (.aload_n 0, 1) := by decide +kernel
theorem dX9_lastSummer_5 : decode cX9_lastSummer 5 = .ok (.iconst 1, 1) := by decide +kernel
theorem dX9_lastSummer_6 : decode cX9_lastSummer 6 = .ok (.putfield 20, 3) := by decide +kernel
theorem dX9_lastSummer_9 : decode cX9_lastSummer 9 = .ok (.aload_n 0, 1) := by decide +kernel
theorem dX9_lastSummer_10 : decode cX9_lastSummer 10 = .ok (.iload_n 1, 1) := by decide +kernel
theorem dX9_lastSummer_11 : decode cX9_lastSummer 11 = .ok (.putfield 24, 3) := by decide +kernel
theorem dX9_lastSummer_14 : decode cX9_lastSummer 14 = .ok (.iconst 0, 1) := by decide +kernel
theorem dX9_lastSummer_15 : decode cX9_lastSummer 15 = .ok (.istore_n 3, 1) := by decide +kernel
theorem dX9_lastSummer_16 : decode cX9_lastSummer 16 = .ok (.iload_n 3, 1) := by decide +kernel
theorem dX9_lastSummer_17 : decode cX9_lastSummer 17 = .ok (.bipush 64, 2) := by decide +kernel
theorem dX9_lastSummer_19 : decode cX9_lastSummer 19 = .ok (.if_icmp .ge 16, 3) := by decide +kernel
theorem dX9_lastSummer_22 : decode cX9_lastSummer 22 = .ok (.aload_n 0, 1) := by decide +kernel
theorem dX9_lastSummer_23 : decode cX9_lastSummer 23 = .ok (.getfield 17, 3) := by decide +kernel
theorem dX9_lastSummer_26 : decode cX9_lastSummer 26 = .ok (.iload_n 3, 1) := by decide +kernel
theorem dX9_lastSummer_27 : decode cX9_lastSummer 27 = .ok (.iconst 0, 1) := by decide +kernel
theorem dX9_lastSummer_28 : decode cX9_lastSummer 28 = .ok (.iastore, 1) := by decide +kernel
theorem dX9_lastSummer_29 : decode cX9_lastSummer 29 = .ok (.iinc 3 1, 3) := by decide +kernel
theorem dX9_lastSummer_32 : decode cX9_lastSummer 32 = .ok (.goto (-16), 3) := by decide +kernel
theorem dX9_lastSummer_35 : decode cX9_lastSummer 35 = .ok (.iconst 0, 1) := by decide +kernel
theorem dX9_lastSummer_36 : decode cX9_lastSummer 36 = .ok (.istore_n 3, 1) := by decide +kernel
theorem dX9_lastSummer_37 : decode cX9_lastSummer 37 = .ok (.aload_n 0, 1) := by decide +kernel
theorem dX9_lastSummer_38 : decode cX9_lastSummer 38 = .ok (.getfield 41, 3) := by decide +kernel
theorem dX9_lastSummer_41 : decode cX9_lastSummer 41 = .ok (.invokevirtual 80, 3) := by decide +kernel
theorem dX9_lastSummer_44 : decode cX9_lastSummer 44 = .ok (.iconst 0, 1) := by decide +kernel
theorem dX9_lastSummer_45 : decode cX9_lastSummer 45 = .ok (.istore 4, 2) := by decide +kernel
theorem dX9_lastSummer_47 : decode cX9_lastSummer 47 = .ok (.iload 4, 2) := by decide +kernel
theorem dX9_lastSummer_49 : decode cX9_lastSummer 49 = .ok (.iload_n 2, 1) := by decide +kernel
theorem dX9_lastSummer_50 : decode cX9_lastSummer 50 = .ok (.if_icmp .ge 56, 3) := by decide +kernel
theorem dX9_lastSummer_53 : decode cX9_lastSummer 53 = .ok (.aload_n 0, 1) := by decide +kernel
theorem dX9_lastSummer_54 : decode cX9_lastSummer 54 = .ok (.invokevirtual 83, 3) := by decide +kernel
theorem dX9_lastSummer_57 : decode cX9_lastSummer 57 = .ok (.iconst 0, 1) := by decide +kernel
theorem dX9_lastSummer_58 : decode cX9_lastSummer 58 = .ok (.istore 5, 2) := by decide +kernel
theorem dX9_lastSummer_60 : decode cX9_lastSummer 60 = .ok (.iload 5, 2) := by decide +kernel
theorem dX9_lastSummer_62 : decode cX9_lastSummer 62 = .ok (.bipush 64, 2) := by decide +kernel
theorem dX9_lastSummer_64 : decode cX9_lastSummer 64 = .ok (.if_icmp .ge 36, 3) := by decide +kernel
theorem dX9_lastSummer_67 : decode cX9_lastSummer 67 = .ok (.aload_n 0, 1) := by decide +kernel
theorem dX9_lastSummer_68 : decode cX9_lastSummer 68 = .ok (.aload_n 0, 1) := by decide +kernel
theorem dX9_lastSummer_69 : decode cX9_lastSummer 69 = .ok (.getfield 41, 3) := by decide +kernel
theorem dX9_lastSummer_72 : decode cX9_lastSummer 72 = .ok (.iload 5, 2) := by decide +kernel
theorem dX9_lastSummer_74 : decode cX9_lastSummer 74 = .ok (.invokevirtual 86, 3) := by decide +kernel
theorem dX9_lastSummer_77 : decode cX9_lastSummer 77 = .ok (.ifCond .eq 17, 3) := by decide +kernel
theorem dX9_lastSummer_80 : decode cX9_lastSummer 80 = .ok (.aload_n 0, 1) := by decide +kernel
theorem dX9_lastSummer_81 : decode cX9_lastSummer 81 = .ok (.getfield 17, 3) := by decide +kernel
theorem dX9_lastSummer_84 : decode cX9_lastSummer 84 = .ok (.iload 5, 2) := by decide +kernel
theorem dX9_lastSummer_86 : decode cX9_lastSummer 86 = .ok (.dup2, 1) := by decide +kernel
theorem dX9_lastSummer_87 : decode cX9_lastSummer 87 = .ok (.iaload, 1) := by decide +kernel
theorem dX9_lastSummer_88 : decode cX9_lastSummer 88 = .ok (.iconst 1, 1) := by decide +kernel
theorem dX9_lastSummer_89 : decode cX9_lastSummer 89 = .ok (.iadd, 1) := by decide +kernel
theorem dX9_lastSummer_90 : decode cX9_lastSummer 90 = .ok (.iastore, 1) := by decide +kernel
theorem dX9_lastSummer_91 : decode cX9_lastSummer 91 = .ok (.iinc 3 1, 3) := by decide +kernel
theorem dX9_lastSummer_94 : decode cX9_lastSummer 94 = .ok (.iinc 5 1, 3) := by decide +kernel
theorem dX9_lastSummer_97 : decode cX9_lastSummer 97 = .ok (.goto (-37), 3) := by decide +kernel
theorem dX9_lastSummer_100 : decode cX9_lastSummer 100 = .ok (.iinc 4 1, 3) := by decide +kernel
theorem dX9_lastSummer_103 : decode cX9_lastSummer 103 = .ok (.goto (-56), 3) := by decide +kernel
theorem dX9_lastSummer_106 : decode cX9_lastSummer 106 = .ok (.iload_n 3, 1) := by decide +kernel
theorem dX9_lastSummer_107 : decode cX9_lastSummer 107 = .ok (.ireturn, 1) := by decide +kernel
def w_X9_lastSummer (K : LK) (a0 a1 : Int) (X : XT) (Q : Int → XT → Prop) : Prop :=
  w_X9_begin   X (fun (X2 : XT) => ∃ (I19 : Int → XT → Prop) (m20 : Int → XT → Nat), I19 0 (x_st (x_st X2 52 5 1) 52 6 a0) ∧ ∀ (x17 : Int) (X18 : XT), I19 x17 X18 → R32 x17 ∧ (64 ≤ x17 → w_X8_hearFlags 56 57  X18 (fun (X34 : XT) => ∃ (I42 : Int → Int → XT → Prop) (m43 : Int → Int → XT → Nat), I42 0 0 X34 ∧ ∀ (x39 : Int) (x40 : Int) (X41 : XT), I42 x39 x40 X41 → R32 x40 ∧ R32 a1 ∧ (a1 ≤ x40 → Q x39 X41) ∧ (¬ a1 ≤ x40 → w_X9_drawDay K   X41 (fun (X58 : XT) => ∃ (I66 : Int → Int → XT → Prop) (m67 : Int → Int → XT → Nat), I66 x39 0 X58 ∧ ∀ (x63 : Int) (x64 : Int) (X65 : XT), I66 x63 x64 X65 → R32 x64 ∧ (64 ≤ x64 → I42 x63 (x40 + 1) X65 ∧ m43 x63 (x40 + 1) X65 < m43 x39 x40 X41) ∧ (¬ 64 ≤ x64 → w_X9_isScorched K 56 57 x64 X65 (fun (v80 : Int) (X81 : XT) => R32 v80 ∧ (v80 = 0 → I66 x63 (x64 + 1) X81 ∧ m67 x63 (x64 + 1) X81 < m67 x63 x64 X65) ∧ (¬ v80 = 0 → (0 ≤ x64 ∧ x64 < 64) ∧ I66 (x63 + 1) (x64 + 1) (x_st X81 54 x64 ((X81 54 x64) + 1)) ∧ m67 (x63 + 1) (x64 + 1) (x_st X81 54 x64 ((X81 54 x64) + 1)) < m67 x63 x64 X65))))))) ∧ (¬ 64 ≤ x17 → (0 ≤ x17 ∧ x17 < 64) ∧ I19 (x17 + 1) (x_st X18 54 x17 0) ∧ m20 (x17 + 1) (x_st X18 54 x17 0) < m20 x17 X18))
set_option maxRecDepth 20000 in
theorem so_X9_lastSummer {n : Nat} {h : Nat → sE} {X : XT} {K : LK} {hk : Nat → sE} (hK : LKok K n hk) {a0 a1 : Int} {Q : Int → XT → Prop} (hn : 115 ≤ n) (hp : Pic X h) (hf9 : Fr hk h) (w : w_X9_lastSummer K  a0 a1 X Q) : Sp m_X9_lastSummer 7 0 0 [.ref 52, .int (iI a0), .int (iI a1)] n h (pIw n h Q) := by
  unfold w_X9_lastSummer at w
  refine Sp.ofV (by decide +kernel) (Nat.le_of_ble_eq_true rfl) ?_
  have hf : Fr h h := fun _ _ => rfl
  refine v_aload_n dX9_lastSummer_0 rfl ?_
  refine v_callVVw dX9_lastSummer_1 ml_X9_77 (so_X9_begin hn hp  w) ((hp 52 (by decide)).trans (ent_52 _)) rfl (s_lt hn rfl) rfl rfl (Nat.le_of_ble_eq_true rfl) (Nat.le_of_ble_eq_true rfl) (Nat.zero_le _) (Nat.zero_le _) (fun X2 h3 hp5 hf4 w => ?_)
  have hf6 := Fr.trans hf hf4
  refine v_aload_n dX9_lastSummer_4 rfl ?_
  refine v_iconstI dX9_lastSummer_5 ?_
  refine v_put dX9_lastSummer_6 fl_X9_20 ((hp5 52 (by decide)).trans (ent_52 _)) (s_lt hn rfl) (Nat.le_of_ble_eq_true rfl) (fun _ => ⟨iI_nb1, rfl⟩) trivial (fun h7 E8 F9 => ?_)
  have hp10 := pic_st hp5 (show h7 52 = ent 52 (uI _ 5 1) from E8) F9
  have hf11 := Fr.up (c := 52) hf6 F9 rfl
  refine v_aload_n dX9_lastSummer_9 rfl ?_
  refine v_iload_n dX9_lastSummer_10 rfl ?_
  refine v_put dX9_lastSummer_11 fl_X9_24 ((hp10 52 (by decide)).trans (ent_52 _)) (s_lt hn rfl) (Nat.le_of_ble_eq_true rfl) (fun _ => ⟨rfl, rfl⟩) trivial (fun h12 E13 F14 => ?_)
  have hp15 := pic_st hp10 (show h12 52 = ent 52 (uI _ 6 a0) from E13) F14
  have hf16 := Fr.up (c := 52) hf11 F14 rfl
  refine v_iconstI dX9_lastSummer_14 ?_
  refine v_istore_n dX9_lastSummer_15 (Nat.le_of_ble_eq_true rfl) ?_
  refine v_pick [1, 3, 0] rfl ?_
  obtain ⟨I19, m20, wi23, wl22⟩ := w
  have hL24 : ∀ (N27 : Nat) (x17 : Int) (X18 : XT) (h28 : Nat → sE), m20 x17 X18 < N27 → I19 x17 X18 → Pic X18 h28 → Fr h h28 → V (m_X9_lastSummer, 7, 0, 0, n, pIw n h Q, s_G0) 0 0 n h28 16 [(0, .ref 52), (2, .int (iI a1)), (3, .int (iI x17))] [] := by
    intro N27
    induction N27 with
    | zero => intro x17 X18 h28 hm25; exact absurd hm25 (Nat.not_lt_zero _)
    | succ N27 ih21 =>
      intro x17 X18 h28 hm25 hI26 hp29 hf30
      have w := wl22 x17 X18 hI26
      refine v_iload_n dX9_lastSummer_16 rfl ?_
      refine v_bipushI dX9_lastSummer_17 rfl ?_
      obtain ⟨q31, w⟩ := w
      refine v_icmp_geI (tgt := 35) dX9_lastSummer_19 (by decide) q31.1 q31.2 (by decide) (by decide) (fun c32 => ?_) (fun c32 => ?_)
      · replace w := w.1 c32
        refine v_iconstI dX9_lastSummer_35 ?_
        refine v_istore_n dX9_lastSummer_36 (Nat.le_of_ble_eq_true rfl) ?_
        refine v_aload_n dX9_lastSummer_37 rfl ?_
        refine v_get dX9_lastSummer_38 fl_X9_41 ((hp29 52 (by decide)).trans (ent_52 _)) rfl (s_lt hn rfl) ?_
        refine v_callVVw dX9_lastSummer_41 ml_X9_80 (so_X8_hearFlags_55 hn hp29  w) ((hp29 55 (by decide)).trans (ent_55 _)) rfl (s_lt hn rfl) rfl rfl (Nat.le_of_ble_eq_true rfl) (Nat.le_of_ble_eq_true rfl) (Nat.zero_le _) (Nat.zero_le _) (fun X34 h35 hp37 hf36 w => ?_)
        have hf38 := Fr.trans hf30 hf36
        refine v_iconstI dX9_lastSummer_44 ?_
        refine v_istore dX9_lastSummer_45 (Nat.le_of_ble_eq_true rfl) ?_
        refine v_pick [2, 3, 1, 0] rfl ?_
        obtain ⟨I42, m43, wi46, wl45⟩ := w
        have hL47 : ∀ (N50 : Nat) (x39 : Int) (x40 : Int) (X41 : XT) (h51 : Nat → sE), m43 x39 x40 X41 < N50 → I42 x39 x40 X41 → Pic X41 h51 → Fr h h51 → V (m_X9_lastSummer, 7, 0, 0, n, pIw n h Q, s_G0) 0 0 n h51 47 [(0, .ref 52), (2, .int (iI a1)), (3, .int (iI x39)), (4, .int (iI x40))] [] := by
          intro N50
          induction N50 with
          | zero => intro x39 x40 X41 h51 hm48; exact absurd hm48 (Nat.not_lt_zero _)
          | succ N50 ih44 =>
            intro x39 x40 X41 h51 hm48 hI49 hp52 hf53
            have w := wl45 x39 x40 X41 hI49
            refine v_iload dX9_lastSummer_47 rfl ?_
            refine v_iload_n dX9_lastSummer_49 rfl ?_
            obtain ⟨q54, q55, w⟩ := w
            refine v_icmp_geI (tgt := 106) dX9_lastSummer_50 (by decide) q54.1 q54.2 q55.1 q55.2 (fun c56 => ?_) (fun c56 => ?_)
            · replace w := w.1 c56
              refine v_iload_n dX9_lastSummer_106 rfl ?_
              exact v_iret dX9_lastSummer_107 rfl (Nat.zero_le _) (Nat.zero_le _) ⟨rfl, hf53, _, _, rfl, hp52, w⟩
            · replace w := w.2 c56
              refine v_aload_n dX9_lastSummer_53 rfl ?_
              refine v_callVVw dX9_lastSummer_54 ml_X9_83 (so_X9_drawDay hK hn hp52 (Fr.trans hf9 hf53) w) ((hp52 52 (by decide)).trans (ent_52 _)) rfl (s_lt hn rfl) rfl rfl (Nat.le_of_ble_eq_true rfl) (Nat.le_of_ble_eq_true rfl) (Nat.zero_le _) (Nat.zero_le _) (fun X58 h59 hp61 hf60 w => ?_)
              have hf62 := Fr.trans hf53 hf60
              refine v_iconstI dX9_lastSummer_57 ?_
              refine v_istore dX9_lastSummer_58 (Nat.le_of_ble_eq_true rfl) ?_
              refine v_pick [1, 2, 3, 4, 0] rfl ?_
              obtain ⟨I66, m67, wi70, wl69⟩ := w
              have hL71 : ∀ (N74 : Nat) (x63 : Int) (x64 : Int) (X65 : XT) (h75 : Nat → sE), m67 x63 x64 X65 < N74 → I66 x63 x64 X65 → Pic X65 h75 → Fr h h75 → V (m_X9_lastSummer, 7, 0, 0, n, pIw n h Q, s_G0) 0 0 n h75 60 [(0, .ref 52), (2, .int (iI a1)), (3, .int (iI x63)), (4, .int (iI x40)), (5, .int (iI x64))] [] := by
                intro N74
                induction N74 with
                | zero => intro x63 x64 X65 h75 hm72; exact absurd hm72 (Nat.not_lt_zero _)
                | succ N74 ih68 =>
                  intro x63 x64 X65 h75 hm72 hI73 hp76 hf77
                  have w := wl69 x63 x64 X65 hI73
                  refine v_iload dX9_lastSummer_60 rfl ?_
                  refine v_bipushI dX9_lastSummer_62 rfl ?_
                  obtain ⟨q78, w⟩ := w
                  refine v_icmp_geI (tgt := 100) dX9_lastSummer_64 (by decide) q78.1 q78.2 (by decide) (by decide) (fun c79 => ?_) (fun c79 => ?_)
                  · replace w := w.1 c79
                    refine v_iincI dX9_lastSummer_100 rfl (Nat.le_of_ble_eq_true rfl) ?_
                    refine v_goto (tgt := 47) dX9_lastSummer_103 (by decide) ?_
                    refine v_pick [1, 2, 3, 0] rfl ?_
                    exact ih44 _ _ _ _ (Nat.lt_of_lt_of_le w.2 (Nat.le_of_lt_succ hm48)) w.1 hp76 hf77
                  · replace w := w.2 c79
                    refine v_aload_n dX9_lastSummer_67 rfl ?_
                    refine v_aload_n dX9_lastSummer_68 rfl ?_
                    refine v_get dX9_lastSummer_69 fl_X9_41 ((hp76 52 (by decide)).trans (ent_52 _)) rfl (s_lt hn rfl) ?_
                    refine v_iload dX9_lastSummer_72 rfl ?_
                    refine v_callVIw dX9_lastSummer_74 ml_X9_86 (so_X9_isScorched_55 hK hn hp76 (Fr.trans hf9 hf77) w) ((hp76 52 (by decide)).trans (ent_52 _)) rfl (s_lt hn rfl) rfl rfl (Nat.le_of_ble_eq_true rfl) (Nat.le_of_ble_eq_true rfl) (Nat.zero_le _) (Nat.zero_le _) (fun v80 X81 h82 hp84 hf83 w => ?_)
                    have hf85 := Fr.trans hf77 hf83
                    obtain ⟨q86, w⟩ := w
                    refine v_if_eqI (tgt := 94) dX9_lastSummer_77 (by decide) q86.1 q86.2 (fun c87 => ?_) (fun c87 => ?_)
                    · replace w := w.1 c87
                      refine v_iincI dX9_lastSummer_94 rfl (Nat.le_of_ble_eq_true rfl) ?_
                      refine v_goto (tgt := 60) dX9_lastSummer_97 (by decide) ?_
                      refine v_pick [1, 2, 3, 4, 0] rfl ?_
                      exact ih68 _ _ _ _ (Nat.lt_of_lt_of_le w.2 (Nat.le_of_lt_succ hm72)) w.1 hp84 hf85
                    · replace w := w.2 c87
                      refine v_aload_n dX9_lastSummer_80 rfl ?_
                      refine v_get dX9_lastSummer_81 fl_X9_17 ((hp84 52 (by decide)).trans (ent_52 _)) rfl (s_lt hn rfl) ?_
                      refine v_iload dX9_lastSummer_84 rfl ?_
                      refine v_dup2 dX9_lastSummer_86 rfl rfl ?_
                      obtain ⟨q88, w⟩ := w
                      refine v_ialdI dX9_lastSummer_87 ((hp84 54 (by decide)).trans (ent_54 _)) (s_lt hn rfl) q88.1 q88.2 (ix_le q88.2 (by decide)) ?_
                      refine v_iconstI dX9_lastSummer_88 ?_
                      refine v_iaddI dX9_lastSummer_89 ?_
                      refine v_iastI dX9_lastSummer_90 ((hp84 54 (by decide)).trans (ent_54 _)) (s_lt hn rfl) q88.1 q88.2 (ix_le q88.2 (by decide)) (fun h89 E90 F91 => ?_)
                      have hp92 := pic_st hp84 (show h89 54 = ent 54 (uI _ x64 ((X81 54 x64) + 1)) from E90) F91
                      have hf93 := Fr.up (c := 54) hf85 F91 rfl
                      refine v_iincI dX9_lastSummer_91 rfl (Nat.le_of_ble_eq_true rfl) ?_
                      refine v_iincI dX9_lastSummer_94 rfl (Nat.le_of_ble_eq_true rfl) ?_
                      refine v_goto (tgt := 60) dX9_lastSummer_97 (by decide) ?_
                      refine v_pick [2, 3, 1, 4, 0] rfl ?_
                      exact ih68 _ _ _ _ (Nat.lt_of_lt_of_le w.2 (Nat.le_of_lt_succ hm72)) w.1 hp92 hf93
              exact hL71 _ _ _ _ _ (Nat.lt_succ_self _) wi70 hp61 hf62
        exact hL47 _ _ _ _ _ (Nat.lt_succ_self _) wi46 hp37 hf38
      · replace w := w.2 c32
        refine v_aload_n dX9_lastSummer_22 rfl ?_
        refine v_get dX9_lastSummer_23 fl_X9_17 ((hp29 52 (by decide)).trans (ent_52 _)) rfl (s_lt hn rfl) ?_
        refine v_iload_n dX9_lastSummer_26 rfl ?_
        refine v_iconstI dX9_lastSummer_27 ?_
        obtain ⟨q94, w⟩ := w
        refine v_iastI dX9_lastSummer_28 ((hp29 54 (by decide)).trans (ent_54 _)) (s_lt hn rfl) q94.1 q94.2 (ix_le q94.2 (by decide)) (fun h95 E96 F97 => ?_)
        have hp98 := pic_st hp29 (show h95 54 = ent 54 (uI _ x17 0) from E96) F97
        have hf99 := Fr.up (c := 54) hf30 F97 rfl
        refine v_iincI dX9_lastSummer_29 rfl (Nat.le_of_ble_eq_true rfl) ?_
        refine v_goto (tgt := 16) dX9_lastSummer_32 (by decide) ?_
        refine v_pick [1, 2, 0] rfl ?_
        exact ih21 _ _ _ (Nat.lt_of_lt_of_le w.2 (Nat.le_of_lt_succ hm25)) w.1 hp98 hf99
  exact hL24 _ _ _ _ (Nat.lt_succ_self _) wi23 hp15 hf16
theorem dX11_summer_0 : decode cX11_summer 0 = .ok (.iload_n 1, 1) := by decide +kernel
theorem dX11_summer_1 : decode cX11_summer 1 = .ok (.iconst 0, 1) := by decide +kernel
theorem dX11_summer_2 : decode cX11_summer 2 = .ok (.ldc_w 340, 3) := by decide +kernel
theorem dX11_summer_5 : decode cX11_summer 5 = .ok (.invokestatic 115, 3) := by decide +kernel
theorem dX11_summer_8 : decode cX11_summer 8 = .ok (.ifCond .eq 13, 3) := by decide +kernel
theorem dX11_summer_11 : decode cX11_summer 11 = .ok (.iload_n 2, 1) := by decide +kernel
theorem dX11_summer_12 : decode cX11_summer 12 = .ok (.iconst 1, 1) := by decide +kernel
theorem dX11_summer_13 : decode cX11_summer 13 = .ok (.bipush 30, 2) := by decide +kernel
theorem dX11_summer_15 : decode cX11_summer 15 = .ok (.invokestatic 115, 3) := by decide +kernel
theorem dX11_summer_18 : decode cX11_summer 18 = .ok (.ifCond .ne 9, 3) := by decide +kernel
theorem dX11_summer_21 : decode cX11_summer 21 = .ok (.aload_n 0, 1) := by decide +kernel
theorem dX11_summer_22 : decode cX11_summer 22 = .ok (.iconst (-1), 1) := by decide +kernel
theorem dX11_summer_23 : decode cX11_summer 23 = .ok (.invokevirtual 123, 3) := by decide +kernel
theorem dX11_summer_26 : decode cX11_summer 26 = .ok (.ireturn, 1) := by decide +kernel
theorem dX11_summer_27 : decode cX11_summer 27 = .ok (.aload_n 0, 1) := by decide +kernel
theorem dX11_summer_28 : decode cX11_summer 28 = .ok (.aload_n 0, 1) := by decide +kernel
theorem dX11_summer_29 : decode cX11_summer 29 = .ok (.getfield 59, 3) := by decide +kernel
theorem dX11_summer_32 : decode cX11_summer 32 = .ok (.iload_n 1, 1) := by decide +kernel
theorem dX11_summer_33 : decode cX11_summer 33 = .ok (.iload_n 2, 1) := by decide +kernel
theorem dX11_summer_34 : decode cX11_summer 34 = .ok (.invokevirtual 341, 3) := by decide +kernel
theorem dX11_summer_37 : decode cX11_summer 37 = .ok (.invokevirtual 135, 3) := by decide +kernel
theorem dX11_summer_40 : decode cX11_summer 40 = .ok (.ireturn, 1) := by decide +kernel
def w_X11_summer (K : LK) (a0 a1 : Int) (X : XT) (Q : Int → XT → Prop) : Prop :=
  R32 a0 ∧ (¬ (0 ≤ a0 ∧ a0 ≤ 1000000) → w_X11_refuse  (-1) X (fun (v3 : Int) (X4 : XT) => Q v3 X4)) ∧ ((0 ≤ a0 ∧ a0 ≤ 1000000) → R32 a1 ∧ ((1 ≤ a1 ∧ a1 ≤ 30) → w_X9_lastSummer K  a0 a1 X (fun (v11 : Int) (X12 : XT) => w_X11_grant  v11 X12 (fun (v17 : Int) (X18 : XT) => Q v17 X18))) ∧ (¬ (1 ≤ a1 ∧ a1 ≤ 30) → w_X11_refuse  (-1) X (fun (v23 : Int) (X24 : XT) => Q v23 X24)))
set_option maxRecDepth 20000 in
theorem so_X11_summer {n : Nat} {h : Nat → sE} {X : XT} {K : LK} {hk : Nat → sE} (hK : LKok K n hk) {a0 a1 : Int} {Q : Int → XT → Prop} (hn : 115 ≤ n) (hp : Pic X h) (hf9 : Fr hk h) (w : w_X11_summer K  a0 a1 X Q) : Sp m_X11_summer 8 0 0 [.ref 0, .int (iI a0), .int (iI a1)] n h (pIw n h Q) := by
  unfold w_X11_summer at w
  refine Sp.ofV (by decide +kernel) (Nat.le_of_ble_eq_true rfl) ?_
  have hf : Fr h h := fun _ _ => rfl
  refine v_iload_n dX11_summer_0 rfl ?_
  refine v_iconstI dX11_summer_1 ?_
  refine v_ldcwI 1000000 dX11_summer_2 k_X11_340 rfl ?_
  obtain ⟨q1, w⟩ := w
  refine v_callSp dX11_summer_5 ml_X11_115 (sp_X11_within (a := a0) (b := 0) (c := 1000000) q1 (by decide) (by decide)) rfl rfl (Nat.le_of_ble_eq_true rfl) (Nat.le_of_ble_eq_true rfl) (Nat.zero_le _) (Nat.zero_le _) ?_
  refine v_ifeqB (tgt := 21) dX11_summer_8 (by decide) (fun c2 => ?_) (fun c2 => ?_)
  · replace w := w.1 c2
    refine v_aload_n dX11_summer_21 rfl ?_
    refine v_iconstI dX11_summer_22 ?_
    refine v_callVIw dX11_summer_23 ml_X11_123 (so_X11_refuse hn hp  w) ((hp 0 (by decide)).trans (ent_0 _)) rfl (s_lt hn rfl) rfl rfl (Nat.le_of_ble_eq_true rfl) (Nat.le_of_ble_eq_true rfl) (Nat.zero_le _) (Nat.zero_le _) (fun v3 X4 h5 hp7 hf6 w => ?_)
    have hf8 := Fr.trans hf hf6
    exact v_iret dX11_summer_26 rfl (Nat.zero_le _) (Nat.zero_le _) ⟨rfl, hf8, _, _, rfl, hp7, w⟩
  · replace w := w.2 c2
    refine v_iload_n dX11_summer_11 rfl ?_
    refine v_iconstI dX11_summer_12 ?_
    refine v_bipushI dX11_summer_13 rfl ?_
    obtain ⟨q9, w⟩ := w
    refine v_callSp dX11_summer_15 ml_X11_115 (sp_X11_within (a := a1) (b := 1) (c := 30) q9 (by decide) (by decide)) rfl rfl (Nat.le_of_ble_eq_true rfl) (Nat.le_of_ble_eq_true rfl) (Nat.zero_le _) (Nat.zero_le _) ?_
    refine v_ifneB (tgt := 27) dX11_summer_18 (by decide) (fun c10 => ?_) (fun c10 => ?_)
    · replace w := w.1 c10
      refine v_aload_n dX11_summer_27 rfl ?_
      refine v_aload_n dX11_summer_28 rfl ?_
      refine v_get dX11_summer_29 fl_X11_59 ((hp 0 (by decide)).trans (ent_0 _)) rfl (s_lt hn rfl) ?_
      refine v_iload_n dX11_summer_32 rfl ?_
      refine v_iload_n dX11_summer_33 rfl ?_
      refine v_callVIw dX11_summer_34 ml_X11_341 (so_X9_lastSummer hK hn hp (Fr.trans hf9 hf) w) ((hp 52 (by decide)).trans (ent_52 _)) rfl (s_lt hn rfl) rfl rfl (Nat.le_of_ble_eq_true rfl) (Nat.le_of_ble_eq_true rfl) (Nat.zero_le _) (Nat.zero_le _) (fun v11 X12 h13 hp15 hf14 w => ?_)
      have hf16 := Fr.trans hf hf14
      refine v_callVIw dX11_summer_37 ml_X11_135 (so_X11_grant hn hp15  w) ((hp15 0 (by decide)).trans (ent_0 _)) rfl (s_lt hn rfl) rfl rfl (Nat.le_of_ble_eq_true rfl) (Nat.le_of_ble_eq_true rfl) (Nat.zero_le _) (Nat.zero_le _) (fun v17 X18 h19 hp21 hf20 w => ?_)
      have hf22 := Fr.trans hf16 hf20
      exact v_iret dX11_summer_40 rfl (Nat.zero_le _) (Nat.zero_le _) ⟨rfl, hf22, _, _, rfl, hp21, w⟩
    · replace w := w.2 c10
      refine v_aload_n dX11_summer_21 rfl ?_
      refine v_iconstI dX11_summer_22 ?_
      refine v_callVIw dX11_summer_23 ml_X11_123 (so_X11_refuse hn hp  w) ((hp 0 (by decide)).trans (ent_0 _)) rfl (s_lt hn rfl) rfl rfl (Nat.le_of_ble_eq_true rfl) (Nat.le_of_ble_eq_true rfl) (Nat.zero_le _) (Nat.zero_le _) (fun v23 X24 h25 hp27 hf26 w => ?_)
      have hf28 := Fr.trans hf hf26
      exact v_iret dX11_summer_26 rfl (Nat.zero_le _) (Nat.zero_le _) ⟨rfl, hf28, _, _, rfl, hp27, w⟩
theorem dX10_canFollow_0 : decode cX10_canFollow 0 = .ok (.aload_n 0, 1) := by decide +kernel
theorem dX10_canFollow_1 : decode cX10_canFollow 1 = .ok (.getfield 18, 3) := by decide +kernel
theorem dX10_canFollow_4 : decode cX10_canFollow 4 = .ok (.iload_n 2, 1) := by decide +kernel
theorem dX10_canFollow_5 : decode cX10_canFollow 5 = .ok (.iaload, 1) := by decide +kernel
theorem dX10_canFollow_6 : decode cX10_canFollow 6 = .ok (.aload_n 0, 1) := by decide +kernel
theorem dX10_canFollow_7 : decode cX10_canFollow 7 = .ok (.getfield 18, 3) := by decide +kernel
theorem dX10_canFollow_10 : decode cX10_canFollow 10 = .ok (.iload_n 1, 1) := by decide +kernel
theorem dX10_canFollow_11 : decode cX10_canFollow 11 = .ok (.iaload, 1) := by decide +kernel
theorem dX10_canFollow_12 : decode cX10_canFollow 12 = .ok (.isub, 1) := by decide +kernel
theorem dX10_canFollow_13 : decode cX10_canFollow 13 = .ok (.istore_n 3, 1) := by decide +kernel
theorem dX10_canFollow_14 : decode cX10_canFollow 14 = .ok (.iload_n 3, 1) := by decide +kernel
theorem dX10_canFollow_15 : decode cX10_canFollow 15 = .ok (.ifCond .lt 12, 3) := by decide +kernel
theorem dX10_canFollow_18 : decode cX10_canFollow 18 = .ok (.iload_n 3, 1) := by decide +kernel
theorem dX10_canFollow_19 : decode cX10_canFollow 19 = .ok (.ifCond .ne 10, 3) := by decide +kernel
theorem dX10_canFollow_22 : decode cX10_canFollow 22 = .ok (.iload_n 2, 1) := by decide +kernel
theorem dX10_canFollow_23 : decode cX10_canFollow 23 = .ok (.iload_n 1, 1) := by decide +kernel
theorem dX10_canFollow_24 : decode cX10_canFollow 24 = .ok (.if_icmp .gt 5, 3) := by decide +kernel
theorem dX10_canFollow_27 : decode cX10_canFollow 27 = .ok (.iconst 0, 1) := by decide +kernel
theorem dX10_canFollow_28 : decode cX10_canFollow 28 = .ok (.ireturn, 1) := by decide +kernel
theorem dX10_canFollow_29 : decode cX10_canFollow 29 = .ok (.aload_n 0, 1) := by decide +kernel
theorem dX10_canFollow_30 : decode cX10_canFollow 30 = .ok (.getfield 15, 3) := by decide +kernel
theorem dX10_canFollow_33 : decode cX10_canFollow 33 = .ok (.iload_n 2, 1) := by decide +kernel
theorem dX10_canFollow_34 : decode cX10_canFollow 34 = .ok (.iaload, 1) := by decide +kernel
theorem dX10_canFollow_35 : decode cX10_canFollow 35 = .ok (.invokestatic 106, 3) := by decide +kernel
theorem dX10_canFollow_38 : decode cX10_canFollow 38 = .ok (.aload_n 0, 1) := by decide +kernel
theorem dX10_canFollow_39 : decode cX10_canFollow 39 = .ok (.getfield 15, 3) := by decide +kernel
theorem dX10_canFollow_42 : decode cX10_canFollow 42 = .ok (.iload_n 1, 1) := by decide +kernel
theorem dX10_canFollow_43 : decode cX10_canFollow 43 = .ok (.iaload, 1) := by decide +kernel
theorem dX10_canFollow_44 : decode cX10_canFollow 44 = .ok (.invokestatic 106, 3) := by decide +kernel
theorem dX10_canFollow_47 : decode cX10_canFollow 47 = .ok (.isub, 1) := by decide +kernel
theorem dX10_canFollow_48 : decode cX10_canFollow 48 = .ok (.invokestatic 110, 3) := by decide +kernel
theorem dX10_canFollow_51 : decode cX10_canFollow 51 = .ok (.istore 4, 2) := by decide +kernel
theorem dX10_canFollow_53 : decode cX10_canFollow 53 = .ok (.aload_n 0, 1) := by decide +kernel
theorem dX10_canFollow_54 : decode cX10_canFollow 54 = .ok (.getfield 15, 3) := by decide +kernel
theorem dX10_canFollow_57 : decode cX10_canFollow 57 = .ok (.iload_n 2, 1) := by decide +kernel
theorem dX10_canFollow_58 : decode cX10_canFollow 58 = .ok (.iaload, 1) := by decide +kernel
theorem dX10_canFollow_59 : decode cX10_canFollow 59 = .ok (.invokestatic 115, 3) := by decide +kernel
theorem dX10_canFollow_62 : decode cX10_canFollow 62 = .ok (.aload_n 0, 1) := by decide +kernel
theorem dX10_canFollow_63 : decode cX10_canFollow 63 = .ok (.getfield 15, 3) := by decide +kernel
theorem dX10_canFollow_66 : decode cX10_canFollow 66 = .ok (.iload_n 1, 1) := by decide +kernel
theorem dX10_canFollow_67 : decode cX10_canFollow 67 = .ok (.iaload, 1) := by decide +kernel
theorem dX10_canFollow_68 : decode cX10_canFollow 68 = .ok (.invokestatic 115, 3) := by decide +kernel
theorem dX10_canFollow_71 : decode cX10_canFollow 71 = .ok (.isub, 1) := by decide +kernel
theorem dX10_canFollow_72 : decode cX10_canFollow 72 = .ok (.invokestatic 110, 3) := by decide +kernel
theorem dX10_canFollow_75 : decode cX10_canFollow 75 = .ok (.istore 5, 2) := by decide +kernel
theorem dX10_canFollow_77 : decode cX10_canFollow 77 = .ok (.iload 4, 2) := by decide +kernel
theorem dX10_canFollow_79 : decode cX10_canFollow 79 = .ok (.iload 5, 2) := by decide +kernel
theorem dX10_canFollow_81 : decode cX10_canFollow 81 = .ok (.iadd, 1) := by decide +kernel
theorem dX10_canFollow_82 : decode cX10_canFollow 82 = .ok (.iload_n 3, 1) := by decide +kernel
theorem dX10_canFollow_83 : decode cX10_canFollow 83 = .ok (.if_icmp .gt 7, 3) := by decide +kernel
theorem dX10_canFollow_86 : decode cX10_canFollow 86 = .ok (.iconst 1, 1) := by decide +kernel
theorem dX10_canFollow_87 : decode cX10_canFollow 87 = .ok (.goto 4, 3) := by decide +kernel
theorem dX10_canFollow_90 : decode cX10_canFollow 90 = .ok (.iconst 0, 1) := by decide +kernel
theorem dX10_canFollow_91 : decode cX10_canFollow 91 = .ok (.ireturn, 1) := by decide +kernel
def w_X10_canFollow (a0 a1 : Int) (X : XT) (Q : Int → Prop) : Prop :=
  (0 ≤ a1 ∧ a1 < 24) ∧ (0 ≤ a0 ∧ a0 < 24) ∧ R32 ((X 73 a1) - (X 73 a0)) ∧ (((X 73 a1) - (X 73 a0)) < 0 → Q 0) ∧ (¬ ((X 73 a1) - (X 73 a0)) < 0 → ∀ J5 : Prop, (((0 ≤ (X 72 a1) ∧ (X 72 a1) ≤ 2147483647) ∧ (0 ≤ (X 72 a0) ∧ (X 72 a0) ≤ 2147483647) ∧ (-2147483647 ≤ (((X 72 a1) % 24 - 8) - ((X 72 a0) % 24 - 8)) ∧ (((X 72 a1) % 24 - 8) - ((X 72 a0) % 24 - 8)) ≤ 2147483647) ∧ (-2147483647 ≤ (((X 72 a1) / 24 - 8) - ((X 72 a0) / 24 - 8)) ∧ (((X 72 a1) / 24 - 8) - ((X 72 a0) / 24 - 8)) ≤ 2147483647) ∧ R32 ((absI (((X 72 a1) % 24 - 8) - ((X 72 a0) % 24 - 8))) + (absI (((X 72 a1) / 24 - 8) - ((X 72 a0) / 24 - 8)))) ∧ (((X 73 a1) - (X 73 a0)) < ((absI (((X 72 a1) % 24 - 8) - ((X 72 a0) % 24 - 8))) + (absI (((X 72 a1) / 24 - 8) - ((X 72 a0) / 24 - 8)))) → Q 0) ∧ (¬ ((X 73 a1) - (X 73 a0)) < ((absI (((X 72 a1) % 24 - 8) - ((X 72 a0) % 24 - 8))) + (absI (((X 72 a1) / 24 - 8) - ((X 72 a0) / 24 - 8)))) → Q 1)) → J5) → (¬ ((X 73 a1) - (X 73 a0)) = 0 → J5 ) ∧ (((X 73 a1) - (X 73 a0)) = 0 → R32 a1 ∧ R32 a0 ∧ (a0 < a1 → J5 ) ∧ (¬ a0 < a1 → Q 0)))
set_option maxRecDepth 20000 in
theorem so_X10_canFollow {n : Nat} {h : Nat → sE} {X : XT} {a0 a1 : Int} {Q : Int → Prop} (hn : 115 ≤ n) (hp : Pic X h) (w : w_X10_canFollow  a0 a1 X Q) : Sp m_X10_canFollow 1 0 0 [.ref 70, .int (iI a0), .int (iI a1)] n h (pIr n h Q) := by
  unfold w_X10_canFollow at w
  refine Sp.ofV (by decide +kernel) (Nat.le_of_ble_eq_true rfl) ?_
  have hf : Fr h h := fun _ _ => rfl
  refine v_aload_n dX10_canFollow_0 rfl ?_
  refine v_get dX10_canFollow_1 fl_X10_18 ((hp 70 (by decide)).trans (ent_70 _)) rfl (s_lt hn rfl) ?_
  refine v_iload_n dX10_canFollow_4 rfl ?_
  obtain ⟨q1, w⟩ := w
  refine v_ialdI dX10_canFollow_5 ((hp 73 (by decide)).trans (ent_73 _)) (s_lt hn rfl) q1.1 q1.2 (ix_le q1.2 (by decide)) ?_
  refine v_aload_n dX10_canFollow_6 rfl ?_
  refine v_get dX10_canFollow_7 fl_X10_18 ((hp 70 (by decide)).trans (ent_70 _)) rfl (s_lt hn rfl) ?_
  refine v_iload_n dX10_canFollow_10 rfl ?_
  obtain ⟨q2, w⟩ := w
  refine v_ialdI dX10_canFollow_11 ((hp 73 (by decide)).trans (ent_73 _)) (s_lt hn rfl) q2.1 q2.2 (ix_le q2.2 (by decide)) ?_
  refine v_isubI dX10_canFollow_12 ?_
  refine v_istore_n dX10_canFollow_13 (Nat.le_of_ble_eq_true rfl) ?_
  refine v_iload_n dX10_canFollow_14 rfl ?_
  obtain ⟨q3, w⟩ := w
  refine v_if_ltI (tgt := 27) dX10_canFollow_15 (by decide) q3.1 q3.2 (fun c4 => ?_) (fun c4 => ?_)
  · replace w := w.1 c4
    refine v_iconstI dX10_canFollow_27 ?_
    exact v_z0 dX10_canFollow_28 rfl (Nat.zero_le _) (Nat.zero_le _) ⟨rfl, rfl, _, rfl, w⟩
  · replace w := w.2 c4
    refine v_iload_n dX10_canFollow_18 rfl ?_
    replace w := w (V (m_X10_canFollow, 1, 0, 0, n, pIr n h Q, s_G0) 0 0 n h 29 [(0, .ref 70), (1, .int (iI a0)), (2, .int (iI a1)), (3, .int (iI ((X 73 a1) - (X 73 a0))))] []) (by
      intro  w
      refine v_aload_n dX10_canFollow_29 rfl ?_
      refine v_get dX10_canFollow_30 fl_X10_15 ((hp 70 (by decide)).trans (ent_70 _)) rfl (s_lt hn rfl) ?_
      refine v_iload_n dX10_canFollow_33 rfl ?_
      refine v_ialdI dX10_canFollow_34 ((hp 72 (by decide)).trans (ent_72 _)) (s_lt hn rfl) q1.1 q1.2 (ix_le q1.2 (by decide)) ?_
      obtain ⟨q6, w⟩ := w
      refine v_callSp dX10_canFollow_35 ml_X10_106 (sp_X8_xOf (a := (X 72 a1)) q6) rfl rfl (Nat.le_of_ble_eq_true rfl) (Nat.le_of_ble_eq_true rfl) (Nat.zero_le _) (Nat.zero_le _) ?_
      refine v_aload_n dX10_canFollow_38 rfl ?_
      refine v_get dX10_canFollow_39 fl_X10_15 ((hp 70 (by decide)).trans (ent_70 _)) rfl (s_lt hn rfl) ?_
      refine v_iload_n dX10_canFollow_42 rfl ?_
      refine v_ialdI dX10_canFollow_43 ((hp 72 (by decide)).trans (ent_72 _)) (s_lt hn rfl) q2.1 q2.2 (ix_le q2.2 (by decide)) ?_
      obtain ⟨q7, w⟩ := w
      refine v_callSp dX10_canFollow_44 ml_X10_106 (sp_X8_xOf (a := (X 72 a0)) q7) rfl rfl (Nat.le_of_ble_eq_true rfl) (Nat.le_of_ble_eq_true rfl) (Nat.zero_le _) (Nat.zero_le _) ?_
      refine v_isubI dX10_canFollow_47 ?_
      obtain ⟨q8, w⟩ := w
      refine v_absI dX10_canFollow_48 ml_X10_110 (Nat.le_of_ble_eq_true rfl) (Nat.le_of_ble_eq_true rfl) (Nat.zero_le _) (Nat.zero_le _) q8 ?_
      refine v_istore dX10_canFollow_51 (Nat.le_of_ble_eq_true rfl) ?_
      refine v_aload_n dX10_canFollow_53 rfl ?_
      refine v_get dX10_canFollow_54 fl_X10_15 ((hp 70 (by decide)).trans (ent_70 _)) rfl (s_lt hn rfl) ?_
      refine v_iload_n dX10_canFollow_57 rfl ?_
      refine v_ialdI dX10_canFollow_58 ((hp 72 (by decide)).trans (ent_72 _)) (s_lt hn rfl) q1.1 q1.2 (ix_le q1.2 (by decide)) ?_
      refine v_callSp dX10_canFollow_59 ml_X10_115 (sp_X8_yOf (a := (X 72 a1)) q6) rfl rfl (Nat.le_of_ble_eq_true rfl) (Nat.le_of_ble_eq_true rfl) (Nat.zero_le _) (Nat.zero_le _) ?_
      refine v_aload_n dX10_canFollow_62 rfl ?_
      refine v_get dX10_canFollow_63 fl_X10_15 ((hp 70 (by decide)).trans (ent_70 _)) rfl (s_lt hn rfl) ?_
      refine v_iload_n dX10_canFollow_66 rfl ?_
      refine v_ialdI dX10_canFollow_67 ((hp 72 (by decide)).trans (ent_72 _)) (s_lt hn rfl) q2.1 q2.2 (ix_le q2.2 (by decide)) ?_
      refine v_callSp dX10_canFollow_68 ml_X10_115 (sp_X8_yOf (a := (X 72 a0)) q7) rfl rfl (Nat.le_of_ble_eq_true rfl) (Nat.le_of_ble_eq_true rfl) (Nat.zero_le _) (Nat.zero_le _) ?_
      refine v_isubI dX10_canFollow_71 ?_
      obtain ⟨q9, w⟩ := w
      refine v_absI dX10_canFollow_72 ml_X10_110 (Nat.le_of_ble_eq_true rfl) (Nat.le_of_ble_eq_true rfl) (Nat.zero_le _) (Nat.zero_le _) q9 ?_
      refine v_istore dX10_canFollow_75 (Nat.le_of_ble_eq_true rfl) ?_
      refine v_iload dX10_canFollow_77 rfl ?_
      refine v_iload dX10_canFollow_79 rfl ?_
      refine v_iaddI dX10_canFollow_81 ?_
      refine v_iload_n dX10_canFollow_82 rfl ?_
      obtain ⟨q10, w⟩ := w
      refine v_icmp_gtI (tgt := 90) dX10_canFollow_83 (by decide) q10.1 q10.2 q3.1 q3.2 (fun c11 => ?_) (fun c11 => ?_)
      · replace w := w.1 c11
        refine v_iconstI dX10_canFollow_90 ?_
        exact v_z0 dX10_canFollow_91 rfl (Nat.zero_le _) (Nat.zero_le _) ⟨rfl, rfl, _, rfl, w⟩
      · replace w := w.2 c11
        refine v_iconstI dX10_canFollow_86 ?_
        refine v_goto (tgt := 91) dX10_canFollow_87 (by decide) ?_
        exact v_z1 dX10_canFollow_91 rfl (Nat.zero_le _) (Nat.zero_le _) ⟨rfl, rfl, _, rfl, w⟩
    )
    refine v_if_neI (tgt := 29) dX10_canFollow_19 (by decide) q3.1 q3.2 (fun c12 => ?_) (fun c12 => ?_)
    · replace w := w.1 c12
      refine v_pick [1, 2, 3, 0] rfl ?_
      exact w
    · replace w := w.2 c12
      refine v_iload_n dX10_canFollow_22 rfl ?_
      refine v_iload_n dX10_canFollow_23 rfl ?_
      obtain ⟨q13, q14, w⟩ := w
      refine v_icmp_gtI (tgt := 29) dX10_canFollow_24 (by decide) q13.1 q13.2 q14.1 q14.2 (fun c15 => ?_) (fun c15 => ?_)
      · replace w := w.1 c15
        refine v_pick [1, 2, 3, 0] rfl ?_
        exact w
      · replace w := w.2 c15
        refine v_iconstI dX10_canFollow_27 ?_
        exact v_z0 dX10_canFollow_28 rfl (Nat.zero_le _) (Nat.zero_le _) ⟨rfl, rfl, _, rfl, w⟩
theorem dX10_findNext_0 : decode cX10_findNext 0 = .ok (.iload_n 3, 1) := by decide +kernel
theorem dX10_findNext_1 : decode cX10_findNext 1 = .ok (.bipush 24, 2) := by decide +kernel
theorem dX10_findNext_3 : decode cX10_findNext 3 = .ok (.if_icmp .le 5, 3) := by decide +kernel
theorem dX10_findNext_6 : decode cX10_findNext 6 = .ok (.iconst 0, 1) := by decide +kernel
theorem dX10_findNext_7 : decode cX10_findNext 7 = .ok (.ireturn, 1) := by decide +kernel
theorem dX10_findNext_8 : decode cX10_findNext 8 = .ok (.iconst 0, 1) := by decide +kernel
theorem dX10_findNext_9 : decode cX10_findNext 9 = .ok (.istore 4, 2) := by decide +kernel
theorem dX10_findNext_11 : decode cX10_findNext 11 = .ok (.iload 4, 2) := by decide +kernel
theorem dX10_findNext_13 : decode cX10_findNext 13 = .ok (.iload_n 2, 1) := by decide +kernel
theorem dX10_findNext_14 : decode cX10_findNext 14 = .ok (.if_icmp .ge 75, 3) := by decide +kernel
theorem dX10_findNext_17 : decode cX10_findNext 17 = .ok (.aload_n 0, 1) := by decide +kernel
theorem dX10_findNext_18 : decode cX10_findNext 18 = .ok (.getfield 24, 3) := by decide +kernel
theorem dX10_findNext_21 : decode cX10_findNext 21 = .ok (.iload 4, 2) := by decide +kernel
theorem dX10_findNext_23 : decode cX10_findNext 23 = .ok (.iaload, 1) := by decide +kernel
theorem dX10_findNext_24 : decode cX10_findNext 24 = .ok (.ifCond .ne 59, 3) := by decide +kernel
theorem dX10_findNext_27 : decode cX10_findNext 27 = .ok (.aload_n 0, 1) := by decide +kernel
theorem dX10_findNext_28 : decode cX10_findNext 28 = .ok (.iload_n 1, 1) := by decide +kernel
theorem dX10_findNext_29 : decode cX10_findNext 29 = .ok (.iload 4, 2) := by decide +kernel
theorem dX10_findNext_31 : decode cX10_findNext 31 = .ok (.invokevirtual 103, 3) := by decide +kernel
theorem dX10_findNext_34 : decode cX10_findNext 34 = .ok (.ifCond .eq 49, 3) := by decide +kernel
theorem dX10_findNext_37 : decode cX10_findNext 37 = .ok (.aload_n 0, 1) := by decide +kernel
theorem dX10_findNext_38 : decode cX10_findNext 38 = .ok (.getfield 24, 3) := by decide +kernel
theorem dX10_findNext_41 : decode cX10_findNext 41 = .ok (.iload 4, 2) := by decide +kernel
theorem dX10_findNext_43 : decode cX10_findNext 43 = .ok (.iconst 1, 1) := by decide +kernel
theorem dX10_findNext_44 : decode cX10_findNext 44 = .ok (.iastore, 1) := by decide +kernel
theorem dX10_findNext_45 : decode cX10_findNext 45 = .ok (.aload_n 0, 1) := by decide +kernel
theorem dX10_findNext_46 : decode cX10_findNext 46 = .ok (.getfield 21, 3) := by decide +kernel
theorem dX10_findNext_49 : decode cX10_findNext 49 = .ok (.iload 4, 2) := by decide +kernel
theorem dX10_findNext_51 : decode cX10_findNext 51 = .ok (.iaload, 1) := by decide +kernel
theorem dX10_findNext_52 : decode cX10_findNext 52 = .ok (.istore 5, 2) := by decide +kernel
theorem dX10_findNext_54 : decode cX10_findNext 54 = .ok (.iload 5, 2) := by decide +kernel
theorem dX10_findNext_56 : decode cX10_findNext 56 = .ok (.iconst (-1), 1) := by decide +kernel
theorem dX10_findNext_57 : decode cX10_findNext 57 = .ok (.if_icmp .eq 16, 3) := by decide +kernel
theorem dX10_findNext_60 : decode cX10_findNext 60 = .ok (.aload_n 0, 1) := by decide +kernel
theorem dX10_findNext_61 : decode cX10_findNext 61 = .ok (.iload 5, 2) := by decide +kernel
theorem dX10_findNext_63 : decode cX10_findNext 63 = .ok (.iload_n 2, 1) := by decide +kernel
theorem dX10_findNext_64 : decode cX10_findNext 64 = .ok (.iload_n 3, 1) := by decide +kernel
theorem dX10_findNext_65 : decode cX10_findNext 65 = .ok (.iconst 1, 1) := by decide +kernel
theorem dX10_findNext_66 : decode cX10_findNext 66 = .ok (.iadd, 1) := by decide +kernel
theorem dX10_findNext_67 : decode cX10_findNext 67 = .ok (.invokevirtual 100, 3) := by decide +kernel
theorem dX10_findNext_70 : decode cX10_findNext 70 = .ok (.ifCond .eq 13, 3) := by decide +kernel
theorem dX10_findNext_73 : decode cX10_findNext 73 = .ok (.aload_n 0, 1) := by decide +kernel
theorem dX10_findNext_74 : decode cX10_findNext 74 = .ok (.getfield 21, 3) := by decide +kernel
theorem dX10_findNext_77 : decode cX10_findNext 77 = .ok (.iload 4, 2) := by decide +kernel
theorem dX10_findNext_79 : decode cX10_findNext 79 = .ok (.iload_n 1, 1) := by decide +kernel
theorem dX10_findNext_80 : decode cX10_findNext 80 = .ok (.iastore, 1) := by decide +kernel
theorem dX10_findNext_81 : decode cX10_findNext 81 = .ok (.iconst 1, 1) := by decide +kernel
theorem dX10_findNext_82 : decode cX10_findNext 82 = .ok (.ireturn, 1) := by decide +kernel
theorem dX10_findNext_83 : decode cX10_findNext 83 = .ok (.iinc 4 1, 3) := by decide +kernel
theorem dX10_findNext_86 : decode cX10_findNext 86 = .ok (.goto (-75), 3) := by decide +kernel
theorem dX10_findNext_89 : decode cX10_findNext 89 = .ok (.iconst 0, 1) := by decide +kernel
theorem dX10_findNext_90 : decode cX10_findNext 90 = .ok (.ireturn, 1) := by decide +kernel
def w_findNext : Nat → Int → Int → Int → XT → (Int → XT → Prop) → Prop
  | 0, _, _, _, _, _ => False
  | fu + 1, a0, a1, a2, X, Q => R32 a2 ∧ (a2 ≤ 24 → ∃ (I5 : Int → XT → Prop) (m6 : Int → XT → Nat), I5 0 X ∧ ∀ (x3 : Int) (X4 : XT), I5 x3 X4 → R32 x3 ∧ R32 a1 ∧ (a1 ≤ x3 → Q 0 X4) ∧ (¬ a1 ≤ x3 → (0 ≤ x3 ∧ x3 < 24) ∧ R32 (X4 75 x3) ∧ (¬ (X4 75 x3) = 0 → I5 (x3 + 1) X4 ∧ m6 (x3 + 1) X4 < m6 x3 X4) ∧ ((X4 75 x3) = 0 → w_X10_canFollow  a0 x3 X4 (fun (v23 : Int) => R32 v23 ∧ (v23 = 0 → I5 (x3 + 1) X4 ∧ m6 (x3 + 1) X4 < m6 x3 X4) ∧ (¬ v23 = 0 → ∀ J37 : XT → Prop, (∀  (X36 : XT), (Q 1 (x_st X36 74 x3 a0)) → J37  X36) → R32 ((x_st X4 75 x3 1) 74 x3) ∧ (((x_st X4 75 x3 1) 74 x3) = (-1) → J37  (x_st X4 75 x3 1)) ∧ (¬ ((x_st X4 75 x3 1) 74 x3) = (-1) → w_findNext fu  ((x_st X4 75 x3 1) 74 x3) a1 (a2 + 1) (x_st X4 75 x3 1) (fun (v48 : Int) (X49 : XT) => R32 v48 ∧ (v48 = 0 → I5 (x3 + 1) X49 ∧ m6 (x3 + 1) X49 < m6 x3 X4) ∧ (¬ v48 = 0 → J37  X49)))))))) ∧ (¬ a2 ≤ 24 → Q 0 X)
set_option maxRecDepth 20000 in
theorem so_findNext : ∀ fu : Nat, (∀ {n : Nat} {h : Nat → sE} {X : XT} {a0 a1 a2 : Int} {Q : Int → XT → Prop}, 115 ≤ n → Pic X h → w_findNext fu a0 a1 a2 X Q → Sp m_X10_findNext (fu + 2) 0 0 [.ref 70, .int (iI a0), .int (iI a1), .int (iI a2)] n h (pIw n h Q)) := by
  intro fu
  induction fu with
  | zero => exact fun _ _ w => absurd w id
  | succ fu ih =>
    · intro n h X a0 a1 a2 Q hn hp w
      refine Sp.ofV (by decide +kernel) (Nat.le_of_ble_eq_true rfl) ?_
      have hf : Fr h h := fun _ _ => rfl
      refine v_iload_n dX10_findNext_0 rfl ?_
      refine v_bipushI dX10_findNext_1 rfl ?_
      obtain ⟨q1, w⟩ := w
      refine v_icmp_leI (tgt := 8) dX10_findNext_3 (by decide) q1.1 q1.2 (by decide) (by decide) (fun c2 => ?_) (fun c2 => ?_)
      · replace w := w.1 c2
        refine v_iconstI dX10_findNext_8 ?_
        refine v_istore dX10_findNext_9 (Nat.le_of_ble_eq_true rfl) ?_
        refine v_pick [1, 2, 3, 4, 0] rfl ?_
        obtain ⟨I5, m6, wi9, wl8⟩ := w
        have hL10 : ∀ (N13 : Nat) (x3 : Int) (X4 : XT) (h14 : Nat → sE), m6 x3 X4 < N13 → I5 x3 X4 → Pic X4 h14 → Fr h h14 → V (m_X10_findNext, fu + 1 + 2, 0, 0, n, pIw n h Q, s_G0) 0 0 n h14 11 [(0, .ref 70), (1, .int (iI a0)), (2, .int (iI a1)), (3, .int (iI a2)), (4, .int (iI x3))] [] := by
          intro N13
          induction N13 with
          | zero => intro x3 X4 h14 hm11; exact absurd hm11 (Nat.not_lt_zero _)
          | succ N13 ih7 =>
            intro x3 X4 h14 hm11 hI12 hp15 hf16
            have w := wl8 x3 X4 hI12
            refine v_iload dX10_findNext_11 rfl ?_
            refine v_iload_n dX10_findNext_13 rfl ?_
            obtain ⟨q17, q18, w⟩ := w
            refine v_icmp_geI (tgt := 89) dX10_findNext_14 (by decide) q17.1 q17.2 q18.1 q18.2 (fun c19 => ?_) (fun c19 => ?_)
            · replace w := w.1 c19
              refine v_iconstI dX10_findNext_89 ?_
              exact v_z0 dX10_findNext_90 rfl (Nat.zero_le _) (Nat.zero_le _) ⟨rfl, hf16, _, _, rfl, hp15, w⟩
            · replace w := w.2 c19
              refine v_aload_n dX10_findNext_17 rfl ?_
              refine v_get dX10_findNext_18 fl_X10_24 ((hp15 70 (by decide)).trans (ent_70 _)) rfl (s_lt hn rfl) ?_
              refine v_iload dX10_findNext_21 rfl ?_
              obtain ⟨q20, w⟩ := w
              refine v_ialdI dX10_findNext_23 ((hp15 75 (by decide)).trans (ent_75 _)) (s_lt hn rfl) q20.1 q20.2 (ix_le q20.2 (by decide)) ?_
              obtain ⟨q21, w⟩ := w
              refine v_if_neI (tgt := 83) dX10_findNext_24 (by decide) q21.1 q21.2 (fun c22 => ?_) (fun c22 => ?_)
              · replace w := w.1 c22
                refine v_iincI dX10_findNext_83 rfl (Nat.le_of_ble_eq_true rfl) ?_
                refine v_goto (tgt := 11) dX10_findNext_86 (by decide) ?_
                refine v_pick [1, 2, 3, 4, 0] rfl ?_
                exact ih7 _ _ _ (Nat.lt_of_lt_of_le w.2 (Nat.le_of_lt_succ hm11)) w.1 hp15 hf16
              · replace w := w.2 c22
                refine v_aload_n dX10_findNext_27 rfl ?_
                refine v_iload_n dX10_findNext_28 rfl ?_
                refine v_iload dX10_findNext_29 rfl ?_
                refine v_callVIr dX10_findNext_31 ml_X10_103 (so_X10_canFollow hn hp15  w) ((hp15 70 (by decide)).trans (ent_70 _)) rfl (s_lt hn rfl) rfl rfl (Nat.le_of_ble_eq_true rfl) (show 1 + 1 ≤ fu + 1 + 2 by omega) (Nat.zero_le _) (Nat.zero_le _) (fun v23 w => ?_)
                obtain ⟨q29, w⟩ := w
                refine v_if_eqI (tgt := 83) dX10_findNext_34 (by decide) q29.1 q29.2 (fun c30 => ?_) (fun c30 => ?_)
                · replace w := w.1 c30
                  refine v_iincI dX10_findNext_83 rfl (Nat.le_of_ble_eq_true rfl) ?_
                  refine v_goto (tgt := 11) dX10_findNext_86 (by decide) ?_
                  refine v_pick [1, 2, 3, 4, 0] rfl ?_
                  exact ih7 _ _ _ (Nat.lt_of_lt_of_le w.2 (Nat.le_of_lt_succ hm11)) w.1 hp15 hf16
                · replace w := w.2 c30
                  refine v_aload_n dX10_findNext_37 rfl ?_
                  refine v_get dX10_findNext_38 fl_X10_24 ((hp15 70 (by decide)).trans (ent_70 _)) rfl (s_lt hn rfl) ?_
                  refine v_iload dX10_findNext_41 rfl ?_
                  refine v_iconstI dX10_findNext_43 ?_
                  refine v_iastI dX10_findNext_44 ((hp15 75 (by decide)).trans (ent_75 _)) (s_lt hn rfl) q20.1 q20.2 (ix_le q20.2 (by decide)) (fun h31 E32 F33 => ?_)
                  have hp34 := pic_st hp15 (show h31 75 = ent 75 (uI _ x3 1) from E32) F33
                  have hf35 := Fr.up (c := 75) hf16 F33 rfl
                  refine v_aload_n dX10_findNext_45 rfl ?_
                  refine v_get dX10_findNext_46 fl_X10_21 ((hp34 70 (by decide)).trans (ent_70 _)) rfl (s_lt hn rfl) ?_
                  refine v_iload dX10_findNext_49 rfl ?_
                  refine v_ialdI dX10_findNext_51 ((hp34 74 (by decide)).trans (ent_74 _)) (s_lt hn rfl) q20.1 q20.2 (ix_le q20.2 (by decide)) ?_
                  refine v_istore dX10_findNext_52 (Nat.le_of_ble_eq_true rfl) ?_
                  refine v_iload dX10_findNext_54 rfl ?_
                  refine v_iconstI dX10_findNext_56 ?_
                  replace w := w (fun  (X36 : XT) => ∀ h40 : Nat → sE, Pic X36 h40 → Fr h h40 → V (m_X10_findNext, fu + 1 + 2, 0, 0, n, pIw n h Q, s_G0) 0 0 n h40 73 [(0, .ref 70), (1, .int (iI a0)), (4, .int (iI x3))] []) (by
                    intro  X36 w h40 hp38 hf39
                    refine v_aload_n dX10_findNext_73 rfl ?_
                    refine v_get dX10_findNext_74 fl_X10_21 ((hp38 70 (by decide)).trans (ent_70 _)) rfl (s_lt hn rfl) ?_
                    refine v_iload dX10_findNext_77 rfl ?_
                    refine v_iload_n dX10_findNext_79 rfl ?_
                    refine v_iastI dX10_findNext_80 ((hp38 74 (by decide)).trans (ent_74 _)) (s_lt hn rfl) q20.1 q20.2 (ix_le q20.2 (by decide)) (fun h41 E42 F43 => ?_)
                    have hp44 := pic_st hp38 (show h41 74 = ent 74 (uI _ x3 a0) from E42) F43
                    have hf45 := Fr.up (c := 74) hf39 F43 rfl
                    refine v_iconstI dX10_findNext_81 ?_
                    exact v_z1 dX10_findNext_82 rfl (Nat.zero_le _) (Nat.zero_le _) ⟨rfl, hf45, _, _, rfl, hp44, w⟩
                  )
                  obtain ⟨q46, w⟩ := w
                  refine v_icmp_eqI (tgt := 73) dX10_findNext_57 (by decide) q46.1 q46.2 (by decide) (by decide) (fun c47 => ?_) (fun c47 => ?_)
                  · replace w := w.1 c47
                    refine v_pick [1, 2, 5] rfl ?_
                    exact w _ hp34 hf35
                  · replace w := w.2 c47
                    refine v_aload_n dX10_findNext_60 rfl ?_
                    refine v_iload dX10_findNext_61 rfl ?_
                    refine v_iload_n dX10_findNext_63 rfl ?_
                    refine v_iload_n dX10_findNext_64 rfl ?_
                    refine v_iconstI dX10_findNext_65 ?_
                    refine v_iaddI dX10_findNext_66 ?_
                    refine v_callVIw dX10_findNext_67 ml_X10_100 (ih hn hp34 w) ((hp34 70 (by decide)).trans (ent_70 _)) rfl (s_lt hn rfl) rfl rfl (Nat.le_of_ble_eq_true rfl) (show fu + 2 + 1 ≤ fu + 1 + 2 by omega) (Nat.zero_le _) (Nat.zero_le _) (fun v48 X49 h50 hp52 hf51 w => ?_)
                    have hf53 := Fr.trans hf35 hf51
                    obtain ⟨q54, w⟩ := w
                    refine v_if_eqI (tgt := 83) dX10_findNext_70 (by decide) q54.1 q54.2 (fun c55 => ?_) (fun c55 => ?_)
                    · replace w := w.1 c55
                      refine v_iincI dX10_findNext_83 rfl (Nat.le_of_ble_eq_true rfl) ?_
                      refine v_goto (tgt := 11) dX10_findNext_86 (by decide) ?_
                      refine v_pick [2, 3, 4, 5, 0] rfl ?_
                      exact ih7 _ _ _ (Nat.lt_of_lt_of_le w.2 (Nat.le_of_lt_succ hm11)) w.1 hp52 hf53
                    · replace w := w.2 c55
                      refine v_pick [1, 2, 5] rfl ?_
                      exact w _ hp52 hf53
        exact hL10 _ _ _ _ (Nat.lt_succ_self _) wi9 hp hf
      · replace w := w.2 c2
        refine v_iconstI dX10_findNext_6 ?_
        exact v_z0 dX10_findNext_7 rfl (Nat.zero_le _) (Nat.zero_le _) ⟨rfl, hf, _, _, rfl, hp, w⟩
theorem so_X10_findNext {n : Nat} {h : Nat → sE} {X : XT} {a0 a1 a2 : Int} {Q : Int → XT → Prop} (hn : 115 ≤ n) (hp : Pic X h) (w : w_findNext 26 a0 a1 a2 X Q) : Sp m_X10_findNext 28 0 0 [.ref 70, .int (iI a0), .int (iI a1), .int (iI a2)] n h (pIw n h Q) := (so_findNext 26) hn hp w
theorem dX10_fewestMen_0 : decode cX10_fewestMen 0 = .ok (.iconst 0, 1) := by decide +kernel
theorem dX10_fewestMen_1 : decode cX10_fewestMen 1 = .ok (.istore_n 2, 1) := by decide +kernel
theorem dX10_fewestMen_2 : decode cX10_fewestMen 2 = .ok (.iconst 0, 1) := by decide +kernel
theorem dX10_fewestMen_3 : decode cX10_fewestMen 3 = .ok (.istore_n 3, 1) := by decide +kernel
theorem dX10_fewestMen_4 : decode cX10_fewestMen 4 = .ok (.iload_n 3, 1) := by decide +kernel
theorem dX10_fewestMen_5 : decode cX10_fewestMen 5 = .ok (.aload_n 0, 1) := by decide +kernel
theorem dX10_fewestMen_6 : decode cX10_fewestMen 6 = .ok (.getfield 27, 3) := by decide +kernel
theorem dX10_fewestMen_9 : decode cX10_fewestMen 9 = .ok (.getfield 91, 3) := by decide +kernel
theorem dX10_fewestMen_12 : decode cX10_fewestMen 12 = .ok (.if_icmp .ge 77, 3) := by decide +kernel
theorem dX10_fewestMen_15 : decode cX10_fewestMen 15 = .ok (.iload_n 3, 1) := by decide +kernel
theorem dX10_fewestMen_16 : decode cX10_fewestMen 16 = .ok (.bipush 24, 2) := by decide +kernel
theorem dX10_fewestMen_18 : decode cX10_fewestMen 18 = .ok (.if_icmp .ge 71, 3) := by decide +kernel
theorem dX10_fewestMen_21 : decode cX10_fewestMen 21 = .ok (.aload_n 0, 1) := by decide +kernel
theorem dX10_fewestMen_22 : decode cX10_fewestMen 22 = .ok (.getfield 27, 3) := by decide +kernel
theorem dX10_fewestMen_25 : decode cX10_fewestMen 25 = .ok (.iload_n 3, 1) := by decide +kernel
theorem dX10_fewestMen_26 : decode cX10_fewestMen 26 = .ok (.iconst 0, 1) := by decide +kernel
theorem dX10_fewestMen_27 : decode cX10_fewestMen 27 = .ok (.invokevirtual 94, 3) := by decide +kernel
theorem dX10_fewestMen_30 : decode cX10_fewestMen 30 = .ok (.istore 4, 2) := by decide +kernel
theorem dX10_fewestMen_32 : decode cX10_fewestMen 32 = .ok (.aload_n 1, 1) := by decide +kernel
theorem dX10_fewestMen_33 : decode cX10_fewestMen 33 = .ok (.aload_n 0, 1) := by decide +kernel
theorem dX10_fewestMen_34 : decode cX10_fewestMen 34 = .ok (.getfield 27, 3) := by decide +kernel
theorem dX10_fewestMen_37 : decode cX10_fewestMen 37 = .ok (.iload_n 3, 1) := by decide +kernel
theorem dX10_fewestMen_38 : decode cX10_fewestMen 38 = .ok (.iconst 1, 1) := by decide +kernel
theorem dX10_fewestMen_39 : decode cX10_fewestMen 39 = .ok (.invokevirtual 94, 3) := by decide +kernel
theorem dX10_fewestMen_42 : decode cX10_fewestMen 42 = .ok (.iload 4, 2) := by decide +kernel
theorem dX10_fewestMen_44 : decode cX10_fewestMen 44 = .ok (.invokevirtual 97, 3) := by decide +kernel
theorem dX10_fewestMen_47 : decode cX10_fewestMen 47 = .ok (.istore 5, 2) := by decide +kernel
theorem dX10_fewestMen_49 : decode cX10_fewestMen 49 = .ok (.iload 5, 2) := by decide +kernel
theorem dX10_fewestMen_51 : decode cX10_fewestMen 51 = .ok (.sipush 576, 3) := by decide +kernel
theorem dX10_fewestMen_54 : decode cX10_fewestMen 54 = .ok (.if_icmp .eq 29, 3) := by decide +kernel
theorem dX10_fewestMen_57 : decode cX10_fewestMen 57 = .ok (.aload_n 0, 1) := by decide +kernel
theorem dX10_fewestMen_58 : decode cX10_fewestMen 58 = .ok (.getfield 18, 3) := by decide +kernel
theorem dX10_fewestMen_61 : decode cX10_fewestMen 61 = .ok (.iload_n 2, 1) := by decide +kernel
theorem dX10_fewestMen_62 : decode cX10_fewestMen 62 = .ok (.iload 4, 2) := by decide +kernel
theorem dX10_fewestMen_64 : decode cX10_fewestMen 64 = .ok (.iastore, 1) := by decide +kernel
theorem dX10_fewestMen_65 : decode cX10_fewestMen 65 = .ok (.aload_n 0, 1) := by decide +kernel
theorem dX10_fewestMen_66 : decode cX10_fewestMen 66 = .ok (.getfield 15, 3) := by decide +kernel
theorem dX10_fewestMen_69 : decode cX10_fewestMen 69 = .ok (.iload_n 2, 1) := by decide +kernel
theorem dX10_fewestMen_70 : decode cX10_fewestMen 70 = .ok (.iload 5, 2) := by decide +kernel
theorem dX10_fewestMen_72 : decode cX10_fewestMen 72 = .ok (.iastore, 1) := by decide +kernel
theorem dX10_fewestMen_73 : decode cX10_fewestMen 73 = .ok (.aload_n 0, 1) := by decide +kernel
theorem dX10_fewestMen_74 : decode cX10_fewestMen 74 = .ok (.getfield 21, 3) := by decide +kernel
theorem dX10_fewestMen_77 : decode cX10_fewestMen 77 = .ok (.iload_n 2, 1) := by decide +kernel
theorem dX10_fewestMen_78 : decode cX10_fewestMen 78 = .ok (.iconst (-1), 1) := by decide +kernel
theorem dX10_fewestMen_79 : decode cX10_fewestMen 79 = .ok (.iastore, 1) := by decide +kernel
theorem dX10_fewestMen_80 : decode cX10_fewestMen 80 = .ok (.iinc 2 1, 3) := by decide +kernel
theorem dX10_fewestMen_83 : decode cX10_fewestMen 83 = .ok (.iinc 3 1, 3) := by decide +kernel
theorem dX10_fewestMen_86 : decode cX10_fewestMen 86 = .ok (.goto (-82), 3) := by decide +kernel
theorem dX10_fewestMen_89 : decode cX10_fewestMen 89 = .ok (.iload_n 2, 1) := by decide +kernel
theorem dX10_fewestMen_90 : decode cX10_fewestMen 90 = .ok (.istore_n 3, 1) := by decide +kernel
theorem dX10_fewestMen_91 : decode cX10_fewestMen 91 = .ok (.iconst 0, 1) := by decide +kernel
theorem dX10_fewestMen_92 : decode cX10_fewestMen 92 = .ok (.istore 4, 2) := by decide +kernel
theorem dX10_fewestMen_94 : decode cX10_fewestMen 94 = .ok (.iload 4, 2) := by decide +kernel
theorem dX10_fewestMen_96 : decode cX10_fewestMen 96 = .ok (.iload_n 2, 1) := by decide +kernel
theorem dX10_fewestMen_97 : decode cX10_fewestMen 97 = .ok (.if_icmp .ge 46, 3) := by decide +kernel
theorem dX10_fewestMen_100 : decode cX10_fewestMen 100 = .ok (.iconst 0, 1) := by decide +kernel
theorem dX10_fewestMen_101 : decode cX10_fewestMen 101 = .ok (.istore 5, 2) := by decide +kernel
theorem dX10_fewestMen_103 : decode cX10_fewestMen 103 = .ok (.iload 5, 2) := by decide +kernel
theorem dX10_fewestMen_105 : decode cX10_fewestMen 105 = .ok (.iload_n 2, 1) := by decide +kernel
theorem dX10_fewestMen_106 : decode cX10_fewestMen 106 = .ok (.if_icmp .ge 17, 3) := by decide +kernel
theorem dX10_fewestMen_109 : decode cX10_fewestMen 109 = .ok (.aload_n 0, 1) := by decide +kernel
theorem dX10_fewestMen_110 : decode cX10_fewestMen 110 = .ok (.getfield 24, 3) := by decide +kernel
theorem dX10_fewestMen_113 : decode cX10_fewestMen 113 = .ok (.iload 5, 2) := by decide +kernel
theorem dX10_fewestMen_115 : decode cX10_fewestMen 115 = .ok (.iconst 0, 1) := by decide +kernel
theorem dX10_fewestMen_116 : decode cX10_fewestMen 116 = .ok (.iastore, 1) := by decide +kernel
theorem dX10_fewestMen_117 : decode cX10_fewestMen 117 = .ok (.iinc 5 1, 3) := by decide +kernel
theorem dX10_fewestMen_120 : decode cX10_fewestMen 120 = .ok (.goto (-17), 3) := by decide +kernel
theorem dX10_fewestMen_123 : decode cX10_fewestMen 123 = .ok (.aload_n 0, 1) := by decide +kernel
theorem dX10_fewestMen_124 : decode cX10_fewestMen 124 = .ok (.iload 4, 2) := by decide +kernel
theorem dX10_fewestMen_126 : decode cX10_fewestMen 126 = .ok (.iload_n 2, 1) := by decide +kernel
theorem dX10_fewestMen_127 : decode cX10_fewestMen 127 = .ok (.iconst 0, 1) := by decide +kernel
theorem dX10_fewestMen_128 : decode cX10_fewestMen 128 = .ok (.invokevirtual 100, 3) := by decide +kernel
theorem dX10_fewestMen_131 : decode cX10_fewestMen 131 = .ok (.ifCond .eq 6, 3) := by decide +kernel
theorem dX10_fewestMen_134 : decode cX10_fewestMen 134 = .ok (.iinc 3 (-1), 3) := by decide +kernel
theorem dX10_fewestMen_137 : decode cX10_fewestMen 137 = .ok (.iinc 4 1, 3) := by decide +kernel
theorem dX10_fewestMen_140 : decode cX10_fewestMen 140 = .ok (.goto (-46), 3) := by decide +kernel
theorem dX10_fewestMen_143 : decode cX10_fewestMen 143 = .ok (.iload_n 3, 1) := by decide +kernel
theorem dX10_fewestMen_144 : decode cX10_fewestMen 144 = .ok (.ireturn, 1) := by decide +kernel
def w_X10_fewestMen (ta sb : Nat) (X : XT) (Q : Int → XT → Prop) : Prop :=
  ∃ (I4 : Int → Int → XT → Prop) (m5 : Int → Int → XT → Nat), I4 0 0 X ∧ ∀ (x1 : Int) (x2 : Int) (X3 : XT), I4 x1 x2 X3 → ∀ J16 : Prop, ((∃ (I20 : Int → Int → XT → Prop) (m21 : Int → Int → XT → Nat), I20 x1 0 X3 ∧ ∀ (x17 : Int) (x18 : Int) (X19 : XT), I20 x17 x18 X19 → R32 x18 ∧ R32 x1 ∧ (x1 ≤ x18 → Q x17 X19) ∧ (¬ x1 ≤ x18 → ∃ (I37 : Int → XT → Prop) (m38 : Int → XT → Nat), I37 0 X19 ∧ ∀ (x35 : Int) (X36 : XT), I37 x35 X36 → R32 x35 ∧ (x1 ≤ x35 → w_findNext 26  x18 x1 0 X36 (fun (v51 : Int) (X52 : XT) => R32 v51 ∧ (v51 = 0 → I20 x17 (x18 + 1) X52 ∧ m21 x17 (x18 + 1) X52 < m21 x17 x18 X19) ∧ (¬ v51 = 0 → I20 (x17 + (-1)) (x18 + 1) X52 ∧ m21 (x17 + (-1)) (x18 + 1) X52 < m21 x17 x18 X19))) ∧ (¬ x1 ≤ x35 → (0 ≤ x35 ∧ x35 < 24) ∧ I37 (x35 + 1) (x_st X36 75 x35 0) ∧ m38 (x35 + 1) (x_st X36 75 x35 0) < m38 x35 X36))) → J16) → R32 x2 ∧ R32 (X3 1 10) ∧ ((X3 1 10) ≤ x2 → J16 ) ∧ (¬ (X3 1 10) ≤ x2 → (24 ≤ x2 → J16 ) ∧ (¬ 24 ≤ x2 → (0 ≤ x2 ∧ x2 ≤ 23) ∧ w_X8_spotOf ta sb (X3 6 (x2 * 3 + 1)) (X3 6 (x2 * 3 + 0)) X3 (fun (v70 : Int) => R32 v70 ∧ (v70 = 576 → I4 x1 (x2 + 1) X3 ∧ m5 x1 (x2 + 1) X3 < m5 x1 x2 X3) ∧ (¬ v70 = 576 → (0 ≤ x1 ∧ x1 < 24) ∧ I4 (x1 + 1) (x2 + 1) (x_st (x_st (x_st X3 73 x1 (X3 6 (x2 * 3 + 0))) 72 x1 v70) 74 x1 (-1)) ∧ m5 (x1 + 1) (x2 + 1) (x_st (x_st (x_st X3 73 x1 (X3 6 (x2 * 3 + 0))) 72 x1 v70) 74 x1 (-1)) < m5 x1 x2 X3))))
set_option maxRecDepth 20000 in
theorem so_X10_fewestMen_49 {n : Nat} {h : Nat → sE} {X : XT} {Q : Int → XT → Prop} (hn : 115 ≤ n) (hp : Pic X h) (w : w_X10_fewestMen 50 51  X Q) : Sp m_X10_fewestMen 29 0 0 [.ref 70, .ref 49] n h (pIw n h Q) := by
  unfold w_X10_fewestMen at w
  refine Sp.ofV (by decide +kernel) (Nat.le_of_ble_eq_true rfl) ?_
  have hf : Fr h h := fun _ _ => rfl
  refine v_iconstI dX10_fewestMen_0 ?_
  refine v_istore_n dX10_fewestMen_1 (Nat.le_of_ble_eq_true rfl) ?_
  refine v_iconstI dX10_fewestMen_2 ?_
  refine v_istore_n dX10_fewestMen_3 (Nat.le_of_ble_eq_true rfl) ?_
  refine v_pick [2, 3, 1, 0] rfl ?_
  obtain ⟨I4, m5, wi8, wl7⟩ := w
  have hL9 : ∀ (N12 : Nat) (x1 : Int) (x2 : Int) (X3 : XT) (h13 : Nat → sE), m5 x1 x2 X3 < N12 → I4 x1 x2 X3 → Pic X3 h13 → Fr h h13 → V (m_X10_fewestMen, 29, 0, 0, n, pIw n h Q, s_G0) 0 0 n h13 4 [(0, .ref 70), (1, .ref 49), (2, .int (iI x1)), (3, .int (iI x2))] [] := by
    intro N12
    induction N12 with
    | zero => intro x1 x2 X3 h13 hm10; exact absurd hm10 (Nat.not_lt_zero _)
    | succ N12 ih6 =>
      intro x1 x2 X3 h13 hm10 hI11 hp14 hf15
      have w := wl7 x1 x2 X3 hI11
      refine v_iload_n dX10_fewestMen_4 rfl ?_
      refine v_aload_n dX10_fewestMen_5 rfl ?_
      refine v_get dX10_fewestMen_6 fl_X10_27 ((hp14 70 (by decide)).trans (ent_70 _)) rfl (s_lt hn rfl) ?_
      refine v_get dX10_fewestMen_9 fl_X10_91 ((hp14 1 (by decide)).trans (ent_1 _)) rfl (s_lt hn rfl) ?_
      replace w := w (V (m_X10_fewestMen, 29, 0, 0, n, pIw n h Q, s_G0) 0 0 n h13 89 [(0, .ref 70), (2, .int (iI x1))] []) (by
        intro  w
        refine v_iload_n dX10_fewestMen_89 rfl ?_
        refine v_istore_n dX10_fewestMen_90 (Nat.le_of_ble_eq_true rfl) ?_
        refine v_iconstI dX10_fewestMen_91 ?_
        refine v_istore dX10_fewestMen_92 (Nat.le_of_ble_eq_true rfl) ?_
        refine v_pick [2, 3, 1, 0] rfl ?_
        obtain ⟨I20, m21, wi24, wl23⟩ := w
        have hL25 : ∀ (N28 : Nat) (x17 : Int) (x18 : Int) (X19 : XT) (h29 : Nat → sE), m21 x17 x18 X19 < N28 → I20 x17 x18 X19 → Pic X19 h29 → Fr h h29 → V (m_X10_fewestMen, 29, 0, 0, n, pIw n h Q, s_G0) 0 0 n h29 94 [(0, .ref 70), (2, .int (iI x1)), (3, .int (iI x17)), (4, .int (iI x18))] [] := by
          intro N28
          induction N28 with
          | zero => intro x17 x18 X19 h29 hm26; exact absurd hm26 (Nat.not_lt_zero _)
          | succ N28 ih22 =>
            intro x17 x18 X19 h29 hm26 hI27 hp30 hf31
            have w := wl23 x17 x18 X19 hI27
            refine v_iload dX10_fewestMen_94 rfl ?_
            refine v_iload_n dX10_fewestMen_96 rfl ?_
            obtain ⟨q32, q33, w⟩ := w
            refine v_icmp_geI (tgt := 143) dX10_fewestMen_97 (by decide) q32.1 q32.2 q33.1 q33.2 (fun c34 => ?_) (fun c34 => ?_)
            · replace w := w.1 c34
              refine v_iload_n dX10_fewestMen_143 rfl ?_
              exact v_iret dX10_fewestMen_144 rfl (Nat.zero_le _) (Nat.zero_le _) ⟨rfl, hf31, _, _, rfl, hp30, w⟩
            · replace w := w.2 c34
              refine v_iconstI dX10_fewestMen_100 ?_
              refine v_istore dX10_fewestMen_101 (Nat.le_of_ble_eq_true rfl) ?_
              refine v_pick [1, 2, 3, 4, 0] rfl ?_
              obtain ⟨I37, m38, wi41, wl40⟩ := w
              have hL42 : ∀ (N45 : Nat) (x35 : Int) (X36 : XT) (h46 : Nat → sE), m38 x35 X36 < N45 → I37 x35 X36 → Pic X36 h46 → Fr h h46 → V (m_X10_fewestMen, 29, 0, 0, n, pIw n h Q, s_G0) 0 0 n h46 103 [(0, .ref 70), (2, .int (iI x1)), (3, .int (iI x17)), (4, .int (iI x18)), (5, .int (iI x35))] [] := by
                intro N45
                induction N45 with
                | zero => intro x35 X36 h46 hm43; exact absurd hm43 (Nat.not_lt_zero _)
                | succ N45 ih39 =>
                  intro x35 X36 h46 hm43 hI44 hp47 hf48
                  have w := wl40 x35 X36 hI44
                  refine v_iload dX10_fewestMen_103 rfl ?_
                  refine v_iload_n dX10_fewestMen_105 rfl ?_
                  obtain ⟨q49, w⟩ := w
                  refine v_icmp_geI (tgt := 123) dX10_fewestMen_106 (by decide) q49.1 q49.2 q33.1 q33.2 (fun c50 => ?_) (fun c50 => ?_)
                  · replace w := w.1 c50
                    refine v_aload_n dX10_fewestMen_123 rfl ?_
                    refine v_iload dX10_fewestMen_124 rfl ?_
                    refine v_iload_n dX10_fewestMen_126 rfl ?_
                    refine v_iconstI dX10_fewestMen_127 ?_
                    refine v_callVIw dX10_fewestMen_128 ml_X10_100 (so_X10_findNext hn hp47  w) ((hp47 70 (by decide)).trans (ent_70 _)) rfl (s_lt hn rfl) rfl rfl (Nat.le_of_ble_eq_true rfl) (Nat.le_of_ble_eq_true rfl) (Nat.zero_le _) (Nat.zero_le _) (fun v51 X52 h53 hp55 hf54 w => ?_)
                    have hf56 := Fr.trans hf48 hf54
                    obtain ⟨q57, w⟩ := w
                    refine v_if_eqI (tgt := 137) dX10_fewestMen_131 (by decide) q57.1 q57.2 (fun c58 => ?_) (fun c58 => ?_)
                    · replace w := w.1 c58
                      refine v_iincI dX10_fewestMen_137 rfl (Nat.le_of_ble_eq_true rfl) ?_
                      refine v_goto (tgt := 94) dX10_fewestMen_140 (by decide) ?_
                      refine v_pick [1, 2, 3, 0] rfl ?_
                      exact ih22 _ _ _ _ (Nat.lt_of_lt_of_le w.2 (Nat.le_of_lt_succ hm26)) w.1 hp55 hf56
                    · replace w := w.2 c58
                      refine v_iincI dX10_fewestMen_134 rfl (Nat.le_of_ble_eq_true rfl) ?_
                      refine v_iincI dX10_fewestMen_137 rfl (Nat.le_of_ble_eq_true rfl) ?_
                      refine v_goto (tgt := 94) dX10_fewestMen_140 (by decide) ?_
                      refine v_pick [2, 3, 1, 0] rfl ?_
                      exact ih22 _ _ _ _ (Nat.lt_of_lt_of_le w.2 (Nat.le_of_lt_succ hm26)) w.1 hp55 hf56
                  · replace w := w.2 c50
                    refine v_aload_n dX10_fewestMen_109 rfl ?_
                    refine v_get dX10_fewestMen_110 fl_X10_24 ((hp47 70 (by decide)).trans (ent_70 _)) rfl (s_lt hn rfl) ?_
                    refine v_iload dX10_fewestMen_113 rfl ?_
                    refine v_iconstI dX10_fewestMen_115 ?_
                    obtain ⟨q59, w⟩ := w
                    refine v_iastI dX10_fewestMen_116 ((hp47 75 (by decide)).trans (ent_75 _)) (s_lt hn rfl) q59.1 q59.2 (ix_le q59.2 (by decide)) (fun h60 E61 F62 => ?_)
                    have hp63 := pic_st hp47 (show h60 75 = ent 75 (uI _ x35 0) from E61) F62
                    have hf64 := Fr.up (c := 75) hf48 F62 rfl
                    refine v_iincI dX10_fewestMen_117 rfl (Nat.le_of_ble_eq_true rfl) ?_
                    refine v_goto (tgt := 103) dX10_fewestMen_120 (by decide) ?_
                    refine v_pick [1, 2, 3, 4, 0] rfl ?_
                    exact ih39 _ _ _ (Nat.lt_of_lt_of_le w.2 (Nat.le_of_lt_succ hm43)) w.1 hp63 hf64
              exact hL42 _ _ _ _ (Nat.lt_succ_self _) wi41 hp30 hf31
        exact hL25 _ _ _ _ _ (Nat.lt_succ_self _) wi24 hp14 hf15
      )
      obtain ⟨q65, q66, w⟩ := w
      refine v_icmp_geI (tgt := 89) dX10_fewestMen_12 (by decide) q65.1 q65.2 q66.1 q66.2 (fun c67 => ?_) (fun c67 => ?_)
      · replace w := w.1 c67
        refine v_pick [0, 2] rfl ?_
        exact w
      · replace w := w.2 c67
        refine v_iload_n dX10_fewestMen_15 rfl ?_
        refine v_bipushI dX10_fewestMen_16 rfl ?_
        refine v_icmp_geI (tgt := 89) dX10_fewestMen_18 (by decide) q65.1 q65.2 (by decide) (by decide) (fun c68 => ?_) (fun c68 => ?_)
        · replace w := w.1 c68
          refine v_pick [0, 2] rfl ?_
          exact w
        · replace w := w.2 c68
          refine v_aload_n dX10_fewestMen_21 rfl ?_
          refine v_get dX10_fewestMen_22 fl_X10_27 ((hp14 70 (by decide)).trans (ent_70 _)) rfl (s_lt hn rfl) ?_
          refine v_iload_n dX10_fewestMen_25 rfl ?_
          refine v_iconstI dX10_fewestMen_26 ?_
          obtain ⟨q69, w⟩ := w
          refine v_callVp dX10_fewestMen_27 ml_X10_94 (sv_X3_flagFact (a := x2) (b := 0) (g1 := X3 1) (g6 := X3 6) hn (hp14 1 (by decide)) (hp14 6 (by decide)) q69 (by decide)) ((hp14 1 (by decide)).trans (ent_1 _)) rfl (s_lt hn rfl) rfl rfl (Nat.le_of_ble_eq_true rfl) (Nat.le_of_ble_eq_true rfl) (Nat.zero_le _) (Nat.zero_le _) ?_
          refine v_istore dX10_fewestMen_30 (Nat.le_of_ble_eq_true rfl) ?_
          refine v_aload_n dX10_fewestMen_32 rfl ?_
          refine v_aload_n dX10_fewestMen_33 rfl ?_
          refine v_get dX10_fewestMen_34 fl_X10_27 ((hp14 70 (by decide)).trans (ent_70 _)) rfl (s_lt hn rfl) ?_
          refine v_iload_n dX10_fewestMen_37 rfl ?_
          refine v_iconstI dX10_fewestMen_38 ?_
          refine v_callVp dX10_fewestMen_39 ml_X10_94 (sv_X3_flagFact (a := x2) (b := 1) (g1 := X3 1) (g6 := X3 6) hn (hp14 1 (by decide)) (hp14 6 (by decide)) q69 (by decide)) ((hp14 1 (by decide)).trans (ent_1 _)) rfl (s_lt hn rfl) rfl rfl (Nat.le_of_ble_eq_true rfl) (Nat.le_of_ble_eq_true rfl) (Nat.zero_le _) (Nat.zero_le _) ?_
          refine v_iload dX10_fewestMen_42 rfl ?_
          refine v_callVIr dX10_fewestMen_44 ml_X10_97 (so_X8_spotOf_49 hn hp14  w) ((hp14 49 (by decide)).trans (ent_49 _)) rfl (s_lt hn rfl) rfl rfl (Nat.le_of_ble_eq_true rfl) (Nat.le_of_ble_eq_true rfl) (Nat.zero_le _) (Nat.zero_le _) (fun v70 w => ?_)
          refine v_istore dX10_fewestMen_47 (Nat.le_of_ble_eq_true rfl) ?_
          refine v_iload dX10_fewestMen_49 rfl ?_
          refine v_sipushI dX10_fewestMen_51 rfl ?_
          obtain ⟨q76, w⟩ := w
          refine v_icmp_eqI (tgt := 83) dX10_fewestMen_54 (by decide) q76.1 q76.2 (by decide) (by decide) (fun c77 => ?_) (fun c77 => ?_)
          · replace w := w.1 c77
            refine v_iincI dX10_fewestMen_83 rfl (Nat.le_of_ble_eq_true rfl) ?_
            refine v_goto (tgt := 4) dX10_fewestMen_86 (by decide) ?_
            refine v_pick [3, 4, 5, 0] rfl ?_
            exact ih6 _ _ _ _ (Nat.lt_of_lt_of_le w.2 (Nat.le_of_lt_succ hm10)) w.1 hp14 hf15
          · replace w := w.2 c77
            refine v_aload_n dX10_fewestMen_57 rfl ?_
            refine v_get dX10_fewestMen_58 fl_X10_18 ((hp14 70 (by decide)).trans (ent_70 _)) rfl (s_lt hn rfl) ?_
            refine v_iload_n dX10_fewestMen_61 rfl ?_
            refine v_iload dX10_fewestMen_62 rfl ?_
            obtain ⟨q78, w⟩ := w
            refine v_iastI dX10_fewestMen_64 ((hp14 73 (by decide)).trans (ent_73 _)) (s_lt hn rfl) q78.1 q78.2 (ix_le q78.2 (by decide)) (fun h79 E80 F81 => ?_)
            have hp82 := pic_st hp14 (show h79 73 = ent 73 (uI _ x1 (X3 6 (x2 * 3 + 0))) from E80) F81
            have hf83 := Fr.up (c := 73) hf15 F81 rfl
            refine v_aload_n dX10_fewestMen_65 rfl ?_
            refine v_get dX10_fewestMen_66 fl_X10_15 ((hp82 70 (by decide)).trans (ent_70 _)) rfl (s_lt hn rfl) ?_
            refine v_iload_n dX10_fewestMen_69 rfl ?_
            refine v_iload dX10_fewestMen_70 rfl ?_
            refine v_iastI dX10_fewestMen_72 ((hp82 72 (by decide)).trans (ent_72 _)) (s_lt hn rfl) q78.1 q78.2 (ix_le q78.2 (by decide)) (fun h84 E85 F86 => ?_)
            have hp87 := pic_st hp82 (show h84 72 = ent 72 (uI _ x1 v70) from E85) F86
            have hf88 := Fr.up (c := 72) hf83 F86 rfl
            refine v_aload_n dX10_fewestMen_73 rfl ?_
            refine v_get dX10_fewestMen_74 fl_X10_21 ((hp87 70 (by decide)).trans (ent_70 _)) rfl (s_lt hn rfl) ?_
            refine v_iload_n dX10_fewestMen_77 rfl ?_
            refine v_iconstI dX10_fewestMen_78 ?_
            refine v_iastI dX10_fewestMen_79 ((hp87 74 (by decide)).trans (ent_74 _)) (s_lt hn rfl) q78.1 q78.2 (ix_le q78.2 (by decide)) (fun h89 E90 F91 => ?_)
            have hp92 := pic_st hp87 (show h89 74 = ent 74 (uI _ x1 (-1)) from E90) F91
            have hf93 := Fr.up (c := 74) hf88 F91 rfl
            refine v_iincI dX10_fewestMen_80 rfl (Nat.le_of_ble_eq_true rfl) ?_
            refine v_iincI dX10_fewestMen_83 rfl (Nat.le_of_ble_eq_true rfl) ?_
            refine v_goto (tgt := 4) dX10_fewestMen_86 (by decide) ?_
            refine v_pick [4, 5, 1, 0] rfl ?_
            exact ih6 _ _ _ _ (Nat.lt_of_lt_of_le w.2 (Nat.le_of_lt_succ hm10)) w.1 hp92 hf93
  exact hL9 _ _ _ _ _ (Nat.lt_succ_self _) wi8 hp hf
theorem dX11_men_0 : decode cX11_men 0 = .ok (.aload_n 0, 1) := by decide +kernel
theorem dX11_men_1 : decode cX11_men 1 = .ok (.getfield 52, 3) := by decide +kernel
theorem dX11_men_4 : decode cX11_men 4 = .ok (.invokevirtual 245, 3) := by decide +kernel
theorem dX11_men_7 : decode cX11_men 7 = .ok (.aload_n 0, 1) := by decide +kernel
theorem dX11_men_8 : decode cX11_men 8 = .ok (.getfield 91, 3) := by decide +kernel
theorem dX11_men_11 : decode cX11_men 11 = .ok (.aload_n 0, 1) := by decide +kernel
theorem dX11_men_12 : decode cX11_men 12 = .ok (.getfield 52, 3) := by decide +kernel
theorem dX11_men_15 : decode cX11_men 15 = .ok (.invokevirtual 333, 3) := by decide +kernel
theorem dX11_men_18 : decode cX11_men 18 = .ok (.ireturn, 1) := by decide +kernel
def w_X11_men (K : LK) (X : XT) (Q : Int → XT → Prop) : Prop :=
  w_X8_look K 50 51  X (fun (X2 : XT) => w_X10_fewestMen 50 51  X2 (fun (v7 : Int) (X8 : XT) => Q v7 X8))
set_option maxRecDepth 20000 in
theorem so_X11_men {n : Nat} {h : Nat → sE} {X : XT} {K : LK} {hk : Nat → sE} (hK : LKok K n hk) {Q : Int → XT → Prop} (hn : 115 ≤ n) (hp : Pic X h) (hf9 : Fr hk h) (w : w_X11_men K   X Q) : Sp m_X11_men 30 0 0 [.ref 0] n h (pIw n h Q) := by
  unfold w_X11_men at w
  refine Sp.ofV (by decide +kernel) (Nat.le_of_ble_eq_true rfl) ?_
  have hf : Fr h h := fun _ _ => rfl
  refine v_aload_n dX11_men_0 rfl ?_
  refine v_get dX11_men_1 fl_X11_52 ((hp 0 (by decide)).trans (ent_0 _)) rfl (s_lt hn rfl) ?_
  refine v_callVVw dX11_men_4 ml_X11_245 (so_X8_look_49 hK hn hp (Fr.trans hf9 hf) w) ((hp 49 (by decide)).trans (ent_49 _)) rfl (s_lt hn rfl) rfl rfl (Nat.le_of_ble_eq_true rfl) (Nat.le_of_ble_eq_true rfl) (Nat.zero_le _) (Nat.zero_le _) (fun X2 h3 hp5 hf4 w => ?_)
  have hf6 := Fr.trans hf hf4
  refine v_aload_n dX11_men_7 rfl ?_
  refine v_get dX11_men_8 fl_X11_91 ((hp5 0 (by decide)).trans (ent_0 _)) rfl (s_lt hn rfl) ?_
  refine v_aload_n dX11_men_11 rfl ?_
  refine v_get dX11_men_12 fl_X11_52 ((hp5 0 (by decide)).trans (ent_0 _)) rfl (s_lt hn rfl) ?_
  refine v_callVIw dX11_men_15 ml_X11_333 (so_X10_fewestMen_49 hn hp5  w) ((hp5 70 (by decide)).trans (ent_70 _)) rfl (s_lt hn rfl) rfl rfl (Nat.le_of_ble_eq_true rfl) (Nat.le_of_ble_eq_true rfl) (Nat.zero_le _) (Nat.zero_le _) (fun v7 X8 h9 hp11 hf10 w => ?_)
  have hf12 := Fr.trans hf6 hf10
  exact v_iret dX11_men_18 rfl (Nat.zero_le _) (Nat.zero_le _) ⟨rfl, hf12, _, _, rfl, hp11, w⟩

/-! THE REFERENCE'S METHODS, 1 of 5: texts over the picture, by program (tools/wp.py) -/
theorem dX12_four_0 : decode cX12_four 0 = .ok (.bipush 24, 2) := by decide +kernel
theorem dX12_four_2 : decode cX12_four 2 = .ok (.istore_n 2, 1) := by decide +kernel
theorem dX12_four_3 : decode cX12_four 3 = .ok (.iload_n 2, 1) := by decide +kernel
theorem dX12_four_4 : decode cX12_four 4 = .ok (.ifCond .lt 35, 3) := by decide +kernel
theorem dX12_four_7 : decode cX12_four 7 = .ok (.aload_n 0, 1) := by decide +kernel
theorem dX12_four_8 : decode cX12_four 8 = .ok (.getfield 23, 3) := by decide +kernel
theorem dX12_four_11 : decode cX12_four 11 = .ok (.aload_n 0, 1) := by decide +kernel
theorem dX12_four_12 : decode cX12_four 12 = .ok (.getfield 241, 3) := by decide +kernel
theorem dX12_four_15 : decode cX12_four 15 = .ok (.iload_n 1, 1) := by decide +kernel
theorem dX12_four_16 : decode cX12_four 16 = .ok (.iload_n 2, 1) := by decide +kernel
theorem dX12_four_17 : decode cX12_four 17 = .ok (.ishr, 1) := by decide +kernel
theorem dX12_four_18 : decode cX12_four 18 = .ok (.sipush 255, 3) := by decide +kernel
theorem dX12_four_21 : decode cX12_four 21 = .ok (.iand, 1) := by decide +kernel
theorem dX12_four_22 : decode cX12_four 22 = .ok (.iastore, 1) := by decide +kernel
theorem dX12_four_23 : decode cX12_four 23 = .ok (.aload_n 0, 1) := by decide +kernel
theorem dX12_four_24 : decode cX12_four 24 = .ok (.dup, 1) := by decide +kernel
theorem dX12_four_25 : decode cX12_four 25 = .ok (.getfield 241, 3) := by decide +kernel
theorem dX12_four_28 : decode cX12_four 28 = .ok (.iconst 1, 1) := by decide +kernel
theorem dX12_four_29 : decode cX12_four 29 = .ok (.iadd, 1) := by decide +kernel
theorem dX12_four_30 : decode cX12_four 30 = .ok (.putfield 241, 3) := by decide +kernel
theorem dX12_four_33 : decode cX12_four 33 = .ok (.iinc 2 (-8), 3) := by decide +kernel
theorem dX12_four_36 : decode cX12_four 36 = .ok (.goto (-33), 3) := by decide +kernel
theorem dX12_four_39 : decode cX12_four 39 = .ok (.return_, 1) := by decide +kernel
def w_X12_four (a0 : Int) (X : XT) (Q : XT → Prop) : Prop :=
  ∃ (I3 : Int → XT → Prop) (m4 : Int → XT → Nat), I3 24 X ∧ ∀ (x1 : Int) (X2 : XT), I3 x1 X2 → R32 x1 ∧ (x1 < 0 → Q X2) ∧ (¬ x1 < 0 → (0 ≤ (X2 77 8) ∧ (X2 77 8) < 400) ∧ I3 (x1 + (-8)) (x_st (x_st X2 82 (X2 77 8) (oAnd (oShr a0 x1) 255)) 77 8 (((x_st X2 82 (X2 77 8) (oAnd (oShr a0 x1) 255)) 77 8) + 1)) ∧ m4 (x1 + (-8)) (x_st (x_st X2 82 (X2 77 8) (oAnd (oShr a0 x1) 255)) 77 8 (((x_st X2 82 (X2 77 8) (oAnd (oShr a0 x1) 255)) 77 8) + 1)) < m4 x1 X2)
set_option maxRecDepth 20000 in
theorem so_X12_four {n : Nat} {h : Nat → sE} {X : XT} {a0 : Int} {Q : XT → Prop} (hn : 115 ≤ n) (hp : Pic X h) (w : w_X12_four  a0 X Q) : Sp m_X12_four 0 0 0 [.ref 77, .int (iI a0)] n h (pVw n h Q) := by
  unfold w_X12_four at w
  refine Sp.ofV (by decide +kernel) (Nat.le_of_ble_eq_true rfl) ?_
  have hf : Fr h h := fun _ _ => rfl
  refine v_bipushI dX12_four_0 rfl ?_
  refine v_istore_n dX12_four_2 (Nat.le_of_ble_eq_true rfl) ?_
  refine v_pick [1, 2, 0] rfl ?_
  obtain ⟨I3, m4, wi7, wl6⟩ := w
  have hL8 : ∀ (N11 : Nat) (x1 : Int) (X2 : XT) (h12 : Nat → sE), m4 x1 X2 < N11 → I3 x1 X2 → Pic X2 h12 → Fr h h12 → V (m_X12_four, 0, 0, 0, n, pVw n h Q, s_G0) 0 0 n h12 3 [(0, .ref 77), (1, .int (iI a0)), (2, .int (iI x1))] [] := by
    intro N11
    induction N11 with
    | zero => intro x1 X2 h12 hm9; exact absurd hm9 (Nat.not_lt_zero _)
    | succ N11 ih5 =>
      intro x1 X2 h12 hm9 hI10 hp13 hf14
      have w := wl6 x1 X2 hI10
      refine v_iload_n dX12_four_3 rfl ?_
      obtain ⟨q15, w⟩ := w
      refine v_if_ltI (tgt := 39) dX12_four_4 (by decide) q15.1 q15.2 (fun c16 => ?_) (fun c16 => ?_)
      · replace w := w.1 c16
        exact v_vret dX12_four_39 rfl (Nat.zero_le _) (Nat.zero_le _) ⟨rfl, hf14, _, rfl, hp13, w⟩
      · replace w := w.2 c16
        refine v_aload_n dX12_four_7 rfl ?_
        refine v_get dX12_four_8 fl_X12_23 ((hp13 77 (by decide)).trans (ent_77 _)) rfl (s_lt hn rfl) ?_
        refine v_aload_n dX12_four_11 rfl ?_
        refine v_get dX12_four_12 fl_X12_241 ((hp13 77 (by decide)).trans (ent_77 _)) rfl (s_lt hn rfl) ?_
        refine v_iload_n dX12_four_15 rfl ?_
        refine v_iload_n dX12_four_16 rfl ?_
        refine v_ishrI dX12_four_17 ?_
        refine v_sipushI dX12_four_18 rfl ?_
        refine v_iandI dX12_four_21 ?_
        obtain ⟨q17, w⟩ := w
        refine v_iastI dX12_four_22 ((hp13 82 (by decide)).trans (ent_82 _)) (s_lt hn rfl) q17.1 q17.2 (ix_le q17.2 (by decide)) (fun h18 E19 F20 => ?_)
        have hp21 := pic_st hp13 (show h18 82 = ent 82 (uI _ (X2 77 8) (oAnd (oShr a0 x1) 255)) from E19) F20
        have hf22 := Fr.up (c := 82) hf14 F20 rfl
        refine v_aload_n dX12_four_23 rfl ?_
        refine v_dup dX12_four_24 rfl ?_
        refine v_get dX12_four_25 fl_X12_241 ((hp21 77 (by decide)).trans (ent_77 _)) rfl (s_lt hn rfl) ?_
        refine v_iconstI dX12_four_28 ?_
        refine v_iaddI dX12_four_29 ?_
        refine v_put dX12_four_30 fl_X12_241 ((hp21 77 (by decide)).trans (ent_77 _)) (s_lt hn rfl) (Nat.le_of_ble_eq_true rfl) (fun _ => ⟨rfl, rfl⟩) trivial (fun h23 E24 F25 => ?_)
        have hp26 := pic_st hp21 (show h23 77 = ent 77 (uI _ 8 (((x_st X2 82 (X2 77 8) (oAnd (oShr a0 x1) 255)) 77 8) + 1)) from E24) F25
        have hf27 := Fr.up (c := 77) hf22 F25 rfl
        refine v_iincI dX12_four_33 rfl (Nat.le_of_ble_eq_true rfl) ?_
        refine v_goto (tgt := 3) dX12_four_36 (by decide) ?_
        refine v_pick [1, 2, 0] rfl ?_
        exact ih5 _ _ _ (Nat.lt_of_lt_of_le w.2 (Nat.le_of_lt_succ hm9)) w.1 hp26 hf27
  exact hL8 _ _ _ _ (Nat.lt_succ_self _) wi7 hp hf
theorem dX12_feed_0 : decode cX12_feed 0 = .ok (.aload_n 0, 1) := by decide +kernel
theorem dX12_feed_1 : decode cX12_feed 1 = .ok (.iconst 0, 1) := by decide +kernel
theorem dX12_feed_2 : decode cX12_feed 2 = .ok (.putfield 169, 3) := by decide +kernel
theorem dX12_feed_5 : decode cX12_feed 5 = .ok (.aload_n 0, 1) := by decide +kernel
theorem dX12_feed_6 : decode cX12_feed 6 = .ok (.getfield 241, 3) := by decide +kernel
theorem dX12_feed_9 : decode cX12_feed 9 = .ok (.bipush 20, 2) := by decide +kernel
theorem dX12_feed_11 : decode cX12_feed 11 = .ok (.iadd, 1) := by decide +kernel
theorem dX12_feed_12 : decode cX12_feed 12 = .ok (.sipush 400, 3) := by decide +kernel
theorem dX12_feed_15 : decode cX12_feed 15 = .ok (.if_icmp .le 5, 3) := by decide +kernel
theorem dX12_feed_18 : decode cX12_feed 18 = .ok (.iconst (-1), 1) := by decide +kernel
theorem dX12_feed_19 : decode cX12_feed 19 = .ok (.ireturn, 1) := by decide +kernel
theorem dX12_feed_20 : decode cX12_feed 20 = .ok (.aload_n 0, 1) := by decide +kernel
theorem dX12_feed_21 : decode cX12_feed 21 = .ok (.iload_n 1, 1) := by decide +kernel
theorem dX12_feed_22 : decode cX12_feed 22 = .ok (.invokevirtual 247, 3) := by decide +kernel
theorem dX12_feed_25 : decode cX12_feed 25 = .ok (.aload_n 0, 1) := by decide +kernel
theorem dX12_feed_26 : decode cX12_feed 26 = .ok (.iload_n 2, 1) := by decide +kernel
theorem dX12_feed_27 : decode cX12_feed 27 = .ok (.invokevirtual 247, 3) := by decide +kernel
theorem dX12_feed_30 : decode cX12_feed 30 = .ok (.aload_n 0, 1) := by decide +kernel
theorem dX12_feed_31 : decode cX12_feed 31 = .ok (.iload_n 3, 1) := by decide +kernel
theorem dX12_feed_32 : decode cX12_feed 32 = .ok (.invokevirtual 247, 3) := by decide +kernel
theorem dX12_feed_35 : decode cX12_feed 35 = .ok (.aload_n 0, 1) := by decide +kernel
theorem dX12_feed_36 : decode cX12_feed 36 = .ok (.iload 4, 2) := by decide +kernel
theorem dX12_feed_38 : decode cX12_feed 38 = .ok (.invokevirtual 247, 3) := by decide +kernel
theorem dX12_feed_41 : decode cX12_feed 41 = .ok (.aload_n 0, 1) := by decide +kernel
theorem dX12_feed_42 : decode cX12_feed 42 = .ok (.iload 5, 2) := by decide +kernel
theorem dX12_feed_44 : decode cX12_feed 44 = .ok (.invokevirtual 247, 3) := by decide +kernel
theorem dX12_feed_47 : decode cX12_feed 47 = .ok (.aload_n 0, 1) := by decide +kernel
theorem dX12_feed_48 : decode cX12_feed 48 = .ok (.getfield 241, 3) := by decide +kernel
theorem dX12_feed_51 : decode cX12_feed 51 = .ok (.ireturn, 1) := by decide +kernel
def w_X12_feed (a0 a1 a2 a3 a4 : Int) (X : XT) (Q : Int → XT → Prop) : Prop :=
  R32 (((x_st X 77 0 0) 77 8) + 20) ∧ ((((x_st X 77 0 0) 77 8) + 20) ≤ 400 → w_X12_four  a0 (x_st X 77 0 0) (fun (X9 : XT) => w_X12_four  a1 X9 (fun (X15 : XT) => w_X12_four  a2 X15 (fun (X21 : XT) => w_X12_four  a3 X21 (fun (X27 : XT) => w_X12_four  a4 X27 (fun (X33 : XT) => Q (X33 77 8) X33)))))) ∧ (¬ (((x_st X 77 0 0) 77 8) + 20) ≤ 400 → Q (-1) (x_st X 77 0 0))
set_option maxRecDepth 20000 in
theorem so_X12_feed {n : Nat} {h : Nat → sE} {X : XT} {a0 a1 a2 a3 a4 : Int} {Q : Int → XT → Prop} (hn : 115 ≤ n) (hp : Pic X h) (w : w_X12_feed  a0 a1 a2 a3 a4 X Q) : Sp m_X12_feed 1 0 0 [.ref 77, .int (iI a0), .int (iI a1), .int (iI a2), .int (iI a3), .int (iI a4)] n h (pIw n h Q) := by
  unfold w_X12_feed at w
  refine Sp.ofV (by decide +kernel) (Nat.le_of_ble_eq_true rfl) ?_
  have hf : Fr h h := fun _ _ => rfl
  refine v_aload_n dX12_feed_0 rfl ?_
  refine v_iconstI dX12_feed_1 ?_
  refine v_put dX12_feed_2 fl_X12_169 ((hp 77 (by decide)).trans (ent_77 _)) (s_lt hn rfl) (Nat.le_of_ble_eq_true rfl) (fun _ => ⟨rfl, rfl⟩) trivial (fun h1 E2 F3 => ?_)
  have hp4 := pic_st hp (show h1 77 = ent 77 (uI _ 0 0) from E2) F3
  have hf5 := Fr.up (c := 77) hf F3 rfl
  refine v_aload_n dX12_feed_5 rfl ?_
  refine v_get dX12_feed_6 fl_X12_241 ((hp4 77 (by decide)).trans (ent_77 _)) rfl (s_lt hn rfl) ?_
  refine v_bipushI dX12_feed_9 rfl ?_
  refine v_iaddI dX12_feed_11 ?_
  refine v_sipushI dX12_feed_12 rfl ?_
  obtain ⟨q6, w⟩ := w
  refine v_icmp_leI (tgt := 20) dX12_feed_15 (by decide) q6.1 q6.2 (by decide) (by decide) (fun c7 => ?_) (fun c7 => ?_)
  · replace w := w.1 c7
    refine v_aload_n dX12_feed_20 rfl ?_
    refine v_iload_n dX12_feed_21 rfl ?_
    refine v_callVVw dX12_feed_22 ml_X12_247 (so_X12_four hn hp4  w) ((hp4 77 (by decide)).trans (ent_77 _)) rfl (s_lt hn rfl) rfl rfl (Nat.le_of_ble_eq_true rfl) (Nat.le_of_ble_eq_true rfl) (Nat.zero_le _) (Nat.zero_le _) (fun X9 h10 hp12 hf11 w => ?_)
    have hf13 := Fr.trans hf5 hf11
    refine v_aload_n dX12_feed_25 rfl ?_
    refine v_iload_n dX12_feed_26 rfl ?_
    refine v_callVVw dX12_feed_27 ml_X12_247 (so_X12_four hn hp12  w) ((hp12 77 (by decide)).trans (ent_77 _)) rfl (s_lt hn rfl) rfl rfl (Nat.le_of_ble_eq_true rfl) (Nat.le_of_ble_eq_true rfl) (Nat.zero_le _) (Nat.zero_le _) (fun X15 h16 hp18 hf17 w => ?_)
    have hf19 := Fr.trans hf13 hf17
    refine v_aload_n dX12_feed_30 rfl ?_
    refine v_iload_n dX12_feed_31 rfl ?_
    refine v_callVVw dX12_feed_32 ml_X12_247 (so_X12_four hn hp18  w) ((hp18 77 (by decide)).trans (ent_77 _)) rfl (s_lt hn rfl) rfl rfl (Nat.le_of_ble_eq_true rfl) (Nat.le_of_ble_eq_true rfl) (Nat.zero_le _) (Nat.zero_le _) (fun X21 h22 hp24 hf23 w => ?_)
    have hf25 := Fr.trans hf19 hf23
    refine v_aload_n dX12_feed_35 rfl ?_
    refine v_iload dX12_feed_36 rfl ?_
    refine v_callVVw dX12_feed_38 ml_X12_247 (so_X12_four hn hp24  w) ((hp24 77 (by decide)).trans (ent_77 _)) rfl (s_lt hn rfl) rfl rfl (Nat.le_of_ble_eq_true rfl) (Nat.le_of_ble_eq_true rfl) (Nat.zero_le _) (Nat.zero_le _) (fun X27 h28 hp30 hf29 w => ?_)
    have hf31 := Fr.trans hf25 hf29
    refine v_aload_n dX12_feed_41 rfl ?_
    refine v_iload dX12_feed_42 rfl ?_
    refine v_callVVw dX12_feed_44 ml_X12_247 (so_X12_four hn hp30  w) ((hp30 77 (by decide)).trans (ent_77 _)) rfl (s_lt hn rfl) rfl rfl (Nat.le_of_ble_eq_true rfl) (Nat.le_of_ble_eq_true rfl) (Nat.zero_le _) (Nat.zero_le _) (fun X33 h34 hp36 hf35 w => ?_)
    have hf37 := Fr.trans hf31 hf35
    refine v_aload_n dX12_feed_47 rfl ?_
    refine v_get dX12_feed_48 fl_X12_241 ((hp36 77 (by decide)).trans (ent_77 _)) rfl (s_lt hn rfl) ?_
    exact v_iret dX12_feed_51 rfl (Nat.zero_le _) (Nat.zero_le _) ⟨rfl, hf37, _, _, rfl, hp36, w⟩
  · replace w := w.2 c7
    refine v_iconstI dX12_feed_18 ?_
    exact v_iret dX12_feed_19 rfl (Nat.zero_le _) (Nat.zero_le _) ⟨rfl, hf5, _, _, rfl, hp4, w⟩
def w_X12_tell (a0 : Int) (X : XT) (Q : Int → XT → Prop) : Prop :=
  ∀ J2 : Int → Prop, (∀ (v1 : Int), (R32 a0 ∧ (0 ≤ a0 → Q a0 (x_st X 77 1 v1)) ∧ (¬ 0 ≤ a0 → (0 ≤ (-a0) ∧ (-a0) < 7) ∧ Q a0 (x_st (x_st X 77 1 v1) 78 (-a0) (((x_st X 77 1 v1) 78 (-a0)) + 1)))) → J2 v1) → R32 a0 ∧ (0 ≤ a0 → J2 0) ∧ (¬ 0 ≤ a0 → J2 a0)
set_option maxRecDepth 20000 in
theorem so_X12_tell {n : Nat} {h : Nat → sE} {X : XT} {a0 : Int} {Q : Int → XT → Prop} (hn : 115 ≤ n) (hp : Pic X h) (w : w_X12_tell  a0 X Q) : Sp m_X12_tell 0 0 0 [.ref 77, .int (iI a0)] n h (pIw n h Q) := by
  unfold w_X12_tell at w
  refine Sp.ofV (by decide +kernel) (Nat.le_of_ble_eq_true rfl) ?_
  have hf : Fr h h := fun _ _ => rfl
  refine v_aload_n dX12_tell_0 rfl ?_
  refine v_iload_n dX12_tell_1 rfl ?_
  replace w := w (fun (v1 : Int) => V (m_X12_tell, 0, 0, 0, n, pIw n h Q, s_G0) 0 0 n h 10 [(0, .ref 77), (1, .int (iI a0))] [.int (iI v1), .ref 77]) (by
    intro v1 w
    refine v_put dX12_tell_10 fl_X12_172 ((hp 77 (by decide)).trans (ent_77 _)) (s_lt hn rfl) (Nat.le_of_ble_eq_true rfl) (fun _ => ⟨rfl, rfl⟩) trivial (fun h3 E4 F5 => ?_)
    have hp6 := pic_st hp (show h3 77 = ent 77 (uI _ 1 v1) from E4) F5
    have hf7 := Fr.up (c := 77) hf F5 rfl
    refine v_iload_n dX12_tell_13 rfl ?_
    obtain ⟨q8, w⟩ := w
    refine v_if_geI (tgt := 28) dX12_tell_14 (by decide) q8.1 q8.2 (fun c9 => ?_) (fun c9 => ?_)
    · replace w := w.1 c9
      refine v_iload_n dX12_tell_28 rfl ?_
      exact v_iret dX12_tell_29 rfl (Nat.zero_le _) (Nat.zero_le _) ⟨rfl, hf7, _, _, rfl, hp6, w⟩
    · replace w := w.2 c9
      refine v_aload_n dX12_tell_17 rfl ?_
      refine v_get dX12_tell_18 fl_X12_7 ((hp6 77 (by decide)).trans (ent_77 _)) rfl (s_lt hn rfl) ?_
      refine v_iload_n dX12_tell_21 rfl ?_
      refine v_inegI dX12_tell_22 ?_
      refine v_dup2 dX12_tell_23 rfl rfl ?_
      obtain ⟨q10, w⟩ := w
      refine v_ialdI dX12_tell_24 ((hp6 78 (by decide)).trans (ent_78 _)) (s_lt hn rfl) q10.1 q10.2 (ix_le q10.2 (by decide)) ?_
      refine v_iconstI dX12_tell_25 ?_
      refine v_iaddI dX12_tell_26 ?_
      refine v_iastI dX12_tell_27 ((hp6 78 (by decide)).trans (ent_78 _)) (s_lt hn rfl) q10.1 q10.2 (ix_le q10.2 (by decide)) (fun h11 E12 F13 => ?_)
      have hp14 := pic_st hp6 (show h11 78 = ent 78 (uI _ (-a0) (((x_st X 77 1 v1) 78 (-a0)) + 1)) from E12) F13
      have hf15 := Fr.up (c := 78) hf7 F13 rfl
      refine v_iload_n dX12_tell_28 rfl ?_
      exact v_iret dX12_tell_29 rfl (Nat.zero_le _) (Nat.zero_le _) ⟨rfl, hf15, _, _, rfl, hp14, w⟩
  )
  obtain ⟨q16, w⟩ := w
  refine v_if_geI (tgt := 9) dX12_tell_2 (by decide) q16.1 q16.2 (fun c17 => ?_) (fun c17 => ?_)
  · replace w := w.1 c17
    refine v_iconstI dX12_tell_9 ?_
    exact w
  · replace w := w.2 c17
    refine v_iload_n dX12_tell_5 rfl ?_
    refine v_goto (tgt := 10) dX12_tell_6 (by decide) ?_
    exact w
theorem dX12_row_0 : decode cX12_row 0 = .ok (.aload_n 0, 1) := by decide +kernel
theorem dX12_row_1 : decode cX12_row 1 = .ok (.iconst 0, 1) := by decide +kernel
theorem dX12_row_2 : decode cX12_row 2 = .ok (.putfield 169, 3) := by decide +kernel
theorem dX12_row_5 : decode cX12_row 5 = .ok (.aload_n 0, 1) := by decide +kernel
theorem dX12_row_6 : decode cX12_row 6 = .ok (.getfield 241, 3) := by decide +kernel
theorem dX12_row_9 : decode cX12_row 9 = .ok (.istore_n 1, 1) := by decide +kernel
theorem dX12_row_10 : decode cX12_row 10 = .ok (.aload_n 0, 1) := by decide +kernel
theorem dX12_row_11 : decode cX12_row 11 = .ok (.iconst 0, 1) := by decide +kernel
theorem dX12_row_12 : decode cX12_row 12 = .ok (.putfield 241, 3) := by decide +kernel
theorem dX12_row_15 : decode cX12_row 15 = .ok (.iload_n 1, 1) := by decide +kernel
theorem dX12_row_16 : decode cX12_row 16 = .ok (.ifCond .eq 14, 3) := by decide +kernel
theorem dX12_row_19 : decode cX12_row 19 = .ok (.aload_n 0, 1) := by decide +kernel
theorem dX12_row_20 : decode cX12_row 20 = .ok (.getfield 23, 3) := by decide +kernel
theorem dX12_row_23 : decode cX12_row 23 = .ok (.iconst 0, 1) := by decide +kernel
theorem dX12_row_24 : decode cX12_row 24 = .ok (.iaload, 1) := by decide +kernel
theorem dX12_row_25 : decode cX12_row 25 = .ok (.bipush 7, 2) := by decide +kernel
theorem dX12_row_27 : decode cX12_row 27 = .ok (.if_icmp .le 10, 3) := by decide +kernel
theorem dX12_row_30 : decode cX12_row 30 = .ok (.aload_n 0, 1) := by decide +kernel
theorem dX12_row_31 : decode cX12_row 31 = .ok (.bipush (-6), 2) := by decide +kernel
theorem dX12_row_33 : decode cX12_row 33 = .ok (.invokevirtual 179, 3) := by decide +kernel
theorem dX12_row_36 : decode cX12_row 36 = .ok (.ireturn, 1) := by decide +kernel
theorem dX12_row_37 : decode cX12_row 37 = .ok (.aload_n 0, 1) := by decide +kernel
theorem dX12_row_38 : decode cX12_row 38 = .ok (.iload_n 1, 1) := by decide +kernel
theorem dX12_row_39 : decode cX12_row 39 = .ok (.bipush 9, 2) := by decide +kernel
theorem dX12_row_41 : decode cX12_row 41 = .ok (.if_icmp .le 10, 3) := by decide +kernel
theorem dX12_row_44 : decode cX12_row 44 = .ok (.iload_n 1, 1) := by decide +kernel
theorem dX12_row_45 : decode cX12_row 45 = .ok (.bipush 9, 2) := by decide +kernel
theorem dX12_row_47 : decode cX12_row 47 = .ok (.isub, 1) := by decide +kernel
theorem dX12_row_48 : decode cX12_row 48 = .ok (.goto 4, 3) := by decide +kernel
theorem dX12_row_51 : decode cX12_row 51 = .ok (.iconst 0, 1) := by decide +kernel
theorem dX12_row_52 : decode cX12_row 52 = .ok (.putfield 244, 3) := by decide +kernel
theorem dX12_row_55 : decode cX12_row 55 = .ok (.iconst 0, 1) := by decide +kernel
theorem dX12_row_56 : decode cX12_row 56 = .ok (.istore_n 2, 1) := by decide +kernel
theorem dX12_row_57 : decode cX12_row 57 = .ok (.iconst 0, 1) := by decide +kernel
theorem dX12_row_58 : decode cX12_row 58 = .ok (.istore_n 3, 1) := by decide +kernel
theorem dX12_row_59 : decode cX12_row 59 = .ok (.iload_n 3, 1) := by decide +kernel
theorem dX12_row_60 : decode cX12_row 60 = .ok (.bipush 8, 2) := by decide +kernel
theorem dX12_row_62 : decode cX12_row 62 = .ok (.if_icmp .ge 74, 3) := by decide +kernel
theorem dX12_row_65 : decode cX12_row 65 = .ok (.iload_n 3, 1) := by decide +kernel
theorem dX12_row_66 : decode cX12_row 66 = .ok (.iconst 1, 1) := by decide +kernel
theorem dX12_row_67 : decode cX12_row 67 = .ok (.iadd, 1) := by decide +kernel
theorem dX12_row_68 : decode cX12_row 68 = .ok (.iload_n 1, 1) := by decide +kernel
theorem dX12_row_69 : decode cX12_row 69 = .ok (.if_icmp .ge 67, 3) := by decide +kernel
theorem dX12_row_72 : decode cX12_row 72 = .ok (.aload_n 0, 1) := by decide +kernel
theorem dX12_row_73 : decode cX12_row 73 = .ok (.getfield 23, 3) := by decide +kernel
theorem dX12_row_76 : decode cX12_row 76 = .ok (.iload_n 3, 1) := by decide +kernel
theorem dX12_row_77 : decode cX12_row 77 = .ok (.iconst 1, 1) := by decide +kernel
theorem dX12_row_78 : decode cX12_row 78 = .ok (.iadd, 1) := by decide +kernel
theorem dX12_row_79 : decode cX12_row 79 = .ok (.iaload, 1) := by decide +kernel
theorem dX12_row_80 : decode cX12_row 80 = .ok (.ifCond .le 40, 3) := by decide +kernel
theorem dX12_row_83 : decode cX12_row 83 = .ok (.aload_n 0, 1) := by decide +kernel
theorem dX12_row_84 : decode cX12_row 84 = .ok (.getfield 13, 3) := by decide +kernel
theorem dX12_row_87 : decode cX12_row 87 = .ok (.bipush 40, 2) := by decide +kernel
theorem dX12_row_89 : decode cX12_row 89 = .ok (.iconst 3, 1) := by decide +kernel
theorem dX12_row_90 : decode cX12_row 90 = .ok (.bipush 8, 2) := by decide +kernel
theorem dX12_row_92 : decode cX12_row 92 = .ok (.aload_n 0, 1) := by decide +kernel
theorem dX12_row_93 : decode cX12_row 93 = .ok (.getfield 23, 3) := by decide +kernel
theorem dX12_row_96 : decode cX12_row 96 = .ok (.iconst 0, 1) := by decide +kernel
theorem dX12_row_97 : decode cX12_row 97 = .ok (.iaload, 1) := by decide +kernel
theorem dX12_row_98 : decode cX12_row 98 = .ok (.imul, 1) := by decide +kernel
theorem dX12_row_99 : decode cX12_row 99 = .ok (.iload_n 3, 1) := by decide +kernel
theorem dX12_row_100 : decode cX12_row 100 = .ok (.iadd, 1) := by decide +kernel
theorem dX12_row_101 : decode cX12_row 101 = .ok (.imul, 1) := by decide +kernel
theorem dX12_row_102 : decode cX12_row 102 = .ok (.iadd, 1) := by decide +kernel
theorem dX12_row_103 : decode cX12_row 103 = .ok (.iconst 1, 1) := by decide +kernel
theorem dX12_row_104 : decode cX12_row 104 = .ok (.iadd, 1) := by decide +kernel
theorem dX12_row_105 : decode cX12_row 105 = .ok (.aload_n 0, 1) := by decide +kernel
theorem dX12_row_106 : decode cX12_row 106 = .ok (.getfield 23, 3) := by decide +kernel
theorem dX12_row_109 : decode cX12_row 109 = .ok (.iload_n 3, 1) := by decide +kernel
theorem dX12_row_110 : decode cX12_row 110 = .ok (.iconst 1, 1) := by decide +kernel
theorem dX12_row_111 : decode cX12_row 111 = .ok (.iadd, 1) := by decide +kernel
theorem dX12_row_112 : decode cX12_row 112 = .ok (.iaload, 1) := by decide +kernel
theorem dX12_row_113 : decode cX12_row 113 = .ok (.iastore, 1) := by decide +kernel
theorem dX12_row_114 : decode cX12_row 114 = .ok (.iinc 2 1, 3) := by decide +kernel
theorem dX12_row_117 : decode cX12_row 117 = .ok (.goto 13, 3) := by decide +kernel
theorem dX12_row_120 : decode cX12_row 120 = .ok (.aload_n 0, 1) := by decide +kernel
theorem dX12_row_121 : decode cX12_row 121 = .ok (.dup, 1) := by decide +kernel
theorem dX12_row_122 : decode cX12_row 122 = .ok (.getfield 244, 3) := by decide +kernel
theorem dX12_row_125 : decode cX12_row 125 = .ok (.iconst 1, 1) := by decide +kernel
theorem dX12_row_126 : decode cX12_row 126 = .ok (.iadd, 1) := by decide +kernel
theorem dX12_row_127 : decode cX12_row 127 = .ok (.putfield 244, 3) := by decide +kernel
theorem dX12_row_130 : decode cX12_row 130 = .ok (.iinc 3 1, 3) := by decide +kernel
theorem dX12_row_133 : decode cX12_row 133 = .ok (.goto (-74), 3) := by decide +kernel
theorem dX12_row_136 : decode cX12_row 136 = .ok (.aload_n 0, 1) := by decide +kernel
theorem dX12_row_137 : decode cX12_row 137 = .ok (.iload_n 2, 1) := by decide +kernel
theorem dX12_row_138 : decode cX12_row 138 = .ok (.invokevirtual 179, 3) := by decide +kernel
theorem dX12_row_141 : decode cX12_row 141 = .ok (.ireturn, 1) := by decide +kernel
def w_X12_row (X : XT) (Q : Int → XT → Prop) : Prop :=
  R32 ((x_st X 77 0 0) 77 8) ∧ (((x_st X 77 0 0) 77 8) = 0 → w_X12_tell  (-6) (x_st (x_st X 77 0 0) 77 8 0) (fun (v13 : Int) (X14 : XT) => Q v13 X14)) ∧ (¬ ((x_st X 77 0 0) 77 8) = 0 → R32 ((x_st (x_st X 77 0 0) 77 8 0) 82 0) ∧ (((x_st (x_st X 77 0 0) 77 8 0) 82 0) ≤ 7 → ∀ J22 : Int → Prop, (∀ (v21 : Int), (∃ (I31 : Int → Int → XT → Prop) (m32 : Int → Int → XT → Nat), I31 0 0 (x_st (x_st (x_st X 77 0 0) 77 8 0) 77 6 v21) ∧ ∀ (x28 : Int) (x29 : Int) (X30 : XT), I31 x28 x29 X30 → R32 x29 ∧ (8 ≤ x29 → w_X12_tell  x28 X30 (fun (v45 : Int) (X46 : XT) => Q v45 X46)) ∧ (¬ 8 ≤ x29 → R32 (x29 + 1) ∧ (((x_st X 77 0 0) 77 8) ≤ (x29 + 1) → w_X12_tell  x28 X30 (fun (v53 : Int) (X54 : XT) => Q v53 X54)) ∧ (¬ ((x_st X 77 0 0) 77 8) ≤ (x29 + 1) → (0 ≤ (x29 + 1) ∧ (x29 + 1) < 400) ∧ R32 (X30 82 (x29 + 1)) ∧ ((X30 82 (x29 + 1)) ≤ 0 → I31 x28 (x29 + 1) (x_st X30 77 6 ((X30 77 6) + 1)) ∧ m32 x28 (x29 + 1) (x_st X30 77 6 ((X30 77 6) + 1)) < m32 x28 x29 X30) ∧ (¬ (X30 82 (x29 + 1)) ≤ 0 → (0 ≤ ((40 + (3 * ((8 * (X30 82 0)) + x29))) + 1) ∧ ((40 + (3 * ((8 * (X30 82 0)) + x29))) + 1) < 5780) ∧ I31 (x28 + 1) (x29 + 1) (x_st X30 79 ((40 + (3 * ((8 * (X30 82 0)) + x29))) + 1) (X30 82 (x29 + 1))) ∧ m32 (x28 + 1) (x29 + 1) (x_st X30 79 ((40 + (3 * ((8 * (X30 82 0)) + x29))) + 1) (X30 82 (x29 + 1))) < m32 x28 x29 X30)))) → J22 v21) → (((x_st X 77 0 0) 77 8) ≤ 9 → J22 0) ∧ (¬ ((x_st X 77 0 0) 77 8) ≤ 9 → J22 (((x_st X 77 0 0) 77 8) - 9))) ∧ (¬ ((x_st (x_st X 77 0 0) 77 8 0) 82 0) ≤ 7 → w_X12_tell  (-6) (x_st (x_st X 77 0 0) 77 8 0) (fun (v74 : Int) (X75 : XT) => Q v74 X75)))
set_option maxRecDepth 20000 in
theorem so_X12_row {n : Nat} {h : Nat → sE} {X : XT} {Q : Int → XT → Prop} (hn : 115 ≤ n) (hp : Pic X h) (w : w_X12_row   X Q) : Sp m_X12_row 1 0 0 [.ref 77] n h (pIw n h Q) := by
  unfold w_X12_row at w
  refine Sp.ofV (by decide +kernel) (Nat.le_of_ble_eq_true rfl) ?_
  have hf : Fr h h := fun _ _ => rfl
  refine v_aload_n dX12_row_0 rfl ?_
  refine v_iconstI dX12_row_1 ?_
  refine v_put dX12_row_2 fl_X12_169 ((hp 77 (by decide)).trans (ent_77 _)) (s_lt hn rfl) (Nat.le_of_ble_eq_true rfl) (fun _ => ⟨rfl, rfl⟩) trivial (fun h1 E2 F3 => ?_)
  have hp4 := pic_st hp (show h1 77 = ent 77 (uI _ 0 0) from E2) F3
  have hf5 := Fr.up (c := 77) hf F3 rfl
  refine v_aload_n dX12_row_5 rfl ?_
  refine v_get dX12_row_6 fl_X12_241 ((hp4 77 (by decide)).trans (ent_77 _)) rfl (s_lt hn rfl) ?_
  refine v_istore_n dX12_row_9 (Nat.le_of_ble_eq_true rfl) ?_
  refine v_aload_n dX12_row_10 rfl ?_
  refine v_iconstI dX12_row_11 ?_
  refine v_put dX12_row_12 fl_X12_241 ((hp4 77 (by decide)).trans (ent_77 _)) (s_lt hn rfl) (Nat.le_of_ble_eq_true rfl) (fun _ => ⟨rfl, rfl⟩) trivial (fun h6 E7 F8 => ?_)
  have hp9 := pic_st hp4 (show h6 77 = ent 77 (uI _ 8 0) from E7) F8
  have hf10 := Fr.up (c := 77) hf5 F8 rfl
  refine v_iload_n dX12_row_15 rfl ?_
  obtain ⟨q11, w⟩ := w
  refine v_if_eqI (tgt := 30) dX12_row_16 (by decide) q11.1 q11.2 (fun c12 => ?_) (fun c12 => ?_)
  · replace w := w.1 c12
    refine v_aload_n dX12_row_30 rfl ?_
    refine v_bipushI dX12_row_31 rfl ?_
    refine v_callVIw dX12_row_33 ml_X12_179 (so_X12_tell hn hp9  w) ((hp9 77 (by decide)).trans (ent_77 _)) rfl (s_lt hn rfl) rfl rfl (Nat.le_of_ble_eq_true rfl) (Nat.le_of_ble_eq_true rfl) (Nat.zero_le _) (Nat.zero_le _) (fun v13 X14 h15 hp17 hf16 w => ?_)
    have hf18 := Fr.trans hf10 hf16
    exact v_iret dX12_row_36 rfl (Nat.zero_le _) (Nat.zero_le _) ⟨rfl, hf18, _, _, rfl, hp17, w⟩
  · replace w := w.2 c12
    refine v_aload_n dX12_row_19 rfl ?_
    refine v_get dX12_row_20 fl_X12_23 ((hp9 77 (by decide)).trans (ent_77 _)) rfl (s_lt hn rfl) ?_
    refine v_iconstI dX12_row_23 ?_
    refine v_ialdI dX12_row_24 ((hp9 82 (by decide)).trans (ent_82 _)) (s_lt hn rfl) (by decide) (by decide) (by decide) ?_
    refine v_bipushI dX12_row_25 rfl ?_
    obtain ⟨q19, w⟩ := w
    refine v_icmp_leI (tgt := 37) dX12_row_27 (by decide) q19.1 q19.2 (by decide) (by decide) (fun c20 => ?_) (fun c20 => ?_)
    · replace w := w.1 c20
      refine v_aload_n dX12_row_37 rfl ?_
      refine v_iload_n dX12_row_38 rfl ?_
      refine v_bipushI dX12_row_39 rfl ?_
      replace w := w (fun (v21 : Int) => V (m_X12_row, 1, 0, 0, n, pIw n h Q, s_G0) 0 0 n h6 52 [(0, .ref 77), (1, .int (iI ((x_st X 77 0 0) 77 8)))] [.int (iI v21), .ref 77]) (by
        intro v21 w
        refine v_put dX12_row_52 fl_X12_244 ((hp9 77 (by decide)).trans (ent_77 _)) (s_lt hn rfl) (Nat.le_of_ble_eq_true rfl) (fun _ => ⟨rfl, rfl⟩) trivial (fun h23 E24 F25 => ?_)
        have hp26 := pic_st hp9 (show h23 77 = ent 77 (uI _ 6 v21) from E24) F25
        have hf27 := Fr.up (c := 77) hf10 F25 rfl
        refine v_iconstI dX12_row_55 ?_
        refine v_istore_n dX12_row_56 (Nat.le_of_ble_eq_true rfl) ?_
        refine v_iconstI dX12_row_57 ?_
        refine v_istore_n dX12_row_58 (Nat.le_of_ble_eq_true rfl) ?_
        refine v_pick [2, 3, 1, 0] rfl ?_
        obtain ⟨I31, m32, wi35, wl34⟩ := w
        have hL36 : ∀ (N39 : Nat) (x28 : Int) (x29 : Int) (X30 : XT) (h40 : Nat → sE), m32 x28 x29 X30 < N39 → I31 x28 x29 X30 → Pic X30 h40 → Fr h h40 → V (m_X12_row, 1, 0, 0, n, pIw n h Q, s_G0) 0 0 n h40 59 [(0, .ref 77), (1, .int (iI ((x_st X 77 0 0) 77 8))), (2, .int (iI x28)), (3, .int (iI x29))] [] := by
          intro N39
          induction N39 with
          | zero => intro x28 x29 X30 h40 hm37; exact absurd hm37 (Nat.not_lt_zero _)
          | succ N39 ih33 =>
            intro x28 x29 X30 h40 hm37 hI38 hp41 hf42
            have w := wl34 x28 x29 X30 hI38
            refine v_iload_n dX12_row_59 rfl ?_
            refine v_bipushI dX12_row_60 rfl ?_
            obtain ⟨q43, w⟩ := w
            refine v_icmp_geI (tgt := 136) dX12_row_62 (by decide) q43.1 q43.2 (by decide) (by decide) (fun c44 => ?_) (fun c44 => ?_)
            · replace w := w.1 c44
              refine v_aload_n dX12_row_136 rfl ?_
              refine v_iload_n dX12_row_137 rfl ?_
              refine v_callVIw dX12_row_138 ml_X12_179 (so_X12_tell hn hp41  w) ((hp41 77 (by decide)).trans (ent_77 _)) rfl (s_lt hn rfl) rfl rfl (Nat.le_of_ble_eq_true rfl) (Nat.le_of_ble_eq_true rfl) (Nat.zero_le _) (Nat.zero_le _) (fun v45 X46 h47 hp49 hf48 w => ?_)
              have hf50 := Fr.trans hf42 hf48
              exact v_iret dX12_row_141 rfl (Nat.zero_le _) (Nat.zero_le _) ⟨rfl, hf50, _, _, rfl, hp49, w⟩
            · replace w := w.2 c44
              refine v_iload_n dX12_row_65 rfl ?_
              refine v_iconstI dX12_row_66 ?_
              refine v_iaddI dX12_row_67 ?_
              refine v_iload_n dX12_row_68 rfl ?_
              obtain ⟨q51, w⟩ := w
              refine v_icmp_geI (tgt := 136) dX12_row_69 (by decide) q51.1 q51.2 q11.1 q11.2 (fun c52 => ?_) (fun c52 => ?_)
              · replace w := w.1 c52
                refine v_aload_n dX12_row_136 rfl ?_
                refine v_iload_n dX12_row_137 rfl ?_
                refine v_callVIw dX12_row_138 ml_X12_179 (so_X12_tell hn hp41  w) ((hp41 77 (by decide)).trans (ent_77 _)) rfl (s_lt hn rfl) rfl rfl (Nat.le_of_ble_eq_true rfl) (Nat.le_of_ble_eq_true rfl) (Nat.zero_le _) (Nat.zero_le _) (fun v53 X54 h55 hp57 hf56 w => ?_)
                have hf58 := Fr.trans hf42 hf56
                exact v_iret dX12_row_141 rfl (Nat.zero_le _) (Nat.zero_le _) ⟨rfl, hf58, _, _, rfl, hp57, w⟩
              · replace w := w.2 c52
                refine v_aload_n dX12_row_72 rfl ?_
                refine v_get dX12_row_73 fl_X12_23 ((hp41 77 (by decide)).trans (ent_77 _)) rfl (s_lt hn rfl) ?_
                refine v_iload_n dX12_row_76 rfl ?_
                refine v_iconstI dX12_row_77 ?_
                refine v_iaddI dX12_row_78 ?_
                obtain ⟨q59, w⟩ := w
                refine v_ialdI dX12_row_79 ((hp41 82 (by decide)).trans (ent_82 _)) (s_lt hn rfl) q59.1 q59.2 (ix_le q59.2 (by decide)) ?_
                obtain ⟨q60, w⟩ := w
                refine v_if_leI (tgt := 120) dX12_row_80 (by decide) q60.1 q60.2 (fun c61 => ?_) (fun c61 => ?_)
                · replace w := w.1 c61
                  refine v_aload_n dX12_row_120 rfl ?_
                  refine v_dup dX12_row_121 rfl ?_
                  refine v_get dX12_row_122 fl_X12_244 ((hp41 77 (by decide)).trans (ent_77 _)) rfl (s_lt hn rfl) ?_
                  refine v_iconstI dX12_row_125 ?_
                  refine v_iaddI dX12_row_126 ?_
                  refine v_put dX12_row_127 fl_X12_244 ((hp41 77 (by decide)).trans (ent_77 _)) (s_lt hn rfl) (Nat.le_of_ble_eq_true rfl) (fun _ => ⟨rfl, rfl⟩) trivial (fun h62 E63 F64 => ?_)
                  have hp65 := pic_st hp41 (show h62 77 = ent 77 (uI _ 6 ((X30 77 6) + 1)) from E63) F64
                  have hf66 := Fr.up (c := 77) hf42 F64 rfl
                  refine v_iincI dX12_row_130 rfl (Nat.le_of_ble_eq_true rfl) ?_
                  refine v_goto (tgt := 59) dX12_row_133 (by decide) ?_
                  refine v_pick [1, 2, 3, 0] rfl ?_
                  exact ih33 _ _ _ _ (Nat.lt_of_lt_of_le w.2 (Nat.le_of_lt_succ hm37)) w.1 hp65 hf66
                · replace w := w.2 c61
                  refine v_aload_n dX12_row_83 rfl ?_
                  refine v_get dX12_row_84 fl_X12_13 ((hp41 77 (by decide)).trans (ent_77 _)) rfl (s_lt hn rfl) ?_
                  refine v_bipushI dX12_row_87 rfl ?_
                  refine v_iconstI dX12_row_89 ?_
                  refine v_bipushI dX12_row_90 rfl ?_
                  refine v_aload_n dX12_row_92 rfl ?_
                  refine v_get dX12_row_93 fl_X12_23 ((hp41 77 (by decide)).trans (ent_77 _)) rfl (s_lt hn rfl) ?_
                  refine v_iconstI dX12_row_96 ?_
                  refine v_ialdI dX12_row_97 ((hp41 82 (by decide)).trans (ent_82 _)) (s_lt hn rfl) (by decide) (by decide) (by decide) ?_
                  refine v_imulI dX12_row_98 ?_
                  refine v_iload_n dX12_row_99 rfl ?_
                  refine v_iaddI dX12_row_100 ?_
                  refine v_imulI dX12_row_101 ?_
                  refine v_iaddI dX12_row_102 ?_
                  refine v_iconstI dX12_row_103 ?_
                  refine v_iaddI dX12_row_104 ?_
                  refine v_aload_n dX12_row_105 rfl ?_
                  refine v_get dX12_row_106 fl_X12_23 ((hp41 77 (by decide)).trans (ent_77 _)) rfl (s_lt hn rfl) ?_
                  refine v_iload_n dX12_row_109 rfl ?_
                  refine v_iconstI dX12_row_110 ?_
                  refine v_iaddI dX12_row_111 ?_
                  refine v_ialdI dX12_row_112 ((hp41 82 (by decide)).trans (ent_82 _)) (s_lt hn rfl) q59.1 q59.2 (ix_le q59.2 (by decide)) ?_
                  obtain ⟨q67, w⟩ := w
                  refine v_iastI dX12_row_113 ((hp41 79 (by decide)).trans (ent_79 _)) (s_lt hn rfl) q67.1 q67.2 (ix_le q67.2 (by decide)) (fun h68 E69 F70 => ?_)
                  have hp71 := pic_st hp41 (show h68 79 = ent 79 (uI _ ((40 + (3 * ((8 * (X30 82 0)) + x29))) + 1) (X30 82 (x29 + 1))) from E69) F70
                  have hf72 := Fr.up (c := 79) hf42 F70 rfl
                  refine v_iincI dX12_row_114 rfl (Nat.le_of_ble_eq_true rfl) ?_
                  refine v_goto (tgt := 130) dX12_row_117 (by decide) ?_
                  refine v_iincI dX12_row_130 rfl (Nat.le_of_ble_eq_true rfl) ?_
                  refine v_goto (tgt := 59) dX12_row_133 (by decide) ?_
                  refine v_pick [2, 3, 1, 0] rfl ?_
                  exact ih33 _ _ _ _ (Nat.lt_of_lt_of_le w.2 (Nat.le_of_lt_succ hm37)) w.1 hp71 hf72
        exact hL36 _ _ _ _ _ (Nat.lt_succ_self _) wi35 hp26 hf27
      )
      refine v_icmp_leI (tgt := 51) dX12_row_41 (by decide) q11.1 q11.2 (by decide) (by decide) (fun c73 => ?_) (fun c73 => ?_)
      · replace w := w.1 c73
        refine v_iconstI dX12_row_51 ?_
        refine v_pick [1, 0] rfl ?_
        exact w
      · replace w := w.2 c73
        refine v_iload_n dX12_row_44 rfl ?_
        refine v_bipushI dX12_row_45 rfl ?_
        refine v_isubI dX12_row_47 ?_
        refine v_goto (tgt := 52) dX12_row_48 (by decide) ?_
        refine v_pick [1, 0] rfl ?_
        exact w
    · replace w := w.2 c20
      refine v_aload_n dX12_row_30 rfl ?_
      refine v_bipushI dX12_row_31 rfl ?_
      refine v_callVIw dX12_row_33 ml_X12_179 (so_X12_tell hn hp9  w) ((hp9 77 (by decide)).trans (ent_77 _)) rfl (s_lt hn rfl) rfl rfl (Nat.le_of_ble_eq_true rfl) (Nat.le_of_ble_eq_true rfl) (Nat.zero_le _) (Nat.zero_le _) (fun v74 X75 h76 hp78 hf77 w => ?_)
      have hf79 := Fr.trans hf10 hf77
      exact v_iret dX12_row_36 rfl (Nat.zero_le _) (Nat.zero_le _) ⟨rfl, hf79, _, _, rfl, hp78, w⟩
theorem dX12_isSmall_0 : decode cX12_isSmall 0 = .ok (.iload_n 0, 1) := by decide +kernel
theorem dX12_isSmall_1 : decode cX12_isSmall 1 = .ok (.bipush 97, 2) := by decide +kernel
theorem dX12_isSmall_3 : decode cX12_isSmall 3 = .ok (.if_icmp .lt 13, 3) := by decide +kernel
theorem dX12_isSmall_6 : decode cX12_isSmall 6 = .ok (.iload_n 0, 1) := by decide +kernel
theorem dX12_isSmall_7 : decode cX12_isSmall 7 = .ok (.bipush 122, 2) := by decide +kernel
theorem dX12_isSmall_9 : decode cX12_isSmall 9 = .ok (.if_icmp .gt 7, 3) := by decide +kernel
theorem dX12_isSmall_12 : decode cX12_isSmall 12 = .ok (.iconst 1, 1) := by decide +kernel
theorem dX12_isSmall_13 : decode cX12_isSmall 13 = .ok (.goto 4, 3) := by decide +kernel
theorem dX12_isSmall_16 : decode cX12_isSmall 16 = .ok (.iconst 0, 1) := by decide +kernel
theorem dX12_isSmall_17 : decode cX12_isSmall 17 = .ok (.ireturn, 1) := by decide +kernel
def w_X12_isSmall (a0 : Int) (X : XT) (Q : Int → Prop) : Prop :=
  R32 a0 ∧ (a0 < 97 → Q 0) ∧ (¬ a0 < 97 → (122 < a0 → Q 0) ∧ (¬ 122 < a0 → Q 1))
set_option maxRecDepth 20000 in
theorem so_X12_isSmall {n : Nat} {h : Nat → sE} {X : XT} {a0 : Int} {Q : Int → Prop} (hn : 115 ≤ n) (hp : Pic X h) (w : w_X12_isSmall  a0 X Q) : Sp m_X12_isSmall 0 0 0 [.int (iI a0)] n h (pIr n h Q) := by
  unfold w_X12_isSmall at w
  refine Sp.ofV (by decide +kernel) (Nat.le_of_ble_eq_true rfl) ?_
  have hf : Fr h h := fun _ _ => rfl
  refine v_iload_n dX12_isSmall_0 rfl ?_
  refine v_bipushI dX12_isSmall_1 rfl ?_
  obtain ⟨q1, w⟩ := w
  refine v_icmp_ltI (tgt := 16) dX12_isSmall_3 (by decide) q1.1 q1.2 (by decide) (by decide) (fun c2 => ?_) (fun c2 => ?_)
  · replace w := w.1 c2
    refine v_iconstI dX12_isSmall_16 ?_
    exact v_z0 dX12_isSmall_17 rfl (Nat.zero_le _) (Nat.zero_le _) ⟨rfl, rfl, _, rfl, w⟩
  · replace w := w.2 c2
    refine v_iload_n dX12_isSmall_6 rfl ?_
    refine v_bipushI dX12_isSmall_7 rfl ?_
    refine v_icmp_gtI (tgt := 16) dX12_isSmall_9 (by decide) q1.1 q1.2 (by decide) (by decide) (fun c3 => ?_) (fun c3 => ?_)
    · replace w := w.1 c3
      refine v_iconstI dX12_isSmall_16 ?_
      exact v_z0 dX12_isSmall_17 rfl (Nat.zero_le _) (Nat.zero_le _) ⟨rfl, rfl, _, rfl, w⟩
    · replace w := w.2 c3
      refine v_iconstI dX12_isSmall_12 ?_
      refine v_goto (tgt := 17) dX12_isSmall_13 (by decide) ?_
      exact v_z1 dX12_isSmall_17 rfl (Nat.zero_le _) (Nat.zero_le _) ⟨rfl, rfl, _, rfl, w⟩
theorem dX12_isDigit_0 : decode cX12_isDigit 0 = .ok (.iload_n 0, 1) := by decide +kernel
theorem dX12_isDigit_1 : decode cX12_isDigit 1 = .ok (.bipush 48, 2) := by decide +kernel
theorem dX12_isDigit_3 : decode cX12_isDigit 3 = .ok (.if_icmp .lt 13, 3) := by decide +kernel
theorem dX12_isDigit_6 : decode cX12_isDigit 6 = .ok (.iload_n 0, 1) := by decide +kernel
theorem dX12_isDigit_7 : decode cX12_isDigit 7 = .ok (.bipush 57, 2) := by decide +kernel
theorem dX12_isDigit_9 : decode cX12_isDigit 9 = .ok (.if_icmp .gt 7, 3) := by decide +kernel
theorem dX12_isDigit_12 : decode cX12_isDigit 12 = .ok (.iconst 1, 1) := by decide +kernel
theorem dX12_isDigit_13 : decode cX12_isDigit 13 = .ok (.goto 4, 3) := by decide +kernel
theorem dX12_isDigit_16 : decode cX12_isDigit 16 = .ok (.iconst 0, 1) := by decide +kernel
theorem dX12_isDigit_17 : decode cX12_isDigit 17 = .ok (.ireturn, 1) := by decide +kernel
def w_X12_isDigit (a0 : Int) (X : XT) (Q : Int → Prop) : Prop :=
  R32 a0 ∧ (a0 < 48 → Q 0) ∧ (¬ a0 < 48 → (57 < a0 → Q 0) ∧ (¬ 57 < a0 → Q 1))
set_option maxRecDepth 20000 in
theorem so_X12_isDigit {n : Nat} {h : Nat → sE} {X : XT} {a0 : Int} {Q : Int → Prop} (hn : 115 ≤ n) (hp : Pic X h) (w : w_X12_isDigit  a0 X Q) : Sp m_X12_isDigit 0 0 0 [.int (iI a0)] n h (pIr n h Q) := by
  unfold w_X12_isDigit at w
  refine Sp.ofV (by decide +kernel) (Nat.le_of_ble_eq_true rfl) ?_
  have hf : Fr h h := fun _ _ => rfl
  refine v_iload_n dX12_isDigit_0 rfl ?_
  refine v_bipushI dX12_isDigit_1 rfl ?_
  obtain ⟨q1, w⟩ := w
  refine v_icmp_ltI (tgt := 16) dX12_isDigit_3 (by decide) q1.1 q1.2 (by decide) (by decide) (fun c2 => ?_) (fun c2 => ?_)
  · replace w := w.1 c2
    refine v_iconstI dX12_isDigit_16 ?_
    exact v_z0 dX12_isDigit_17 rfl (Nat.zero_le _) (Nat.zero_le _) ⟨rfl, rfl, _, rfl, w⟩
  · replace w := w.2 c2
    refine v_iload_n dX12_isDigit_6 rfl ?_
    refine v_bipushI dX12_isDigit_7 rfl ?_
    refine v_icmp_gtI (tgt := 16) dX12_isDigit_9 (by decide) q1.1 q1.2 (by decide) (by decide) (fun c3 => ?_) (fun c3 => ?_)
    · replace w := w.1 c3
      refine v_iconstI dX12_isDigit_16 ?_
      exact v_z0 dX12_isDigit_17 rfl (Nat.zero_le _) (Nat.zero_le _) ⟨rfl, rfl, _, rfl, w⟩
    · replace w := w.2 c3
      refine v_iconstI dX12_isDigit_12 ?_
      refine v_goto (tgt := 17) dX12_isDigit_13 (by decide) ?_
      exact v_z1 dX12_isDigit_17 rfl (Nat.zero_le _) (Nat.zero_le _) ⟨rfl, rfl, _, rfl, w⟩
theorem dX12_next_0 : decode cX12_next 0 = .ok (.aload_n 0, 1) := by decide +kernel
theorem dX12_next_1 : decode cX12_next 1 = .ok (.aload_n 0, 1) := by decide +kernel
theorem dX12_next_2 : decode cX12_next 2 = .ok (.getfield 251, 3) := by decide +kernel
theorem dX12_next_5 : decode cX12_next 5 = .ok (.putfield 261, 3) := by decide +kernel
theorem dX12_next_8 : decode cX12_next 8 = .ok (.aload_n 0, 1) := by decide +kernel
theorem dX12_next_9 : decode cX12_next 9 = .ok (.getfield 261, 3) := by decide +kernel
theorem dX12_next_12 : decode cX12_next 12 = .ok (.aload_n 0, 1) := by decide +kernel
theorem dX12_next_13 : decode cX12_next 13 = .ok (.getfield 241, 3) := by decide +kernel
theorem dX12_next_16 : decode cX12_next 16 = .ok (.if_icmp .ge 30, 3) := by decide +kernel
theorem dX12_next_19 : decode cX12_next 19 = .ok (.aload_n 0, 1) := by decide +kernel
theorem dX12_next_20 : decode cX12_next 20 = .ok (.getfield 23, 3) := by decide +kernel
theorem dX12_next_23 : decode cX12_next 23 = .ok (.aload_n 0, 1) := by decide +kernel
theorem dX12_next_24 : decode cX12_next 24 = .ok (.getfield 261, 3) := by decide +kernel
theorem dX12_next_27 : decode cX12_next 27 = .ok (.iaload, 1) := by decide +kernel
theorem dX12_next_28 : decode cX12_next 28 = .ok (.bipush 32, 2) := by decide +kernel
theorem dX12_next_30 : decode cX12_next 30 = .ok (.if_icmp .ne 16, 3) := by decide +kernel
theorem dX12_next_33 : decode cX12_next 33 = .ok (.aload_n 0, 1) := by decide +kernel
theorem dX12_next_34 : decode cX12_next 34 = .ok (.dup, 1) := by decide +kernel
theorem dX12_next_35 : decode cX12_next 35 = .ok (.getfield 261, 3) := by decide +kernel
theorem dX12_next_38 : decode cX12_next 38 = .ok (.iconst 1, 1) := by decide +kernel
theorem dX12_next_39 : decode cX12_next 39 = .ok (.iadd, 1) := by decide +kernel
theorem dX12_next_40 : decode cX12_next 40 = .ok (.putfield 261, 3) := by decide +kernel
theorem dX12_next_43 : decode cX12_next 43 = .ok (.goto (-35), 3) := by decide +kernel
theorem dX12_next_46 : decode cX12_next 46 = .ok (.aload_n 0, 1) := by decide +kernel
theorem dX12_next_47 : decode cX12_next 47 = .ok (.aload_n 0, 1) := by decide +kernel
theorem dX12_next_48 : decode cX12_next 48 = .ok (.getfield 261, 3) := by decide +kernel
theorem dX12_next_51 : decode cX12_next 51 = .ok (.putfield 251, 3) := by decide +kernel
theorem dX12_next_54 : decode cX12_next 54 = .ok (.aload_n 0, 1) := by decide +kernel
theorem dX12_next_55 : decode cX12_next 55 = .ok (.lconst 0, 1) := by decide +kernel
theorem dX12_next_56 : decode cX12_next 56 = .ok (.putfield 264, 3) := by decide +kernel
theorem dX12_next_59 : decode cX12_next 59 = .ok (.aload_n 0, 1) := by decide +kernel
theorem dX12_next_60 : decode cX12_next 60 = .ok (.aload_n 0, 1) := by decide +kernel
theorem dX12_next_61 : decode cX12_next 61 = .ok (.getfield 261, 3) := by decide +kernel
theorem dX12_next_64 : decode cX12_next 64 = .ok (.aload_n 0, 1) := by decide +kernel
theorem dX12_next_65 : decode cX12_next 65 = .ok (.getfield 241, 3) := by decide +kernel
theorem dX12_next_68 : decode cX12_next 68 = .ok (.if_icmp .ne 7, 3) := by decide +kernel
theorem dX12_next_71 : decode cX12_next 71 = .ok (.iconst 0, 1) := by decide +kernel
theorem dX12_next_72 : decode cX12_next 72 = .ok (.goto 42, 3) := by decide +kernel
theorem dX12_next_75 : decode cX12_next 75 = .ok (.aload_n 0, 1) := by decide +kernel
theorem dX12_next_76 : decode cX12_next 76 = .ok (.getfield 23, 3) := by decide +kernel
theorem dX12_next_79 : decode cX12_next 79 = .ok (.aload_n 0, 1) := by decide +kernel
theorem dX12_next_80 : decode cX12_next 80 = .ok (.getfield 261, 3) := by decide +kernel
theorem dX12_next_83 : decode cX12_next 83 = .ok (.iaload, 1) := by decide +kernel
theorem dX12_next_84 : decode cX12_next 84 = .ok (.invokestatic 268, 3) := by decide +kernel
theorem dX12_next_87 : decode cX12_next 87 = .ok (.ifCond .eq 7, 3) := by decide +kernel
theorem dX12_next_90 : decode cX12_next 90 = .ok (.iconst 1, 1) := by decide +kernel
theorem dX12_next_91 : decode cX12_next 91 = .ok (.goto 23, 3) := by decide +kernel
theorem dX12_next_94 : decode cX12_next 94 = .ok (.aload_n 0, 1) := by decide +kernel
theorem dX12_next_95 : decode cX12_next 95 = .ok (.getfield 23, 3) := by decide +kernel
theorem dX12_next_98 : decode cX12_next 98 = .ok (.aload_n 0, 1) := by decide +kernel
theorem dX12_next_99 : decode cX12_next 99 = .ok (.getfield 261, 3) := by decide +kernel
theorem dX12_next_102 : decode cX12_next 102 = .ok (.iaload, 1) := by decide +kernel
theorem dX12_next_103 : decode cX12_next 103 = .ok (.invokestatic 271, 3) := by decide +kernel
theorem dX12_next_106 : decode cX12_next 106 = .ok (.ifCond .eq 7, 3) := by decide +kernel
theorem dX12_next_109 : decode cX12_next 109 = .ok (.iconst 2, 1) := by decide +kernel
theorem dX12_next_110 : decode cX12_next 110 = .ok (.goto 4, 3) := by decide +kernel
theorem dX12_next_113 : decode cX12_next 113 = .ok (.iconst 3, 1) := by decide +kernel
theorem dX12_next_114 : decode cX12_next 114 = .ok (.putfield 274, 3) := by decide +kernel
theorem dX12_next_117 : decode cX12_next 117 = .ok (.aload_n 0, 1) := by decide +kernel
theorem dX12_next_118 : decode cX12_next 118 = .ok (.getfield 274, 3) := by decide +kernel
theorem dX12_next_121 : decode cX12_next 121 = .ok (.iconst 3, 1) := by decide +kernel
theorem dX12_next_122 : decode cX12_next 122 = .ok (.if_icmp .ne 27, 3) := by decide +kernel
theorem dX12_next_125 : decode cX12_next 125 = .ok (.aload_n 0, 1) := by decide +kernel
theorem dX12_next_126 : decode cX12_next 126 = .ok (.aload_n 0, 1) := by decide +kernel
theorem dX12_next_127 : decode cX12_next 127 = .ok (.getfield 23, 3) := by decide +kernel
theorem dX12_next_130 : decode cX12_next 130 = .ok (.aload_n 0, 1) := by decide +kernel
theorem dX12_next_131 : decode cX12_next 131 = .ok (.getfield 261, 3) := by decide +kernel
theorem dX12_next_134 : decode cX12_next 134 = .ok (.iaload, 1) := by decide +kernel
theorem dX12_next_135 : decode cX12_next 135 = .ok (.i2l, 1) := by decide +kernel
theorem dX12_next_136 : decode cX12_next 136 = .ok (.putfield 264, 3) := by decide +kernel
theorem dX12_next_139 : decode cX12_next 139 = .ok (.aload_n 0, 1) := by decide +kernel
theorem dX12_next_140 : decode cX12_next 140 = .ok (.dup, 1) := by decide +kernel
theorem dX12_next_141 : decode cX12_next 141 = .ok (.getfield 251, 3) := by decide +kernel
theorem dX12_next_144 : decode cX12_next 144 = .ok (.iconst 1, 1) := by decide +kernel
theorem dX12_next_145 : decode cX12_next 145 = .ok (.iadd, 1) := by decide +kernel
theorem dX12_next_146 : decode cX12_next 146 = .ok (.putfield 251, 3) := by decide +kernel
theorem dX12_next_149 : decode cX12_next 149 = .ok (.aload_n 0, 1) := by decide +kernel
theorem dX12_next_150 : decode cX12_next 150 = .ok (.getfield 274, 3) := by decide +kernel
theorem dX12_next_153 : decode cX12_next 153 = .ok (.iconst 1, 1) := by decide +kernel
theorem dX12_next_154 : decode cX12_next 154 = .ok (.if_icmp .ne 89, 3) := by decide +kernel
theorem dX12_next_157 : decode cX12_next 157 = .ok (.aload_n 0, 1) := by decide +kernel
theorem dX12_next_158 : decode cX12_next 158 = .ok (.getfield 251, 3) := by decide +kernel
theorem dX12_next_161 : decode cX12_next 161 = .ok (.aload_n 0, 1) := by decide +kernel
theorem dX12_next_162 : decode cX12_next 162 = .ok (.getfield 241, 3) := by decide +kernel
theorem dX12_next_165 : decode cX12_next 165 = .ok (.if_icmp .ge 78, 3) := by decide +kernel
theorem dX12_next_168 : decode cX12_next 168 = .ok (.aload_n 0, 1) := by decide +kernel
theorem dX12_next_169 : decode cX12_next 169 = .ok (.getfield 23, 3) := by decide +kernel
theorem dX12_next_172 : decode cX12_next 172 = .ok (.aload_n 0, 1) := by decide +kernel
theorem dX12_next_173 : decode cX12_next 173 = .ok (.getfield 251, 3) := by decide +kernel
theorem dX12_next_176 : decode cX12_next 176 = .ok (.iaload, 1) := by decide +kernel
theorem dX12_next_177 : decode cX12_next 177 = .ok (.invokestatic 268, 3) := by decide +kernel
theorem dX12_next_180 : decode cX12_next 180 = .ok (.ifCond .eq 63, 3) := by decide +kernel
theorem dX12_next_183 : decode cX12_next 183 = .ok (.aload_n 0, 1) := by decide +kernel
theorem dX12_next_184 : decode cX12_next 184 = .ok (.aload_n 0, 1) := by decide +kernel
theorem dX12_next_185 : decode cX12_next 185 = .ok (.getfield 251, 3) := by decide +kernel
theorem dX12_next_188 : decode cX12_next 188 = .ok (.aload_n 0, 1) := by decide +kernel
theorem dX12_next_189 : decode cX12_next 189 = .ok (.getfield 261, 3) := by decide +kernel
theorem dX12_next_192 : decode cX12_next 192 = .ok (.isub, 1) := by decide +kernel
theorem dX12_next_193 : decode cX12_next 193 = .ok (.bipush 10, 2) := by decide +kernel
theorem dX12_next_195 : decode cX12_next 195 = .ok (.if_icmp .ge 29, 3) := by decide +kernel
theorem dX12_next_198 : decode cX12_next 198 = .ok (.aload_n 0, 1) := by decide +kernel
theorem dX12_next_199 : decode cX12_next 199 = .ok (.getfield 264, 3) := by decide +kernel
theorem dX12_next_202 : decode cX12_next 202 = .ok (.ldc2_w 277, 3) := by decide +kernel
theorem dX12_next_205 : decode cX12_next 205 = .ok (.lmul, 1) := by decide +kernel
theorem dX12_next_206 : decode cX12_next 206 = .ok (.aload_n 0, 1) := by decide +kernel
theorem dX12_next_207 : decode cX12_next 207 = .ok (.getfield 23, 3) := by decide +kernel
theorem dX12_next_210 : decode cX12_next 210 = .ok (.aload_n 0, 1) := by decide +kernel
theorem dX12_next_211 : decode cX12_next 211 = .ok (.getfield 251, 3) := by decide +kernel
theorem dX12_next_214 : decode cX12_next 214 = .ok (.iaload, 1) := by decide +kernel
theorem dX12_next_215 : decode cX12_next 215 = .ok (.i2l, 1) := by decide +kernel
theorem dX12_next_216 : decode cX12_next 216 = .ok (.ladd, 1) := by decide +kernel
theorem dX12_next_217 : decode cX12_next 217 = .ok (.ldc2_w 279, 3) := by decide +kernel
theorem dX12_next_220 : decode cX12_next 220 = .ok (.lsub, 1) := by decide +kernel
theorem dX12_next_221 : decode cX12_next 221 = .ok (.goto 6, 3) := by decide +kernel
theorem dX12_next_224 : decode cX12_next 224 = .ok (.ldc2_w 208, 3) := by decide +kernel
theorem dX12_next_227 : decode cX12_next 227 = .ok (.putfield 264, 3) := by decide +kernel
theorem dX12_next_230 : decode cX12_next 230 = .ok (.aload_n 0, 1) := by decide +kernel
theorem dX12_next_231 : decode cX12_next 231 = .ok (.dup, 1) := by decide +kernel
theorem dX12_next_232 : decode cX12_next 232 = .ok (.getfield 251, 3) := by decide +kernel
theorem dX12_next_235 : decode cX12_next 235 = .ok (.iconst 1, 1) := by decide +kernel
theorem dX12_next_236 : decode cX12_next 236 = .ok (.iadd, 1) := by decide +kernel
theorem dX12_next_237 : decode cX12_next 237 = .ok (.putfield 251, 3) := by decide +kernel
theorem dX12_next_240 : decode cX12_next 240 = .ok (.goto (-91), 3) := by decide +kernel
theorem dX12_next_243 : decode cX12_next 243 = .ok (.aload_n 0, 1) := by decide +kernel
theorem dX12_next_244 : decode cX12_next 244 = .ok (.getfield 274, 3) := by decide +kernel
theorem dX12_next_247 : decode cX12_next 247 = .ok (.iconst 2, 1) := by decide +kernel
theorem dX12_next_248 : decode cX12_next 248 = .ok (.if_icmp .ne 87, 3) := by decide +kernel
theorem dX12_next_251 : decode cX12_next 251 = .ok (.aload_n 0, 1) := by decide +kernel
theorem dX12_next_252 : decode cX12_next 252 = .ok (.getfield 251, 3) := by decide +kernel
theorem dX12_next_255 : decode cX12_next 255 = .ok (.aload_n 0, 1) := by decide +kernel
theorem dX12_next_256 : decode cX12_next 256 = .ok (.getfield 241, 3) := by decide +kernel
theorem dX12_next_259 : decode cX12_next 259 = .ok (.if_icmp .ge 76, 3) := by decide +kernel
theorem dX12_next_262 : decode cX12_next 262 = .ok (.aload_n 0, 1) := by decide +kernel
theorem dX12_next_263 : decode cX12_next 263 = .ok (.getfield 23, 3) := by decide +kernel
theorem dX12_next_266 : decode cX12_next 266 = .ok (.aload_n 0, 1) := by decide +kernel
theorem dX12_next_267 : decode cX12_next 267 = .ok (.getfield 251, 3) := by decide +kernel
theorem dX12_next_270 : decode cX12_next 270 = .ok (.iaload, 1) := by decide +kernel
theorem dX12_next_271 : decode cX12_next 271 = .ok (.invokestatic 271, 3) := by decide +kernel
theorem dX12_next_274 : decode cX12_next 274 = .ok (.ifCond .eq 61, 3) := by decide +kernel
theorem dX12_next_277 : decode cX12_next 277 = .ok (.aload_n 0, 1) := by decide +kernel
theorem dX12_next_278 : decode cX12_next 278 = .ok (.aload_n 0, 1) := by decide +kernel
theorem dX12_next_279 : decode cX12_next 279 = .ok (.getfield 264, 3) := by decide +kernel
theorem dX12_next_282 : decode cX12_next 282 = .ok (.ldc2_w 281, 3) := by decide +kernel
theorem dX12_next_285 : decode cX12_next 285 = .ok (.lcmp, 1) := by decide +kernel
theorem dX12_next_286 : decode cX12_next 286 = .ok (.ifCond .le 10, 3) := by decide +kernel
theorem dX12_next_289 : decode cX12_next 289 = .ok (.aload_n 0, 1) := by decide +kernel
theorem dX12_next_290 : decode cX12_next 290 = .ok (.getfield 264, 3) := by decide +kernel
theorem dX12_next_293 : decode cX12_next 293 = .ok (.goto 26, 3) := by decide +kernel
theorem dX12_next_296 : decode cX12_next 296 = .ok (.aload_n 0, 1) := by decide +kernel
theorem dX12_next_297 : decode cX12_next 297 = .ok (.getfield 264, 3) := by decide +kernel
theorem dX12_next_300 : decode cX12_next 300 = .ok (.ldc2_w 227, 3) := by decide +kernel
theorem dX12_next_303 : decode cX12_next 303 = .ok (.lmul, 1) := by decide +kernel
theorem dX12_next_304 : decode cX12_next 304 = .ok (.aload_n 0, 1) := by decide +kernel
theorem dX12_next_305 : decode cX12_next 305 = .ok (.getfield 23, 3) := by decide +kernel
theorem dX12_next_308 : decode cX12_next 308 = .ok (.aload_n 0, 1) := by decide +kernel
theorem dX12_next_309 : decode cX12_next 309 = .ok (.getfield 251, 3) := by decide +kernel
theorem dX12_next_312 : decode cX12_next 312 = .ok (.iaload, 1) := by decide +kernel
theorem dX12_next_313 : decode cX12_next 313 = .ok (.i2l, 1) := by decide +kernel
theorem dX12_next_314 : decode cX12_next 314 = .ok (.ladd, 1) := by decide +kernel
theorem dX12_next_315 : decode cX12_next 315 = .ok (.ldc2_w 283, 3) := by decide +kernel
theorem dX12_next_318 : decode cX12_next 318 = .ok (.lsub, 1) := by decide +kernel
theorem dX12_next_319 : decode cX12_next 319 = .ok (.putfield 264, 3) := by decide +kernel
theorem dX12_next_322 : decode cX12_next 322 = .ok (.aload_n 0, 1) := by decide +kernel
theorem dX12_next_323 : decode cX12_next 323 = .ok (.dup, 1) := by decide +kernel
theorem dX12_next_324 : decode cX12_next 324 = .ok (.getfield 251, 3) := by decide +kernel
theorem dX12_next_327 : decode cX12_next 327 = .ok (.iconst 1, 1) := by decide +kernel
theorem dX12_next_328 : decode cX12_next 328 = .ok (.iadd, 1) := by decide +kernel
theorem dX12_next_329 : decode cX12_next 329 = .ok (.putfield 251, 3) := by decide +kernel
theorem dX12_next_332 : decode cX12_next 332 = .ok (.goto (-89), 3) := by decide +kernel
theorem dX12_next_335 : decode cX12_next 335 = .ok (.return_, 1) := by decide +kernel
def w_X12_next (X : XT) (Q : XT → Prop) : Prop :=
  ∃ (I7 : XT → Prop) (m8 : XT → Nat), I7  (x_st X 77 9 (X 77 10)) ∧ ∀  (X6 : XT), I7  X6 → ∀ J19 : Prop, ((∀ J31 : Int → Prop, (∀ (v30 : Int), (∀ J38 : XT → Prop, (∀  (X37 : XT), (∃ (I43 : XT → Prop) (m44 : XT → Nat), I43  X37 ∧ ∀  (X42 : XT), I43  X42 → ∀ J55 : Prop, ((∃ (I57 : XT → Prop) (m58 : XT → Nat), I57  X42 ∧ ∀  (X56 : XT), I57  X56 → R32 (X56 77 11) ∧ (¬ (X56 77 11) = 2 → Q X56) ∧ ((X56 77 11) = 2 → R32 (X56 77 10) ∧ R32 (X56 77 8) ∧ ((X56 77 8) ≤ (X56 77 10) → Q X56) ∧ (¬ (X56 77 8) ≤ (X56 77 10) → (0 ≤ (X56 77 10) ∧ (X56 77 10) < 400) ∧ w_X12_isDigit  (X56 82 (X56 77 10)) X56 (fun (v75 : Int) => R32 v75 ∧ (v75 = 0 → Q X56) ∧ (¬ v75 = 0 → ∀ J84 : Int → Prop, (∀ (v83 : Int), (I57  (x_st (x_st X56 77 12 v83) 77 10 (((x_st X56 77 12 v83) 77 10) + 1)) ∧ m58  (x_st (x_st X56 77 12 v83) 77 10 (((x_st X56 77 12 v83) 77 10) + 1)) < m58  X56) → J84 v83) → R64 (X56 77 12) ∧ ((X56 77 12) ≤ 1000000 → R32 (X56 82 (X56 77 10)) ∧ J84 ((((X56 77 12) * 10) + (X56 82 (X56 77 10))) - 48)) ∧ (¬ (X56 77 12) ≤ 1000000 → J84 (X56 77 12))))))) → J55) → R32 (X42 77 11) ∧ (¬ (X42 77 11) = 1 → J55 ) ∧ ((X42 77 11) = 1 → R32 (X42 77 10) ∧ R32 (X42 77 8) ∧ ((X42 77 8) ≤ (X42 77 10) → J55 ) ∧ (¬ (X42 77 8) ≤ (X42 77 10) → (0 ≤ (X42 77 10) ∧ (X42 77 10) < 400) ∧ w_X12_isSmall  (X42 82 (X42 77 10)) X42 (fun (v104 : Int) => R32 v104 ∧ (v104 = 0 → J55 ) ∧ (¬ v104 = 0 → ∀ J113 : Int → Prop, (∀ (v112 : Int), (I43  (x_st (x_st X42 77 12 v112) 77 10 (((x_st X42 77 12 v112) 77 10) + 1)) ∧ m44  (x_st (x_st X42 77 12 v112) 77 10 (((x_st X42 77 12 v112) 77 10) + 1)) < m44  X42) → J113 v112) → R32 ((X42 77 10) - (X42 77 9)) ∧ (10 ≤ ((X42 77 10) - (X42 77 9)) → J113 (-1)) ∧ (¬ 10 ≤ ((X42 77 10) - (X42 77 9)) → R32 (X42 82 (X42 77 10)) ∧ J113 ((((X42 77 12) * 32) + (X42 82 (X42 77 10))) - 96))))))) → J38  X37) → R32 ((x_st (x_st (x_st X6 77 10 (X6 77 9)) 77 12 0) 77 11 v30) 77 11) ∧ (¬ ((x_st (x_st (x_st X6 77 10 (X6 77 9)) 77 12 0) 77 11 v30) 77 11) = 3 → J38  (x_st (x_st (x_st X6 77 10 (X6 77 9)) 77 12 0) 77 11 v30)) ∧ (((x_st (x_st (x_st X6 77 10 (X6 77 9)) 77 12 0) 77 11 v30) 77 11) = 3 → (0 ≤ ((x_st (x_st (x_st X6 77 10 (X6 77 9)) 77 12 0) 77 11 v30) 77 9) ∧ ((x_st (x_st (x_st X6 77 10 (X6 77 9)) 77 12 0) 77 11 v30) 77 9) < 400) ∧ R32 ((x_st (x_st (x_st X6 77 10 (X6 77 9)) 77 12 0) 77 11 v30) 82 ((x_st (x_st (x_st X6 77 10 (X6 77 9)) 77 12 0) 77 11 v30) 77 9)) ∧ J38  (x_st (x_st (x_st (x_st (x_st X6 77 10 (X6 77 9)) 77 12 0) 77 11 v30) 77 12 ((x_st (x_st (x_st X6 77 10 (X6 77 9)) 77 12 0) 77 11 v30) 82 ((x_st (x_st (x_st X6 77 10 (X6 77 9)) 77 12 0) 77 11 v30) 77 9))) 77 10 (((x_st (x_st (x_st (x_st X6 77 10 (X6 77 9)) 77 12 0) 77 11 v30) 77 12 ((x_st (x_st (x_st X6 77 10 (X6 77 9)) 77 12 0) 77 11 v30) 82 ((x_st (x_st (x_st X6 77 10 (X6 77 9)) 77 12 0) 77 11 v30) 77 9))) 77 10) + 1)))) → J31 v30) → R32 ((x_st (x_st X6 77 10 (X6 77 9)) 77 12 0) 77 9) ∧ R32 ((x_st (x_st X6 77 10 (X6 77 9)) 77 12 0) 77 8) ∧ (¬ ((x_st (x_st X6 77 10 (X6 77 9)) 77 12 0) 77 9) = ((x_st (x_st X6 77 10 (X6 77 9)) 77 12 0) 77 8) → (0 ≤ ((x_st (x_st X6 77 10 (X6 77 9)) 77 12 0) 77 9) ∧ ((x_st (x_st X6 77 10 (X6 77 9)) 77 12 0) 77 9) < 400) ∧ w_X12_isSmall  ((x_st (x_st X6 77 10 (X6 77 9)) 77 12 0) 82 ((x_st (x_st X6 77 10 (X6 77 9)) 77 12 0) 77 9)) (x_st (x_st X6 77 10 (X6 77 9)) 77 12 0) (fun (v145 : Int) => R32 v145 ∧ (v145 = 0 → w_X12_isDigit  ((x_st (x_st X6 77 10 (X6 77 9)) 77 12 0) 82 ((x_st (x_st X6 77 10 (X6 77 9)) 77 12 0) 77 9)) (x_st (x_st X6 77 10 (X6 77 9)) 77 12 0) (fun (v153 : Int) => R32 v153 ∧ (v153 = 0 → J31 3) ∧ (¬ v153 = 0 → J31 2))) ∧ (¬ v145 = 0 → J31 1))) ∧ (((x_st (x_st X6 77 10 (X6 77 9)) 77 12 0) 77 9) = ((x_st (x_st X6 77 10 (X6 77 9)) 77 12 0) 77 8) → J31 0)) → J19) → R32 (X6 77 9) ∧ R32 (X6 77 8) ∧ ((X6 77 8) ≤ (X6 77 9) → J19 ) ∧ (¬ (X6 77 8) ≤ (X6 77 9) → (0 ≤ (X6 77 9) ∧ (X6 77 9) < 400) ∧ R32 (X6 82 (X6 77 9)) ∧ (¬ (X6 82 (X6 77 9)) = 32 → J19 ) ∧ ((X6 82 (X6 77 9)) = 32 → I7  (x_st X6 77 9 ((X6 77 9) + 1)) ∧ m8  (x_st X6 77 9 ((X6 77 9) + 1)) < m8  X6))
set_option maxRecDepth 20000 in
theorem so_X12_next {n : Nat} {h : Nat → sE} {X : XT} {Q : XT → Prop} (hn : 115 ≤ n) (hp : Pic X h) (w : w_X12_next   X Q) : Sp m_X12_next 1 0 0 [.ref 77] n h (pVw n h Q) := by
  unfold w_X12_next at w
  refine Sp.ofV (by decide +kernel) (Nat.le_of_ble_eq_true rfl) ?_
  have hf : Fr h h := fun _ _ => rfl
  refine v_aload_n dX12_next_0 rfl ?_
  refine v_aload_n dX12_next_1 rfl ?_
  refine v_get dX12_next_2 fl_X12_251 ((hp 77 (by decide)).trans (ent_77 _)) rfl (s_lt hn rfl) ?_
  refine v_put dX12_next_5 fl_X12_261 ((hp 77 (by decide)).trans (ent_77 _)) (s_lt hn rfl) (Nat.le_of_ble_eq_true rfl) (fun _ => ⟨rfl, rfl⟩) trivial (fun h1 E2 F3 => ?_)
  have hp4 := pic_st hp (show h1 77 = ent 77 (uI _ 9 (X 77 10)) from E2) F3
  have hf5 := Fr.up (c := 77) hf F3 rfl
  obtain ⟨I7, m8, wi11, wl10⟩ := w
  have hL12 : ∀ (N15 : Nat)  (X6 : XT) (h16 : Nat → sE), m8  X6 < N15 → I7  X6 → Pic X6 h16 → Fr h h16 → V (m_X12_next, 1, 0, 0, n, pVw n h Q, s_G0) 0 0 n h16 8 [(0, .ref 77)] [] := by
    intro N15
    induction N15 with
    | zero => intro  X6 h16 hm13; exact absurd hm13 (Nat.not_lt_zero _)
    | succ N15 ih9 =>
      intro  X6 h16 hm13 hI14 hp17 hf18
      have w := wl10  X6 hI14
      refine v_aload_n dX12_next_8 rfl ?_
      refine v_get dX12_next_9 fl_X12_261 ((hp17 77 (by decide)).trans (ent_77 _)) rfl (s_lt hn rfl) ?_
      refine v_aload_n dX12_next_12 rfl ?_
      refine v_get dX12_next_13 fl_X12_241 ((hp17 77 (by decide)).trans (ent_77 _)) rfl (s_lt hn rfl) ?_
      replace w := w (V (m_X12_next, 1, 0, 0, n, pVw n h Q, s_G0) 0 0 n h16 46 [(0, .ref 77)] []) (by
        intro  w
        refine v_aload_n dX12_next_46 rfl ?_
        refine v_aload_n dX12_next_47 rfl ?_
        refine v_get dX12_next_48 fl_X12_261 ((hp17 77 (by decide)).trans (ent_77 _)) rfl (s_lt hn rfl) ?_
        refine v_put dX12_next_51 fl_X12_251 ((hp17 77 (by decide)).trans (ent_77 _)) (s_lt hn rfl) (Nat.le_of_ble_eq_true rfl) (fun _ => ⟨rfl, rfl⟩) trivial (fun h20 E21 F22 => ?_)
        have hp23 := pic_st hp17 (show h20 77 = ent 77 (uI _ 10 (X6 77 9)) from E21) F22
        have hf24 := Fr.up (c := 77) hf18 F22 rfl
        refine v_aload_n dX12_next_54 rfl ?_
        refine v_lconstI (w := 0) dX12_next_55 rfl ?_
        refine v_put dX12_next_56 fl_X12_264 ((hp23 77 (by decide)).trans (ent_77 _)) (s_lt hn rfl) (Nat.le_of_ble_eq_true rfl) (fun _ => ⟨rfl, rfl⟩) trivial (fun h25 E26 F27 => ?_)
        have hp28 := pic_st hp23 (show h25 77 = ent 77 (uI _ 12 0) from E26) F27
        have hf29 := Fr.up (c := 77) hf24 F27 rfl
        refine v_aload_n dX12_next_59 rfl ?_
        refine v_aload_n dX12_next_60 rfl ?_
        refine v_get dX12_next_61 fl_X12_261 ((hp28 77 (by decide)).trans (ent_77 _)) rfl (s_lt hn rfl) ?_
        refine v_aload_n dX12_next_64 rfl ?_
        refine v_get dX12_next_65 fl_X12_241 ((hp28 77 (by decide)).trans (ent_77 _)) rfl (s_lt hn rfl) ?_
        replace w := w (fun (v30 : Int) => V (m_X12_next, 1, 0, 0, n, pVw n h Q, s_G0) 0 0 n h25 114 [(0, .ref 77)] [.int (iI v30), .ref 77]) (by
          intro v30 w
          refine v_put dX12_next_114 fl_X12_274 ((hp28 77 (by decide)).trans (ent_77 _)) (s_lt hn rfl) (Nat.le_of_ble_eq_true rfl) (fun _ => ⟨rfl, rfl⟩) trivial (fun h32 E33 F34 => ?_)
          have hp35 := pic_st hp28 (show h32 77 = ent 77 (uI _ 11 v30) from E33) F34
          have hf36 := Fr.up (c := 77) hf29 F34 rfl
          refine v_aload_n dX12_next_117 rfl ?_
          refine v_get dX12_next_118 fl_X12_274 ((hp35 77 (by decide)).trans (ent_77 _)) rfl (s_lt hn rfl) ?_
          refine v_iconstI dX12_next_121 ?_
          replace w := w (fun  (X37 : XT) => ∀ h41 : Nat → sE, Pic X37 h41 → Fr h h41 → V (m_X12_next, 1, 0, 0, n, pVw n h Q, s_G0) 0 0 n h41 149 [(0, .ref 77)] []) (by
            intro  X37 w h41 hp39 hf40
            obtain ⟨I43, m44, wi47, wl46⟩ := w
            have hL48 : ∀ (N51 : Nat)  (X42 : XT) (h52 : Nat → sE), m44  X42 < N51 → I43  X42 → Pic X42 h52 → Fr h h52 → V (m_X12_next, 1, 0, 0, n, pVw n h Q, s_G0) 0 0 n h52 149 [(0, .ref 77)] [] := by
              intro N51
              induction N51 with
              | zero => intro  X42 h52 hm49; exact absurd hm49 (Nat.not_lt_zero _)
              | succ N51 ih45 =>
                intro  X42 h52 hm49 hI50 hp53 hf54
                have w := wl46  X42 hI50
                refine v_aload_n dX12_next_149 rfl ?_
                refine v_get dX12_next_150 fl_X12_274 ((hp53 77 (by decide)).trans (ent_77 _)) rfl (s_lt hn rfl) ?_
                refine v_iconstI dX12_next_153 ?_
                replace w := w (V (m_X12_next, 1, 0, 0, n, pVw n h Q, s_G0) 0 0 n h52 243 [(0, .ref 77)] []) (by
                  intro  w
                  obtain ⟨I57, m58, wi61, wl60⟩ := w
                  have hL62 : ∀ (N65 : Nat)  (X56 : XT) (h66 : Nat → sE), m58  X56 < N65 → I57  X56 → Pic X56 h66 → Fr h h66 → V (m_X12_next, 1, 0, 0, n, pVw n h Q, s_G0) 0 0 n h66 243 [(0, .ref 77)] [] := by
                    intro N65
                    induction N65 with
                    | zero => intro  X56 h66 hm63; exact absurd hm63 (Nat.not_lt_zero _)
                    | succ N65 ih59 =>
                      intro  X56 h66 hm63 hI64 hp67 hf68
                      have w := wl60  X56 hI64
                      refine v_aload_n dX12_next_243 rfl ?_
                      refine v_get dX12_next_244 fl_X12_274 ((hp67 77 (by decide)).trans (ent_77 _)) rfl (s_lt hn rfl) ?_
                      refine v_iconstI dX12_next_247 ?_
                      obtain ⟨q69, w⟩ := w
                      refine v_icmp_neI (tgt := 335) dX12_next_248 (by decide) q69.1 q69.2 (by decide) (by decide) (fun c70 => ?_) (fun c70 => ?_)
                      · replace w := w.1 c70
                        exact v_vret dX12_next_335 rfl (Nat.zero_le _) (Nat.zero_le _) ⟨rfl, hf68, _, rfl, hp67, w⟩
                      · replace w := w.2 c70
                        refine v_aload_n dX12_next_251 rfl ?_
                        refine v_get dX12_next_252 fl_X12_251 ((hp67 77 (by decide)).trans (ent_77 _)) rfl (s_lt hn rfl) ?_
                        refine v_aload_n dX12_next_255 rfl ?_
                        refine v_get dX12_next_256 fl_X12_241 ((hp67 77 (by decide)).trans (ent_77 _)) rfl (s_lt hn rfl) ?_
                        obtain ⟨q71, q72, w⟩ := w
                        refine v_icmp_geI (tgt := 335) dX12_next_259 (by decide) q71.1 q71.2 q72.1 q72.2 (fun c73 => ?_) (fun c73 => ?_)
                        · replace w := w.1 c73
                          exact v_vret dX12_next_335 rfl (Nat.zero_le _) (Nat.zero_le _) ⟨rfl, hf68, _, rfl, hp67, w⟩
                        · replace w := w.2 c73
                          refine v_aload_n dX12_next_262 rfl ?_
                          refine v_get dX12_next_263 fl_X12_23 ((hp67 77 (by decide)).trans (ent_77 _)) rfl (s_lt hn rfl) ?_
                          refine v_aload_n dX12_next_266 rfl ?_
                          refine v_get dX12_next_267 fl_X12_251 ((hp67 77 (by decide)).trans (ent_77 _)) rfl (s_lt hn rfl) ?_
                          obtain ⟨q74, w⟩ := w
                          refine v_ialdI dX12_next_270 ((hp67 82 (by decide)).trans (ent_82 _)) (s_lt hn rfl) q74.1 q74.2 (ix_le q74.2 (by decide)) ?_
                          refine v_callSIr dX12_next_271 ml_X12_271 (so_X12_isDigit hn hp67  w) rfl rfl (Nat.le_of_ble_eq_true rfl) (Nat.le_of_ble_eq_true rfl) (Nat.zero_le _) (Nat.zero_le _) (fun v75 w => ?_)
                          obtain ⟨q81, w⟩ := w
                          refine v_if_eqI (tgt := 335) dX12_next_274 (by decide) q81.1 q81.2 (fun c82 => ?_) (fun c82 => ?_)
                          · replace w := w.1 c82
                            exact v_vret dX12_next_335 rfl (Nat.zero_le _) (Nat.zero_le _) ⟨rfl, hf68, _, rfl, hp67, w⟩
                          · replace w := w.2 c82
                            refine v_aload_n dX12_next_277 rfl ?_
                            refine v_aload_n dX12_next_278 rfl ?_
                            refine v_get dX12_next_279 fl_X12_264 ((hp67 77 (by decide)).trans (ent_77 _)) rfl (s_lt hn rfl) ?_
                            refine v_ldc2I 1000000 dX12_next_282 k_X12_281 rfl ?_
                            replace w := w (fun (v83 : Int) => V (m_X12_next, 1, 0, 0, n, pVw n h Q, s_G0) 0 0 n h66 319 [(0, .ref 77)] [.long (jJ v83), .ref 77]) (by
                              intro v83 w
                              refine v_put dX12_next_319 fl_X12_264 ((hp67 77 (by decide)).trans (ent_77 _)) (s_lt hn rfl) (Nat.le_of_ble_eq_true rfl) (fun _ => ⟨rfl, rfl⟩) trivial (fun h85 E86 F87 => ?_)
                              have hp88 := pic_st hp67 (show h85 77 = ent 77 (uI _ 12 v83) from E86) F87
                              have hf89 := Fr.up (c := 77) hf68 F87 rfl
                              refine v_aload_n dX12_next_322 rfl ?_
                              refine v_dup dX12_next_323 rfl ?_
                              refine v_get dX12_next_324 fl_X12_251 ((hp88 77 (by decide)).trans (ent_77 _)) rfl (s_lt hn rfl) ?_
                              refine v_iconstI dX12_next_327 ?_
                              refine v_iaddI dX12_next_328 ?_
                              refine v_put dX12_next_329 fl_X12_251 ((hp88 77 (by decide)).trans (ent_77 _)) (s_lt hn rfl) (Nat.le_of_ble_eq_true rfl) (fun _ => ⟨rfl, rfl⟩) trivial (fun h90 E91 F92 => ?_)
                              have hp93 := pic_st hp88 (show h90 77 = ent 77 (uI _ 10 (((x_st X56 77 12 v83) 77 10) + 1)) from E91) F92
                              have hf94 := Fr.up (c := 77) hf89 F92 rfl
                              refine v_goto (tgt := 243) dX12_next_332 (by decide) ?_
                              exact ih59 _ _ (Nat.lt_of_lt_of_le w.2 (Nat.le_of_lt_succ hm63)) w.1 hp93 hf94
                            )
                            obtain ⟨q95, w⟩ := w
                            refine v_lcmp_leI (tgt := 296) dX12_next_285 dX12_next_286 (by decide) q95.1 q95.2 (by decide) (by decide) (fun c96 => ?_) (fun c96 => ?_)
                            · replace w := w.1 c96
                              refine v_aload_n dX12_next_296 rfl ?_
                              refine v_get dX12_next_297 fl_X12_264 ((hp67 77 (by decide)).trans (ent_77 _)) rfl (s_lt hn rfl) ?_
                              refine v_ldc2I 10 dX12_next_300 k_X12_227 rfl ?_
                              refine v_lmulI dX12_next_303 ?_
                              refine v_aload_n dX12_next_304 rfl ?_
                              refine v_get dX12_next_305 fl_X12_23 ((hp67 77 (by decide)).trans (ent_77 _)) rfl (s_lt hn rfl) ?_
                              refine v_aload_n dX12_next_308 rfl ?_
                              refine v_get dX12_next_309 fl_X12_251 ((hp67 77 (by decide)).trans (ent_77 _)) rfl (s_lt hn rfl) ?_
                              refine v_ialdI dX12_next_312 ((hp67 82 (by decide)).trans (ent_82 _)) (s_lt hn rfl) q74.1 q74.2 (ix_le q74.2 (by decide)) ?_
                              obtain ⟨q97, w⟩ := w
                              refine v_i2lI dX12_next_313 q97.1 q97.2 ?_
                              refine v_laddI dX12_next_314 ?_
                              refine v_ldc2I 48 dX12_next_315 k_X12_283 rfl ?_
                              refine v_lsubI dX12_next_318 ?_
                              exact w
                            · replace w := w.2 c96
                              refine v_aload_n dX12_next_289 rfl ?_
                              refine v_get dX12_next_290 fl_X12_264 ((hp67 77 (by decide)).trans (ent_77 _)) rfl (s_lt hn rfl) ?_
                              refine v_goto (tgt := 319) dX12_next_293 (by decide) ?_
                              exact w
                  exact hL62 _ _ _ (Nat.lt_succ_self _) wi61 hp53 hf54
                )
                obtain ⟨q98, w⟩ := w
                refine v_icmp_neI (tgt := 243) dX12_next_154 (by decide) q98.1 q98.2 (by decide) (by decide) (fun c99 => ?_) (fun c99 => ?_)
                · replace w := w.1 c99
                  exact w
                · replace w := w.2 c99
                  refine v_aload_n dX12_next_157 rfl ?_
                  refine v_get dX12_next_158 fl_X12_251 ((hp53 77 (by decide)).trans (ent_77 _)) rfl (s_lt hn rfl) ?_
                  refine v_aload_n dX12_next_161 rfl ?_
                  refine v_get dX12_next_162 fl_X12_241 ((hp53 77 (by decide)).trans (ent_77 _)) rfl (s_lt hn rfl) ?_
                  obtain ⟨q100, q101, w⟩ := w
                  refine v_icmp_geI (tgt := 243) dX12_next_165 (by decide) q100.1 q100.2 q101.1 q101.2 (fun c102 => ?_) (fun c102 => ?_)
                  · replace w := w.1 c102
                    exact w
                  · replace w := w.2 c102
                    refine v_aload_n dX12_next_168 rfl ?_
                    refine v_get dX12_next_169 fl_X12_23 ((hp53 77 (by decide)).trans (ent_77 _)) rfl (s_lt hn rfl) ?_
                    refine v_aload_n dX12_next_172 rfl ?_
                    refine v_get dX12_next_173 fl_X12_251 ((hp53 77 (by decide)).trans (ent_77 _)) rfl (s_lt hn rfl) ?_
                    obtain ⟨q103, w⟩ := w
                    refine v_ialdI dX12_next_176 ((hp53 82 (by decide)).trans (ent_82 _)) (s_lt hn rfl) q103.1 q103.2 (ix_le q103.2 (by decide)) ?_
                    refine v_callSIr dX12_next_177 ml_X12_268 (so_X12_isSmall hn hp53  w) rfl rfl (Nat.le_of_ble_eq_true rfl) (Nat.le_of_ble_eq_true rfl) (Nat.zero_le _) (Nat.zero_le _) (fun v104 w => ?_)
                    obtain ⟨q110, w⟩ := w
                    refine v_if_eqI (tgt := 243) dX12_next_180 (by decide) q110.1 q110.2 (fun c111 => ?_) (fun c111 => ?_)
                    · replace w := w.1 c111
                      exact w
                    · replace w := w.2 c111
                      refine v_aload_n dX12_next_183 rfl ?_
                      refine v_aload_n dX12_next_184 rfl ?_
                      refine v_get dX12_next_185 fl_X12_251 ((hp53 77 (by decide)).trans (ent_77 _)) rfl (s_lt hn rfl) ?_
                      refine v_aload_n dX12_next_188 rfl ?_
                      refine v_get dX12_next_189 fl_X12_261 ((hp53 77 (by decide)).trans (ent_77 _)) rfl (s_lt hn rfl) ?_
                      refine v_isubI dX12_next_192 ?_
                      refine v_bipushI dX12_next_193 rfl ?_
                      replace w := w (fun (v112 : Int) => V (m_X12_next, 1, 0, 0, n, pVw n h Q, s_G0) 0 0 n h52 227 [(0, .ref 77)] [.long (jJ v112), .ref 77]) (by
                        intro v112 w
                        refine v_put dX12_next_227 fl_X12_264 ((hp53 77 (by decide)).trans (ent_77 _)) (s_lt hn rfl) (Nat.le_of_ble_eq_true rfl) (fun _ => ⟨rfl, rfl⟩) trivial (fun h114 E115 F116 => ?_)
                        have hp117 := pic_st hp53 (show h114 77 = ent 77 (uI _ 12 v112) from E115) F116
                        have hf118 := Fr.up (c := 77) hf54 F116 rfl
                        refine v_aload_n dX12_next_230 rfl ?_
                        refine v_dup dX12_next_231 rfl ?_
                        refine v_get dX12_next_232 fl_X12_251 ((hp117 77 (by decide)).trans (ent_77 _)) rfl (s_lt hn rfl) ?_
                        refine v_iconstI dX12_next_235 ?_
                        refine v_iaddI dX12_next_236 ?_
                        refine v_put dX12_next_237 fl_X12_251 ((hp117 77 (by decide)).trans (ent_77 _)) (s_lt hn rfl) (Nat.le_of_ble_eq_true rfl) (fun _ => ⟨rfl, rfl⟩) trivial (fun h119 E120 F121 => ?_)
                        have hp122 := pic_st hp117 (show h119 77 = ent 77 (uI _ 10 (((x_st X42 77 12 v112) 77 10) + 1)) from E120) F121
                        have hf123 := Fr.up (c := 77) hf118 F121 rfl
                        refine v_goto (tgt := 149) dX12_next_240 (by decide) ?_
                        exact ih45 _ _ (Nat.lt_of_lt_of_le w.2 (Nat.le_of_lt_succ hm49)) w.1 hp122 hf123
                      )
                      obtain ⟨q124, w⟩ := w
                      refine v_icmp_geI (tgt := 224) dX12_next_195 (by decide) q124.1 q124.2 (by decide) (by decide) (fun c125 => ?_) (fun c125 => ?_)
                      · replace w := w.1 c125
                        refine v_ldc2I (-1) dX12_next_224 k_X12_208 rfl ?_
                        exact w
                      · replace w := w.2 c125
                        refine v_aload_n dX12_next_198 rfl ?_
                        refine v_get dX12_next_199 fl_X12_264 ((hp53 77 (by decide)).trans (ent_77 _)) rfl (s_lt hn rfl) ?_
                        refine v_ldc2I 32 dX12_next_202 k_X12_277 rfl ?_
                        refine v_lmulI dX12_next_205 ?_
                        refine v_aload_n dX12_next_206 rfl ?_
                        refine v_get dX12_next_207 fl_X12_23 ((hp53 77 (by decide)).trans (ent_77 _)) rfl (s_lt hn rfl) ?_
                        refine v_aload_n dX12_next_210 rfl ?_
                        refine v_get dX12_next_211 fl_X12_251 ((hp53 77 (by decide)).trans (ent_77 _)) rfl (s_lt hn rfl) ?_
                        refine v_ialdI dX12_next_214 ((hp53 82 (by decide)).trans (ent_82 _)) (s_lt hn rfl) q103.1 q103.2 (ix_le q103.2 (by decide)) ?_
                        obtain ⟨q126, w⟩ := w
                        refine v_i2lI dX12_next_215 q126.1 q126.2 ?_
                        refine v_laddI dX12_next_216 ?_
                        refine v_ldc2I 96 dX12_next_217 k_X12_279 rfl ?_
                        refine v_lsubI dX12_next_220 ?_
                        refine v_goto (tgt := 227) dX12_next_221 (by decide) ?_
                        exact w
            exact hL48 _ _ _ (Nat.lt_succ_self _) wi47 hp39 hf40
          )
          obtain ⟨q127, w⟩ := w
          refine v_icmp_neI (tgt := 149) dX12_next_122 (by decide) q127.1 q127.2 (by decide) (by decide) (fun c128 => ?_) (fun c128 => ?_)
          · replace w := w.1 c128
            exact w _ hp35 hf36
          · replace w := w.2 c128
            refine v_aload_n dX12_next_125 rfl ?_
            refine v_aload_n dX12_next_126 rfl ?_
            refine v_get dX12_next_127 fl_X12_23 ((hp35 77 (by decide)).trans (ent_77 _)) rfl (s_lt hn rfl) ?_
            refine v_aload_n dX12_next_130 rfl ?_
            refine v_get dX12_next_131 fl_X12_261 ((hp35 77 (by decide)).trans (ent_77 _)) rfl (s_lt hn rfl) ?_
            obtain ⟨q129, w⟩ := w
            refine v_ialdI dX12_next_134 ((hp35 82 (by decide)).trans (ent_82 _)) (s_lt hn rfl) q129.1 q129.2 (ix_le q129.2 (by decide)) ?_
            obtain ⟨q130, w⟩ := w
            refine v_i2lI dX12_next_135 q130.1 q130.2 ?_
            refine v_put dX12_next_136 fl_X12_264 ((hp35 77 (by decide)).trans (ent_77 _)) (s_lt hn rfl) (Nat.le_of_ble_eq_true rfl) (fun _ => ⟨rfl, rfl⟩) trivial (fun h131 E132 F133 => ?_)
            have hp134 := pic_st hp35 (show h131 77 = ent 77 (uI _ 12 ((x_st (x_st (x_st X6 77 10 (X6 77 9)) 77 12 0) 77 11 v30) 82 ((x_st (x_st (x_st X6 77 10 (X6 77 9)) 77 12 0) 77 11 v30) 77 9))) from E132) F133
            have hf135 := Fr.up (c := 77) hf36 F133 rfl
            refine v_aload_n dX12_next_139 rfl ?_
            refine v_dup dX12_next_140 rfl ?_
            refine v_get dX12_next_141 fl_X12_251 ((hp134 77 (by decide)).trans (ent_77 _)) rfl (s_lt hn rfl) ?_
            refine v_iconstI dX12_next_144 ?_
            refine v_iaddI dX12_next_145 ?_
            refine v_put dX12_next_146 fl_X12_251 ((hp134 77 (by decide)).trans (ent_77 _)) (s_lt hn rfl) (Nat.le_of_ble_eq_true rfl) (fun _ => ⟨rfl, rfl⟩) trivial (fun h136 E137 F138 => ?_)
            have hp139 := pic_st hp134 (show h136 77 = ent 77 (uI _ 10 (((x_st (x_st (x_st (x_st X6 77 10 (X6 77 9)) 77 12 0) 77 11 v30) 77 12 ((x_st (x_st (x_st X6 77 10 (X6 77 9)) 77 12 0) 77 11 v30) 82 ((x_st (x_st (x_st X6 77 10 (X6 77 9)) 77 12 0) 77 11 v30) 77 9))) 77 10) + 1)) from E137) F138
            have hf140 := Fr.up (c := 77) hf135 F138 rfl
            exact w _ hp139 hf140
        )
        obtain ⟨q141, q142, w⟩ := w
        refine v_icmp_neI (tgt := 75) dX12_next_68 (by decide) q141.1 q141.2 q142.1 q142.2 (fun c143 => ?_) (fun c143 => ?_)
        · replace w := w.1 c143
          refine v_aload_n dX12_next_75 rfl ?_
          refine v_get dX12_next_76 fl_X12_23 ((hp28 77 (by decide)).trans (ent_77 _)) rfl (s_lt hn rfl) ?_
          refine v_aload_n dX12_next_79 rfl ?_
          refine v_get dX12_next_80 fl_X12_261 ((hp28 77 (by decide)).trans (ent_77 _)) rfl (s_lt hn rfl) ?_
          obtain ⟨q144, w⟩ := w
          refine v_ialdI dX12_next_83 ((hp28 82 (by decide)).trans (ent_82 _)) (s_lt hn rfl) q144.1 q144.2 (ix_le q144.2 (by decide)) ?_
          refine v_callSIr dX12_next_84 ml_X12_268 (so_X12_isSmall hn hp28  w) rfl rfl (Nat.le_of_ble_eq_true rfl) (Nat.le_of_ble_eq_true rfl) (Nat.zero_le _) (Nat.zero_le _) (fun v145 w => ?_)
          obtain ⟨q151, w⟩ := w
          refine v_if_eqI (tgt := 94) dX12_next_87 (by decide) q151.1 q151.2 (fun c152 => ?_) (fun c152 => ?_)
          · replace w := w.1 c152
            refine v_aload_n dX12_next_94 rfl ?_
            refine v_get dX12_next_95 fl_X12_23 ((hp28 77 (by decide)).trans (ent_77 _)) rfl (s_lt hn rfl) ?_
            refine v_aload_n dX12_next_98 rfl ?_
            refine v_get dX12_next_99 fl_X12_261 ((hp28 77 (by decide)).trans (ent_77 _)) rfl (s_lt hn rfl) ?_
            refine v_ialdI dX12_next_102 ((hp28 82 (by decide)).trans (ent_82 _)) (s_lt hn rfl) q144.1 q144.2 (ix_le q144.2 (by decide)) ?_
            refine v_callSIr dX12_next_103 ml_X12_271 (so_X12_isDigit hn hp28  w) rfl rfl (Nat.le_of_ble_eq_true rfl) (Nat.le_of_ble_eq_true rfl) (Nat.zero_le _) (Nat.zero_le _) (fun v153 w => ?_)
            obtain ⟨q159, w⟩ := w
            refine v_if_eqI (tgt := 113) dX12_next_106 (by decide) q159.1 q159.2 (fun c160 => ?_) (fun c160 => ?_)
            · replace w := w.1 c160
              refine v_iconstI dX12_next_113 ?_
              exact w
            · replace w := w.2 c160
              refine v_iconstI dX12_next_109 ?_
              refine v_goto (tgt := 114) dX12_next_110 (by decide) ?_
              exact w
          · replace w := w.2 c152
            refine v_iconstI dX12_next_90 ?_
            refine v_goto (tgt := 114) dX12_next_91 (by decide) ?_
            exact w
        · replace w := w.2 c143
          refine v_iconstI dX12_next_71 ?_
          refine v_goto (tgt := 114) dX12_next_72 (by decide) ?_
          exact w
      )
      obtain ⟨q161, q162, w⟩ := w
      refine v_icmp_geI (tgt := 46) dX12_next_16 (by decide) q161.1 q161.2 q162.1 q162.2 (fun c163 => ?_) (fun c163 => ?_)
      · replace w := w.1 c163
        exact w
      · replace w := w.2 c163
        refine v_aload_n dX12_next_19 rfl ?_
        refine v_get dX12_next_20 fl_X12_23 ((hp17 77 (by decide)).trans (ent_77 _)) rfl (s_lt hn rfl) ?_
        refine v_aload_n dX12_next_23 rfl ?_
        refine v_get dX12_next_24 fl_X12_261 ((hp17 77 (by decide)).trans (ent_77 _)) rfl (s_lt hn rfl) ?_
        obtain ⟨q164, w⟩ := w
        refine v_ialdI dX12_next_27 ((hp17 82 (by decide)).trans (ent_82 _)) (s_lt hn rfl) q164.1 q164.2 (ix_le q164.2 (by decide)) ?_
        refine v_bipushI dX12_next_28 rfl ?_
        obtain ⟨q165, w⟩ := w
        refine v_icmp_neI (tgt := 46) dX12_next_30 (by decide) q165.1 q165.2 (by decide) (by decide) (fun c166 => ?_) (fun c166 => ?_)
        · replace w := w.1 c166
          exact w
        · replace w := w.2 c166
          refine v_aload_n dX12_next_33 rfl ?_
          refine v_dup dX12_next_34 rfl ?_
          refine v_get dX12_next_35 fl_X12_261 ((hp17 77 (by decide)).trans (ent_77 _)) rfl (s_lt hn rfl) ?_
          refine v_iconstI dX12_next_38 ?_
          refine v_iaddI dX12_next_39 ?_
          refine v_put dX12_next_40 fl_X12_261 ((hp17 77 (by decide)).trans (ent_77 _)) (s_lt hn rfl) (Nat.le_of_ble_eq_true rfl) (fun _ => ⟨rfl, rfl⟩) trivial (fun h167 E168 F169 => ?_)
          have hp170 := pic_st hp17 (show h167 77 = ent 77 (uI _ 9 ((X6 77 9) + 1)) from E168) F169
          have hf171 := Fr.up (c := 77) hf18 F169 rfl
          refine v_goto (tgt := 8) dX12_next_43 (by decide) ?_
          exact ih9 _ _ (Nat.lt_of_lt_of_le w.2 (Nat.le_of_lt_succ hm13)) w.1 hp170 hf171
  exact hL12 _ _ _ (Nat.lt_succ_self _) wi11 hp4 hf5
theorem dX12_begin_0 : decode cX12_begin 0 = .ok (.aload_n 0, 1) := by decide +kernel
theorem dX12_begin_1 : decode cX12_begin 1 = .ok (.iconst 0, 1) := by decide +kernel
theorem dX12_begin_2 : decode cX12_begin 2 = .ok (.putfield 251, 3) := by decide +kernel
theorem dX12_begin_5 : decode cX12_begin 5 = .ok (.aload_n 0, 1) := by decide +kernel
theorem dX12_begin_6 : decode cX12_begin 6 = .ok (.iconst 0, 1) := by decide +kernel
theorem dX12_begin_7 : decode cX12_begin 7 = .ok (.putfield 254, 3) := by decide +kernel
theorem dX12_begin_10 : decode cX12_begin 10 = .ok (.aload_n 0, 1) := by decide +kernel
theorem dX12_begin_11 : decode cX12_begin 11 = .ok (.iconst (-1), 1) := by decide +kernel
theorem dX12_begin_12 : decode cX12_begin 12 = .ok (.putfield 26, 3) := by decide +kernel
theorem dX12_begin_15 : decode cX12_begin 15 = .ok (.aload_n 0, 1) := by decide +kernel
theorem dX12_begin_16 : decode cX12_begin 16 = .ok (.invokevirtual 258, 3) := by decide +kernel
theorem dX12_begin_19 : decode cX12_begin 19 = .ok (.return_, 1) := by decide +kernel
def w_X12_begin (X : XT) (Q : XT → Prop) : Prop :=
  w_X12_next   (x_st (x_st (x_st X 77 10 0) 77 14 0) 77 13 (-1)) (fun (X17 : XT) => Q X17)
set_option maxRecDepth 20000 in
theorem so_X12_begin {n : Nat} {h : Nat → sE} {X : XT} {Q : XT → Prop} (hn : 115 ≤ n) (hp : Pic X h) (w : w_X12_begin   X Q) : Sp m_X12_begin 2 0 0 [.ref 77] n h (pVw n h Q) := by
  unfold w_X12_begin at w
  refine Sp.ofV (by decide +kernel) (Nat.le_of_ble_eq_true rfl) ?_
  have hf : Fr h h := fun _ _ => rfl
  refine v_aload_n dX12_begin_0 rfl ?_
  refine v_iconstI dX12_begin_1 ?_
  refine v_put dX12_begin_2 fl_X12_251 ((hp 77 (by decide)).trans (ent_77 _)) (s_lt hn rfl) (Nat.le_of_ble_eq_true rfl) (fun _ => ⟨rfl, rfl⟩) trivial (fun h1 E2 F3 => ?_)
  have hp4 := pic_st hp (show h1 77 = ent 77 (uI _ 10 0) from E2) F3
  have hf5 := Fr.up (c := 77) hf F3 rfl
  refine v_aload_n dX12_begin_5 rfl ?_
  refine v_iconstI dX12_begin_6 ?_
  refine v_put dX12_begin_7 fl_X12_254 ((hp4 77 (by decide)).trans (ent_77 _)) (s_lt hn rfl) (Nat.le_of_ble_eq_true rfl) (fun _ => ⟨iI_nb0, rfl⟩) trivial (fun h6 E7 F8 => ?_)
  have hp9 := pic_st hp4 (show h6 77 = ent 77 (uI _ 14 0) from E7) F8
  have hf10 := Fr.up (c := 77) hf5 F8 rfl
  refine v_aload_n dX12_begin_10 rfl ?_
  refine v_iconstI dX12_begin_11 ?_
  refine v_put dX12_begin_12 fl_X12_26 ((hp9 77 (by decide)).trans (ent_77 _)) (s_lt hn rfl) (Nat.le_of_ble_eq_true rfl) (fun _ => ⟨rfl, rfl⟩) trivial (fun h11 E12 F13 => ?_)
  have hp14 := pic_st hp9 (show h11 77 = ent 77 (uI _ 13 (-1)) from E12) F13
  have hf15 := Fr.up (c := 77) hf10 F13 rfl
  refine v_aload_n dX12_begin_15 rfl ?_
  refine v_callVVw dX12_begin_16 ml_X12_258 (so_X12_next hn hp14  w) ((hp14 77 (by decide)).trans (ent_77 _)) rfl (s_lt hn rfl) rfl rfl (Nat.le_of_ble_eq_true rfl) (Nat.le_of_ble_eq_true rfl) (Nat.zero_le _) (Nat.zero_le _) (fun X17 h18 hp20 hf19 w => ?_)
  have hf21 := Fr.trans hf15 hf19
  exact v_vret dX12_begin_19 rfl (Nat.zero_le _) (Nat.zero_le _) ⟨rfl, hf21, _, rfl, hp20, w⟩
theorem dX12_beginText_0 : decode cX12_beginText 0 = .ok (.aload_n 0, 1) := by decide +kernel
theorem dX12_beginText_1 : decode cX12_beginText 1 = .ok (.iload_n 1, 1) := by decide +kernel
theorem dX12_beginText_2 : decode cX12_beginText 2 = .ok (.putfield 325, 3) := by decide +kernel
theorem dX12_beginText_5 : decode cX12_beginText 5 = .ok (.aload_n 0, 1) := by decide +kernel
theorem dX12_beginText_6 : decode cX12_beginText 6 = .ok (.invokevirtual 374, 3) := by decide +kernel
theorem dX12_beginText_9 : decode cX12_beginText 9 = .ok (.aload_n 0, 1) := by decide +kernel
theorem dX12_beginText_10 : decode cX12_beginText 10 = .ok (.iconst 0, 1) := by decide +kernel
theorem dX12_beginText_11 : decode cX12_beginText 11 = .ok (.putfield 377, 3) := by decide +kernel
theorem dX12_beginText_14 : decode cX12_beginText 14 = .ok (.aload_n 0, 1) := by decide +kernel
theorem dX12_beginText_15 : decode cX12_beginText 15 = .ok (.iconst 0, 1) := by decide +kernel
theorem dX12_beginText_16 : decode cX12_beginText 16 = .ok (.putfield 289, 3) := by decide +kernel
theorem dX12_beginText_19 : decode cX12_beginText 19 = .ok (.aload_n 0, 1) := by decide +kernel
theorem dX12_beginText_20 : decode cX12_beginText 20 = .ok (.iconst 0, 1) := by decide +kernel
theorem dX12_beginText_21 : decode cX12_beginText 21 = .ok (.putfield 316, 3) := by decide +kernel
theorem dX12_beginText_24 : decode cX12_beginText 24 = .ok (.return_, 1) := by decide +kernel
def w_X12_beginText (a0 : Int) (X : XT) (Q : XT → Prop) : Prop :=
  (a0 = 0 ∨ a0 = 1) ∧ w_X12_begin   (x_st X 77 15 a0) (fun (X8 : XT) => Q (x_st (x_st (x_st X8 77 16 0) 77 18 0) 77 21 0))
set_option maxRecDepth 20000 in
theorem so_X12_beginText {n : Nat} {h : Nat → sE} {X : XT} {a0 : Int} {Q : XT → Prop} (hn : 115 ≤ n) (hp : Pic X h) (w : w_X12_beginText  a0 X Q) : Sp m_X12_beginText 3 0 0 [.ref 77, .int (iI a0)] n h (pVw n h Q) := by
  unfold w_X12_beginText at w
  refine Sp.ofV (by decide +kernel) (Nat.le_of_ble_eq_true rfl) ?_
  have hf : Fr h h := fun _ _ => rfl
  refine v_aload_n dX12_beginText_0 rfl ?_
  refine v_iload_n dX12_beginText_1 rfl ?_
  obtain ⟨q4, w⟩ := w
  refine v_put dX12_beginText_2 fl_X12_325 ((hp 77 (by decide)).trans (ent_77 _)) (s_lt hn rfl) (Nat.le_of_ble_eq_true rfl) (iI_nbs q4) trivial (fun h1 E2 F3 => ?_)
  have hp5 := pic_st hp (show h1 77 = ent 77 (uI _ 15 a0) from E2) F3
  have hf6 := Fr.up (c := 77) hf F3 rfl
  refine v_aload_n dX12_beginText_5 rfl ?_
  refine v_callVVw dX12_beginText_6 ml_X12_374 (so_X12_begin hn hp5  w) ((hp5 77 (by decide)).trans (ent_77 _)) rfl (s_lt hn rfl) rfl rfl (Nat.le_of_ble_eq_true rfl) (Nat.le_of_ble_eq_true rfl) (Nat.zero_le _) (Nat.zero_le _) (fun X8 h9 hp11 hf10 w => ?_)
  have hf12 := Fr.trans hf6 hf10
  refine v_aload_n dX12_beginText_9 rfl ?_
  refine v_iconstI dX12_beginText_10 ?_
  refine v_put dX12_beginText_11 fl_X12_377 ((hp11 77 (by decide)).trans (ent_77 _)) (s_lt hn rfl) (Nat.le_of_ble_eq_true rfl) (fun _ => ⟨rfl, rfl⟩) trivial (fun h13 E14 F15 => ?_)
  have hp16 := pic_st hp11 (show h13 77 = ent 77 (uI _ 16 0) from E14) F15
  have hf17 := Fr.up (c := 77) hf12 F15 rfl
  refine v_aload_n dX12_beginText_14 rfl ?_
  refine v_iconstI dX12_beginText_15 ?_
  refine v_put dX12_beginText_16 fl_X12_289 ((hp16 77 (by decide)).trans (ent_77 _)) (s_lt hn rfl) (Nat.le_of_ble_eq_true rfl) (fun _ => ⟨rfl, rfl⟩) trivial (fun h18 E19 F20 => ?_)
  have hp21 := pic_st hp16 (show h18 77 = ent 77 (uI _ 18 0) from E19) F20
  have hf22 := Fr.up (c := 77) hf17 F20 rfl
  refine v_aload_n dX12_beginText_19 rfl ?_
  refine v_iconstI dX12_beginText_20 ?_
  refine v_put dX12_beginText_21 fl_X12_316 ((hp21 77 (by decide)).trans (ent_77 _)) (s_lt hn rfl) (Nat.le_of_ble_eq_true rfl) (fun _ => ⟨rfl, rfl⟩) trivial (fun h23 E24 F25 => ?_)
  have hp26 := pic_st hp21 (show h23 77 = ent 77 (uI _ 21 0) from E24) F25
  have hf27 := Fr.up (c := 77) hf22 F25 rfl
  exact v_vret dX12_beginText_24 rfl (Nat.zero_le _) (Nat.zero_le _) ⟨rfl, hf27, _, rfl, hp26, w⟩
theorem dX12_isWord_0 : decode cX12_isWord 0 = .ok (.aload_n 0, 1) := by decide +kernel
theorem dX12_isWord_1 : decode cX12_isWord 1 = .ok (.getfield 274, 3) := by decide +kernel
theorem dX12_isWord_4 : decode cX12_isWord 4 = .ok (.iconst 1, 1) := by decide +kernel
theorem dX12_isWord_5 : decode cX12_isWord 5 = .ok (.if_icmp .ne 16, 3) := by decide +kernel
theorem dX12_isWord_8 : decode cX12_isWord 8 = .ok (.aload_n 0, 1) := by decide +kernel
theorem dX12_isWord_9 : decode cX12_isWord 9 = .ok (.getfield 264, 3) := by decide +kernel
theorem dX12_isWord_12 : decode cX12_isWord 12 = .ok (.lload_n 1, 1) := by decide +kernel
theorem dX12_isWord_13 : decode cX12_isWord 13 = .ok (.lcmp, 1) := by decide +kernel
theorem dX12_isWord_14 : decode cX12_isWord 14 = .ok (.ifCond .ne 7, 3) := by decide +kernel
theorem dX12_isWord_17 : decode cX12_isWord 17 = .ok (.iconst 1, 1) := by decide +kernel
theorem dX12_isWord_18 : decode cX12_isWord 18 = .ok (.goto 4, 3) := by decide +kernel
theorem dX12_isWord_21 : decode cX12_isWord 21 = .ok (.iconst 0, 1) := by decide +kernel
theorem dX12_isWord_22 : decode cX12_isWord 22 = .ok (.ireturn, 1) := by decide +kernel
def w_X12_isWord (a0 : Int) (X : XT) (Q : Int → Prop) : Prop :=
  R32 (X 77 11) ∧ (¬ (X 77 11) = 1 → Q 0) ∧ ((X 77 11) = 1 → R64 (X 77 12) ∧ R64 a0 ∧ (¬ (X 77 12) = a0 → Q 0) ∧ ((X 77 12) = a0 → Q 1))
set_option maxRecDepth 20000 in
theorem so_X12_isWord {n : Nat} {h : Nat → sE} {X : XT} {a0 : Int} {Q : Int → Prop} (hn : 115 ≤ n) (hp : Pic X h) (w : w_X12_isWord  a0 X Q) : Sp m_X12_isWord 0 0 0 [.ref 77, .long (jJ a0)] n h (pIr n h Q) := by
  unfold w_X12_isWord at w
  refine Sp.ofV (by decide +kernel) (Nat.le_of_ble_eq_true rfl) ?_
  have hf : Fr h h := fun _ _ => rfl
  refine v_aload_n dX12_isWord_0 rfl ?_
  refine v_get dX12_isWord_1 fl_X12_274 ((hp 77 (by decide)).trans (ent_77 _)) rfl (s_lt hn rfl) ?_
  refine v_iconstI dX12_isWord_4 ?_
  obtain ⟨q1, w⟩ := w
  refine v_icmp_neI (tgt := 21) dX12_isWord_5 (by decide) q1.1 q1.2 (by decide) (by decide) (fun c2 => ?_) (fun c2 => ?_)
  · replace w := w.1 c2
    refine v_iconstI dX12_isWord_21 ?_
    exact v_z0 dX12_isWord_22 rfl (Nat.zero_le _) (Nat.zero_le _) ⟨rfl, rfl, _, rfl, w⟩
  · replace w := w.2 c2
    refine v_aload_n dX12_isWord_8 rfl ?_
    refine v_get dX12_isWord_9 fl_X12_264 ((hp 77 (by decide)).trans (ent_77 _)) rfl (s_lt hn rfl) ?_
    refine v_lload_n dX12_isWord_12 rfl ?_
    obtain ⟨q3, q4, w⟩ := w
    refine v_lcmp_neI (tgt := 21) dX12_isWord_13 dX12_isWord_14 (by decide) q3.1 q3.2 q4.1 q4.2 (fun c5 => ?_) (fun c5 => ?_)
    · replace w := w.1 c5
      refine v_iconstI dX12_isWord_21 ?_
      exact v_z0 dX12_isWord_22 rfl (Nat.zero_le _) (Nat.zero_le _) ⟨rfl, rfl, _, rfl, w⟩
    · replace w := w.2 c5
      refine v_iconstI dX12_isWord_17 ?_
      refine v_goto (tgt := 22) dX12_isWord_18 (by decide) ?_
      exact v_z1 dX12_isWord_22 rfl (Nat.zero_le _) (Nat.zero_le _) ⟨rfl, rfl, _, rfl, w⟩
theorem dX12_must_0 : decode cX12_must 0 = .ok (.aload_n 0, 1) := by decide +kernel
theorem dX12_must_1 : decode cX12_must 1 = .ok (.getfield 254, 3) := by decide +kernel
theorem dX12_must_4 : decode cX12_must 4 = .ok (.ifCond .ne 20, 3) := by decide +kernel
theorem dX12_must_7 : decode cX12_must 7 = .ok (.iload_n 1, 1) := by decide +kernel
theorem dX12_must_8 : decode cX12_must 8 = .ok (.ifCond .ne 16, 3) := by decide +kernel
theorem dX12_must_11 : decode cX12_must 11 = .ok (.aload_n 0, 1) := by decide +kernel
theorem dX12_must_12 : decode cX12_must 12 = .ok (.iconst 1, 1) := by decide +kernel
theorem dX12_must_13 : decode cX12_must 13 = .ok (.putfield 254, 3) := by decide +kernel
theorem dX12_must_16 : decode cX12_must 16 = .ok (.aload_n 0, 1) := by decide +kernel
theorem dX12_must_17 : decode cX12_must 17 = .ok (.aload_n 0, 1) := by decide +kernel
theorem dX12_must_18 : decode cX12_must 18 = .ok (.getfield 261, 3) := by decide +kernel
theorem dX12_must_21 : decode cX12_must 21 = .ok (.putfield 26, 3) := by decide +kernel
theorem dX12_must_24 : decode cX12_must 24 = .ok (.aload_n 0, 1) := by decide +kernel
theorem dX12_must_25 : decode cX12_must 25 = .ok (.getfield 254, 3) := by decide +kernel
theorem dX12_must_28 : decode cX12_must 28 = .ok (.ifCond .ne 7, 3) := by decide +kernel
theorem dX12_must_31 : decode cX12_must 31 = .ok (.aload_n 0, 1) := by decide +kernel
theorem dX12_must_32 : decode cX12_must 32 = .ok (.invokevirtual 258, 3) := by decide +kernel
theorem dX12_must_35 : decode cX12_must 35 = .ok (.return_, 1) := by decide +kernel
def w_X12_must (a0 : Int) (X : XT) (Q : XT → Prop) : Prop :=
  ∀ J2 : XT → Prop, (∀  (X1 : XT), (R32 (X1 77 14) ∧ (¬ (X1 77 14) = 0 → Q X1) ∧ ((X1 77 14) = 0 → w_X12_next   X1 (fun (X9 : XT) => Q X9))) → J2  X1) → R32 (X 77 14) ∧ (¬ (X 77 14) = 0 → J2  X) ∧ ((X 77 14) = 0 → R32 a0 ∧ (¬ a0 = 0 → J2  X) ∧ (a0 = 0 → J2  (x_st (x_st X 77 14 1) 77 13 ((x_st X 77 14 1) 77 9))))
set_option maxRecDepth 20000 in
theorem so_X12_must {n : Nat} {h : Nat → sE} {X : XT} {a0 : Int} {Q : XT → Prop} (hn : 115 ≤ n) (hp : Pic X h) (w : w_X12_must  a0 X Q) : Sp m_X12_must 2 0 0 [.ref 77, .int (iI a0)] n h (pVw n h Q) := by
  unfold w_X12_must at w
  refine Sp.ofV (by decide +kernel) (Nat.le_of_ble_eq_true rfl) ?_
  have hf : Fr h h := fun _ _ => rfl
  refine v_aload_n dX12_must_0 rfl ?_
  refine v_get dX12_must_1 fl_X12_254 ((hp 77 (by decide)).trans (ent_77 _)) rfl (s_lt hn rfl) ?_
  replace w := w (fun  (X1 : XT) => ∀ h5 : Nat → sE, Pic X1 h5 → Fr h h5 → V (m_X12_must, 2, 0, 0, n, pVw n h Q, s_G0) 0 0 n h5 24 [(0, .ref 77)] []) (by
    intro  X1 w h5 hp3 hf4
    refine v_aload_n dX12_must_24 rfl ?_
    refine v_get dX12_must_25 fl_X12_254 ((hp3 77 (by decide)).trans (ent_77 _)) rfl (s_lt hn rfl) ?_
    obtain ⟨q6, w⟩ := w
    refine v_if_neI (tgt := 35) dX12_must_28 (by decide) q6.1 q6.2 (fun c7 => ?_) (fun c7 => ?_)
    · replace w := w.1 c7
      exact v_vret dX12_must_35 rfl (Nat.zero_le _) (Nat.zero_le _) ⟨rfl, hf4, _, rfl, hp3, w⟩
    · replace w := w.2 c7
      refine v_aload_n dX12_must_31 rfl ?_
      refine v_callVVw dX12_must_32 ml_X12_258 (so_X12_next hn hp3  w) ((hp3 77 (by decide)).trans (ent_77 _)) rfl (s_lt hn rfl) rfl rfl (Nat.le_of_ble_eq_true rfl) (Nat.le_of_ble_eq_true rfl) (Nat.zero_le _) (Nat.zero_le _) (fun X9 h10 hp12 hf11 w => ?_)
      have hf13 := Fr.trans hf4 hf11
      exact v_vret dX12_must_35 rfl (Nat.zero_le _) (Nat.zero_le _) ⟨rfl, hf13, _, rfl, hp12, w⟩
  )
  obtain ⟨q14, w⟩ := w
  refine v_if_neI (tgt := 24) dX12_must_4 (by decide) q14.1 q14.2 (fun c15 => ?_) (fun c15 => ?_)
  · replace w := w.1 c15
    refine v_pick [0] rfl ?_
    exact w _ hp hf
  · replace w := w.2 c15
    refine v_iload_n dX12_must_7 rfl ?_
    obtain ⟨q16, w⟩ := w
    refine v_if_neI (tgt := 24) dX12_must_8 (by decide) q16.1 q16.2 (fun c17 => ?_) (fun c17 => ?_)
    · replace w := w.1 c17
      refine v_pick [0] rfl ?_
      exact w _ hp hf
    · replace w := w.2 c17
      refine v_aload_n dX12_must_11 rfl ?_
      refine v_iconstI dX12_must_12 ?_
      refine v_put dX12_must_13 fl_X12_254 ((hp 77 (by decide)).trans (ent_77 _)) (s_lt hn rfl) (Nat.le_of_ble_eq_true rfl) (fun _ => ⟨iI_nb1, rfl⟩) trivial (fun h18 E19 F20 => ?_)
      have hp21 := pic_st hp (show h18 77 = ent 77 (uI _ 14 1) from E19) F20
      have hf22 := Fr.up (c := 77) hf F20 rfl
      refine v_aload_n dX12_must_16 rfl ?_
      refine v_aload_n dX12_must_17 rfl ?_
      refine v_get dX12_must_18 fl_X12_261 ((hp21 77 (by decide)).trans (ent_77 _)) rfl (s_lt hn rfl) ?_
      refine v_put dX12_must_21 fl_X12_26 ((hp21 77 (by decide)).trans (ent_77 _)) (s_lt hn rfl) (Nat.le_of_ble_eq_true rfl) (fun _ => ⟨rfl, rfl⟩) trivial (fun h23 E24 F25 => ?_)
      have hp26 := pic_st hp21 (show h23 77 = ent 77 (uI _ 13 ((x_st X 77 14 1) 77 9)) from E24) F25
      have hf27 := Fr.up (c := 77) hf22 F25 rfl
      refine v_pick [0] rfl ?_
      exact w _ hp26 hf27
theorem dX12_push_0 : decode cX12_push 0 = .ok (.aload_n 0, 1) := by decide +kernel
theorem dX12_push_1 : decode cX12_push 1 = .ok (.getfield 39, 3) := by decide +kernel
theorem dX12_push_4 : decode cX12_push 4 = .ok (.aload_n 0, 1) := by decide +kernel
theorem dX12_push_5 : decode cX12_push 5 = .ok (.getfield 292, 3) := by decide +kernel
theorem dX12_push_8 : decode cX12_push 8 = .ok (.iload_n 1, 1) := by decide +kernel
theorem dX12_push_9 : decode cX12_push 9 = .ok (.iastore, 1) := by decide +kernel
theorem dX12_push_10 : decode cX12_push 10 = .ok (.aload_n 0, 1) := by decide +kernel
theorem dX12_push_11 : decode cX12_push 11 = .ok (.getfield 42, 3) := by decide +kernel
theorem dX12_push_14 : decode cX12_push 14 = .ok (.aload_n 0, 1) := by decide +kernel
theorem dX12_push_15 : decode cX12_push 15 = .ok (.getfield 292, 3) := by decide +kernel
theorem dX12_push_18 : decode cX12_push 18 = .ok (.iload_n 2, 1) := by decide +kernel
theorem dX12_push_19 : decode cX12_push 19 = .ok (.iastore, 1) := by decide +kernel
theorem dX12_push_20 : decode cX12_push 20 = .ok (.aload_n 0, 1) := by decide +kernel
theorem dX12_push_21 : decode cX12_push 21 = .ok (.dup, 1) := by decide +kernel
theorem dX12_push_22 : decode cX12_push 22 = .ok (.getfield 292, 3) := by decide +kernel
theorem dX12_push_25 : decode cX12_push 25 = .ok (.iconst 1, 1) := by decide +kernel
theorem dX12_push_26 : decode cX12_push 26 = .ok (.iadd, 1) := by decide +kernel
theorem dX12_push_27 : decode cX12_push 27 = .ok (.putfield 292, 3) := by decide +kernel
theorem dX12_push_30 : decode cX12_push 30 = .ok (.return_, 1) := by decide +kernel
def w_X12_push (a0 a1 : Int) (X : XT) (Q : XT → Prop) : Prop :=
  (0 ≤ (X 77 24) ∧ (X 77 24) < 400) ∧ (0 ≤ ((x_st X 86 (X 77 24) a0) 77 24) ∧ ((x_st X 86 (X 77 24) a0) 77 24) < 400) ∧ Q (x_st (x_st (x_st X 86 (X 77 24) a0) 87 ((x_st X 86 (X 77 24) a0) 77 24) a1) 77 24 (((x_st (x_st X 86 (X 77 24) a0) 87 ((x_st X 86 (X 77 24) a0) 77 24) a1) 77 24) + 1))
set_option maxRecDepth 20000 in
theorem so_X12_push {n : Nat} {h : Nat → sE} {X : XT} {a0 a1 : Int} {Q : XT → Prop} (hn : 115 ≤ n) (hp : Pic X h) (w : w_X12_push  a0 a1 X Q) : Sp m_X12_push 0 0 0 [.ref 77, .int (iI a0), .int (iI a1)] n h (pVw n h Q) := by
  unfold w_X12_push at w
  refine Sp.ofV (by decide +kernel) (Nat.le_of_ble_eq_true rfl) ?_
  have hf : Fr h h := fun _ _ => rfl
  refine v_aload_n dX12_push_0 rfl ?_
  refine v_get dX12_push_1 fl_X12_39 ((hp 77 (by decide)).trans (ent_77 _)) rfl (s_lt hn rfl) ?_
  refine v_aload_n dX12_push_4 rfl ?_
  refine v_get dX12_push_5 fl_X12_292 ((hp 77 (by decide)).trans (ent_77 _)) rfl (s_lt hn rfl) ?_
  refine v_iload_n dX12_push_8 rfl ?_
  obtain ⟨q1, w⟩ := w
  refine v_iastI dX12_push_9 ((hp 86 (by decide)).trans (ent_86 _)) (s_lt hn rfl) q1.1 q1.2 (ix_le q1.2 (by decide)) (fun h2 E3 F4 => ?_)
  have hp5 := pic_st hp (show h2 86 = ent 86 (uI _ (X 77 24) a0) from E3) F4
  have hf6 := Fr.up (c := 86) hf F4 rfl
  refine v_aload_n dX12_push_10 rfl ?_
  refine v_get dX12_push_11 fl_X12_42 ((hp5 77 (by decide)).trans (ent_77 _)) rfl (s_lt hn rfl) ?_
  refine v_aload_n dX12_push_14 rfl ?_
  refine v_get dX12_push_15 fl_X12_292 ((hp5 77 (by decide)).trans (ent_77 _)) rfl (s_lt hn rfl) ?_
  refine v_iload_n dX12_push_18 rfl ?_
  obtain ⟨q7, w⟩ := w
  refine v_iastI dX12_push_19 ((hp5 87 (by decide)).trans (ent_87 _)) (s_lt hn rfl) q7.1 q7.2 (ix_le q7.2 (by decide)) (fun h8 E9 F10 => ?_)
  have hp11 := pic_st hp5 (show h8 87 = ent 87 (uI _ ((x_st X 86 (X 77 24) a0) 77 24) a1) from E9) F10
  have hf12 := Fr.up (c := 87) hf6 F10 rfl
  refine v_aload_n dX12_push_20 rfl ?_
  refine v_dup dX12_push_21 rfl ?_
  refine v_get dX12_push_22 fl_X12_292 ((hp11 77 (by decide)).trans (ent_77 _)) rfl (s_lt hn rfl) ?_
  refine v_iconstI dX12_push_25 ?_
  refine v_iaddI dX12_push_26 ?_
  refine v_put dX12_push_27 fl_X12_292 ((hp11 77 (by decide)).trans (ent_77 _)) (s_lt hn rfl) (Nat.le_of_ble_eq_true rfl) (fun _ => ⟨rfl, rfl⟩) trivial (fun h13 E14 F15 => ?_)
  have hp16 := pic_st hp11 (show h13 77 = ent 77 (uI _ 24 (((x_st (x_st X 86 (X 77 24) a0) 87 ((x_st X 86 (X 77 24) a0) 77 24) a1) 77 24) + 1)) from E14) F15
  have hf17 := Fr.up (c := 77) hf12 F15 rfl
  exact v_vret dX12_push_30 rfl (Nat.zero_le _) (Nat.zero_le _) ⟨rfl, hf17, _, rfl, hp16, w⟩
theorem dX12_isSign_0 : decode cX12_isSign 0 = .ok (.aload_n 0, 1) := by decide +kernel
theorem dX12_isSign_1 : decode cX12_isSign 1 = .ok (.getfield 274, 3) := by decide +kernel
theorem dX12_isSign_4 : decode cX12_isSign 4 = .ok (.iconst 3, 1) := by decide +kernel
theorem dX12_isSign_5 : decode cX12_isSign 5 = .ok (.if_icmp .ne 17, 3) := by decide +kernel
theorem dX12_isSign_8 : decode cX12_isSign 8 = .ok (.aload_n 0, 1) := by decide +kernel
theorem dX12_isSign_9 : decode cX12_isSign 9 = .ok (.getfield 264, 3) := by decide +kernel
theorem dX12_isSign_12 : decode cX12_isSign 12 = .ok (.iload_n 1, 1) := by decide +kernel
theorem dX12_isSign_13 : decode cX12_isSign 13 = .ok (.i2l, 1) := by decide +kernel
theorem dX12_isSign_14 : decode cX12_isSign 14 = .ok (.lcmp, 1) := by decide +kernel
theorem dX12_isSign_15 : decode cX12_isSign 15 = .ok (.ifCond .ne 7, 3) := by decide +kernel
theorem dX12_isSign_18 : decode cX12_isSign 18 = .ok (.iconst 1, 1) := by decide +kernel
theorem dX12_isSign_19 : decode cX12_isSign 19 = .ok (.goto 4, 3) := by decide +kernel
theorem dX12_isSign_22 : decode cX12_isSign 22 = .ok (.iconst 0, 1) := by decide +kernel
theorem dX12_isSign_23 : decode cX12_isSign 23 = .ok (.ireturn, 1) := by decide +kernel
def w_X12_isSign (a0 : Int) (X : XT) (Q : Int → Prop) : Prop :=
  R32 (X 77 11) ∧ (¬ (X 77 11) = 3 → Q 0) ∧ ((X 77 11) = 3 → R32 a0 ∧ R64 (X 77 12) ∧ (¬ (X 77 12) = a0 → Q 0) ∧ ((X 77 12) = a0 → Q 1))
set_option maxRecDepth 20000 in
theorem so_X12_isSign {n : Nat} {h : Nat → sE} {X : XT} {a0 : Int} {Q : Int → Prop} (hn : 115 ≤ n) (hp : Pic X h) (w : w_X12_isSign  a0 X Q) : Sp m_X12_isSign 0 0 0 [.ref 77, .int (iI a0)] n h (pIr n h Q) := by
  unfold w_X12_isSign at w
  refine Sp.ofV (by decide +kernel) (Nat.le_of_ble_eq_true rfl) ?_
  have hf : Fr h h := fun _ _ => rfl
  refine v_aload_n dX12_isSign_0 rfl ?_
  refine v_get dX12_isSign_1 fl_X12_274 ((hp 77 (by decide)).trans (ent_77 _)) rfl (s_lt hn rfl) ?_
  refine v_iconstI dX12_isSign_4 ?_
  obtain ⟨q1, w⟩ := w
  refine v_icmp_neI (tgt := 22) dX12_isSign_5 (by decide) q1.1 q1.2 (by decide) (by decide) (fun c2 => ?_) (fun c2 => ?_)
  · replace w := w.1 c2
    refine v_iconstI dX12_isSign_22 ?_
    exact v_z0 dX12_isSign_23 rfl (Nat.zero_le _) (Nat.zero_le _) ⟨rfl, rfl, _, rfl, w⟩
  · replace w := w.2 c2
    refine v_aload_n dX12_isSign_8 rfl ?_
    refine v_get dX12_isSign_9 fl_X12_264 ((hp 77 (by decide)).trans (ent_77 _)) rfl (s_lt hn rfl) ?_
    refine v_iload_n dX12_isSign_12 rfl ?_
    obtain ⟨q3, w⟩ := w
    refine v_i2lI dX12_isSign_13 q3.1 q3.2 ?_
    obtain ⟨q4, w⟩ := w
    refine v_lcmp_neI (tgt := 22) dX12_isSign_14 dX12_isSign_15 (by decide) q4.1 q4.2 (r32_64 q3).1 (r32_64 q3).2 (fun c5 => ?_) (fun c5 => ?_)
    · replace w := w.1 c5
      refine v_iconstI dX12_isSign_22 ?_
      exact v_z0 dX12_isSign_23 rfl (Nat.zero_le _) (Nat.zero_le _) ⟨rfl, rfl, _, rfl, w⟩
    · replace w := w.2 c5
      refine v_iconstI dX12_isSign_18 ?_
      refine v_goto (tgt := 23) dX12_isSign_19 (by decide) ?_
      exact v_z1 dX12_isSign_23 rfl (Nat.zero_le _) (Nat.zero_le _) ⟨rfl, rfl, _, rfl, w⟩
theorem dX12_openBracket_0 : decode cX12_openBracket 0 = .ok (.aload_n 0, 1) := by decide +kernel
theorem dX12_openBracket_1 : decode cX12_openBracket 1 = .ok (.aload_n 0, 1) := by decide +kernel
theorem dX12_openBracket_2 : decode cX12_openBracket 2 = .ok (.getfield 310, 3) := by decide +kernel
theorem dX12_openBracket_5 : decode cX12_openBracket 5 = .ok (.bipush 8, 2) := by decide +kernel
theorem dX12_openBracket_7 : decode cX12_openBracket 7 = .ok (.if_icmp .ge 7, 3) := by decide +kernel
theorem dX12_openBracket_10 : decode cX12_openBracket 10 = .ok (.iconst 1, 1) := by decide +kernel
theorem dX12_openBracket_11 : decode cX12_openBracket 11 = .ok (.goto 4, 3) := by decide +kernel
theorem dX12_openBracket_14 : decode cX12_openBracket 14 = .ok (.iconst 0, 1) := by decide +kernel
theorem dX12_openBracket_15 : decode cX12_openBracket 15 = .ok (.invokevirtual 285, 3) := by decide +kernel
theorem dX12_openBracket_18 : decode cX12_openBracket 18 = .ok (.aload_n 0, 1) := by decide +kernel
theorem dX12_openBracket_19 : decode cX12_openBracket 19 = .ok (.getfield 254, 3) := by decide +kernel
theorem dX12_openBracket_22 : decode cX12_openBracket 22 = .ok (.ifCond .ne 19, 3) := by decide +kernel
theorem dX12_openBracket_25 : decode cX12_openBracket 25 = .ok (.aload_n 0, 1) := by decide +kernel
theorem dX12_openBracket_26 : decode cX12_openBracket 26 = .ok (.dup, 1) := by decide +kernel
theorem dX12_openBracket_27 : decode cX12_openBracket 27 = .ok (.getfield 310, 3) := by decide +kernel
theorem dX12_openBracket_30 : decode cX12_openBracket 30 = .ok (.iconst 1, 1) := by decide +kernel
theorem dX12_openBracket_31 : decode cX12_openBracket 31 = .ok (.iadd, 1) := by decide +kernel
theorem dX12_openBracket_32 : decode cX12_openBracket 32 = .ok (.putfield 310, 3) := by decide +kernel
theorem dX12_openBracket_35 : decode cX12_openBracket 35 = .ok (.aload_n 0, 1) := by decide +kernel
theorem dX12_openBracket_36 : decode cX12_openBracket 36 = .ok (.iload_n 1, 1) := by decide +kernel
theorem dX12_openBracket_37 : decode cX12_openBracket 37 = .ok (.iconst 0, 1) := by decide +kernel
theorem dX12_openBracket_38 : decode cX12_openBracket 38 = .ok (.invokevirtual 313, 3) := by decide +kernel
theorem dX12_openBracket_41 : decode cX12_openBracket 41 = .ok (.return_, 1) := by decide +kernel
def w_X12_openBracket (a0 : Int) (X : XT) (Q : XT → Prop) : Prop :=
  ∀ J2 : Int → Prop, (∀ (v1 : Int), (w_X12_must  v1 X (fun (X4 : XT) => R32 (X4 77 14) ∧ (¬ (X4 77 14) = 0 → Q X4) ∧ ((X4 77 14) = 0 → w_X12_push  a0 0 (x_st X4 77 25 ((X4 77 25) + 1)) (fun (X17 : XT) => Q X17)))) → J2 v1) → R32 (X 77 25) ∧ (8 ≤ (X 77 25) → J2 0) ∧ (¬ 8 ≤ (X 77 25) → J2 1)
set_option maxRecDepth 20000 in
theorem so_X12_openBracket {n : Nat} {h : Nat → sE} {X : XT} {a0 : Int} {Q : XT → Prop} (hn : 115 ≤ n) (hp : Pic X h) (w : w_X12_openBracket  a0 X Q) : Sp m_X12_openBracket 3 0 0 [.ref 77, .int (iI a0)] n h (pVw n h Q) := by
  unfold w_X12_openBracket at w
  refine Sp.ofV (by decide +kernel) (Nat.le_of_ble_eq_true rfl) ?_
  have hf : Fr h h := fun _ _ => rfl
  refine v_aload_n dX12_openBracket_0 rfl ?_
  refine v_aload_n dX12_openBracket_1 rfl ?_
  refine v_get dX12_openBracket_2 fl_X12_310 ((hp 77 (by decide)).trans (ent_77 _)) rfl (s_lt hn rfl) ?_
  refine v_bipushI dX12_openBracket_5 rfl ?_
  replace w := w (fun (v1 : Int) => V (m_X12_openBracket, 3, 0, 0, n, pVw n h Q, s_G0) 0 0 n h 15 [(0, .ref 77), (1, .int (iI a0))] [.int (iI v1), .ref 77]) (by
    intro v1 w
    refine v_callVVw dX12_openBracket_15 ml_X12_285 (so_X12_must hn hp  w) ((hp 77 (by decide)).trans (ent_77 _)) rfl (s_lt hn rfl) rfl rfl (Nat.le_of_ble_eq_true rfl) (Nat.le_of_ble_eq_true rfl) (Nat.zero_le _) (Nat.zero_le _) (fun X4 h5 hp7 hf6 w => ?_)
    have hf8 := Fr.trans hf hf6
    refine v_aload_n dX12_openBracket_18 rfl ?_
    refine v_get dX12_openBracket_19 fl_X12_254 ((hp7 77 (by decide)).trans (ent_77 _)) rfl (s_lt hn rfl) ?_
    obtain ⟨q9, w⟩ := w
    refine v_if_neI (tgt := 41) dX12_openBracket_22 (by decide) q9.1 q9.2 (fun c10 => ?_) (fun c10 => ?_)
    · replace w := w.1 c10
      exact v_vret dX12_openBracket_41 rfl (Nat.zero_le _) (Nat.zero_le _) ⟨rfl, hf8, _, rfl, hp7, w⟩
    · replace w := w.2 c10
      refine v_aload_n dX12_openBracket_25 rfl ?_
      refine v_dup dX12_openBracket_26 rfl ?_
      refine v_get dX12_openBracket_27 fl_X12_310 ((hp7 77 (by decide)).trans (ent_77 _)) rfl (s_lt hn rfl) ?_
      refine v_iconstI dX12_openBracket_30 ?_
      refine v_iaddI dX12_openBracket_31 ?_
      refine v_put dX12_openBracket_32 fl_X12_310 ((hp7 77 (by decide)).trans (ent_77 _)) (s_lt hn rfl) (Nat.le_of_ble_eq_true rfl) (fun _ => ⟨rfl, rfl⟩) trivial (fun h11 E12 F13 => ?_)
      have hp14 := pic_st hp7 (show h11 77 = ent 77 (uI _ 25 ((X4 77 25) + 1)) from E12) F13
      have hf15 := Fr.up (c := 77) hf8 F13 rfl
      refine v_aload_n dX12_openBracket_35 rfl ?_
      refine v_iload_n dX12_openBracket_36 rfl ?_
      refine v_iconstI dX12_openBracket_37 ?_
      refine v_callVVw dX12_openBracket_38 ml_X12_313 (so_X12_push hn hp14  w) ((hp14 77 (by decide)).trans (ent_77 _)) rfl (s_lt hn rfl) rfl rfl (Nat.le_of_ble_eq_true rfl) (Nat.le_of_ble_eq_true rfl) (Nat.zero_le _) (Nat.zero_le _) (fun X17 h18 hp20 hf19 w => ?_)
      have hf21 := Fr.trans hf15 hf19
      exact v_vret dX12_openBracket_41 rfl (Nat.zero_le _) (Nat.zero_le _) ⟨rfl, hf21, _, rfl, hp20, w⟩
  )
  obtain ⟨q22, w⟩ := w
  refine v_icmp_geI (tgt := 14) dX12_openBracket_7 (by decide) q22.1 q22.2 (by decide) (by decide) (fun c23 => ?_) (fun c23 => ?_)
  · replace w := w.1 c23
    refine v_iconstI dX12_openBracket_14 ?_
    exact w
  · replace w := w.2 c23
    refine v_iconstI dX12_openBracket_10 ?_
    refine v_goto (tgt := 15) dX12_openBracket_11 (by decide) ?_
    exact w
theorem dX12_orderPartAt_0 : decode cX12_orderPartAt 0 = .ok (.iconst (-1), 1) := by decide +kernel
theorem dX12_orderPartAt_1 : decode cX12_orderPartAt 1 = .ok (.istore_n 1, 1) := by decide +kernel
theorem dX12_orderPartAt_2 : decode cX12_orderPartAt 2 = .ok (.iconst 0, 1) := by decide +kernel
theorem dX12_orderPartAt_3 : decode cX12_orderPartAt 3 = .ok (.istore_n 2, 1) := by decide +kernel
theorem dX12_orderPartAt_4 : decode cX12_orderPartAt 4 = .ok (.iload_n 2, 1) := by decide +kernel
theorem dX12_orderPartAt_5 : decode cX12_orderPartAt 5 = .ok (.bipush 8, 2) := by decide +kernel
theorem dX12_orderPartAt_7 : decode cX12_orderPartAt 7 = .ok (.if_icmp .ge 30, 3) := by decide +kernel
theorem dX12_orderPartAt_10 : decode cX12_orderPartAt 10 = .ok (.aload_n 0, 1) := by decide +kernel
theorem dX12_orderPartAt_11 : decode cX12_orderPartAt 11 = .ok (.aload_n 0, 1) := by decide +kernel
theorem dX12_orderPartAt_12 : decode cX12_orderPartAt 12 = .ok (.getfield 79, 3) := by decide +kernel
theorem dX12_orderPartAt_15 : decode cX12_orderPartAt 15 = .ok (.iload_n 2, 1) := by decide +kernel
theorem dX12_orderPartAt_16 : decode cX12_orderPartAt 16 = .ok (.laload, 1) := by decide +kernel
theorem dX12_orderPartAt_17 : decode cX12_orderPartAt 17 = .ok (.invokevirtual 306, 3) := by decide +kernel
theorem dX12_orderPartAt_20 : decode cX12_orderPartAt 20 = .ok (.ifCond .eq 9, 3) := by decide +kernel
theorem dX12_orderPartAt_23 : decode cX12_orderPartAt 23 = .ok (.iload_n 2, 1) := by decide +kernel
theorem dX12_orderPartAt_24 : decode cX12_orderPartAt 24 = .ok (.iconst 1, 1) := by decide +kernel
theorem dX12_orderPartAt_25 : decode cX12_orderPartAt 25 = .ok (.iadd, 1) := by decide +kernel
theorem dX12_orderPartAt_26 : decode cX12_orderPartAt 26 = .ok (.goto 4, 3) := by decide +kernel
theorem dX12_orderPartAt_29 : decode cX12_orderPartAt 29 = .ok (.iload_n 1, 1) := by decide +kernel
theorem dX12_orderPartAt_30 : decode cX12_orderPartAt 30 = .ok (.istore_n 1, 1) := by decide +kernel
theorem dX12_orderPartAt_31 : decode cX12_orderPartAt 31 = .ok (.iinc 2 1, 3) := by decide +kernel
theorem dX12_orderPartAt_34 : decode cX12_orderPartAt 34 = .ok (.goto (-30), 3) := by decide +kernel
theorem dX12_orderPartAt_37 : decode cX12_orderPartAt 37 = .ok (.iload_n 1, 1) := by decide +kernel
theorem dX12_orderPartAt_38 : decode cX12_orderPartAt 38 = .ok (.ireturn, 1) := by decide +kernel
def w_X12_orderPartAt (X : XT) (Q : Int → Prop) : Prop :=
  ∃ (I3 : Int → Int → Prop) (m4 : Int → Int → Nat), I3 (-1) 0 ∧ ∀ (x1 : Int) (x2 : Int), I3 x1 x2 → R32 x2 ∧ (8 ≤ x2 → Q x1) ∧ (¬ 8 ≤ x2 → (0 ≤ x2 ∧ x2 < 8) ∧ w_X12_isWord  (X 89 x2) X (fun (v15 : Int) => R32 v15 ∧ (v15 = 0 → I3 x1 (x2 + 1) ∧ m4 x1 (x2 + 1) < m4 x1 x2) ∧ (¬ v15 = 0 → I3 (x2 + 1) (x2 + 1) ∧ m4 (x2 + 1) (x2 + 1) < m4 x1 x2)))
set_option maxRecDepth 20000 in
theorem so_X12_orderPartAt {n : Nat} {h : Nat → sE} {X : XT} {Q : Int → Prop} (hn : 115 ≤ n) (hp : Pic X h) (w : w_X12_orderPartAt   X Q) : Sp m_X12_orderPartAt 1 0 0 [.ref 77] n h (pIr n h Q) := by
  unfold w_X12_orderPartAt at w
  refine Sp.ofV (by decide +kernel) (Nat.le_of_ble_eq_true rfl) ?_
  have hf : Fr h h := fun _ _ => rfl
  refine v_iconstI dX12_orderPartAt_0 ?_
  refine v_istore_n dX12_orderPartAt_1 (Nat.le_of_ble_eq_true rfl) ?_
  refine v_iconstI dX12_orderPartAt_2 ?_
  refine v_istore_n dX12_orderPartAt_3 (Nat.le_of_ble_eq_true rfl) ?_
  refine v_pick [2, 1, 0] rfl ?_
  obtain ⟨I3, m4, wi7, wl6⟩ := w
  have hL8 : ∀ (N11 : Nat) (x1 : Int) (x2 : Int), m4 x1 x2 < N11 → I3 x1 x2 → V (m_X12_orderPartAt, 1, 0, 0, n, pIr n h Q, s_G0) 0 0 n h 4 [(0, .ref 77), (1, .int (iI x1)), (2, .int (iI x2))] [] := by
    intro N11
    induction N11 with
    | zero => intro x1 x2  hm9; exact absurd hm9 (Nat.not_lt_zero _)
    | succ N11 ih5 =>
      intro x1 x2  hm9 hI10
      have w := wl6 x1 x2 hI10
      refine v_iload_n dX12_orderPartAt_4 rfl ?_
      refine v_bipushI dX12_orderPartAt_5 rfl ?_
      obtain ⟨q12, w⟩ := w
      refine v_icmp_geI (tgt := 37) dX12_orderPartAt_7 (by decide) q12.1 q12.2 (by decide) (by decide) (fun c13 => ?_) (fun c13 => ?_)
      · replace w := w.1 c13
        refine v_iload_n dX12_orderPartAt_37 rfl ?_
        exact v_iret dX12_orderPartAt_38 rfl (Nat.zero_le _) (Nat.zero_le _) ⟨rfl, rfl, _, rfl, w⟩
      · replace w := w.2 c13
        refine v_aload_n dX12_orderPartAt_10 rfl ?_
        refine v_aload_n dX12_orderPartAt_11 rfl ?_
        refine v_get dX12_orderPartAt_12 fl_X12_79 ((hp 77 (by decide)).trans (ent_77 _)) rfl (s_lt hn rfl) ?_
        refine v_iload_n dX12_orderPartAt_15 rfl ?_
        obtain ⟨q14, w⟩ := w
        refine v_laldI dX12_orderPartAt_16 ((hp 89 (by decide)).trans (ent_89 _)) (s_lt hn rfl) q14.1 q14.2 (ix_le q14.2 (by decide)) ?_
        refine v_callVIr dX12_orderPartAt_17 ml_X12_306 (so_X12_isWord hn hp  w) ((hp 77 (by decide)).trans (ent_77 _)) rfl (s_lt hn rfl) rfl rfl (Nat.le_of_ble_eq_true rfl) (Nat.le_of_ble_eq_true rfl) (Nat.zero_le _) (Nat.zero_le _) (fun v15 w => ?_)
        obtain ⟨q21, w⟩ := w
        refine v_if_eqI (tgt := 29) dX12_orderPartAt_20 (by decide) q21.1 q21.2 (fun c22 => ?_) (fun c22 => ?_)
        · replace w := w.1 c22
          refine v_iload_n dX12_orderPartAt_29 rfl ?_
          refine v_istore_n dX12_orderPartAt_30 (Nat.le_of_ble_eq_true rfl) ?_
          refine v_iincI dX12_orderPartAt_31 rfl (Nat.le_of_ble_eq_true rfl) ?_
          refine v_goto (tgt := 4) dX12_orderPartAt_34 (by decide) ?_
          refine v_pick [2, 1, 0] rfl ?_
          exact ih5 _ _ (Nat.lt_of_lt_of_le w.2 (Nat.le_of_lt_succ hm9)) w.1
        · replace w := w.2 c22
          refine v_iload_n dX12_orderPartAt_23 rfl ?_
          refine v_iconstI dX12_orderPartAt_24 ?_
          refine v_iaddI dX12_orderPartAt_25 ?_
          refine v_goto (tgt := 30) dX12_orderPartAt_26 (by decide) ?_
          refine v_istore_n dX12_orderPartAt_30 (Nat.le_of_ble_eq_true rfl) ?_
          refine v_iincI dX12_orderPartAt_31 rfl (Nat.le_of_ble_eq_true rfl) ?_
          refine v_goto (tgt := 4) dX12_orderPartAt_34 (by decide) ?_
          refine v_pick [2, 1, 0] rfl ?_
          exact ih5 _ _ (Nat.lt_of_lt_of_le w.2 (Nat.le_of_lt_succ hm9)) w.1
  exact hL8 _ _ _ (Nat.lt_succ_self _) wi7
theorem dX12_partAt_0 : decode cX12_partAt 0 = .ok (.iconst (-1), 1) := by decide +kernel
theorem dX12_partAt_1 : decode cX12_partAt 1 = .ok (.istore_n 1, 1) := by decide +kernel
theorem dX12_partAt_2 : decode cX12_partAt 2 = .ok (.iconst 0, 1) := by decide +kernel
theorem dX12_partAt_3 : decode cX12_partAt 3 = .ok (.istore_n 2, 1) := by decide +kernel
theorem dX12_partAt_4 : decode cX12_partAt 4 = .ok (.iload_n 2, 1) := by decide +kernel
theorem dX12_partAt_5 : decode cX12_partAt 5 = .ok (.bipush 8, 2) := by decide +kernel
theorem dX12_partAt_7 : decode cX12_partAt 7 = .ok (.if_icmp .ge 30, 3) := by decide +kernel
theorem dX12_partAt_10 : decode cX12_partAt 10 = .ok (.aload_n 0, 1) := by decide +kernel
theorem dX12_partAt_11 : decode cX12_partAt 11 = .ok (.aload_n 0, 1) := by decide +kernel
theorem dX12_partAt_12 : decode cX12_partAt 12 = .ok (.getfield 61, 3) := by decide +kernel
theorem dX12_partAt_15 : decode cX12_partAt 15 = .ok (.iload_n 2, 1) := by decide +kernel
theorem dX12_partAt_16 : decode cX12_partAt 16 = .ok (.laload, 1) := by decide +kernel
theorem dX12_partAt_17 : decode cX12_partAt 17 = .ok (.invokevirtual 306, 3) := by decide +kernel
theorem dX12_partAt_20 : decode cX12_partAt 20 = .ok (.ifCond .eq 9, 3) := by decide +kernel
theorem dX12_partAt_23 : decode cX12_partAt 23 = .ok (.iload_n 2, 1) := by decide +kernel
theorem dX12_partAt_24 : decode cX12_partAt 24 = .ok (.iconst 1, 1) := by decide +kernel
theorem dX12_partAt_25 : decode cX12_partAt 25 = .ok (.iadd, 1) := by decide +kernel
theorem dX12_partAt_26 : decode cX12_partAt 26 = .ok (.goto 4, 3) := by decide +kernel
theorem dX12_partAt_29 : decode cX12_partAt 29 = .ok (.iload_n 1, 1) := by decide +kernel
theorem dX12_partAt_30 : decode cX12_partAt 30 = .ok (.istore_n 1, 1) := by decide +kernel
theorem dX12_partAt_31 : decode cX12_partAt 31 = .ok (.iinc 2 1, 3) := by decide +kernel
theorem dX12_partAt_34 : decode cX12_partAt 34 = .ok (.goto (-30), 3) := by decide +kernel
theorem dX12_partAt_37 : decode cX12_partAt 37 = .ok (.iload_n 1, 1) := by decide +kernel
theorem dX12_partAt_38 : decode cX12_partAt 38 = .ok (.ireturn, 1) := by decide +kernel
def w_X12_partAt (X : XT) (Q : Int → Prop) : Prop :=
  ∃ (I3 : Int → Int → Prop) (m4 : Int → Int → Nat), I3 (-1) 0 ∧ ∀ (x1 : Int) (x2 : Int), I3 x1 x2 → R32 x2 ∧ (8 ≤ x2 → Q x1) ∧ (¬ 8 ≤ x2 → (0 ≤ x2 ∧ x2 < 8) ∧ w_X12_isWord  (X 88 x2) X (fun (v15 : Int) => R32 v15 ∧ (v15 = 0 → I3 x1 (x2 + 1) ∧ m4 x1 (x2 + 1) < m4 x1 x2) ∧ (¬ v15 = 0 → I3 (x2 + 1) (x2 + 1) ∧ m4 (x2 + 1) (x2 + 1) < m4 x1 x2)))
set_option maxRecDepth 20000 in
theorem so_X12_partAt {n : Nat} {h : Nat → sE} {X : XT} {Q : Int → Prop} (hn : 115 ≤ n) (hp : Pic X h) (w : w_X12_partAt   X Q) : Sp m_X12_partAt 1 0 0 [.ref 77] n h (pIr n h Q) := by
  unfold w_X12_partAt at w
  refine Sp.ofV (by decide +kernel) (Nat.le_of_ble_eq_true rfl) ?_
  have hf : Fr h h := fun _ _ => rfl
  refine v_iconstI dX12_partAt_0 ?_
  refine v_istore_n dX12_partAt_1 (Nat.le_of_ble_eq_true rfl) ?_
  refine v_iconstI dX12_partAt_2 ?_
  refine v_istore_n dX12_partAt_3 (Nat.le_of_ble_eq_true rfl) ?_
  refine v_pick [2, 1, 0] rfl ?_
  obtain ⟨I3, m4, wi7, wl6⟩ := w
  have hL8 : ∀ (N11 : Nat) (x1 : Int) (x2 : Int), m4 x1 x2 < N11 → I3 x1 x2 → V (m_X12_partAt, 1, 0, 0, n, pIr n h Q, s_G0) 0 0 n h 4 [(0, .ref 77), (1, .int (iI x1)), (2, .int (iI x2))] [] := by
    intro N11
    induction N11 with
    | zero => intro x1 x2  hm9; exact absurd hm9 (Nat.not_lt_zero _)
    | succ N11 ih5 =>
      intro x1 x2  hm9 hI10
      have w := wl6 x1 x2 hI10
      refine v_iload_n dX12_partAt_4 rfl ?_
      refine v_bipushI dX12_partAt_5 rfl ?_
      obtain ⟨q12, w⟩ := w
      refine v_icmp_geI (tgt := 37) dX12_partAt_7 (by decide) q12.1 q12.2 (by decide) (by decide) (fun c13 => ?_) (fun c13 => ?_)
      · replace w := w.1 c13
        refine v_iload_n dX12_partAt_37 rfl ?_
        exact v_iret dX12_partAt_38 rfl (Nat.zero_le _) (Nat.zero_le _) ⟨rfl, rfl, _, rfl, w⟩
      · replace w := w.2 c13
        refine v_aload_n dX12_partAt_10 rfl ?_
        refine v_aload_n dX12_partAt_11 rfl ?_
        refine v_get dX12_partAt_12 fl_X12_61 ((hp 77 (by decide)).trans (ent_77 _)) rfl (s_lt hn rfl) ?_
        refine v_iload_n dX12_partAt_15 rfl ?_
        obtain ⟨q14, w⟩ := w
        refine v_laldI dX12_partAt_16 ((hp 88 (by decide)).trans (ent_88 _)) (s_lt hn rfl) q14.1 q14.2 (ix_le q14.2 (by decide)) ?_
        refine v_callVIr dX12_partAt_17 ml_X12_306 (so_X12_isWord hn hp  w) ((hp 77 (by decide)).trans (ent_77 _)) rfl (s_lt hn rfl) rfl rfl (Nat.le_of_ble_eq_true rfl) (Nat.le_of_ble_eq_true rfl) (Nat.zero_le _) (Nat.zero_le _) (fun v15 w => ?_)
        obtain ⟨q21, w⟩ := w
        refine v_if_eqI (tgt := 29) dX12_partAt_20 (by decide) q21.1 q21.2 (fun c22 => ?_) (fun c22 => ?_)
        · replace w := w.1 c22
          refine v_iload_n dX12_partAt_29 rfl ?_
          refine v_istore_n dX12_partAt_30 (Nat.le_of_ble_eq_true rfl) ?_
          refine v_iincI dX12_partAt_31 rfl (Nat.le_of_ble_eq_true rfl) ?_
          refine v_goto (tgt := 4) dX12_partAt_34 (by decide) ?_
          refine v_pick [2, 1, 0] rfl ?_
          exact ih5 _ _ (Nat.lt_of_lt_of_le w.2 (Nat.le_of_lt_succ hm9)) w.1
        · replace w := w.2 c22
          refine v_iload_n dX12_partAt_23 rfl ?_
          refine v_iconstI dX12_partAt_24 ?_
          refine v_iaddI dX12_partAt_25 ?_
          refine v_goto (tgt := 30) dX12_partAt_26 (by decide) ?_
          refine v_istore_n dX12_partAt_30 (Nat.le_of_ble_eq_true rfl) ?_
          refine v_iincI dX12_partAt_31 rfl (Nat.le_of_ble_eq_true rfl) ?_
          refine v_goto (tgt := 4) dX12_partAt_34 (by decide) ?_
          refine v_pick [2, 1, 0] rfl ?_
          exact ih5 _ _ (Nat.lt_of_lt_of_le w.2 (Nat.le_of_lt_succ hm9)) w.1
  exact hL8 _ _ _ (Nat.lt_succ_self _) wi7
theorem dX12_emit_0 : decode cX12_emit 0 = .ok (.aload_n 0, 1) := by decide +kernel
theorem dX12_emit_1 : decode cX12_emit 1 = .ok (.getfield 33, 3) := by decide +kernel
theorem dX12_emit_4 : decode cX12_emit 4 = .ok (.aload_n 0, 1) := by decide +kernel
theorem dX12_emit_5 : decode cX12_emit 5 = .ok (.getfield 289, 3) := by decide +kernel
theorem dX12_emit_8 : decode cX12_emit 8 = .ok (.iload_n 1, 1) := by decide +kernel
theorem dX12_emit_9 : decode cX12_emit 9 = .ok (.iastore, 1) := by decide +kernel
theorem dX12_emit_10 : decode cX12_emit 10 = .ok (.aload_n 0, 1) := by decide +kernel
theorem dX12_emit_11 : decode cX12_emit 11 = .ok (.getfield 36, 3) := by decide +kernel
theorem dX12_emit_14 : decode cX12_emit 14 = .ok (.aload_n 0, 1) := by decide +kernel
theorem dX12_emit_15 : decode cX12_emit 15 = .ok (.getfield 289, 3) := by decide +kernel
theorem dX12_emit_18 : decode cX12_emit 18 = .ok (.iload_n 2, 1) := by decide +kernel
theorem dX12_emit_19 : decode cX12_emit 19 = .ok (.iastore, 1) := by decide +kernel
theorem dX12_emit_20 : decode cX12_emit 20 = .ok (.aload_n 0, 1) := by decide +kernel
theorem dX12_emit_21 : decode cX12_emit 21 = .ok (.dup, 1) := by decide +kernel
theorem dX12_emit_22 : decode cX12_emit 22 = .ok (.getfield 289, 3) := by decide +kernel
theorem dX12_emit_25 : decode cX12_emit 25 = .ok (.iconst 1, 1) := by decide +kernel
theorem dX12_emit_26 : decode cX12_emit 26 = .ok (.iadd, 1) := by decide +kernel
theorem dX12_emit_27 : decode cX12_emit 27 = .ok (.putfield 289, 3) := by decide +kernel
theorem dX12_emit_30 : decode cX12_emit 30 = .ok (.return_, 1) := by decide +kernel
def w_X12_emit (a0 a1 : Int) (X : XT) (Q : XT → Prop) : Prop :=
  (0 ≤ (X 77 18) ∧ (X 77 18) < 400) ∧ (0 ≤ ((x_st X 84 (X 77 18) a0) 77 18) ∧ ((x_st X 84 (X 77 18) a0) 77 18) < 400) ∧ Q (x_st (x_st (x_st X 84 (X 77 18) a0) 85 ((x_st X 84 (X 77 18) a0) 77 18) a1) 77 18 (((x_st (x_st X 84 (X 77 18) a0) 85 ((x_st X 84 (X 77 18) a0) 77 18) a1) 77 18) + 1))
set_option maxRecDepth 20000 in
theorem so_X12_emit {n : Nat} {h : Nat → sE} {X : XT} {a0 a1 : Int} {Q : XT → Prop} (hn : 115 ≤ n) (hp : Pic X h) (w : w_X12_emit  a0 a1 X Q) : Sp m_X12_emit 0 0 0 [.ref 77, .int (iI a0), .int (iI a1)] n h (pVw n h Q) := by
  unfold w_X12_emit at w
  refine Sp.ofV (by decide +kernel) (Nat.le_of_ble_eq_true rfl) ?_
  have hf : Fr h h := fun _ _ => rfl
  refine v_aload_n dX12_emit_0 rfl ?_
  refine v_get dX12_emit_1 fl_X12_33 ((hp 77 (by decide)).trans (ent_77 _)) rfl (s_lt hn rfl) ?_
  refine v_aload_n dX12_emit_4 rfl ?_
  refine v_get dX12_emit_5 fl_X12_289 ((hp 77 (by decide)).trans (ent_77 _)) rfl (s_lt hn rfl) ?_
  refine v_iload_n dX12_emit_8 rfl ?_
  obtain ⟨q1, w⟩ := w
  refine v_iastI dX12_emit_9 ((hp 84 (by decide)).trans (ent_84 _)) (s_lt hn rfl) q1.1 q1.2 (ix_le q1.2 (by decide)) (fun h2 E3 F4 => ?_)
  have hp5 := pic_st hp (show h2 84 = ent 84 (uI _ (X 77 18) a0) from E3) F4
  have hf6 := Fr.up (c := 84) hf F4 rfl
  refine v_aload_n dX12_emit_10 rfl ?_
  refine v_get dX12_emit_11 fl_X12_36 ((hp5 77 (by decide)).trans (ent_77 _)) rfl (s_lt hn rfl) ?_
  refine v_aload_n dX12_emit_14 rfl ?_
  refine v_get dX12_emit_15 fl_X12_289 ((hp5 77 (by decide)).trans (ent_77 _)) rfl (s_lt hn rfl) ?_
  refine v_iload_n dX12_emit_18 rfl ?_
  obtain ⟨q7, w⟩ := w
  refine v_iastI dX12_emit_19 ((hp5 85 (by decide)).trans (ent_85 _)) (s_lt hn rfl) q7.1 q7.2 (ix_le q7.2 (by decide)) (fun h8 E9 F10 => ?_)
  have hp11 := pic_st hp5 (show h8 85 = ent 85 (uI _ ((x_st X 84 (X 77 18) a0) 77 18) a1) from E9) F10
  have hf12 := Fr.up (c := 85) hf6 F10 rfl
  refine v_aload_n dX12_emit_20 rfl ?_
  refine v_dup dX12_emit_21 rfl ?_
  refine v_get dX12_emit_22 fl_X12_289 ((hp11 77 (by decide)).trans (ent_77 _)) rfl (s_lt hn rfl) ?_
  refine v_iconstI dX12_emit_25 ?_
  refine v_iaddI dX12_emit_26 ?_
  refine v_put dX12_emit_27 fl_X12_289 ((hp11 77 (by decide)).trans (ent_77 _)) (s_lt hn rfl) (Nat.le_of_ble_eq_true rfl) (fun _ => ⟨rfl, rfl⟩) trivial (fun h13 E14 F15 => ?_)
  have hp16 := pic_st hp11 (show h13 77 = ent 77 (uI _ 18 (((x_st (x_st X 84 (X 77 18) a0) 85 ((x_st X 84 (X 77 18) a0) 77 18) a1) 77 18) + 1)) from E14) F15
  have hf17 := Fr.up (c := 77) hf12 F15 rfl
  exact v_vret dX12_emit_30 rfl (Nat.zero_le _) (Nat.zero_le _) ⟨rfl, hf17, _, rfl, hp16, w⟩
theorem dX12_leaf_0 : decode cX12_leaf 0 = .ok (.aload_n 0, 1) := by decide +kernel
theorem dX12_leaf_1 : decode cX12_leaf 1 = .ok (.iload_n 1, 1) := by decide +kernel
theorem dX12_leaf_2 : decode cX12_leaf 2 = .ok (.ifCond .eq 16, 3) := by decide +kernel
theorem dX12_leaf_5 : decode cX12_leaf 5 = .ok (.aload_n 0, 1) := by decide +kernel
theorem dX12_leaf_6 : decode cX12_leaf 6 = .ok (.getfield 316, 3) := by decide +kernel
theorem dX12_leaf_9 : decode cX12_leaf 9 = .ok (.bipush 50, 2) := by decide +kernel
theorem dX12_leaf_11 : decode cX12_leaf 11 = .ok (.if_icmp .ge 7, 3) := by decide +kernel
theorem dX12_leaf_14 : decode cX12_leaf 14 = .ok (.iconst 1, 1) := by decide +kernel
theorem dX12_leaf_15 : decode cX12_leaf 15 = .ok (.goto 4, 3) := by decide +kernel
theorem dX12_leaf_18 : decode cX12_leaf 18 = .ok (.iconst 0, 1) := by decide +kernel
theorem dX12_leaf_19 : decode cX12_leaf 19 = .ok (.invokevirtual 285, 3) := by decide +kernel
theorem dX12_leaf_22 : decode cX12_leaf 22 = .ok (.aload_n 0, 1) := by decide +kernel
theorem dX12_leaf_23 : decode cX12_leaf 23 = .ok (.getfield 254, 3) := by decide +kernel
theorem dX12_leaf_26 : decode cX12_leaf 26 = .ok (.ifCond .ne 19, 3) := by decide +kernel
theorem dX12_leaf_29 : decode cX12_leaf 29 = .ok (.aload_n 0, 1) := by decide +kernel
theorem dX12_leaf_30 : decode cX12_leaf 30 = .ok (.iload_n 2, 1) := by decide +kernel
theorem dX12_leaf_31 : decode cX12_leaf 31 = .ok (.iload_n 3, 1) := by decide +kernel
theorem dX12_leaf_32 : decode cX12_leaf 32 = .ok (.invokevirtual 298, 3) := by decide +kernel
theorem dX12_leaf_35 : decode cX12_leaf 35 = .ok (.aload_n 0, 1) := by decide +kernel
theorem dX12_leaf_36 : decode cX12_leaf 36 = .ok (.dup, 1) := by decide +kernel
theorem dX12_leaf_37 : decode cX12_leaf 37 = .ok (.getfield 316, 3) := by decide +kernel
theorem dX12_leaf_40 : decode cX12_leaf 40 = .ok (.iconst 1, 1) := by decide +kernel
theorem dX12_leaf_41 : decode cX12_leaf 41 = .ok (.iadd, 1) := by decide +kernel
theorem dX12_leaf_42 : decode cX12_leaf 42 = .ok (.putfield 316, 3) := by decide +kernel
theorem dX12_leaf_45 : decode cX12_leaf 45 = .ok (.return_, 1) := by decide +kernel
def w_X12_leaf (a0 a1 a2 : Int) (X : XT) (Q : XT → Prop) : Prop :=
  ∀ J2 : Int → Prop, (∀ (v1 : Int), (w_X12_must  v1 X (fun (X4 : XT) => R32 (X4 77 14) ∧ (¬ (X4 77 14) = 0 → Q X4) ∧ ((X4 77 14) = 0 → w_X12_emit  a1 a2 X4 (fun (X12 : XT) => Q (x_st X12 77 21 ((X12 77 21) + 1)))))) → J2 v1) → R32 a0 ∧ (a0 = 0 → J2 0) ∧ (¬ a0 = 0 → R32 (X 77 21) ∧ (50 ≤ (X 77 21) → J2 0) ∧ (¬ 50 ≤ (X 77 21) → J2 1))
set_option maxRecDepth 20000 in
theorem so_X12_leaf {n : Nat} {h : Nat → sE} {X : XT} {a0 a1 a2 : Int} {Q : XT → Prop} (hn : 115 ≤ n) (hp : Pic X h) (w : w_X12_leaf  a0 a1 a2 X Q) : Sp m_X12_leaf 3 0 0 [.ref 77, .int (iI a0), .int (iI a1), .int (iI a2)] n h (pVw n h Q) := by
  unfold w_X12_leaf at w
  refine Sp.ofV (by decide +kernel) (Nat.le_of_ble_eq_true rfl) ?_
  have hf : Fr h h := fun _ _ => rfl
  refine v_aload_n dX12_leaf_0 rfl ?_
  refine v_iload_n dX12_leaf_1 rfl ?_
  replace w := w (fun (v1 : Int) => V (m_X12_leaf, 3, 0, 0, n, pVw n h Q, s_G0) 0 0 n h 19 [(0, .ref 77), (2, .int (iI a1)), (3, .int (iI a2))] [.int (iI v1), .ref 77]) (by
    intro v1 w
    refine v_callVVw dX12_leaf_19 ml_X12_285 (so_X12_must hn hp  w) ((hp 77 (by decide)).trans (ent_77 _)) rfl (s_lt hn rfl) rfl rfl (Nat.le_of_ble_eq_true rfl) (Nat.le_of_ble_eq_true rfl) (Nat.zero_le _) (Nat.zero_le _) (fun X4 h5 hp7 hf6 w => ?_)
    have hf8 := Fr.trans hf hf6
    refine v_aload_n dX12_leaf_22 rfl ?_
    refine v_get dX12_leaf_23 fl_X12_254 ((hp7 77 (by decide)).trans (ent_77 _)) rfl (s_lt hn rfl) ?_
    obtain ⟨q9, w⟩ := w
    refine v_if_neI (tgt := 45) dX12_leaf_26 (by decide) q9.1 q9.2 (fun c10 => ?_) (fun c10 => ?_)
    · replace w := w.1 c10
      exact v_vret dX12_leaf_45 rfl (Nat.zero_le _) (Nat.zero_le _) ⟨rfl, hf8, _, rfl, hp7, w⟩
    · replace w := w.2 c10
      refine v_aload_n dX12_leaf_29 rfl ?_
      refine v_iload_n dX12_leaf_30 rfl ?_
      refine v_iload_n dX12_leaf_31 rfl ?_
      refine v_callVVw dX12_leaf_32 ml_X12_298 (so_X12_emit hn hp7  w) ((hp7 77 (by decide)).trans (ent_77 _)) rfl (s_lt hn rfl) rfl rfl (Nat.le_of_ble_eq_true rfl) (Nat.le_of_ble_eq_true rfl) (Nat.zero_le _) (Nat.zero_le _) (fun X12 h13 hp15 hf14 w => ?_)
      have hf16 := Fr.trans hf8 hf14
      refine v_aload_n dX12_leaf_35 rfl ?_
      refine v_dup dX12_leaf_36 rfl ?_
      refine v_get dX12_leaf_37 fl_X12_316 ((hp15 77 (by decide)).trans (ent_77 _)) rfl (s_lt hn rfl) ?_
      refine v_iconstI dX12_leaf_40 ?_
      refine v_iaddI dX12_leaf_41 ?_
      refine v_put dX12_leaf_42 fl_X12_316 ((hp15 77 (by decide)).trans (ent_77 _)) (s_lt hn rfl) (Nat.le_of_ble_eq_true rfl) (fun _ => ⟨rfl, rfl⟩) trivial (fun h17 E18 F19 => ?_)
      have hp20 := pic_st hp15 (show h17 77 = ent 77 (uI _ 21 ((X12 77 21) + 1)) from E18) F19
      have hf21 := Fr.up (c := 77) hf16 F19 rfl
      exact v_vret dX12_leaf_45 rfl (Nat.zero_le _) (Nat.zero_le _) ⟨rfl, hf21, _, rfl, hp20, w⟩
  )
  obtain ⟨q22, w⟩ := w
  refine v_if_eqI (tgt := 18) dX12_leaf_2 (by decide) q22.1 q22.2 (fun c23 => ?_) (fun c23 => ?_)
  · replace w := w.1 c23
    refine v_iconstI dX12_leaf_18 ?_
    refine v_pick [0, 2, 3] rfl ?_
    exact w
  · replace w := w.2 c23
    refine v_aload_n dX12_leaf_5 rfl ?_
    refine v_get dX12_leaf_6 fl_X12_316 ((hp 77 (by decide)).trans (ent_77 _)) rfl (s_lt hn rfl) ?_
    refine v_bipushI dX12_leaf_9 rfl ?_
    obtain ⟨q24, w⟩ := w
    refine v_icmp_geI (tgt := 18) dX12_leaf_11 (by decide) q24.1 q24.2 (by decide) (by decide) (fun c25 => ?_) (fun c25 => ?_)
    · replace w := w.1 c25
      refine v_iconstI dX12_leaf_18 ?_
      refine v_pick [0, 2, 3] rfl ?_
      exact w
    · replace w := w.2 c25
      refine v_iconstI dX12_leaf_14 ?_
      refine v_goto (tgt := 19) dX12_leaf_15 (by decide) ?_
      refine v_pick [0, 2, 3] rfl ?_
      exact w
theorem dX12_number_0 : decode cX12_number 0 = .ok (.aload_n 0, 1) := by decide +kernel
theorem dX12_number_1 : decode cX12_number 1 = .ok (.getfield 264, 3) := by decide +kernel
theorem dX12_number_4 : decode cX12_number 4 = .ok (.l2i, 1) := by decide +kernel
theorem dX12_number_5 : decode cX12_number 5 = .ok (.istore 5, 2) := by decide +kernel
theorem dX12_number_7 : decode cX12_number 7 = .ok (.aload_n 0, 1) := by decide +kernel
theorem dX12_number_8 : decode cX12_number 8 = .ok (.aload_n 0, 1) := by decide +kernel
theorem dX12_number_9 : decode cX12_number 9 = .ok (.getfield 274, 3) := by decide +kernel
theorem dX12_number_12 : decode cX12_number 12 = .ok (.iconst 2, 1) := by decide +kernel
theorem dX12_number_13 : decode cX12_number 13 = .ok (.if_icmp .ne 19, 3) := by decide +kernel
theorem dX12_number_16 : decode cX12_number 16 = .ok (.aload_n 0, 1) := by decide +kernel
theorem dX12_number_17 : decode cX12_number 17 = .ok (.getfield 264, 3) := by decide +kernel
theorem dX12_number_20 : decode cX12_number 20 = .ok (.lload_n 1, 1) := by decide +kernel
theorem dX12_number_21 : decode cX12_number 21 = .ok (.lload_n 3, 1) := by decide +kernel
theorem dX12_number_22 : decode cX12_number 22 = .ok (.invokestatic 175, 3) := by decide +kernel
theorem dX12_number_25 : decode cX12_number 25 = .ok (.ifCond .eq 7, 3) := by decide +kernel
theorem dX12_number_28 : decode cX12_number 28 = .ok (.iconst 1, 1) := by decide +kernel
theorem dX12_number_29 : decode cX12_number 29 = .ok (.goto 4, 3) := by decide +kernel
theorem dX12_number_32 : decode cX12_number 32 = .ok (.iconst 0, 1) := by decide +kernel
theorem dX12_number_33 : decode cX12_number 33 = .ok (.invokevirtual 285, 3) := by decide +kernel
theorem dX12_number_36 : decode cX12_number 36 = .ok (.iload 5, 2) := by decide +kernel
theorem dX12_number_38 : decode cX12_number 38 = .ok (.ireturn, 1) := by decide +kernel
def w_X12_number (a0 a1 : Int) (X : XT) (Q : Int → XT → Prop) : Prop :=
  R32 (X 77 11) ∧ (¬ (X 77 11) = 2 → w_X12_must  0 X (fun (X4 : XT) => Q (X 77 12) X4)) ∧ ((X 77 11) = 2 → R64 (X 77 12) ∧ R64 a0 ∧ R64 a1 ∧ (¬ (a0 ≤ (X 77 12) ∧ (X 77 12) ≤ a1) → w_X12_must  0 X (fun (X14 : XT) => Q (X 77 12) X14)) ∧ ((a0 ≤ (X 77 12) ∧ (X 77 12) ≤ a1) → w_X12_must  1 X (fun (X20 : XT) => Q (X 77 12) X20)))
set_option maxRecDepth 20000 in
theorem so_X12_number {n : Nat} {h : Nat → sE} {X : XT} {a0 a1 : Int} {Q : Int → XT → Prop} (hn : 115 ≤ n) (hp : Pic X h) (w : w_X12_number  a0 a1 X Q) : Sp m_X12_number 3 0 0 [.ref 77, .long (jJ a0), .long (jJ a1)] n h (pIw n h Q) := by
  unfold w_X12_number at w
  refine Sp.ofV (by decide +kernel) (Nat.le_of_ble_eq_true rfl) ?_
  have hf : Fr h h := fun _ _ => rfl
  refine v_aload_n dX12_number_0 rfl ?_
  refine v_get dX12_number_1 fl_X12_264 ((hp 77 (by decide)).trans (ent_77 _)) rfl (s_lt hn rfl) ?_
  refine v_l2iI dX12_number_4 ?_
  refine v_istore dX12_number_5 (Nat.le_of_ble_eq_true rfl) ?_
  refine v_aload_n dX12_number_7 rfl ?_
  refine v_aload_n dX12_number_8 rfl ?_
  refine v_get dX12_number_9 fl_X12_274 ((hp 77 (by decide)).trans (ent_77 _)) rfl (s_lt hn rfl) ?_
  refine v_iconstI dX12_number_12 ?_
  obtain ⟨q1, w⟩ := w
  refine v_icmp_neI (tgt := 32) dX12_number_13 (by decide) q1.1 q1.2 (by decide) (by decide) (fun c2 => ?_) (fun c2 => ?_)
  · replace w := w.1 c2
    refine v_iconstI dX12_number_32 ?_
    refine v_callVVw dX12_number_33 ml_X12_285 (so_X12_must hn hp  w) ((hp 77 (by decide)).trans (ent_77 _)) rfl (s_lt hn rfl) rfl rfl (Nat.le_of_ble_eq_true rfl) (Nat.le_of_ble_eq_true rfl) (Nat.zero_le _) (Nat.zero_le _) (fun X4 h5 hp7 hf6 w => ?_)
    have hf8 := Fr.trans hf hf6
    refine v_iload dX12_number_36 rfl ?_
    exact v_iret dX12_number_38 rfl (Nat.zero_le _) (Nat.zero_le _) ⟨rfl, hf8, _, _, rfl, hp7, w⟩
  · replace w := w.2 c2
    refine v_aload_n dX12_number_16 rfl ?_
    refine v_get dX12_number_17 fl_X12_264 ((hp 77 (by decide)).trans (ent_77 _)) rfl (s_lt hn rfl) ?_
    refine v_lload_n dX12_number_20 rfl ?_
    refine v_lload_n dX12_number_21 rfl ?_
    obtain ⟨q9, q10, q11, w⟩ := w
    refine v_callSp dX12_number_22 ml_X12_175 (sp_X12_in (v := (X 77 12)) (lo := a0) (hi := a1) q9 q10 q11) rfl rfl (Nat.le_of_ble_eq_true rfl) (Nat.le_of_ble_eq_true rfl) (Nat.zero_le _) (Nat.zero_le _) ?_
    refine v_ifeqB (tgt := 32) dX12_number_25 (by decide) (fun c12 => ?_) (fun c12 => ?_)
    · replace w := w.1 c12
      refine v_iconstI dX12_number_32 ?_
      refine v_callVVw dX12_number_33 ml_X12_285 (so_X12_must hn hp  w) ((hp 77 (by decide)).trans (ent_77 _)) rfl (s_lt hn rfl) rfl rfl (Nat.le_of_ble_eq_true rfl) (Nat.le_of_ble_eq_true rfl) (Nat.zero_le _) (Nat.zero_le _) (fun X14 h15 hp17 hf16 w => ?_)
      have hf18 := Fr.trans hf hf16
      refine v_iload dX12_number_36 rfl ?_
      exact v_iret dX12_number_38 rfl (Nat.zero_le _) (Nat.zero_le _) ⟨rfl, hf18, _, _, rfl, hp17, w⟩
    · replace w := w.2 c12
      refine v_iconstI dX12_number_28 ?_
      refine v_goto (tgt := 33) dX12_number_29 (by decide) ?_
      refine v_callVVw dX12_number_33 ml_X12_285 (so_X12_must hn hp  w) ((hp 77 (by decide)).trans (ent_77 _)) rfl (s_lt hn rfl) rfl rfl (Nat.le_of_ble_eq_true rfl) (Nat.le_of_ble_eq_true rfl) (Nat.zero_le _) (Nat.zero_le _) (fun X20 h21 hp23 hf22 w => ?_)
      have hf24 := Fr.trans hf hf22
      refine v_iload dX12_number_36 rfl ?_
      exact v_iret dX12_number_38 rfl (Nat.zero_le _) (Nat.zero_le _) ⟨rfl, hf24, _, _, rfl, hp23, w⟩
theorem dX12_readPart_0 : decode cX12_readPart 0 = .ok (.aload_n 0, 1) := by decide +kernel
theorem dX12_readPart_1 : decode cX12_readPart 1 = .ok (.bipush 91, 2) := by decide +kernel
theorem dX12_readPart_3 : decode cX12_readPart 3 = .ok (.invokevirtual 319, 3) := by decide +kernel
theorem dX12_readPart_6 : decode cX12_readPart 6 = .ok (.ifCond .eq 11, 3) := by decide +kernel
theorem dX12_readPart_9 : decode cX12_readPart 9 = .ok (.aload_n 0, 1) := by decide +kernel
theorem dX12_readPart_10 : decode cX12_readPart 10 = .ok (.bipush 32, 2) := by decide +kernel
theorem dX12_readPart_12 : decode cX12_readPart 12 = .ok (.invokevirtual 322, 3) := by decide +kernel
theorem dX12_readPart_15 : decode cX12_readPart 15 = .ok (.iconst 1, 1) := by decide +kernel
theorem dX12_readPart_16 : decode cX12_readPart 16 = .ok (.ireturn, 1) := by decide +kernel
theorem dX12_readPart_17 : decode cX12_readPart 17 = .ok (.aload_n 0, 1) := by decide +kernel
theorem dX12_readPart_18 : decode cX12_readPart 18 = .ok (.getfield 325, 3) := by decide +kernel
theorem dX12_readPart_21 : decode cX12_readPart 21 = .ok (.ifCond .eq 10, 3) := by decide +kernel
theorem dX12_readPart_24 : decode cX12_readPart 24 = .ok (.aload_n 0, 1) := by decide +kernel
theorem dX12_readPart_25 : decode cX12_readPart 25 = .ok (.invokevirtual 328, 3) := by decide +kernel
theorem dX12_readPart_28 : decode cX12_readPart 28 = .ok (.goto 7, 3) := by decide +kernel
theorem dX12_readPart_31 : decode cX12_readPart 31 = .ok (.aload_n 0, 1) := by decide +kernel
theorem dX12_readPart_32 : decode cX12_readPart 32 = .ok (.invokevirtual 332, 3) := by decide +kernel
theorem dX12_readPart_35 : decode cX12_readPart 35 = .ok (.istore_n 1, 1) := by decide +kernel
theorem dX12_readPart_36 : decode cX12_readPart 36 = .ok (.aload_n 0, 1) := by decide +kernel
theorem dX12_readPart_37 : decode cX12_readPart 37 = .ok (.getfield 274, 3) := by decide +kernel
theorem dX12_readPart_40 : decode cX12_readPart 40 = .ok (.iconst 2, 1) := by decide +kernel
theorem dX12_readPart_41 : decode cX12_readPart 41 = .ok (.if_icmp .ne 18, 3) := by decide +kernel
theorem dX12_readPart_44 : decode cX12_readPart 44 = .ok (.aload_n 0, 1) := by decide +kernel
theorem dX12_readPart_45 : decode cX12_readPart 45 = .ok (.getfield 264, 3) := by decide +kernel
theorem dX12_readPart_48 : decode cX12_readPart 48 = .ok (.ldc2_w 335, 3) := by decide +kernel
theorem dX12_readPart_51 : decode cX12_readPart 51 = .ok (.lcmp, 1) := by decide +kernel
theorem dX12_readPart_52 : decode cX12_readPart 52 = .ok (.ifCond .gt 7, 3) := by decide +kernel
theorem dX12_readPart_55 : decode cX12_readPart 55 = .ok (.iconst 1, 1) := by decide +kernel
theorem dX12_readPart_56 : decode cX12_readPart 56 = .ok (.goto 4, 3) := by decide +kernel
theorem dX12_readPart_59 : decode cX12_readPart 59 = .ok (.iconst 0, 1) := by decide +kernel
theorem dX12_readPart_60 : decode cX12_readPart 60 = .ok (.istore_n 2, 1) := by decide +kernel
theorem dX12_readPart_61 : decode cX12_readPart 61 = .ok (.aload_n 0, 1) := by decide +kernel
theorem dX12_readPart_62 : decode cX12_readPart 62 = .ok (.iload_n 1, 1) := by decide +kernel
theorem dX12_readPart_63 : decode cX12_readPart 63 = .ok (.iconst (-1), 1) := by decide +kernel
theorem dX12_readPart_64 : decode cX12_readPart 64 = .ok (.if_icmp .ne 7, 3) := by decide +kernel
theorem dX12_readPart_67 : decode cX12_readPart 67 = .ok (.iload_n 2, 1) := by decide +kernel
theorem dX12_readPart_68 : decode cX12_readPart 68 = .ok (.ifCond .eq 7, 3) := by decide +kernel
theorem dX12_readPart_71 : decode cX12_readPart 71 = .ok (.iconst 1, 1) := by decide +kernel
theorem dX12_readPart_72 : decode cX12_readPart 72 = .ok (.goto 4, 3) := by decide +kernel
theorem dX12_readPart_75 : decode cX12_readPart 75 = .ok (.iconst 0, 1) := by decide +kernel
theorem dX12_readPart_76 : decode cX12_readPart 76 = .ok (.iload_n 1, 1) := by decide +kernel
theorem dX12_readPart_77 : decode cX12_readPart 77 = .ok (.iconst (-1), 1) := by decide +kernel
theorem dX12_readPart_78 : decode cX12_readPart 78 = .ok (.if_icmp .ne 7, 3) := by decide +kernel
theorem dX12_readPart_81 : decode cX12_readPart 81 = .ok (.iconst 0, 1) := by decide +kernel
theorem dX12_readPart_82 : decode cX12_readPart 82 = .ok (.goto 4, 3) := by decide +kernel
theorem dX12_readPart_85 : decode cX12_readPart 85 = .ok (.iload_n 1, 1) := by decide +kernel
theorem dX12_readPart_86 : decode cX12_readPart 86 = .ok (.iload_n 2, 1) := by decide +kernel
theorem dX12_readPart_87 : decode cX12_readPart 87 = .ok (.ifCond .eq 11, 3) := by decide +kernel
theorem dX12_readPart_90 : decode cX12_readPart 90 = .ok (.aload_n 0, 1) := by decide +kernel
theorem dX12_readPart_91 : decode cX12_readPart 91 = .ok (.getfield 264, 3) := by decide +kernel
theorem dX12_readPart_94 : decode cX12_readPart 94 = .ok (.l2i, 1) := by decide +kernel
theorem dX12_readPart_95 : decode cX12_readPart 95 = .ok (.goto 4, 3) := by decide +kernel
theorem dX12_readPart_98 : decode cX12_readPart 98 = .ok (.iconst 0, 1) := by decide +kernel
theorem dX12_readPart_99 : decode cX12_readPart 99 = .ok (.invokevirtual 337, 3) := by decide +kernel
theorem dX12_readPart_102 : decode cX12_readPart 102 = .ok (.aload_n 0, 1) := by decide +kernel
theorem dX12_readPart_103 : decode cX12_readPart 103 = .ok (.getfield 325, 3) := by decide +kernel
theorem dX12_readPart_106 : decode cX12_readPart 106 = .ok (.ifCond .eq 64, 3) := by decide +kernel
theorem dX12_readPart_109 : decode cX12_readPart 109 = .ok (.iload_n 1, 1) := by decide +kernel
theorem dX12_readPart_110 : decode cX12_readPart 110 = .ok (.bipush 7, 2) := by decide +kernel
theorem dX12_readPart_112 : decode cX12_readPart 112 = .ok (.if_icmp .lt 58, 3) := by decide +kernel
theorem dX12_readPart_115 : decode cX12_readPart 115 = .ok (.aload_n 0, 1) := by decide +kernel
theorem dX12_readPart_116 : decode cX12_readPart 116 = .ok (.getfield 254, 3) := by decide +kernel
theorem dX12_readPart_119 : decode cX12_readPart 119 = .ok (.ifCond .ne 51, 3) := by decide +kernel
theorem dX12_readPart_122 : decode cX12_readPart 122 = .ok (.aload_n 0, 1) := by decide +kernel
theorem dX12_readPart_123 : decode cX12_readPart 123 = .ok (.getfield 289, 3) := by decide +kernel
theorem dX12_readPart_126 : decode cX12_readPart 126 = .ok (.iconst 1, 1) := by decide +kernel
theorem dX12_readPart_127 : decode cX12_readPart 127 = .ok (.isub, 1) := by decide +kernel
theorem dX12_readPart_128 : decode cX12_readPart 128 = .ok (.istore_n 3, 1) := by decide +kernel
theorem dX12_readPart_129 : decode cX12_readPart 129 = .ok (.aload_n 0, 1) := by decide +kernel
theorem dX12_readPart_130 : decode cX12_readPart 130 = .ok (.lconst 0, 1) := by decide +kernel
theorem dX12_readPart_131 : decode cX12_readPart 131 = .ok (.ldc2_w 222, 3) := by decide +kernel
theorem dX12_readPart_134 : decode cX12_readPart 134 = .ok (.invokevirtual 341, 3) := by decide +kernel
theorem dX12_readPart_137 : decode cX12_readPart 137 = .ok (.istore 4, 2) := by decide +kernel
theorem dX12_readPart_139 : decode cX12_readPart 139 = .ok (.aload_n 0, 1) := by decide +kernel
theorem dX12_readPart_140 : decode cX12_readPart 140 = .ok (.getfield 36, 3) := by decide +kernel
theorem dX12_readPart_143 : decode cX12_readPart 143 = .ok (.iload_n 3, 1) := by decide +kernel
theorem dX12_readPart_144 : decode cX12_readPart 144 = .ok (.aload_n 0, 1) := by decide +kernel
theorem dX12_readPart_145 : decode cX12_readPart 145 = .ok (.getfield 254, 3) := by decide +kernel
theorem dX12_readPart_148 : decode cX12_readPart 148 = .ok (.ifCond .eq 7, 3) := by decide +kernel
theorem dX12_readPart_151 : decode cX12_readPart 151 = .ok (.iconst 0, 1) := by decide +kernel
theorem dX12_readPart_152 : decode cX12_readPart 152 = .ok (.goto 17, 3) := by decide +kernel
theorem dX12_readPart_155 : decode cX12_readPart 155 = .ok (.bipush 12, 2) := by decide +kernel
theorem dX12_readPart_157 : decode cX12_readPart 157 = .ok (.iload 4, 2) := by decide +kernel
theorem dX12_readPart_159 : decode cX12_readPart 159 = .ok (.imul, 1) := by decide +kernel
theorem dX12_readPart_160 : decode cX12_readPart 160 = .ok (.aload_n 0, 1) := by decide +kernel
theorem dX12_readPart_161 : decode cX12_readPart 161 = .ok (.lconst 0, 1) := by decide +kernel
theorem dX12_readPart_162 : decode cX12_readPart 162 = .ok (.ldc2_w 185, 3) := by decide +kernel
theorem dX12_readPart_165 : decode cX12_readPart 165 = .ok (.invokevirtual 341, 3) := by decide +kernel
theorem dX12_readPart_168 : decode cX12_readPart 168 = .ok (.iadd, 1) := by decide +kernel
theorem dX12_readPart_169 : decode cX12_readPart 169 = .ok (.iastore, 1) := by decide +kernel
theorem dX12_readPart_170 : decode cX12_readPart 170 = .ok (.iconst 3, 1) := by decide +kernel
theorem dX12_readPart_171 : decode cX12_readPart 171 = .ok (.ireturn, 1) := by decide +kernel
def w_X12_readPart (X : XT) (Q : Int → XT → Prop) : Prop :=
  w_X12_isSign  91 X (fun (v1 : Int) => R32 v1 ∧ (v1 = 0 → ∀ J10 : Int → Prop, (∀ (v9 : Int), (∀ J12 : Int → Prop, (∀ (v11 : Int), (∀ J14 : Int → Prop, (∀ (v13 : Int), (∀ J16 : Int → Prop, (∀ (v15 : Int), (∀ J18 : Int → Prop, (∀ (v17 : Int), (w_X12_leaf  v13 v15 v17 X (fun (X20 : XT) => R32 (X20 77 15) ∧ ((X20 77 15) = 0 → Q 3 X20) ∧ (¬ (X20 77 15) = 0 → R32 v9 ∧ (v9 < 7 → Q 3 X20) ∧ (¬ v9 < 7 → R32 (X20 77 14) ∧ (¬ (X20 77 14) = 0 → Q 3 X20) ∧ ((X20 77 14) = 0 → w_X12_number  0 4 X20 (fun (v31 : Int) (X32 : XT) => R32 (X32 77 14) ∧ ((X32 77 14) = 0 → w_X12_number  0 11 X32 (fun (v39 : Int) (X40 : XT) => (0 ≤ ((X20 77 18) - 1) ∧ ((X20 77 18) - 1) < 400) ∧ Q 3 (x_st X40 85 ((X20 77 18) - 1) ((12 * v31) + v39)))) ∧ (¬ (X32 77 14) = 0 → (0 ≤ ((X20 77 18) - 1) ∧ ((X20 77 18) - 1) < 400) ∧ Q 3 (x_st X32 85 ((X20 77 18) - 1) 0)))))))) → J18 v17) → R32 v11 ∧ (v11 = 0 → J18 0) ∧ (¬ v11 = 0 → J18 (X 77 12))) → J16 v15) → R32 v9 ∧ (¬ v9 = (-1) → J16 v9) ∧ (v9 = (-1) → J16 0)) → J14 v13) → R32 v9 ∧ (¬ v9 = (-1) → J14 1) ∧ (v9 = (-1) → R32 v11 ∧ (v11 = 0 → J14 0) ∧ (¬ v11 = 0 → J14 1))) → J12 v11) → R32 (X 77 11) ∧ (¬ (X 77 11) = 2 → J12 0) ∧ ((X 77 11) = 2 → R64 (X 77 12) ∧ (1000 < (X 77 12) → J12 0) ∧ (¬ 1000 < (X 77 12) → J12 1))) → J10 v9) → R32 (X 77 15) ∧ ((X 77 15) = 0 → w_X12_partAt   X (fun (v71 : Int) => J10 v71)) ∧ (¬ (X 77 15) = 0 → w_X12_orderPartAt   X (fun (v77 : Int) => J10 v77))) ∧ (¬ v1 = 0 → w_X12_openBracket  32 X (fun (X84 : XT) => Q 1 X84)))
set_option maxRecDepth 20000 in
theorem so_X12_readPart {n : Nat} {h : Nat → sE} {X : XT} {Q : Int → XT → Prop} (hn : 115 ≤ n) (hp : Pic X h) (w : w_X12_readPart   X Q) : Sp m_X12_readPart 4 0 0 [.ref 77] n h (pIw n h Q) := by
  unfold w_X12_readPart at w
  refine Sp.ofV (by decide +kernel) (Nat.le_of_ble_eq_true rfl) ?_
  have hf : Fr h h := fun _ _ => rfl
  refine v_aload_n dX12_readPart_0 rfl ?_
  refine v_bipushI dX12_readPart_1 rfl ?_
  refine v_callVIr dX12_readPart_3 ml_X12_319 (so_X12_isSign hn hp  w) ((hp 77 (by decide)).trans (ent_77 _)) rfl (s_lt hn rfl) rfl rfl (Nat.le_of_ble_eq_true rfl) (Nat.le_of_ble_eq_true rfl) (Nat.zero_le _) (Nat.zero_le _) (fun v1 w => ?_)
  obtain ⟨q7, w⟩ := w
  refine v_if_eqI (tgt := 17) dX12_readPart_6 (by decide) q7.1 q7.2 (fun c8 => ?_) (fun c8 => ?_)
  · replace w := w.1 c8
    refine v_aload_n dX12_readPart_17 rfl ?_
    refine v_get dX12_readPart_18 fl_X12_325 ((hp 77 (by decide)).trans (ent_77 _)) rfl (s_lt hn rfl) ?_
    replace w := w (fun (v9 : Int) => V (m_X12_readPart, 4, 0, 0, n, pIw n h Q, s_G0) 0 0 n h 35 [(0, .ref 77)] [.int (iI v9)]) (by
      intro v9 w
      refine v_istore_n dX12_readPart_35 (Nat.le_of_ble_eq_true rfl) ?_
      refine v_aload_n dX12_readPart_36 rfl ?_
      refine v_get dX12_readPart_37 fl_X12_274 ((hp 77 (by decide)).trans (ent_77 _)) rfl (s_lt hn rfl) ?_
      refine v_iconstI dX12_readPart_40 ?_
      replace w := w (fun (v11 : Int) => V (m_X12_readPart, 4, 0, 0, n, pIw n h Q, s_G0) 0 0 n h 60 [(0, .ref 77), (1, .int (iI v9))] [.int (iI v11)]) (by
        intro v11 w
        refine v_istore_n dX12_readPart_60 (Nat.le_of_ble_eq_true rfl) ?_
        refine v_aload_n dX12_readPart_61 rfl ?_
        refine v_iload_n dX12_readPart_62 rfl ?_
        refine v_iconstI dX12_readPart_63 ?_
        replace w := w (fun (v13 : Int) => V (m_X12_readPart, 4, 0, 0, n, pIw n h Q, s_G0) 0 0 n h 76 [(0, .ref 77), (1, .int (iI v9)), (2, .int (iI v11))] [.int (iI v13), .ref 77]) (by
          intro v13 w
          refine v_iload_n dX12_readPart_76 rfl ?_
          refine v_iconstI dX12_readPart_77 ?_
          replace w := w (fun (v15 : Int) => V (m_X12_readPart, 4, 0, 0, n, pIw n h Q, s_G0) 0 0 n h 86 [(0, .ref 77), (1, .int (iI v9)), (2, .int (iI v11))] [.int (iI v15), .int (iI v13), .ref 77]) (by
            intro v15 w
            refine v_iload_n dX12_readPart_86 rfl ?_
            replace w := w (fun (v17 : Int) => V (m_X12_readPart, 4, 0, 0, n, pIw n h Q, s_G0) 0 0 n h 99 [(0, .ref 77), (1, .int (iI v9))] [.int (iI v17), .int (iI v15), .int (iI v13), .ref 77]) (by
              intro v17 w
              refine v_callVVw dX12_readPart_99 ml_X12_337 (so_X12_leaf hn hp  w) ((hp 77 (by decide)).trans (ent_77 _)) rfl (s_lt hn rfl) rfl rfl (Nat.le_of_ble_eq_true rfl) (Nat.le_of_ble_eq_true rfl) (Nat.zero_le _) (Nat.zero_le _) (fun X20 h21 hp23 hf22 w => ?_)
              have hf24 := Fr.trans hf hf22
              refine v_aload_n dX12_readPart_102 rfl ?_
              refine v_get dX12_readPart_103 fl_X12_325 ((hp23 77 (by decide)).trans (ent_77 _)) rfl (s_lt hn rfl) ?_
              obtain ⟨q25, w⟩ := w
              refine v_if_eqI (tgt := 170) dX12_readPart_106 (by decide) q25.1 q25.2 (fun c26 => ?_) (fun c26 => ?_)
              · replace w := w.1 c26
                refine v_iconstI dX12_readPart_170 ?_
                exact v_iret dX12_readPart_171 rfl (Nat.zero_le _) (Nat.zero_le _) ⟨rfl, hf24, _, _, rfl, hp23, w⟩
              · replace w := w.2 c26
                refine v_iload_n dX12_readPart_109 rfl ?_
                refine v_bipushI dX12_readPart_110 rfl ?_
                obtain ⟨q27, w⟩ := w
                refine v_icmp_ltI (tgt := 170) dX12_readPart_112 (by decide) q27.1 q27.2 (by decide) (by decide) (fun c28 => ?_) (fun c28 => ?_)
                · replace w := w.1 c28
                  refine v_iconstI dX12_readPart_170 ?_
                  exact v_iret dX12_readPart_171 rfl (Nat.zero_le _) (Nat.zero_le _) ⟨rfl, hf24, _, _, rfl, hp23, w⟩
                · replace w := w.2 c28
                  refine v_aload_n dX12_readPart_115 rfl ?_
                  refine v_get dX12_readPart_116 fl_X12_254 ((hp23 77 (by decide)).trans (ent_77 _)) rfl (s_lt hn rfl) ?_
                  obtain ⟨q29, w⟩ := w
                  refine v_if_neI (tgt := 170) dX12_readPart_119 (by decide) q29.1 q29.2 (fun c30 => ?_) (fun c30 => ?_)
                  · replace w := w.1 c30
                    refine v_iconstI dX12_readPart_170 ?_
                    exact v_iret dX12_readPart_171 rfl (Nat.zero_le _) (Nat.zero_le _) ⟨rfl, hf24, _, _, rfl, hp23, w⟩
                  · replace w := w.2 c30
                    refine v_aload_n dX12_readPart_122 rfl ?_
                    refine v_get dX12_readPart_123 fl_X12_289 ((hp23 77 (by decide)).trans (ent_77 _)) rfl (s_lt hn rfl) ?_
                    refine v_iconstI dX12_readPart_126 ?_
                    refine v_isubI dX12_readPart_127 ?_
                    refine v_istore_n dX12_readPart_128 (Nat.le_of_ble_eq_true rfl) ?_
                    refine v_aload_n dX12_readPart_129 rfl ?_
                    refine v_lconstI (w := 0) dX12_readPart_130 rfl ?_
                    refine v_ldc2I 4 dX12_readPart_131 k_X12_222 rfl ?_
                    refine v_callVIw dX12_readPart_134 ml_X12_341 (so_X12_number hn hp23  w) ((hp23 77 (by decide)).trans (ent_77 _)) rfl (s_lt hn rfl) rfl rfl (Nat.le_of_ble_eq_true rfl) (Nat.le_of_ble_eq_true rfl) (Nat.zero_le _) (Nat.zero_le _) (fun v31 X32 h33 hp35 hf34 w => ?_)
                    have hf36 := Fr.trans hf24 hf34
                    refine v_istore dX12_readPart_137 (Nat.le_of_ble_eq_true rfl) ?_
                    refine v_aload_n dX12_readPart_139 rfl ?_
                    refine v_get dX12_readPart_140 fl_X12_36 ((hp35 77 (by decide)).trans (ent_77 _)) rfl (s_lt hn rfl) ?_
                    refine v_iload_n dX12_readPart_143 rfl ?_
                    refine v_aload_n dX12_readPart_144 rfl ?_
                    refine v_get dX12_readPart_145 fl_X12_254 ((hp35 77 (by decide)).trans (ent_77 _)) rfl (s_lt hn rfl) ?_
                    obtain ⟨q37, w⟩ := w
                    refine v_if_eqI (tgt := 155) dX12_readPart_148 (by decide) q37.1 q37.2 (fun c38 => ?_) (fun c38 => ?_)
                    · replace w := w.1 c38
                      refine v_bipushI dX12_readPart_155 rfl ?_
                      refine v_iload dX12_readPart_157 rfl ?_
                      refine v_imulI dX12_readPart_159 ?_
                      refine v_aload_n dX12_readPart_160 rfl ?_
                      refine v_lconstI (w := 0) dX12_readPart_161 rfl ?_
                      refine v_ldc2I 11 dX12_readPart_162 k_X12_185 rfl ?_
                      refine v_callVIw dX12_readPart_165 ml_X12_341 (so_X12_number hn hp35  w) ((hp35 77 (by decide)).trans (ent_77 _)) rfl (s_lt hn rfl) rfl rfl (Nat.le_of_ble_eq_true rfl) (Nat.le_of_ble_eq_true rfl) (Nat.zero_le _) (Nat.zero_le _) (fun v39 X40 h41 hp43 hf42 w => ?_)
                      have hf44 := Fr.trans hf36 hf42
                      refine v_iaddI dX12_readPart_168 ?_
                      obtain ⟨q45, w⟩ := w
                      refine v_iastI dX12_readPart_169 ((hp43 85 (by decide)).trans (ent_85 _)) (s_lt hn rfl) q45.1 q45.2 (ix_le q45.2 (by decide)) (fun h46 E47 F48 => ?_)
                      have hp49 := pic_st hp43 (show h46 85 = ent 85 (uI _ ((X20 77 18) - 1) ((12 * v31) + v39)) from E47) F48
                      have hf50 := Fr.up (c := 85) hf44 F48 rfl
                      refine v_iconstI dX12_readPart_170 ?_
                      exact v_iret dX12_readPart_171 rfl (Nat.zero_le _) (Nat.zero_le _) ⟨rfl, hf50, _, _, rfl, hp49, w⟩
                    · replace w := w.2 c38
                      refine v_iconstI dX12_readPart_151 ?_
                      refine v_goto (tgt := 169) dX12_readPart_152 (by decide) ?_
                      obtain ⟨q51, w⟩ := w
                      refine v_iastI dX12_readPart_169 ((hp35 85 (by decide)).trans (ent_85 _)) (s_lt hn rfl) q51.1 q51.2 (ix_le q51.2 (by decide)) (fun h52 E53 F54 => ?_)
                      have hp55 := pic_st hp35 (show h52 85 = ent 85 (uI _ ((X20 77 18) - 1) 0) from E53) F54
                      have hf56 := Fr.up (c := 85) hf36 F54 rfl
                      refine v_iconstI dX12_readPart_170 ?_
                      exact v_iret dX12_readPart_171 rfl (Nat.zero_le _) (Nat.zero_le _) ⟨rfl, hf56, _, _, rfl, hp55, w⟩
            )
            obtain ⟨q57, w⟩ := w
            refine v_if_eqI (tgt := 98) dX12_readPart_87 (by decide) q57.1 q57.2 (fun c58 => ?_) (fun c58 => ?_)
            · replace w := w.1 c58
              refine v_iconstI dX12_readPart_98 ?_
              refine v_pick [0, 1] rfl ?_
              exact w
            · replace w := w.2 c58
              refine v_aload_n dX12_readPart_90 rfl ?_
              refine v_get dX12_readPart_91 fl_X12_264 ((hp 77 (by decide)).trans (ent_77 _)) rfl (s_lt hn rfl) ?_
              refine v_l2iI dX12_readPart_94 ?_
              refine v_goto (tgt := 99) dX12_readPart_95 (by decide) ?_
              refine v_pick [0, 1] rfl ?_
              exact w
          )
          obtain ⟨q59, w⟩ := w
          refine v_icmp_neI (tgt := 85) dX12_readPart_78 (by decide) q59.1 q59.2 (by decide) (by decide) (fun c60 => ?_) (fun c60 => ?_)
          · replace w := w.1 c60
            refine v_iload_n dX12_readPart_85 rfl ?_
            exact w
          · replace w := w.2 c60
            refine v_iconstI dX12_readPart_81 ?_
            refine v_goto (tgt := 86) dX12_readPart_82 (by decide) ?_
            exact w
        )
        obtain ⟨q61, w⟩ := w
        refine v_icmp_neI (tgt := 71) dX12_readPart_64 (by decide) q61.1 q61.2 (by decide) (by decide) (fun c62 => ?_) (fun c62 => ?_)
        · replace w := w.1 c62
          refine v_iconstI dX12_readPart_71 ?_
          refine v_goto (tgt := 76) dX12_readPart_72 (by decide) ?_
          refine v_pick [1, 2, 0] rfl ?_
          exact w
        · replace w := w.2 c62
          refine v_iload_n dX12_readPart_67 rfl ?_
          obtain ⟨q63, w⟩ := w
          refine v_if_eqI (tgt := 75) dX12_readPart_68 (by decide) q63.1 q63.2 (fun c64 => ?_) (fun c64 => ?_)
          · replace w := w.1 c64
            refine v_iconstI dX12_readPart_75 ?_
            refine v_pick [1, 2, 0] rfl ?_
            exact w
          · replace w := w.2 c64
            refine v_iconstI dX12_readPart_71 ?_
            refine v_goto (tgt := 76) dX12_readPart_72 (by decide) ?_
            refine v_pick [1, 2, 0] rfl ?_
            exact w
      )
      obtain ⟨q65, w⟩ := w
      refine v_icmp_neI (tgt := 59) dX12_readPart_41 (by decide) q65.1 q65.2 (by decide) (by decide) (fun c66 => ?_) (fun c66 => ?_)
      · replace w := w.1 c66
        refine v_iconstI dX12_readPart_59 ?_
        refine v_pick [1, 0] rfl ?_
        exact w
      · replace w := w.2 c66
        refine v_aload_n dX12_readPart_44 rfl ?_
        refine v_get dX12_readPart_45 fl_X12_264 ((hp 77 (by decide)).trans (ent_77 _)) rfl (s_lt hn rfl) ?_
        refine v_ldc2I 1000 dX12_readPart_48 k_X12_335 rfl ?_
        obtain ⟨q67, w⟩ := w
        refine v_lcmp_gtI (tgt := 59) dX12_readPart_51 dX12_readPart_52 (by decide) q67.1 q67.2 (by decide) (by decide) (fun c68 => ?_) (fun c68 => ?_)
        · replace w := w.1 c68
          refine v_iconstI dX12_readPart_59 ?_
          refine v_pick [1, 0] rfl ?_
          exact w
        · replace w := w.2 c68
          refine v_iconstI dX12_readPart_55 ?_
          refine v_goto (tgt := 60) dX12_readPart_56 (by decide) ?_
          refine v_pick [1, 0] rfl ?_
          exact w
    )
    obtain ⟨q69, w⟩ := w
    refine v_if_eqI (tgt := 31) dX12_readPart_21 (by decide) q69.1 q69.2 (fun c70 => ?_) (fun c70 => ?_)
    · replace w := w.1 c70
      refine v_aload_n dX12_readPart_31 rfl ?_
      refine v_callVIr dX12_readPart_32 ml_X12_332 (so_X12_partAt hn hp  w) ((hp 77 (by decide)).trans (ent_77 _)) rfl (s_lt hn rfl) rfl rfl (Nat.le_of_ble_eq_true rfl) (Nat.le_of_ble_eq_true rfl) (Nat.zero_le _) (Nat.zero_le _) (fun v71 w => ?_)
      exact w
    · replace w := w.2 c70
      refine v_aload_n dX12_readPart_24 rfl ?_
      refine v_callVIr dX12_readPart_25 ml_X12_328 (so_X12_orderPartAt hn hp  w) ((hp 77 (by decide)).trans (ent_77 _)) rfl (s_lt hn rfl) rfl rfl (Nat.le_of_ble_eq_true rfl) (Nat.le_of_ble_eq_true rfl) (Nat.zero_le _) (Nat.zero_le _) (fun v77 w => ?_)
      refine v_goto (tgt := 35) dX12_readPart_28 (by decide) ?_
      exact w
  · replace w := w.2 c8
    refine v_aload_n dX12_readPart_9 rfl ?_
    refine v_bipushI dX12_readPart_10 rfl ?_
    refine v_callVVw dX12_readPart_12 ml_X12_322 (so_X12_openBracket hn hp  w) ((hp 77 (by decide)).trans (ent_77 _)) rfl (s_lt hn rfl) rfl rfl (Nat.le_of_ble_eq_true rfl) (Nat.le_of_ble_eq_true rfl) (Nat.zero_le _) (Nat.zero_le _) (fun X84 h85 hp87 hf86 w => ?_)
    have hf88 := Fr.trans hf hf86
    refine v_iconstI dX12_readPart_15 ?_
    exact v_iret dX12_readPart_16 rfl (Nat.zero_le _) (Nat.zero_le _) ⟨rfl, hf88, _, _, rfl, hp87, w⟩
theorem dX12_readPlain_0 : decode cX12_readPlain 0 = .ok (.aload_n 0, 1) := by decide +kernel
theorem dX12_readPlain_1 : decode cX12_readPlain 1 = .ok (.ldc2_w 345, 3) := by decide +kernel
theorem dX12_readPlain_4 : decode cX12_readPlain 4 = .ok (.invokevirtual 306, 3) := by decide +kernel
theorem dX12_readPlain_7 : decode cX12_readPlain 7 = .ok (.ifCond .eq 16, 3) := by decide +kernel
theorem dX12_readPlain_10 : decode cX12_readPlain 10 = .ok (.aload_n 0, 1) := by decide +kernel
theorem dX12_readPlain_11 : decode cX12_readPlain 11 = .ok (.bipush 28, 2) := by decide +kernel
theorem dX12_readPlain_13 : decode cX12_readPlain 13 = .ok (.iconst 0, 1) := by decide +kernel
theorem dX12_readPlain_14 : decode cX12_readPlain 14 = .ok (.invokevirtual 313, 3) := by decide +kernel
theorem dX12_readPlain_17 : decode cX12_readPlain 17 = .ok (.aload_n 0, 1) := by decide +kernel
theorem dX12_readPlain_18 : decode cX12_readPlain 18 = .ok (.invokevirtual 258, 3) := by decide +kernel
theorem dX12_readPlain_21 : decode cX12_readPlain 21 = .ok (.iconst 0, 1) := by decide +kernel
theorem dX12_readPlain_22 : decode cX12_readPlain 22 = .ok (.ireturn, 1) := by decide +kernel
theorem dX12_readPlain_23 : decode cX12_readPlain 23 = .ok (.aload_n 0, 1) := by decide +kernel
theorem dX12_readPlain_24 : decode cX12_readPlain 24 = .ok (.bipush 40, 2) := by decide +kernel
theorem dX12_readPlain_26 : decode cX12_readPlain 26 = .ok (.invokevirtual 319, 3) := by decide +kernel
theorem dX12_readPlain_29 : decode cX12_readPlain 29 = .ok (.ifCond .eq 11, 3) := by decide +kernel
theorem dX12_readPlain_32 : decode cX12_readPlain 32 = .ok (.aload_n 0, 1) := by decide +kernel
theorem dX12_readPlain_33 : decode cX12_readPlain 33 = .ok (.bipush 31, 2) := by decide +kernel
theorem dX12_readPlain_35 : decode cX12_readPlain 35 = .ok (.invokevirtual 322, 3) := by decide +kernel
theorem dX12_readPlain_38 : decode cX12_readPlain 38 = .ok (.iconst 0, 1) := by decide +kernel
theorem dX12_readPlain_39 : decode cX12_readPlain 39 = .ok (.ireturn, 1) := by decide +kernel
theorem dX12_readPlain_40 : decode cX12_readPlain 40 = .ok (.aload_n 0, 1) := by decide +kernel
theorem dX12_readPlain_41 : decode cX12_readPlain 41 = .ok (.invokevirtual 347, 3) := by decide +kernel
theorem dX12_readPlain_44 : decode cX12_readPlain 44 = .ok (.ireturn, 1) := by decide +kernel
def w_X12_readPlain (X : XT) (Q : Int → XT → Prop) : Prop :=
  w_X12_isWord  14836 X (fun (v1 : Int) => R32 v1 ∧ (v1 = 0 → w_X12_isSign  40 X (fun (v9 : Int) => R32 v9 ∧ (v9 = 0 → w_X12_readPart   X (fun (v17 : Int) (X18 : XT) => Q v17 X18)) ∧ (¬ v9 = 0 → w_X12_openBracket  31 X (fun (X24 : XT) => Q 0 X24)))) ∧ (¬ v1 = 0 → w_X12_push  28 0 X (fun (X30 : XT) => w_X12_next   X30 (fun (X36 : XT) => Q 0 X36))))
set_option maxRecDepth 20000 in
theorem so_X12_readPlain {n : Nat} {h : Nat → sE} {X : XT} {Q : Int → XT → Prop} (hn : 115 ≤ n) (hp : Pic X h) (w : w_X12_readPlain   X Q) : Sp m_X12_readPlain 5 0 0 [.ref 77] n h (pIw n h Q) := by
  unfold w_X12_readPlain at w
  refine Sp.ofV (by decide +kernel) (Nat.le_of_ble_eq_true rfl) ?_
  have hf : Fr h h := fun _ _ => rfl
  refine v_aload_n dX12_readPlain_0 rfl ?_
  refine v_ldc2I 14836 dX12_readPlain_1 k_X12_345 rfl ?_
  refine v_callVIr dX12_readPlain_4 ml_X12_306 (so_X12_isWord hn hp  w) ((hp 77 (by decide)).trans (ent_77 _)) rfl (s_lt hn rfl) rfl rfl (Nat.le_of_ble_eq_true rfl) (Nat.le_of_ble_eq_true rfl) (Nat.zero_le _) (Nat.zero_le _) (fun v1 w => ?_)
  obtain ⟨q7, w⟩ := w
  refine v_if_eqI (tgt := 23) dX12_readPlain_7 (by decide) q7.1 q7.2 (fun c8 => ?_) (fun c8 => ?_)
  · replace w := w.1 c8
    refine v_aload_n dX12_readPlain_23 rfl ?_
    refine v_bipushI dX12_readPlain_24 rfl ?_
    refine v_callVIr dX12_readPlain_26 ml_X12_319 (so_X12_isSign hn hp  w) ((hp 77 (by decide)).trans (ent_77 _)) rfl (s_lt hn rfl) rfl rfl (Nat.le_of_ble_eq_true rfl) (Nat.le_of_ble_eq_true rfl) (Nat.zero_le _) (Nat.zero_le _) (fun v9 w => ?_)
    obtain ⟨q15, w⟩ := w
    refine v_if_eqI (tgt := 40) dX12_readPlain_29 (by decide) q15.1 q15.2 (fun c16 => ?_) (fun c16 => ?_)
    · replace w := w.1 c16
      refine v_aload_n dX12_readPlain_40 rfl ?_
      refine v_callVIw dX12_readPlain_41 ml_X12_347 (so_X12_readPart hn hp  w) ((hp 77 (by decide)).trans (ent_77 _)) rfl (s_lt hn rfl) rfl rfl (Nat.le_of_ble_eq_true rfl) (Nat.le_of_ble_eq_true rfl) (Nat.zero_le _) (Nat.zero_le _) (fun v17 X18 h19 hp21 hf20 w => ?_)
      have hf22 := Fr.trans hf hf20
      exact v_iret dX12_readPlain_44 rfl (Nat.zero_le _) (Nat.zero_le _) ⟨rfl, hf22, _, _, rfl, hp21, w⟩
    · replace w := w.2 c16
      refine v_aload_n dX12_readPlain_32 rfl ?_
      refine v_bipushI dX12_readPlain_33 rfl ?_
      refine v_callVVw dX12_readPlain_35 ml_X12_322 (so_X12_openBracket hn hp  w) ((hp 77 (by decide)).trans (ent_77 _)) rfl (s_lt hn rfl) rfl rfl (Nat.le_of_ble_eq_true rfl) (Nat.le_of_ble_eq_true rfl) (Nat.zero_le _) (Nat.zero_le _) (fun X24 h25 hp27 hf26 w => ?_)
      have hf28 := Fr.trans hf hf26
      refine v_iconstI dX12_readPlain_38 ?_
      exact v_iret dX12_readPlain_39 rfl (Nat.zero_le _) (Nat.zero_le _) ⟨rfl, hf28, _, _, rfl, hp27, w⟩
  · replace w := w.2 c8
    refine v_aload_n dX12_readPlain_10 rfl ?_
    refine v_bipushI dX12_readPlain_11 rfl ?_
    refine v_iconstI dX12_readPlain_13 ?_
    refine v_callVVw dX12_readPlain_14 ml_X12_313 (so_X12_push hn hp  w) ((hp 77 (by decide)).trans (ent_77 _)) rfl (s_lt hn rfl) rfl rfl (Nat.le_of_ble_eq_true rfl) (Nat.le_of_ble_eq_true rfl) (Nat.zero_le _) (Nat.zero_le _) (fun X30 h31 hp33 hf32 w => ?_)
    have hf34 := Fr.trans hf hf32
    refine v_aload_n dX12_readPlain_17 rfl ?_
    refine v_callVVw dX12_readPlain_18 ml_X12_258 (so_X12_next hn hp33  w) ((hp33 77 (by decide)).trans (ent_77 _)) rfl (s_lt hn rfl) rfl rfl (Nat.le_of_ble_eq_true rfl) (Nat.le_of_ble_eq_true rfl) (Nat.zero_le _) (Nat.zero_le _) (fun X36 h37 hp39 hf38 w => ?_)
    have hf40 := Fr.trans hf34 hf38
    refine v_iconstI dX12_readPlain_21 ?_
    exact v_iret dX12_readPlain_22 rfl (Nat.zero_le _) (Nat.zero_le _) ⟨rfl, hf40, _, _, rfl, hp39, w⟩
theorem dX12_binds_0 : decode cX12_binds 0 = .ok (.iload_n 0, 1) := by decide +kernel
theorem dX12_binds_1 : decode cX12_binds 1 = .ok (.bipush 31, 2) := by decide +kernel
theorem dX12_binds_3 : decode cX12_binds 3 = .ok (.if_icmp .lt 7, 3) := by decide +kernel
theorem dX12_binds_6 : decode cX12_binds 6 = .ok (.iconst 0, 1) := by decide +kernel
theorem dX12_binds_7 : decode cX12_binds 7 = .ok (.goto 55, 3) := by decide +kernel
theorem dX12_binds_10 : decode cX12_binds 10 = .ok (.iload_n 0, 1) := by decide +kernel
theorem dX12_binds_11 : decode cX12_binds 11 = .ok (.bipush 30, 2) := by decide +kernel
theorem dX12_binds_13 : decode cX12_binds 13 = .ok (.if_icmp .ne 7, 3) := by decide +kernel
theorem dX12_binds_16 : decode cX12_binds 16 = .ok (.iconst 1, 1) := by decide +kernel
theorem dX12_binds_17 : decode cX12_binds 17 = .ok (.goto 45, 3) := by decide +kernel
theorem dX12_binds_20 : decode cX12_binds 20 = .ok (.iload_n 0, 1) := by decide +kernel
theorem dX12_binds_21 : decode cX12_binds 21 = .ok (.bipush 29, 2) := by decide +kernel
theorem dX12_binds_23 : decode cX12_binds 23 = .ok (.if_icmp .ne 7, 3) := by decide +kernel
theorem dX12_binds_26 : decode cX12_binds 26 = .ok (.iconst 2, 1) := by decide +kernel
theorem dX12_binds_27 : decode cX12_binds 27 = .ok (.goto 35, 3) := by decide +kernel
theorem dX12_binds_30 : decode cX12_binds 30 = .ok (.iload_n 0, 1) := by decide +kernel
theorem dX12_binds_31 : decode cX12_binds 31 = .ok (.bipush 28, 2) := by decide +kernel
theorem dX12_binds_33 : decode cX12_binds 33 = .ok (.if_icmp .ne 7, 3) := by decide +kernel
theorem dX12_binds_36 : decode cX12_binds 36 = .ok (.iconst 3, 1) := by decide +kernel
theorem dX12_binds_37 : decode cX12_binds 37 = .ok (.goto 25, 3) := by decide +kernel
theorem dX12_binds_40 : decode cX12_binds 40 = .ok (.iload_n 0, 1) := by decide +kernel
theorem dX12_binds_41 : decode cX12_binds 41 = .ok (.bipush 25, 2) := by decide +kernel
theorem dX12_binds_43 : decode cX12_binds 43 = .ok (.if_icmp .lt 7, 3) := by decide +kernel
theorem dX12_binds_46 : decode cX12_binds 46 = .ok (.iconst 4, 1) := by decide +kernel
theorem dX12_binds_47 : decode cX12_binds 47 = .ok (.goto 15, 3) := by decide +kernel
theorem dX12_binds_50 : decode cX12_binds 50 = .ok (.iload_n 0, 1) := by decide +kernel
theorem dX12_binds_51 : decode cX12_binds 51 = .ok (.bipush 22, 2) := by decide +kernel
theorem dX12_binds_53 : decode cX12_binds 53 = .ok (.if_icmp .lt 8, 3) := by decide +kernel
theorem dX12_binds_56 : decode cX12_binds 56 = .ok (.bipush 6, 2) := by decide +kernel
theorem dX12_binds_58 : decode cX12_binds 58 = .ok (.goto 4, 3) := by decide +kernel
theorem dX12_binds_61 : decode cX12_binds 61 = .ok (.iconst 5, 1) := by decide +kernel
theorem dX12_binds_62 : decode cX12_binds 62 = .ok (.ireturn, 1) := by decide +kernel
def w_X12_binds (a0 : Int) (X : XT) (Q : Int → Prop) : Prop :=
  R32 a0 ∧ (a0 < 31 → (¬ a0 = 30 → (¬ a0 = 29 → (¬ a0 = 28 → (a0 < 25 → (a0 < 22 → Q 5) ∧ (¬ a0 < 22 → Q 6)) ∧ (¬ a0 < 25 → Q 4)) ∧ (a0 = 28 → Q 3)) ∧ (a0 = 29 → Q 2)) ∧ (a0 = 30 → Q 1)) ∧ (¬ a0 < 31 → Q 0)
set_option maxRecDepth 20000 in
theorem so_X12_binds {n : Nat} {h : Nat → sE} {X : XT} {a0 : Int} {Q : Int → Prop} (hn : 115 ≤ n) (hp : Pic X h) (w : w_X12_binds  a0 X Q) : Sp m_X12_binds 0 0 0 [.int (iI a0)] n h (pIr n h Q) := by
  unfold w_X12_binds at w
  refine Sp.ofV (by decide +kernel) (Nat.le_of_ble_eq_true rfl) ?_
  have hf : Fr h h := fun _ _ => rfl
  refine v_iload_n dX12_binds_0 rfl ?_
  refine v_bipushI dX12_binds_1 rfl ?_
  obtain ⟨q1, w⟩ := w
  refine v_icmp_ltI (tgt := 10) dX12_binds_3 (by decide) q1.1 q1.2 (by decide) (by decide) (fun c2 => ?_) (fun c2 => ?_)
  · replace w := w.1 c2
    refine v_iload_n dX12_binds_10 rfl ?_
    refine v_bipushI dX12_binds_11 rfl ?_
    refine v_icmp_neI (tgt := 20) dX12_binds_13 (by decide) q1.1 q1.2 (by decide) (by decide) (fun c3 => ?_) (fun c3 => ?_)
    · replace w := w.1 c3
      refine v_iload_n dX12_binds_20 rfl ?_
      refine v_bipushI dX12_binds_21 rfl ?_
      refine v_icmp_neI (tgt := 30) dX12_binds_23 (by decide) q1.1 q1.2 (by decide) (by decide) (fun c4 => ?_) (fun c4 => ?_)
      · replace w := w.1 c4
        refine v_iload_n dX12_binds_30 rfl ?_
        refine v_bipushI dX12_binds_31 rfl ?_
        refine v_icmp_neI (tgt := 40) dX12_binds_33 (by decide) q1.1 q1.2 (by decide) (by decide) (fun c5 => ?_) (fun c5 => ?_)
        · replace w := w.1 c5
          refine v_iload_n dX12_binds_40 rfl ?_
          refine v_bipushI dX12_binds_41 rfl ?_
          refine v_icmp_ltI (tgt := 50) dX12_binds_43 (by decide) q1.1 q1.2 (by decide) (by decide) (fun c6 => ?_) (fun c6 => ?_)
          · replace w := w.1 c6
            refine v_iload_n dX12_binds_50 rfl ?_
            refine v_bipushI dX12_binds_51 rfl ?_
            refine v_icmp_ltI (tgt := 61) dX12_binds_53 (by decide) q1.1 q1.2 (by decide) (by decide) (fun c7 => ?_) (fun c7 => ?_)
            · replace w := w.1 c7
              refine v_iconstI dX12_binds_61 ?_
              exact v_iret dX12_binds_62 rfl (Nat.zero_le _) (Nat.zero_le _) ⟨rfl, rfl, _, rfl, w⟩
            · replace w := w.2 c7
              refine v_bipushI dX12_binds_56 rfl ?_
              refine v_goto (tgt := 62) dX12_binds_58 (by decide) ?_
              exact v_iret dX12_binds_62 rfl (Nat.zero_le _) (Nat.zero_le _) ⟨rfl, rfl, _, rfl, w⟩
          · replace w := w.2 c6
            refine v_iconstI dX12_binds_46 ?_
            refine v_goto (tgt := 62) dX12_binds_47 (by decide) ?_
            exact v_iret dX12_binds_62 rfl (Nat.zero_le _) (Nat.zero_le _) ⟨rfl, rfl, _, rfl, w⟩
        · replace w := w.2 c5
          refine v_iconstI dX12_binds_36 ?_
          refine v_goto (tgt := 62) dX12_binds_37 (by decide) ?_
          exact v_iret dX12_binds_62 rfl (Nat.zero_le _) (Nat.zero_le _) ⟨rfl, rfl, _, rfl, w⟩
      · replace w := w.2 c4
        refine v_iconstI dX12_binds_26 ?_
        refine v_goto (tgt := 62) dX12_binds_27 (by decide) ?_
        exact v_iret dX12_binds_62 rfl (Nat.zero_le _) (Nat.zero_le _) ⟨rfl, rfl, _, rfl, w⟩
    · replace w := w.2 c3
      refine v_iconstI dX12_binds_16 ?_
      refine v_goto (tgt := 62) dX12_binds_17 (by decide) ?_
      exact v_iret dX12_binds_62 rfl (Nat.zero_le _) (Nat.zero_le _) ⟨rfl, rfl, _, rfl, w⟩
  · replace w := w.2 c2
    refine v_iconstI dX12_binds_6 ?_
    refine v_goto (tgt := 62) dX12_binds_7 (by decide) ?_
    exact v_iret dX12_binds_62 rfl (Nat.zero_le _) (Nat.zero_le _) ⟨rfl, rfl, _, rfl, w⟩
theorem dX12_settle_0 : decode cX12_settle 0 = .ok (.aload_n 0, 1) := by decide +kernel
theorem dX12_settle_1 : decode cX12_settle 1 = .ok (.getfield 292, 3) := by decide +kernel
theorem dX12_settle_4 : decode cX12_settle 4 = .ok (.ifCond .le 97, 3) := by decide +kernel
theorem dX12_settle_7 : decode cX12_settle 7 = .ok (.aload_n 0, 1) := by decide +kernel
theorem dX12_settle_8 : decode cX12_settle 8 = .ok (.getfield 39, 3) := by decide +kernel
theorem dX12_settle_11 : decode cX12_settle 11 = .ok (.aload_n 0, 1) := by decide +kernel
theorem dX12_settle_12 : decode cX12_settle 12 = .ok (.getfield 292, 3) := by decide +kernel
theorem dX12_settle_15 : decode cX12_settle 15 = .ok (.iconst 1, 1) := by decide +kernel
theorem dX12_settle_16 : decode cX12_settle 16 = .ok (.isub, 1) := by decide +kernel
theorem dX12_settle_17 : decode cX12_settle 17 = .ok (.iaload, 1) := by decide +kernel
theorem dX12_settle_18 : decode cX12_settle 18 = .ok (.invokestatic 295, 3) := by decide +kernel
theorem dX12_settle_21 : decode cX12_settle 21 = .ok (.iload_n 1, 1) := by decide +kernel
theorem dX12_settle_22 : decode cX12_settle 22 = .ok (.if_icmp .lt 79, 3) := by decide +kernel
theorem dX12_settle_25 : decode cX12_settle 25 = .ok (.aload_n 0, 1) := by decide +kernel
theorem dX12_settle_26 : decode cX12_settle 26 = .ok (.dup, 1) := by decide +kernel
theorem dX12_settle_27 : decode cX12_settle 27 = .ok (.getfield 292, 3) := by decide +kernel
theorem dX12_settle_30 : decode cX12_settle 30 = .ok (.iconst 1, 1) := by decide +kernel
theorem dX12_settle_31 : decode cX12_settle 31 = .ok (.isub, 1) := by decide +kernel
theorem dX12_settle_32 : decode cX12_settle 32 = .ok (.putfield 292, 3) := by decide +kernel
theorem dX12_settle_35 : decode cX12_settle 35 = .ok (.aload_n 0, 1) := by decide +kernel
theorem dX12_settle_36 : decode cX12_settle 36 = .ok (.getfield 39, 3) := by decide +kernel
theorem dX12_settle_39 : decode cX12_settle 39 = .ok (.aload_n 0, 1) := by decide +kernel
theorem dX12_settle_40 : decode cX12_settle 40 = .ok (.getfield 292, 3) := by decide +kernel
theorem dX12_settle_43 : decode cX12_settle 43 = .ok (.iaload, 1) := by decide +kernel
theorem dX12_settle_44 : decode cX12_settle 44 = .ok (.bipush 29, 2) := by decide +kernel
theorem dX12_settle_46 : decode cX12_settle 46 = .ok (.if_icmp .eq 17, 3) := by decide +kernel
theorem dX12_settle_49 : decode cX12_settle 49 = .ok (.aload_n 0, 1) := by decide +kernel
theorem dX12_settle_50 : decode cX12_settle 50 = .ok (.getfield 39, 3) := by decide +kernel
theorem dX12_settle_53 : decode cX12_settle 53 = .ok (.aload_n 0, 1) := by decide +kernel
theorem dX12_settle_54 : decode cX12_settle 54 = .ok (.getfield 292, 3) := by decide +kernel
theorem dX12_settle_57 : decode cX12_settle 57 = .ok (.iaload, 1) := by decide +kernel
theorem dX12_settle_58 : decode cX12_settle 58 = .ok (.bipush 30, 2) := by decide +kernel
theorem dX12_settle_60 : decode cX12_settle 60 = .ok (.if_icmp .ne 24, 3) := by decide +kernel
theorem dX12_settle_63 : decode cX12_settle 63 = .ok (.aload_n 0, 1) := by decide +kernel
theorem dX12_settle_64 : decode cX12_settle 64 = .ok (.getfield 36, 3) := by decide +kernel
theorem dX12_settle_67 : decode cX12_settle 67 = .ok (.aload_n 0, 1) := by decide +kernel
theorem dX12_settle_68 : decode cX12_settle 68 = .ok (.getfield 42, 3) := by decide +kernel
theorem dX12_settle_71 : decode cX12_settle 71 = .ok (.aload_n 0, 1) := by decide +kernel
theorem dX12_settle_72 : decode cX12_settle 72 = .ok (.getfield 292, 3) := by decide +kernel
theorem dX12_settle_75 : decode cX12_settle 75 = .ok (.iaload, 1) := by decide +kernel
theorem dX12_settle_76 : decode cX12_settle 76 = .ok (.aload_n 0, 1) := by decide +kernel
theorem dX12_settle_77 : decode cX12_settle 77 = .ok (.getfield 289, 3) := by decide +kernel
theorem dX12_settle_80 : decode cX12_settle 80 = .ok (.iastore, 1) := by decide +kernel
theorem dX12_settle_81 : decode cX12_settle 81 = .ok (.goto (-81), 3) := by decide +kernel
theorem dX12_settle_84 : decode cX12_settle 84 = .ok (.aload_n 0, 1) := by decide +kernel
theorem dX12_settle_85 : decode cX12_settle 85 = .ok (.aload_n 0, 1) := by decide +kernel
theorem dX12_settle_86 : decode cX12_settle 86 = .ok (.getfield 39, 3) := by decide +kernel
theorem dX12_settle_89 : decode cX12_settle 89 = .ok (.aload_n 0, 1) := by decide +kernel
theorem dX12_settle_90 : decode cX12_settle 90 = .ok (.getfield 292, 3) := by decide +kernel
theorem dX12_settle_93 : decode cX12_settle 93 = .ok (.iaload, 1) := by decide +kernel
theorem dX12_settle_94 : decode cX12_settle 94 = .ok (.iconst 0, 1) := by decide +kernel
theorem dX12_settle_95 : decode cX12_settle 95 = .ok (.invokevirtual 298, 3) := by decide +kernel
theorem dX12_settle_98 : decode cX12_settle 98 = .ok (.goto (-98), 3) := by decide +kernel
theorem dX12_settle_101 : decode cX12_settle 101 = .ok (.return_, 1) := by decide +kernel
def w_X12_settle (a0 : Int) (X : XT) (Q : XT → Prop) : Prop :=
  ∃ (I2 : XT → Prop) (m3 : XT → Nat), I2  X ∧ ∀  (X1 : XT), I2  X1 → R32 (X1 77 24) ∧ ((X1 77 24) ≤ 0 → Q X1) ∧ (¬ (X1 77 24) ≤ 0 → (0 ≤ ((X1 77 24) - 1) ∧ ((X1 77 24) - 1) < 400) ∧ w_X12_binds  (X1 86 ((X1 77 24) - 1)) X1 (fun (v17 : Int) => R32 v17 ∧ R32 a0 ∧ (v17 < a0 → Q X1) ∧ (¬ v17 < a0 → (0 ≤ ((x_st X1 77 24 ((X1 77 24) - 1)) 77 24) ∧ ((x_st X1 77 24 ((X1 77 24) - 1)) 77 24) < 400) ∧ ∀ J32 : Prop, (((0 ≤ ((x_st X1 77 24 ((X1 77 24) - 1)) 87 ((x_st X1 77 24 ((X1 77 24) - 1)) 77 24)) ∧ ((x_st X1 77 24 ((X1 77 24) - 1)) 87 ((x_st X1 77 24 ((X1 77 24) - 1)) 77 24)) < 400) ∧ I2  (x_st (x_st X1 77 24 ((X1 77 24) - 1)) 85 ((x_st X1 77 24 ((X1 77 24) - 1)) 87 ((x_st X1 77 24 ((X1 77 24) - 1)) 77 24)) ((x_st X1 77 24 ((X1 77 24) - 1)) 77 18)) ∧ m3  (x_st (x_st X1 77 24 ((X1 77 24) - 1)) 85 ((x_st X1 77 24 ((X1 77 24) - 1)) 87 ((x_st X1 77 24 ((X1 77 24) - 1)) 77 24)) ((x_st X1 77 24 ((X1 77 24) - 1)) 77 18)) < m3  X1) → J32) → R32 ((x_st X1 77 24 ((X1 77 24) - 1)) 86 ((x_st X1 77 24 ((X1 77 24) - 1)) 77 24)) ∧ (((x_st X1 77 24 ((X1 77 24) - 1)) 86 ((x_st X1 77 24 ((X1 77 24) - 1)) 77 24)) = 29 → J32 ) ∧ (¬ ((x_st X1 77 24 ((X1 77 24) - 1)) 86 ((x_st X1 77 24 ((X1 77 24) - 1)) 77 24)) = 29 → (¬ ((x_st X1 77 24 ((X1 77 24) - 1)) 86 ((x_st X1 77 24 ((X1 77 24) - 1)) 77 24)) = 30 → w_X12_emit  ((x_st X1 77 24 ((X1 77 24) - 1)) 86 ((x_st X1 77 24 ((X1 77 24) - 1)) 77 24)) 0 (x_st X1 77 24 ((X1 77 24) - 1)) (fun (X43 : XT) => I2  X43 ∧ m3  X43 < m3  X1)) ∧ (((x_st X1 77 24 ((X1 77 24) - 1)) 86 ((x_st X1 77 24 ((X1 77 24) - 1)) 77 24)) = 30 → J32 )))))
set_option maxRecDepth 20000 in
theorem so_X12_settle {n : Nat} {h : Nat → sE} {X : XT} {a0 : Int} {Q : XT → Prop} (hn : 115 ≤ n) (hp : Pic X h) (w : w_X12_settle  a0 X Q) : Sp m_X12_settle 1 0 0 [.ref 77, .int (iI a0)] n h (pVw n h Q) := by
  unfold w_X12_settle at w
  refine Sp.ofV (by decide +kernel) (Nat.le_of_ble_eq_true rfl) ?_
  have hf : Fr h h := fun _ _ => rfl
  obtain ⟨I2, m3, wi6, wl5⟩ := w
  have hL7 : ∀ (N10 : Nat)  (X1 : XT) (h11 : Nat → sE), m3  X1 < N10 → I2  X1 → Pic X1 h11 → Fr h h11 → V (m_X12_settle, 1, 0, 0, n, pVw n h Q, s_G0) 0 0 n h11 0 [(0, .ref 77), (1, .int (iI a0))] [] := by
    intro N10
    induction N10 with
    | zero => intro  X1 h11 hm8; exact absurd hm8 (Nat.not_lt_zero _)
    | succ N10 ih4 =>
      intro  X1 h11 hm8 hI9 hp12 hf13
      have w := wl5  X1 hI9
      refine v_aload_n dX12_settle_0 rfl ?_
      refine v_get dX12_settle_1 fl_X12_292 ((hp12 77 (by decide)).trans (ent_77 _)) rfl (s_lt hn rfl) ?_
      obtain ⟨q14, w⟩ := w
      refine v_if_leI (tgt := 101) dX12_settle_4 (by decide) q14.1 q14.2 (fun c15 => ?_) (fun c15 => ?_)
      · replace w := w.1 c15
        exact v_vret dX12_settle_101 rfl (Nat.zero_le _) (Nat.zero_le _) ⟨rfl, hf13, _, rfl, hp12, w⟩
      · replace w := w.2 c15
        refine v_aload_n dX12_settle_7 rfl ?_
        refine v_get dX12_settle_8 fl_X12_39 ((hp12 77 (by decide)).trans (ent_77 _)) rfl (s_lt hn rfl) ?_
        refine v_aload_n dX12_settle_11 rfl ?_
        refine v_get dX12_settle_12 fl_X12_292 ((hp12 77 (by decide)).trans (ent_77 _)) rfl (s_lt hn rfl) ?_
        refine v_iconstI dX12_settle_15 ?_
        refine v_isubI dX12_settle_16 ?_
        obtain ⟨q16, w⟩ := w
        refine v_ialdI dX12_settle_17 ((hp12 86 (by decide)).trans (ent_86 _)) (s_lt hn rfl) q16.1 q16.2 (ix_le q16.2 (by decide)) ?_
        refine v_callSIr dX12_settle_18 ml_X12_295 (so_X12_binds hn hp12  w) rfl rfl (Nat.le_of_ble_eq_true rfl) (Nat.le_of_ble_eq_true rfl) (Nat.zero_le _) (Nat.zero_le _) (fun v17 w => ?_)
        refine v_iload_n dX12_settle_21 rfl ?_
        obtain ⟨q23, q24, w⟩ := w
        refine v_icmp_ltI (tgt := 101) dX12_settle_22 (by decide) q23.1 q23.2 q24.1 q24.2 (fun c25 => ?_) (fun c25 => ?_)
        · replace w := w.1 c25
          exact v_vret dX12_settle_101 rfl (Nat.zero_le _) (Nat.zero_le _) ⟨rfl, hf13, _, rfl, hp12, w⟩
        · replace w := w.2 c25
          refine v_aload_n dX12_settle_25 rfl ?_
          refine v_dup dX12_settle_26 rfl ?_
          refine v_get dX12_settle_27 fl_X12_292 ((hp12 77 (by decide)).trans (ent_77 _)) rfl (s_lt hn rfl) ?_
          refine v_iconstI dX12_settle_30 ?_
          refine v_isubI dX12_settle_31 ?_
          refine v_put dX12_settle_32 fl_X12_292 ((hp12 77 (by decide)).trans (ent_77 _)) (s_lt hn rfl) (Nat.le_of_ble_eq_true rfl) (fun _ => ⟨rfl, rfl⟩) trivial (fun h26 E27 F28 => ?_)
          have hp29 := pic_st hp12 (show h26 77 = ent 77 (uI _ 24 ((X1 77 24) - 1)) from E27) F28
          have hf30 := Fr.up (c := 77) hf13 F28 rfl
          refine v_aload_n dX12_settle_35 rfl ?_
          refine v_get dX12_settle_36 fl_X12_39 ((hp29 77 (by decide)).trans (ent_77 _)) rfl (s_lt hn rfl) ?_
          refine v_aload_n dX12_settle_39 rfl ?_
          refine v_get dX12_settle_40 fl_X12_292 ((hp29 77 (by decide)).trans (ent_77 _)) rfl (s_lt hn rfl) ?_
          obtain ⟨q31, w⟩ := w
          refine v_ialdI dX12_settle_43 ((hp29 86 (by decide)).trans (ent_86 _)) (s_lt hn rfl) q31.1 q31.2 (ix_le q31.2 (by decide)) ?_
          refine v_bipushI dX12_settle_44 rfl ?_
          replace w := w (V (m_X12_settle, 1, 0, 0, n, pVw n h Q, s_G0) 0 0 n h26 63 [(0, .ref 77), (1, .int (iI a0))] []) (by
            intro  w
            refine v_aload_n dX12_settle_63 rfl ?_
            refine v_get dX12_settle_64 fl_X12_36 ((hp29 77 (by decide)).trans (ent_77 _)) rfl (s_lt hn rfl) ?_
            refine v_aload_n dX12_settle_67 rfl ?_
            refine v_get dX12_settle_68 fl_X12_42 ((hp29 77 (by decide)).trans (ent_77 _)) rfl (s_lt hn rfl) ?_
            refine v_aload_n dX12_settle_71 rfl ?_
            refine v_get dX12_settle_72 fl_X12_292 ((hp29 77 (by decide)).trans (ent_77 _)) rfl (s_lt hn rfl) ?_
            refine v_ialdI dX12_settle_75 ((hp29 87 (by decide)).trans (ent_87 _)) (s_lt hn rfl) q31.1 q31.2 (ix_le q31.2 (by decide)) ?_
            refine v_aload_n dX12_settle_76 rfl ?_
            refine v_get dX12_settle_77 fl_X12_289 ((hp29 77 (by decide)).trans (ent_77 _)) rfl (s_lt hn rfl) ?_
            obtain ⟨q33, w⟩ := w
            refine v_iastI dX12_settle_80 ((hp29 85 (by decide)).trans (ent_85 _)) (s_lt hn rfl) q33.1 q33.2 (ix_le q33.2 (by decide)) (fun h34 E35 F36 => ?_)
            have hp37 := pic_st hp29 (show h34 85 = ent 85 (uI _ ((x_st X1 77 24 ((X1 77 24) - 1)) 87 ((x_st X1 77 24 ((X1 77 24) - 1)) 77 24)) ((x_st X1 77 24 ((X1 77 24) - 1)) 77 18)) from E35) F36
            have hf38 := Fr.up (c := 85) hf30 F36 rfl
            refine v_goto (tgt := 0) dX12_settle_81 (by decide) ?_
            exact ih4 _ _ (Nat.lt_of_lt_of_le w.2 (Nat.le_of_lt_succ hm8)) w.1 hp37 hf38
          )
          obtain ⟨q39, w⟩ := w
          refine v_icmp_eqI (tgt := 63) dX12_settle_46 (by decide) q39.1 q39.2 (by decide) (by decide) (fun c40 => ?_) (fun c40 => ?_)
          · replace w := w.1 c40
            exact w
          · replace w := w.2 c40
            refine v_aload_n dX12_settle_49 rfl ?_
            refine v_get dX12_settle_50 fl_X12_39 ((hp29 77 (by decide)).trans (ent_77 _)) rfl (s_lt hn rfl) ?_
            refine v_aload_n dX12_settle_53 rfl ?_
            refine v_get dX12_settle_54 fl_X12_292 ((hp29 77 (by decide)).trans (ent_77 _)) rfl (s_lt hn rfl) ?_
            refine v_ialdI dX12_settle_57 ((hp29 86 (by decide)).trans (ent_86 _)) (s_lt hn rfl) q31.1 q31.2 (ix_le q31.2 (by decide)) ?_
            refine v_bipushI dX12_settle_58 rfl ?_
            refine v_icmp_neI (tgt := 84) dX12_settle_60 (by decide) q39.1 q39.2 (by decide) (by decide) (fun c41 => ?_) (fun c41 => ?_)
            · replace w := w.1 c41
              refine v_aload_n dX12_settle_84 rfl ?_
              refine v_aload_n dX12_settle_85 rfl ?_
              refine v_get dX12_settle_86 fl_X12_39 ((hp29 77 (by decide)).trans (ent_77 _)) rfl (s_lt hn rfl) ?_
              refine v_aload_n dX12_settle_89 rfl ?_
              refine v_get dX12_settle_90 fl_X12_292 ((hp29 77 (by decide)).trans (ent_77 _)) rfl (s_lt hn rfl) ?_
              refine v_ialdI dX12_settle_93 ((hp29 86 (by decide)).trans (ent_86 _)) (s_lt hn rfl) q31.1 q31.2 (ix_le q31.2 (by decide)) ?_
              refine v_iconstI dX12_settle_94 ?_
              refine v_callVVw dX12_settle_95 ml_X12_298 (so_X12_emit hn hp29  w) ((hp29 77 (by decide)).trans (ent_77 _)) rfl (s_lt hn rfl) rfl rfl (Nat.le_of_ble_eq_true rfl) (Nat.le_of_ble_eq_true rfl) (Nat.zero_le _) (Nat.zero_le _) (fun X43 h44 hp46 hf45 w => ?_)
              have hf47 := Fr.trans hf30 hf45
              refine v_goto (tgt := 0) dX12_settle_98 (by decide) ?_
              exact ih4 _ _ (Nat.lt_of_lt_of_le w.2 (Nat.le_of_lt_succ hm8)) w.1 hp46 hf47
            · replace w := w.2 c41
              exact w
  exact hL7 _ _ _ (Nat.lt_succ_self _) wi6 hp hf
theorem dX12_inner_0 : decode cX12_inner 0 = .ok (.iconst (-1), 1) := by decide +kernel
theorem dX12_inner_1 : decode cX12_inner 1 = .ok (.istore_n 1, 1) := by decide +kernel
theorem dX12_inner_2 : decode cX12_inner 2 = .ok (.iconst 0, 1) := by decide +kernel
theorem dX12_inner_3 : decode cX12_inner 3 = .ok (.istore_n 2, 1) := by decide +kernel
theorem dX12_inner_4 : decode cX12_inner 4 = .ok (.iload_n 2, 1) := by decide +kernel
theorem dX12_inner_5 : decode cX12_inner 5 = .ok (.aload_n 0, 1) := by decide +kernel
theorem dX12_inner_6 : decode cX12_inner 6 = .ok (.getfield 292, 3) := by decide +kernel
theorem dX12_inner_9 : decode cX12_inner 9 = .ok (.if_icmp .ge 31, 3) := by decide +kernel
theorem dX12_inner_12 : decode cX12_inner 12 = .ok (.aload_n 0, 1) := by decide +kernel
theorem dX12_inner_13 : decode cX12_inner 13 = .ok (.getfield 39, 3) := by decide +kernel
theorem dX12_inner_16 : decode cX12_inner 16 = .ok (.iload_n 2, 1) := by decide +kernel
theorem dX12_inner_17 : decode cX12_inner 17 = .ok (.iaload, 1) := by decide +kernel
theorem dX12_inner_18 : decode cX12_inner 18 = .ok (.bipush 31, 2) := by decide +kernel
theorem dX12_inner_20 : decode cX12_inner 20 = .ok (.if_icmp .lt 12, 3) := by decide +kernel
theorem dX12_inner_23 : decode cX12_inner 23 = .ok (.aload_n 0, 1) := by decide +kernel
theorem dX12_inner_24 : decode cX12_inner 24 = .ok (.getfield 39, 3) := by decide +kernel
theorem dX12_inner_27 : decode cX12_inner 27 = .ok (.iload_n 2, 1) := by decide +kernel
theorem dX12_inner_28 : decode cX12_inner 28 = .ok (.iaload, 1) := by decide +kernel
theorem dX12_inner_29 : decode cX12_inner 29 = .ok (.goto 4, 3) := by decide +kernel
theorem dX12_inner_32 : decode cX12_inner 32 = .ok (.iload_n 1, 1) := by decide +kernel
theorem dX12_inner_33 : decode cX12_inner 33 = .ok (.istore_n 1, 1) := by decide +kernel
theorem dX12_inner_34 : decode cX12_inner 34 = .ok (.iinc 2 1, 3) := by decide +kernel
theorem dX12_inner_37 : decode cX12_inner 37 = .ok (.goto (-33), 3) := by decide +kernel
theorem dX12_inner_40 : decode cX12_inner 40 = .ok (.iload_n 1, 1) := by decide +kernel
theorem dX12_inner_41 : decode cX12_inner 41 = .ok (.ireturn, 1) := by decide +kernel
def w_X12_inner (X : XT) (Q : Int → Prop) : Prop :=
  ∃ (I3 : Int → Int → Prop) (m4 : Int → Int → Nat), I3 (-1) 0 ∧ ∀ (x1 : Int) (x2 : Int), I3 x1 x2 → R32 x2 ∧ R32 (X 77 24) ∧ ((X 77 24) ≤ x2 → Q x1) ∧ (¬ (X 77 24) ≤ x2 → (0 ≤ x2 ∧ x2 < 400) ∧ R32 (X 86 x2) ∧ ((X 86 x2) < 31 → I3 x1 (x2 + 1) ∧ m4 x1 (x2 + 1) < m4 x1 x2) ∧ (¬ (X 86 x2) < 31 → I3 (X 86 x2) (x2 + 1) ∧ m4 (X 86 x2) (x2 + 1) < m4 x1 x2))
set_option maxRecDepth 20000 in
theorem so_X12_inner {n : Nat} {h : Nat → sE} {X : XT} {Q : Int → Prop} (hn : 115 ≤ n) (hp : Pic X h) (w : w_X12_inner   X Q) : Sp m_X12_inner 0 0 0 [.ref 77] n h (pIr n h Q) := by
  unfold w_X12_inner at w
  refine Sp.ofV (by decide +kernel) (Nat.le_of_ble_eq_true rfl) ?_
  have hf : Fr h h := fun _ _ => rfl
  refine v_iconstI dX12_inner_0 ?_
  refine v_istore_n dX12_inner_1 (Nat.le_of_ble_eq_true rfl) ?_
  refine v_iconstI dX12_inner_2 ?_
  refine v_istore_n dX12_inner_3 (Nat.le_of_ble_eq_true rfl) ?_
  refine v_pick [2, 1, 0] rfl ?_
  obtain ⟨I3, m4, wi7, wl6⟩ := w
  have hL8 : ∀ (N11 : Nat) (x1 : Int) (x2 : Int), m4 x1 x2 < N11 → I3 x1 x2 → V (m_X12_inner, 0, 0, 0, n, pIr n h Q, s_G0) 0 0 n h 4 [(0, .ref 77), (1, .int (iI x1)), (2, .int (iI x2))] [] := by
    intro N11
    induction N11 with
    | zero => intro x1 x2  hm9; exact absurd hm9 (Nat.not_lt_zero _)
    | succ N11 ih5 =>
      intro x1 x2  hm9 hI10
      have w := wl6 x1 x2 hI10
      refine v_iload_n dX12_inner_4 rfl ?_
      refine v_aload_n dX12_inner_5 rfl ?_
      refine v_get dX12_inner_6 fl_X12_292 ((hp 77 (by decide)).trans (ent_77 _)) rfl (s_lt hn rfl) ?_
      obtain ⟨q12, q13, w⟩ := w
      refine v_icmp_geI (tgt := 40) dX12_inner_9 (by decide) q12.1 q12.2 q13.1 q13.2 (fun c14 => ?_) (fun c14 => ?_)
      · replace w := w.1 c14
        refine v_iload_n dX12_inner_40 rfl ?_
        exact v_iret dX12_inner_41 rfl (Nat.zero_le _) (Nat.zero_le _) ⟨rfl, rfl, _, rfl, w⟩
      · replace w := w.2 c14
        refine v_aload_n dX12_inner_12 rfl ?_
        refine v_get dX12_inner_13 fl_X12_39 ((hp 77 (by decide)).trans (ent_77 _)) rfl (s_lt hn rfl) ?_
        refine v_iload_n dX12_inner_16 rfl ?_
        obtain ⟨q15, w⟩ := w
        refine v_ialdI dX12_inner_17 ((hp 86 (by decide)).trans (ent_86 _)) (s_lt hn rfl) q15.1 q15.2 (ix_le q15.2 (by decide)) ?_
        refine v_bipushI dX12_inner_18 rfl ?_
        obtain ⟨q16, w⟩ := w
        refine v_icmp_ltI (tgt := 32) dX12_inner_20 (by decide) q16.1 q16.2 (by decide) (by decide) (fun c17 => ?_) (fun c17 => ?_)
        · replace w := w.1 c17
          refine v_iload_n dX12_inner_32 rfl ?_
          refine v_istore_n dX12_inner_33 (Nat.le_of_ble_eq_true rfl) ?_
          refine v_iincI dX12_inner_34 rfl (Nat.le_of_ble_eq_true rfl) ?_
          refine v_goto (tgt := 4) dX12_inner_37 (by decide) ?_
          refine v_pick [2, 1, 0] rfl ?_
          exact ih5 _ _ (Nat.lt_of_lt_of_le w.2 (Nat.le_of_lt_succ hm9)) w.1
        · replace w := w.2 c17
          refine v_aload_n dX12_inner_23 rfl ?_
          refine v_get dX12_inner_24 fl_X12_39 ((hp 77 (by decide)).trans (ent_77 _)) rfl (s_lt hn rfl) ?_
          refine v_iload_n dX12_inner_27 rfl ?_
          refine v_ialdI dX12_inner_28 ((hp 86 (by decide)).trans (ent_86 _)) (s_lt hn rfl) q15.1 q15.2 (ix_le q15.2 (by decide)) ?_
          refine v_goto (tgt := 33) dX12_inner_29 (by decide) ?_
          refine v_istore_n dX12_inner_33 (Nat.le_of_ble_eq_true rfl) ?_
          refine v_iincI dX12_inner_34 rfl (Nat.le_of_ble_eq_true rfl) ?_
          refine v_goto (tgt := 4) dX12_inner_37 (by decide) ?_
          refine v_pick [2, 1, 0] rfl ?_
          exact ih5 _ _ (Nat.lt_of_lt_of_le w.2 (Nat.le_of_lt_succ hm9)) w.1
  exact hL8 _ _ _ (Nat.lt_succ_self _) wi7
theorem dX12_isCompared_0 : decode cX12_isCompared 0 = .ok (.aload_n 0, 1) := by decide +kernel
theorem dX12_isCompared_1 : decode cX12_isCompared 1 = .ok (.getfield 292, 3) := by decide +kernel
theorem dX12_isCompared_4 : decode cX12_isCompared 4 = .ok (.iconst 1, 1) := by decide +kernel
theorem dX12_isCompared_5 : decode cX12_isCompared 5 = .ok (.isub, 1) := by decide +kernel
theorem dX12_isCompared_6 : decode cX12_isCompared 6 = .ok (.istore_n 1, 1) := by decide +kernel
theorem dX12_isCompared_7 : decode cX12_isCompared 7 = .ok (.iload_n 1, 1) := by decide +kernel
theorem dX12_isCompared_8 : decode cX12_isCompared 8 = .ok (.ifCond .lt 28, 3) := by decide +kernel
theorem dX12_isCompared_11 : decode cX12_isCompared 11 = .ok (.aload_n 0, 1) := by decide +kernel
theorem dX12_isCompared_12 : decode cX12_isCompared 12 = .ok (.getfield 39, 3) := by decide +kernel
theorem dX12_isCompared_15 : decode cX12_isCompared 15 = .ok (.iload_n 1, 1) := by decide +kernel
theorem dX12_isCompared_16 : decode cX12_isCompared 16 = .ok (.iaload, 1) := by decide +kernel
theorem dX12_isCompared_17 : decode cX12_isCompared 17 = .ok (.i2l, 1) := by decide +kernel
theorem dX12_isCompared_18 : decode cX12_isCompared 18 = .ok (.ldc2_w 302, 3) := by decide +kernel
theorem dX12_isCompared_21 : decode cX12_isCompared 21 = .ok (.ldc2_w 45, 3) := by decide +kernel
theorem dX12_isCompared_24 : decode cX12_isCompared 24 = .ok (.invokestatic 175, 3) := by decide +kernel
theorem dX12_isCompared_27 : decode cX12_isCompared 27 = .ok (.ifCond .eq 9, 3) := by decide +kernel
theorem dX12_isCompared_30 : decode cX12_isCompared 30 = .ok (.iinc 1 (-1), 3) := by decide +kernel
theorem dX12_isCompared_33 : decode cX12_isCompared 33 = .ok (.goto (-26), 3) := by decide +kernel
theorem dX12_isCompared_36 : decode cX12_isCompared 36 = .ok (.iload_n 1, 1) := by decide +kernel
theorem dX12_isCompared_37 : decode cX12_isCompared 37 = .ok (.ifCond .lt 26, 3) := by decide +kernel
theorem dX12_isCompared_40 : decode cX12_isCompared 40 = .ok (.aload_n 0, 1) := by decide +kernel
theorem dX12_isCompared_41 : decode cX12_isCompared 41 = .ok (.getfield 39, 3) := by decide +kernel
theorem dX12_isCompared_44 : decode cX12_isCompared 44 = .ok (.iload_n 1, 1) := by decide +kernel
theorem dX12_isCompared_45 : decode cX12_isCompared 45 = .ok (.iaload, 1) := by decide +kernel
theorem dX12_isCompared_46 : decode cX12_isCompared 46 = .ok (.i2l, 1) := by decide +kernel
theorem dX12_isCompared_47 : decode cX12_isCompared 47 = .ok (.ldc2_w 47, 3) := by decide +kernel
theorem dX12_isCompared_50 : decode cX12_isCompared 50 = .ok (.ldc2_w 304, 3) := by decide +kernel
theorem dX12_isCompared_53 : decode cX12_isCompared 53 = .ok (.invokestatic 175, 3) := by decide +kernel
theorem dX12_isCompared_56 : decode cX12_isCompared 56 = .ok (.ifCond .eq 7, 3) := by decide +kernel
theorem dX12_isCompared_59 : decode cX12_isCompared 59 = .ok (.iconst 1, 1) := by decide +kernel
theorem dX12_isCompared_60 : decode cX12_isCompared 60 = .ok (.goto 4, 3) := by decide +kernel
theorem dX12_isCompared_63 : decode cX12_isCompared 63 = .ok (.iconst 0, 1) := by decide +kernel
theorem dX12_isCompared_64 : decode cX12_isCompared 64 = .ok (.ireturn, 1) := by decide +kernel
def w_X12_isCompared (X : XT) (Q : Int → Prop) : Prop :=
  ∃ (I2 : Int → Prop) (m3 : Int → Nat), I2 ((X 77 24) - 1) ∧ ∀ (x1 : Int), I2 x1 → ∀ J11 : Prop, ((R32 x1 ∧ (x1 < 0 → Q 0) ∧ (¬ x1 < 0 → (0 ≤ x1 ∧ x1 < 400) ∧ R32 (X 86 x1) ∧ (¬ (25 ≤ (X 86 x1) ∧ (X 86 x1) ≤ 27) → Q 0) ∧ ((25 ≤ (X 86 x1) ∧ (X 86 x1) ≤ 27) → Q 1))) → J11) → R32 x1 ∧ (x1 < 0 → J11 ) ∧ (¬ x1 < 0 → (0 ≤ x1 ∧ x1 < 400) ∧ R32 (X 86 x1) ∧ (¬ (20 ≤ (X 86 x1) ∧ (X 86 x1) ≤ 24) → J11 ) ∧ ((20 ≤ (X 86 x1) ∧ (X 86 x1) ≤ 24) → I2 (x1 + (-1)) ∧ m3 (x1 + (-1)) < m3 x1))
set_option maxRecDepth 20000 in
theorem so_X12_isCompared {n : Nat} {h : Nat → sE} {X : XT} {Q : Int → Prop} (hn : 115 ≤ n) (hp : Pic X h) (w : w_X12_isCompared   X Q) : Sp m_X12_isCompared 1 0 0 [.ref 77] n h (pIr n h Q) := by
  unfold w_X12_isCompared at w
  refine Sp.ofV (by decide +kernel) (Nat.le_of_ble_eq_true rfl) ?_
  have hf : Fr h h := fun _ _ => rfl
  refine v_aload_n dX12_isCompared_0 rfl ?_
  refine v_get dX12_isCompared_1 fl_X12_292 ((hp 77 (by decide)).trans (ent_77 _)) rfl (s_lt hn rfl) ?_
  refine v_iconstI dX12_isCompared_4 ?_
  refine v_isubI dX12_isCompared_5 ?_
  refine v_istore_n dX12_isCompared_6 (Nat.le_of_ble_eq_true rfl) ?_
  refine v_pick [1, 0] rfl ?_
  obtain ⟨I2, m3, wi6, wl5⟩ := w
  have hL7 : ∀ (N10 : Nat) (x1 : Int), m3 x1 < N10 → I2 x1 → V (m_X12_isCompared, 1, 0, 0, n, pIr n h Q, s_G0) 0 0 n h 7 [(0, .ref 77), (1, .int (iI x1))] [] := by
    intro N10
    induction N10 with
    | zero => intro x1  hm8; exact absurd hm8 (Nat.not_lt_zero _)
    | succ N10 ih4 =>
      intro x1  hm8 hI9
      have w := wl5 x1 hI9
      refine v_iload_n dX12_isCompared_7 rfl ?_
      replace w := w (V (m_X12_isCompared, 1, 0, 0, n, pIr n h Q, s_G0) 0 0 n h 36 [(0, .ref 77), (1, .int (iI x1))] []) (by
        intro  w
        refine v_iload_n dX12_isCompared_36 rfl ?_
        obtain ⟨q12, w⟩ := w
        refine v_if_ltI (tgt := 63) dX12_isCompared_37 (by decide) q12.1 q12.2 (fun c13 => ?_) (fun c13 => ?_)
        · replace w := w.1 c13
          refine v_iconstI dX12_isCompared_63 ?_
          exact v_z0 dX12_isCompared_64 rfl (Nat.zero_le _) (Nat.zero_le _) ⟨rfl, rfl, _, rfl, w⟩
        · replace w := w.2 c13
          refine v_aload_n dX12_isCompared_40 rfl ?_
          refine v_get dX12_isCompared_41 fl_X12_39 ((hp 77 (by decide)).trans (ent_77 _)) rfl (s_lt hn rfl) ?_
          refine v_iload_n dX12_isCompared_44 rfl ?_
          obtain ⟨q14, w⟩ := w
          refine v_ialdI dX12_isCompared_45 ((hp 86 (by decide)).trans (ent_86 _)) (s_lt hn rfl) q14.1 q14.2 (ix_le q14.2 (by decide)) ?_
          obtain ⟨q15, w⟩ := w
          refine v_i2lI dX12_isCompared_46 q15.1 q15.2 ?_
          refine v_ldc2I 25 dX12_isCompared_47 k_X12_47 rfl ?_
          refine v_ldc2I 27 dX12_isCompared_50 k_X12_304 rfl ?_
          refine v_callSp dX12_isCompared_53 ml_X12_175 (sp_X12_in (v := (X 86 x1)) (lo := 25) (hi := 27) (r32_64 q15) (by decide) (by decide)) rfl rfl (Nat.le_of_ble_eq_true rfl) (Nat.le_of_ble_eq_true rfl) (Nat.zero_le _) (Nat.zero_le _) ?_
          refine v_ifeqB (tgt := 63) dX12_isCompared_56 (by decide) (fun c16 => ?_) (fun c16 => ?_)
          · replace w := w.1 c16
            refine v_iconstI dX12_isCompared_63 ?_
            exact v_z0 dX12_isCompared_64 rfl (Nat.zero_le _) (Nat.zero_le _) ⟨rfl, rfl, _, rfl, w⟩
          · replace w := w.2 c16
            refine v_iconstI dX12_isCompared_59 ?_
            refine v_goto (tgt := 64) dX12_isCompared_60 (by decide) ?_
            exact v_z1 dX12_isCompared_64 rfl (Nat.zero_le _) (Nat.zero_le _) ⟨rfl, rfl, _, rfl, w⟩
      )
      obtain ⟨q17, w⟩ := w
      refine v_if_ltI (tgt := 36) dX12_isCompared_8 (by decide) q17.1 q17.2 (fun c18 => ?_) (fun c18 => ?_)
      · replace w := w.1 c18
        exact w
      · replace w := w.2 c18
        refine v_aload_n dX12_isCompared_11 rfl ?_
        refine v_get dX12_isCompared_12 fl_X12_39 ((hp 77 (by decide)).trans (ent_77 _)) rfl (s_lt hn rfl) ?_
        refine v_iload_n dX12_isCompared_15 rfl ?_
        obtain ⟨q19, w⟩ := w
        refine v_ialdI dX12_isCompared_16 ((hp 86 (by decide)).trans (ent_86 _)) (s_lt hn rfl) q19.1 q19.2 (ix_le q19.2 (by decide)) ?_
        obtain ⟨q20, w⟩ := w
        refine v_i2lI dX12_isCompared_17 q20.1 q20.2 ?_
        refine v_ldc2I 20 dX12_isCompared_18 k_X12_302 rfl ?_
        refine v_ldc2I 24 dX12_isCompared_21 k_X12_45 rfl ?_
        refine v_callSp dX12_isCompared_24 ml_X12_175 (sp_X12_in (v := (X 86 x1)) (lo := 20) (hi := 24) (r32_64 q20) (by decide) (by decide)) rfl rfl (Nat.le_of_ble_eq_true rfl) (Nat.le_of_ble_eq_true rfl) (Nat.zero_le _) (Nat.zero_le _) ?_
        refine v_ifeqB (tgt := 36) dX12_isCompared_27 (by decide) (fun c21 => ?_) (fun c21 => ?_)
        · replace w := w.1 c21
          exact w
        · replace w := w.2 c21
          refine v_iincI dX12_isCompared_30 rfl (Nat.le_of_ble_eq_true rfl) ?_
          refine v_goto (tgt := 7) dX12_isCompared_33 (by decide) ?_
          refine v_pick [1, 0] rfl ?_
          exact ih4 _ (Nat.lt_of_lt_of_le w.2 (Nat.le_of_lt_succ hm8)) w.1
  exact hL7 _ _ (Nat.lt_succ_self _) wi6
theorem dX12_behindSum_0 : decode cX12_behindSum 0 = .ok (.aload_n 0, 1) := by decide +kernel
theorem dX12_behindSum_1 : decode cX12_behindSum 1 = .ok (.bipush 43, 2) := by decide +kernel
theorem dX12_behindSum_3 : decode cX12_behindSum 3 = .ok (.invokevirtual 319, 3) := by decide +kernel
theorem dX12_behindSum_6 : decode cX12_behindSum 6 = .ok (.ifCond .eq 8, 3) := by decide +kernel
theorem dX12_behindSum_9 : decode cX12_behindSum 9 = .ok (.bipush 20, 2) := by decide +kernel
theorem dX12_behindSum_11 : decode cX12_behindSum 11 = .ok (.goto 60, 3) := by decide +kernel
theorem dX12_behindSum_14 : decode cX12_behindSum 14 = .ok (.aload_n 0, 1) := by decide +kernel
theorem dX12_behindSum_15 : decode cX12_behindSum 15 = .ok (.bipush 45, 2) := by decide +kernel
theorem dX12_behindSum_17 : decode cX12_behindSum 17 = .ok (.invokevirtual 319, 3) := by decide +kernel
theorem dX12_behindSum_20 : decode cX12_behindSum 20 = .ok (.ifCond .eq 8, 3) := by decide +kernel
theorem dX12_behindSum_23 : decode cX12_behindSum 23 = .ok (.bipush 21, 2) := by decide +kernel
theorem dX12_behindSum_25 : decode cX12_behindSum 25 = .ok (.goto 46, 3) := by decide +kernel
theorem dX12_behindSum_28 : decode cX12_behindSum 28 = .ok (.aload_n 0, 1) := by decide +kernel
theorem dX12_behindSum_29 : decode cX12_behindSum 29 = .ok (.bipush 42, 2) := by decide +kernel
theorem dX12_behindSum_31 : decode cX12_behindSum 31 = .ok (.invokevirtual 319, 3) := by decide +kernel
theorem dX12_behindSum_34 : decode cX12_behindSum 34 = .ok (.ifCond .eq 8, 3) := by decide +kernel
theorem dX12_behindSum_37 : decode cX12_behindSum 37 = .ok (.bipush 22, 2) := by decide +kernel
theorem dX12_behindSum_39 : decode cX12_behindSum 39 = .ok (.goto 32, 3) := by decide +kernel
theorem dX12_behindSum_42 : decode cX12_behindSum 42 = .ok (.aload_n 0, 1) := by decide +kernel
theorem dX12_behindSum_43 : decode cX12_behindSum 43 = .ok (.bipush 47, 2) := by decide +kernel
theorem dX12_behindSum_45 : decode cX12_behindSum 45 = .ok (.invokevirtual 319, 3) := by decide +kernel
theorem dX12_behindSum_48 : decode cX12_behindSum 48 = .ok (.ifCond .eq 8, 3) := by decide +kernel
theorem dX12_behindSum_51 : decode cX12_behindSum 51 = .ok (.bipush 23, 2) := by decide +kernel
theorem dX12_behindSum_53 : decode cX12_behindSum 53 = .ok (.goto 18, 3) := by decide +kernel
theorem dX12_behindSum_56 : decode cX12_behindSum 56 = .ok (.aload_n 0, 1) := by decide +kernel
theorem dX12_behindSum_57 : decode cX12_behindSum 57 = .ok (.bipush 37, 2) := by decide +kernel
theorem dX12_behindSum_59 : decode cX12_behindSum 59 = .ok (.invokevirtual 319, 3) := by decide +kernel
theorem dX12_behindSum_62 : decode cX12_behindSum 62 = .ok (.ifCond .eq 8, 3) := by decide +kernel
theorem dX12_behindSum_65 : decode cX12_behindSum 65 = .ok (.bipush 24, 2) := by decide +kernel
theorem dX12_behindSum_67 : decode cX12_behindSum 67 = .ok (.goto 4, 3) := by decide +kernel
theorem dX12_behindSum_70 : decode cX12_behindSum 70 = .ok (.iconst (-1), 1) := by decide +kernel
theorem dX12_behindSum_71 : decode cX12_behindSum 71 = .ok (.istore_n 2, 1) := by decide +kernel
theorem dX12_behindSum_72 : decode cX12_behindSum 72 = .ok (.iload_n 2, 1) := by decide +kernel
theorem dX12_behindSum_73 : decode cX12_behindSum 73 = .ok (.iconst (-1), 1) := by decide +kernel
theorem dX12_behindSum_74 : decode cX12_behindSum 74 = .ok (.if_icmp .eq 23, 3) := by decide +kernel
theorem dX12_behindSum_77 : decode cX12_behindSum 77 = .ok (.aload_n 0, 1) := by decide +kernel
theorem dX12_behindSum_78 : decode cX12_behindSum 78 = .ok (.iload_n 2, 1) := by decide +kernel
theorem dX12_behindSum_79 : decode cX12_behindSum 79 = .ok (.invokestatic 295, 3) := by decide +kernel
theorem dX12_behindSum_82 : decode cX12_behindSum 82 = .ok (.invokevirtual 350, 3) := by decide +kernel
theorem dX12_behindSum_85 : decode cX12_behindSum 85 = .ok (.aload_n 0, 1) := by decide +kernel
theorem dX12_behindSum_86 : decode cX12_behindSum 86 = .ok (.iload_n 2, 1) := by decide +kernel
theorem dX12_behindSum_87 : decode cX12_behindSum 87 = .ok (.iconst 0, 1) := by decide +kernel
theorem dX12_behindSum_88 : decode cX12_behindSum 88 = .ok (.invokevirtual 313, 3) := by decide +kernel
theorem dX12_behindSum_91 : decode cX12_behindSum 91 = .ok (.aload_n 0, 1) := by decide +kernel
theorem dX12_behindSum_92 : decode cX12_behindSum 92 = .ok (.invokevirtual 258, 3) := by decide +kernel
theorem dX12_behindSum_95 : decode cX12_behindSum 95 = .ok (.iconst 1, 1) := by decide +kernel
theorem dX12_behindSum_96 : decode cX12_behindSum 96 = .ok (.ireturn, 1) := by decide +kernel
theorem dX12_behindSum_97 : decode cX12_behindSum 97 = .ok (.aload_n 0, 1) := by decide +kernel
theorem dX12_behindSum_98 : decode cX12_behindSum 98 = .ok (.invokevirtual 353, 3) := by decide +kernel
theorem dX12_behindSum_101 : decode cX12_behindSum 101 = .ok (.istore_n 3, 1) := by decide +kernel
theorem dX12_behindSum_102 : decode cX12_behindSum 102 = .ok (.iload_n 3, 1) := by decide +kernel
theorem dX12_behindSum_103 : decode cX12_behindSum 103 = .ok (.bipush 32, 2) := by decide +kernel
theorem dX12_behindSum_105 : decode cX12_behindSum 105 = .ok (.if_icmp .ne 47, 3) := by decide +kernel
theorem dX12_behindSum_108 : decode cX12_behindSum 108 = .ok (.aload_n 0, 1) := by decide +kernel
theorem dX12_behindSum_109 : decode cX12_behindSum 109 = .ok (.aload_n 0, 1) := by decide +kernel
theorem dX12_behindSum_110 : decode cX12_behindSum 110 = .ok (.bipush 93, 2) := by decide +kernel
theorem dX12_behindSum_112 : decode cX12_behindSum 112 = .ok (.invokevirtual 319, 3) := by decide +kernel
theorem dX12_behindSum_115 : decode cX12_behindSum 115 = .ok (.invokevirtual 285, 3) := by decide +kernel
theorem dX12_behindSum_118 : decode cX12_behindSum 118 = .ok (.aload_n 0, 1) := by decide +kernel
theorem dX12_behindSum_119 : decode cX12_behindSum 119 = .ok (.getfield 254, 3) := by decide +kernel
theorem dX12_behindSum_122 : decode cX12_behindSum 122 = .ok (.ifCond .ne 28, 3) := by decide +kernel
theorem dX12_behindSum_125 : decode cX12_behindSum 125 = .ok (.aload_n 0, 1) := by decide +kernel
theorem dX12_behindSum_126 : decode cX12_behindSum 126 = .ok (.iconst 5, 1) := by decide +kernel
theorem dX12_behindSum_127 : decode cX12_behindSum 127 = .ok (.invokevirtual 350, 3) := by decide +kernel
theorem dX12_behindSum_130 : decode cX12_behindSum 130 = .ok (.aload_n 0, 1) := by decide +kernel
theorem dX12_behindSum_131 : decode cX12_behindSum 131 = .ok (.dup, 1) := by decide +kernel
theorem dX12_behindSum_132 : decode cX12_behindSum 132 = .ok (.getfield 292, 3) := by decide +kernel
theorem dX12_behindSum_135 : decode cX12_behindSum 135 = .ok (.iconst 1, 1) := by decide +kernel
theorem dX12_behindSum_136 : decode cX12_behindSum 136 = .ok (.isub, 1) := by decide +kernel
theorem dX12_behindSum_137 : decode cX12_behindSum 137 = .ok (.putfield 292, 3) := by decide +kernel
theorem dX12_behindSum_140 : decode cX12_behindSum 140 = .ok (.aload_n 0, 1) := by decide +kernel
theorem dX12_behindSum_141 : decode cX12_behindSum 141 = .ok (.dup, 1) := by decide +kernel
theorem dX12_behindSum_142 : decode cX12_behindSum 142 = .ok (.getfield 310, 3) := by decide +kernel
theorem dX12_behindSum_145 : decode cX12_behindSum 145 = .ok (.iconst 1, 1) := by decide +kernel
theorem dX12_behindSum_146 : decode cX12_behindSum 146 = .ok (.isub, 1) := by decide +kernel
theorem dX12_behindSum_147 : decode cX12_behindSum 147 = .ok (.putfield 310, 3) := by decide +kernel
theorem dX12_behindSum_150 : decode cX12_behindSum 150 = .ok (.iconst 3, 1) := by decide +kernel
theorem dX12_behindSum_151 : decode cX12_behindSum 151 = .ok (.ireturn, 1) := by decide +kernel
theorem dX12_behindSum_152 : decode cX12_behindSum 152 = .ok (.iload_n 3, 1) := by decide +kernel
theorem dX12_behindSum_153 : decode cX12_behindSum 153 = .ok (.iconst (-1), 1) := by decide +kernel
theorem dX12_behindSum_154 : decode cX12_behindSum 154 = .ok (.if_icmp .ne 9, 3) := by decide +kernel
theorem dX12_behindSum_157 : decode cX12_behindSum 157 = .ok (.iload_n 1, 1) := by decide +kernel
theorem dX12_behindSum_158 : decode cX12_behindSum 158 = .ok (.ifCond .ne 5, 3) := by decide +kernel
theorem dX12_behindSum_161 : decode cX12_behindSum 161 = .ok (.iconst 4, 1) := by decide +kernel
theorem dX12_behindSum_162 : decode cX12_behindSum 162 = .ok (.ireturn, 1) := by decide +kernel
theorem dX12_behindSum_163 : decode cX12_behindSum 163 = .ok (.aload_n 0, 1) := by decide +kernel
theorem dX12_behindSum_164 : decode cX12_behindSum 164 = .ok (.invokevirtual 356, 3) := by decide +kernel
theorem dX12_behindSum_167 : decode cX12_behindSum 167 = .ok (.ifCond .eq 5, 3) := by decide +kernel
theorem dX12_behindSum_170 : decode cX12_behindSum 170 = .ok (.iconst 2, 1) := by decide +kernel
theorem dX12_behindSum_171 : decode cX12_behindSum 171 = .ok (.ireturn, 1) := by decide +kernel
theorem dX12_behindSum_172 : decode cX12_behindSum 172 = .ok (.aload_n 0, 1) := by decide +kernel
theorem dX12_behindSum_173 : decode cX12_behindSum 173 = .ok (.bipush 60, 2) := by decide +kernel
theorem dX12_behindSum_175 : decode cX12_behindSum 175 = .ok (.invokevirtual 319, 3) := by decide +kernel
theorem dX12_behindSum_178 : decode cX12_behindSum 178 = .ok (.ifCond .eq 8, 3) := by decide +kernel
theorem dX12_behindSum_181 : decode cX12_behindSum 181 = .ok (.bipush 25, 2) := by decide +kernel
theorem dX12_behindSum_183 : decode cX12_behindSum 183 = .ok (.goto 19, 3) := by decide +kernel
theorem dX12_behindSum_186 : decode cX12_behindSum 186 = .ok (.aload_n 0, 1) := by decide +kernel
theorem dX12_behindSum_187 : decode cX12_behindSum 187 = .ok (.bipush 62, 2) := by decide +kernel
theorem dX12_behindSum_189 : decode cX12_behindSum 189 = .ok (.invokevirtual 319, 3) := by decide +kernel
theorem dX12_behindSum_192 : decode cX12_behindSum 192 = .ok (.ifCond .eq 8, 3) := by decide +kernel
theorem dX12_behindSum_195 : decode cX12_behindSum 195 = .ok (.bipush 26, 2) := by decide +kernel
theorem dX12_behindSum_197 : decode cX12_behindSum 197 = .ok (.goto 5, 3) := by decide +kernel
theorem dX12_behindSum_200 : decode cX12_behindSum 200 = .ok (.bipush 27, 2) := by decide +kernel
theorem dX12_behindSum_202 : decode cX12_behindSum 202 = .ok (.istore_n 2, 1) := by decide +kernel
theorem dX12_behindSum_203 : decode cX12_behindSum 203 = .ok (.aload_n 0, 1) := by decide +kernel
theorem dX12_behindSum_204 : decode cX12_behindSum 204 = .ok (.iload_n 2, 1) := by decide +kernel
theorem dX12_behindSum_205 : decode cX12_behindSum 205 = .ok (.bipush 27, 2) := by decide +kernel
theorem dX12_behindSum_207 : decode cX12_behindSum 207 = .ok (.if_icmp .ne 12, 3) := by decide +kernel
theorem dX12_behindSum_210 : decode cX12_behindSum 210 = .ok (.aload_n 0, 1) := by decide +kernel
theorem dX12_behindSum_211 : decode cX12_behindSum 211 = .ok (.bipush 61, 2) := by decide +kernel
theorem dX12_behindSum_213 : decode cX12_behindSum 213 = .ok (.invokevirtual 319, 3) := by decide +kernel
theorem dX12_behindSum_216 : decode cX12_behindSum 216 = .ok (.ifCond .eq 7, 3) := by decide +kernel
theorem dX12_behindSum_219 : decode cX12_behindSum 219 = .ok (.iconst 1, 1) := by decide +kernel
theorem dX12_behindSum_220 : decode cX12_behindSum 220 = .ok (.goto 4, 3) := by decide +kernel
theorem dX12_behindSum_223 : decode cX12_behindSum 223 = .ok (.iconst 0, 1) := by decide +kernel
theorem dX12_behindSum_224 : decode cX12_behindSum 224 = .ok (.invokevirtual 285, 3) := by decide +kernel
theorem dX12_behindSum_227 : decode cX12_behindSum 227 = .ok (.aload_n 0, 1) := by decide +kernel
theorem dX12_behindSum_228 : decode cX12_behindSum 228 = .ok (.getfield 254, 3) := by decide +kernel
theorem dX12_behindSum_231 : decode cX12_behindSum 231 = .ok (.ifCond .ne 14, 3) := by decide +kernel
theorem dX12_behindSum_234 : decode cX12_behindSum 234 = .ok (.aload_n 0, 1) := by decide +kernel
theorem dX12_behindSum_235 : decode cX12_behindSum 235 = .ok (.iconst 5, 1) := by decide +kernel
theorem dX12_behindSum_236 : decode cX12_behindSum 236 = .ok (.invokevirtual 350, 3) := by decide +kernel
theorem dX12_behindSum_239 : decode cX12_behindSum 239 = .ok (.aload_n 0, 1) := by decide +kernel
theorem dX12_behindSum_240 : decode cX12_behindSum 240 = .ok (.iload_n 2, 1) := by decide +kernel
theorem dX12_behindSum_241 : decode cX12_behindSum 241 = .ok (.iconst 0, 1) := by decide +kernel
theorem dX12_behindSum_242 : decode cX12_behindSum 242 = .ok (.invokevirtual 313, 3) := by decide +kernel
theorem dX12_behindSum_245 : decode cX12_behindSum 245 = .ok (.iconst 1, 1) := by decide +kernel
theorem dX12_behindSum_246 : decode cX12_behindSum 246 = .ok (.ireturn, 1) := by decide +kernel
def w_X12_behindSum (a0 : Int) (X : XT) (Q : Int → XT → Prop) : Prop :=
  w_X12_isSign  43 X (fun (v1 : Int) => ∀ J8 : Int → Prop, (∀ (v7 : Int), (R32 v7 ∧ (v7 = (-1) → w_X12_inner   X (fun (v11 : Int) => R32 v11 ∧ (¬ v11 = 32 → ∀ J19 : Prop, ((w_X12_isCompared   X (fun (v20 : Int) => R32 v20 ∧ (v20 = 0 → w_X12_isSign  60 X (fun (v28 : Int) => ∀ J35 : Int → Prop, (∀ (v34 : Int), (∀ J37 : Int → Prop, (∀ (v36 : Int), (w_X12_must  v36 X (fun (X39 : XT) => R32 (X39 77 14) ∧ (¬ (X39 77 14) = 0 → Q 1 X39) ∧ ((X39 77 14) = 0 → w_X12_settle  5 X39 (fun (X47 : XT) => w_X12_push  v34 0 X47 (fun (X53 : XT) => Q 1 X53))))) → J37 v36) → R32 v34 ∧ (¬ v34 = 27 → J37 1) ∧ (v34 = 27 → w_X12_isSign  61 X (fun (v60 : Int) => R32 v60 ∧ (v60 = 0 → J37 0) ∧ (¬ v60 = 0 → J37 1)))) → J35 v34) → R32 v28 ∧ (v28 = 0 → w_X12_isSign  62 X (fun (v70 : Int) => R32 v70 ∧ (v70 = 0 → J35 27) ∧ (¬ v70 = 0 → J35 26))) ∧ (¬ v28 = 0 → J35 25))) ∧ (¬ v20 = 0 → Q 2 X))) → J19) → (¬ v11 = (-1) → J19 ) ∧ (v11 = (-1) → R32 a0 ∧ (¬ a0 = 0 → J19 ) ∧ (a0 = 0 → Q 4 X))) ∧ (v11 = 32 → w_X12_isSign  93 X (fun (v81 : Int) => w_X12_must  v81 X (fun (X88 : XT) => R32 (X88 77 14) ∧ (¬ (X88 77 14) = 0 → Q 3 X88) ∧ ((X88 77 14) = 0 → w_X12_settle  5 X88 (fun (X96 : XT) => Q 3 (x_st (x_st X96 77 24 ((X96 77 24) - 1)) 77 25 (((x_st X96 77 24 ((X96 77 24) - 1)) 77 25) - 1))))))))) ∧ (¬ v7 = (-1) → w_X12_binds  v7 X (fun (v111 : Int) => w_X12_settle  v111 X (fun (X118 : XT) => w_X12_push  v7 0 X118 (fun (X124 : XT) => w_X12_next   X124 (fun (X130 : XT) => Q 1 X130)))))) → J8 v7) → R32 v1 ∧ (v1 = 0 → w_X12_isSign  45 X (fun (v137 : Int) => R32 v137 ∧ (v137 = 0 → w_X12_isSign  42 X (fun (v145 : Int) => R32 v145 ∧ (v145 = 0 → w_X12_isSign  47 X (fun (v153 : Int) => R32 v153 ∧ (v153 = 0 → w_X12_isSign  37 X (fun (v161 : Int) => R32 v161 ∧ (v161 = 0 → J8 (-1)) ∧ (¬ v161 = 0 → J8 24))) ∧ (¬ v153 = 0 → J8 23))) ∧ (¬ v145 = 0 → J8 22))) ∧ (¬ v137 = 0 → J8 21))) ∧ (¬ v1 = 0 → J8 20))
set_option maxRecDepth 20000 in
theorem so_X12_behindSum {n : Nat} {h : Nat → sE} {X : XT} {a0 : Int} {Q : Int → XT → Prop} (hn : 115 ≤ n) (hp : Pic X h) (w : w_X12_behindSum  a0 X Q) : Sp m_X12_behindSum 3 0 0 [.ref 77, .int (iI a0)] n h (pIw n h Q) := by
  unfold w_X12_behindSum at w
  refine Sp.ofV (by decide +kernel) (Nat.le_of_ble_eq_true rfl) ?_
  have hf : Fr h h := fun _ _ => rfl
  refine v_aload_n dX12_behindSum_0 rfl ?_
  refine v_bipushI dX12_behindSum_1 rfl ?_
  refine v_callVIr dX12_behindSum_3 ml_X12_319 (so_X12_isSign hn hp  w) ((hp 77 (by decide)).trans (ent_77 _)) rfl (s_lt hn rfl) rfl rfl (Nat.le_of_ble_eq_true rfl) (Nat.le_of_ble_eq_true rfl) (Nat.zero_le _) (Nat.zero_le _) (fun v1 w => ?_)
  replace w := w (fun (v7 : Int) => V (m_X12_behindSum, 3, 0, 0, n, pIw n h Q, s_G0) 0 0 n h 71 [(0, .ref 77), (1, .int (iI a0))] [.int (iI v7)]) (by
    intro v7 w
    refine v_istore_n dX12_behindSum_71 (Nat.le_of_ble_eq_true rfl) ?_
    refine v_iload_n dX12_behindSum_72 rfl ?_
    refine v_iconstI dX12_behindSum_73 ?_
    obtain ⟨q9, w⟩ := w
    refine v_icmp_eqI (tgt := 97) dX12_behindSum_74 (by decide) q9.1 q9.2 (by decide) (by decide) (fun c10 => ?_) (fun c10 => ?_)
    · replace w := w.1 c10
      refine v_aload_n dX12_behindSum_97 rfl ?_
      refine v_callVIr dX12_behindSum_98 ml_X12_353 (so_X12_inner hn hp  w) ((hp 77 (by decide)).trans (ent_77 _)) rfl (s_lt hn rfl) rfl rfl (Nat.le_of_ble_eq_true rfl) (Nat.le_of_ble_eq_true rfl) (Nat.zero_le _) (Nat.zero_le _) (fun v11 w => ?_)
      refine v_istore_n dX12_behindSum_101 (Nat.le_of_ble_eq_true rfl) ?_
      refine v_iload_n dX12_behindSum_102 rfl ?_
      refine v_bipushI dX12_behindSum_103 rfl ?_
      obtain ⟨q17, w⟩ := w
      refine v_icmp_neI (tgt := 152) dX12_behindSum_105 (by decide) q17.1 q17.2 (by decide) (by decide) (fun c18 => ?_) (fun c18 => ?_)
      · replace w := w.1 c18
        refine v_iload_n dX12_behindSum_152 rfl ?_
        refine v_iconstI dX12_behindSum_153 ?_
        replace w := w (V (m_X12_behindSum, 3, 0, 0, n, pIw n h Q, s_G0) 0 0 n h 163 [(0, .ref 77)] []) (by
          intro  w
          refine v_aload_n dX12_behindSum_163 rfl ?_
          refine v_callVIr dX12_behindSum_164 ml_X12_356 (so_X12_isCompared hn hp  w) ((hp 77 (by decide)).trans (ent_77 _)) rfl (s_lt hn rfl) rfl rfl (Nat.le_of_ble_eq_true rfl) (Nat.le_of_ble_eq_true rfl) (Nat.zero_le _) (Nat.zero_le _) (fun v20 w => ?_)
          obtain ⟨q26, w⟩ := w
          refine v_if_eqI (tgt := 172) dX12_behindSum_167 (by decide) q26.1 q26.2 (fun c27 => ?_) (fun c27 => ?_)
          · replace w := w.1 c27
            refine v_aload_n dX12_behindSum_172 rfl ?_
            refine v_bipushI dX12_behindSum_173 rfl ?_
            refine v_callVIr dX12_behindSum_175 ml_X12_319 (so_X12_isSign hn hp  w) ((hp 77 (by decide)).trans (ent_77 _)) rfl (s_lt hn rfl) rfl rfl (Nat.le_of_ble_eq_true rfl) (Nat.le_of_ble_eq_true rfl) (Nat.zero_le _) (Nat.zero_le _) (fun v28 w => ?_)
            replace w := w (fun (v34 : Int) => V (m_X12_behindSum, 3, 0, 0, n, pIw n h Q, s_G0) 0 0 n h 202 [(0, .ref 77)] [.int (iI v34)]) (by
              intro v34 w
              refine v_istore_n dX12_behindSum_202 (Nat.le_of_ble_eq_true rfl) ?_
              refine v_aload_n dX12_behindSum_203 rfl ?_
              refine v_iload_n dX12_behindSum_204 rfl ?_
              refine v_bipushI dX12_behindSum_205 rfl ?_
              replace w := w (fun (v36 : Int) => V (m_X12_behindSum, 3, 0, 0, n, pIw n h Q, s_G0) 0 0 n h 224 [(0, .ref 77), (2, .int (iI v34))] [.int (iI v36), .ref 77]) (by
                intro v36 w
                refine v_callVVw dX12_behindSum_224 ml_X12_285 (so_X12_must hn hp  w) ((hp 77 (by decide)).trans (ent_77 _)) rfl (s_lt hn rfl) rfl rfl (Nat.le_of_ble_eq_true rfl) (Nat.le_of_ble_eq_true rfl) (Nat.zero_le _) (Nat.zero_le _) (fun X39 h40 hp42 hf41 w => ?_)
                have hf43 := Fr.trans hf hf41
                refine v_aload_n dX12_behindSum_227 rfl ?_
                refine v_get dX12_behindSum_228 fl_X12_254 ((hp42 77 (by decide)).trans (ent_77 _)) rfl (s_lt hn rfl) ?_
                obtain ⟨q44, w⟩ := w
                refine v_if_neI (tgt := 245) dX12_behindSum_231 (by decide) q44.1 q44.2 (fun c45 => ?_) (fun c45 => ?_)
                · replace w := w.1 c45
                  refine v_iconstI dX12_behindSum_245 ?_
                  exact v_iret dX12_behindSum_246 rfl (Nat.zero_le _) (Nat.zero_le _) ⟨rfl, hf43, _, _, rfl, hp42, w⟩
                · replace w := w.2 c45
                  refine v_aload_n dX12_behindSum_234 rfl ?_
                  refine v_iconstI dX12_behindSum_235 ?_
                  refine v_callVVw dX12_behindSum_236 ml_X12_350 (so_X12_settle hn hp42  w) ((hp42 77 (by decide)).trans (ent_77 _)) rfl (s_lt hn rfl) rfl rfl (Nat.le_of_ble_eq_true rfl) (Nat.le_of_ble_eq_true rfl) (Nat.zero_le _) (Nat.zero_le _) (fun X47 h48 hp50 hf49 w => ?_)
                  have hf51 := Fr.trans hf43 hf49
                  refine v_aload_n dX12_behindSum_239 rfl ?_
                  refine v_iload_n dX12_behindSum_240 rfl ?_
                  refine v_iconstI dX12_behindSum_241 ?_
                  refine v_callVVw dX12_behindSum_242 ml_X12_313 (so_X12_push hn hp50  w) ((hp50 77 (by decide)).trans (ent_77 _)) rfl (s_lt hn rfl) rfl rfl (Nat.le_of_ble_eq_true rfl) (Nat.le_of_ble_eq_true rfl) (Nat.zero_le _) (Nat.zero_le _) (fun X53 h54 hp56 hf55 w => ?_)
                  have hf57 := Fr.trans hf51 hf55
                  refine v_iconstI dX12_behindSum_245 ?_
                  exact v_iret dX12_behindSum_246 rfl (Nat.zero_le _) (Nat.zero_le _) ⟨rfl, hf57, _, _, rfl, hp56, w⟩
              )
              obtain ⟨q58, w⟩ := w
              refine v_icmp_neI (tgt := 219) dX12_behindSum_207 (by decide) q58.1 q58.2 (by decide) (by decide) (fun c59 => ?_) (fun c59 => ?_)
              · replace w := w.1 c59
                refine v_iconstI dX12_behindSum_219 ?_
                refine v_goto (tgt := 224) dX12_behindSum_220 (by decide) ?_
                refine v_pick [1, 0] rfl ?_
                exact w
              · replace w := w.2 c59
                refine v_aload_n dX12_behindSum_210 rfl ?_
                refine v_bipushI dX12_behindSum_211 rfl ?_
                refine v_callVIr dX12_behindSum_213 ml_X12_319 (so_X12_isSign hn hp  w) ((hp 77 (by decide)).trans (ent_77 _)) rfl (s_lt hn rfl) rfl rfl (Nat.le_of_ble_eq_true rfl) (Nat.le_of_ble_eq_true rfl) (Nat.zero_le _) (Nat.zero_le _) (fun v60 w => ?_)
                obtain ⟨q66, w⟩ := w
                refine v_if_eqI (tgt := 223) dX12_behindSum_216 (by decide) q66.1 q66.2 (fun c67 => ?_) (fun c67 => ?_)
                · replace w := w.1 c67
                  refine v_iconstI dX12_behindSum_223 ?_
                  refine v_pick [1, 0] rfl ?_
                  exact w
                · replace w := w.2 c67
                  refine v_iconstI dX12_behindSum_219 ?_
                  refine v_goto (tgt := 224) dX12_behindSum_220 (by decide) ?_
                  refine v_pick [1, 0] rfl ?_
                  exact w
            )
            obtain ⟨q68, w⟩ := w
            refine v_if_eqI (tgt := 186) dX12_behindSum_178 (by decide) q68.1 q68.2 (fun c69 => ?_) (fun c69 => ?_)
            · replace w := w.1 c69
              refine v_aload_n dX12_behindSum_186 rfl ?_
              refine v_bipushI dX12_behindSum_187 rfl ?_
              refine v_callVIr dX12_behindSum_189 ml_X12_319 (so_X12_isSign hn hp  w) ((hp 77 (by decide)).trans (ent_77 _)) rfl (s_lt hn rfl) rfl rfl (Nat.le_of_ble_eq_true rfl) (Nat.le_of_ble_eq_true rfl) (Nat.zero_le _) (Nat.zero_le _) (fun v70 w => ?_)
              obtain ⟨q76, w⟩ := w
              refine v_if_eqI (tgt := 200) dX12_behindSum_192 (by decide) q76.1 q76.2 (fun c77 => ?_) (fun c77 => ?_)
              · replace w := w.1 c77
                refine v_bipushI dX12_behindSum_200 rfl ?_
                exact w
              · replace w := w.2 c77
                refine v_bipushI dX12_behindSum_195 rfl ?_
                refine v_goto (tgt := 202) dX12_behindSum_197 (by decide) ?_
                exact w
            · replace w := w.2 c69
              refine v_bipushI dX12_behindSum_181 rfl ?_
              refine v_goto (tgt := 202) dX12_behindSum_183 (by decide) ?_
              exact w
          · replace w := w.2 c27
            refine v_iconstI dX12_behindSum_170 ?_
            exact v_iret dX12_behindSum_171 rfl (Nat.zero_le _) (Nat.zero_le _) ⟨rfl, hf, _, _, rfl, hp, w⟩
        )
        refine v_icmp_neI (tgt := 163) dX12_behindSum_154 (by decide) q17.1 q17.2 (by decide) (by decide) (fun c78 => ?_) (fun c78 => ?_)
        · replace w := w.1 c78
          refine v_pick [2] rfl ?_
          exact w
        · replace w := w.2 c78
          refine v_iload_n dX12_behindSum_157 rfl ?_
          obtain ⟨q79, w⟩ := w
          refine v_if_neI (tgt := 163) dX12_behindSum_158 (by decide) q79.1 q79.2 (fun c80 => ?_) (fun c80 => ?_)
          · replace w := w.1 c80
            refine v_pick [2] rfl ?_
            exact w
          · replace w := w.2 c80
            refine v_iconstI dX12_behindSum_161 ?_
            exact v_iret dX12_behindSum_162 rfl (Nat.zero_le _) (Nat.zero_le _) ⟨rfl, hf, _, _, rfl, hp, w⟩
      · replace w := w.2 c18
        refine v_aload_n dX12_behindSum_108 rfl ?_
        refine v_aload_n dX12_behindSum_109 rfl ?_
        refine v_bipushI dX12_behindSum_110 rfl ?_
        refine v_callVIr dX12_behindSum_112 ml_X12_319 (so_X12_isSign hn hp  w) ((hp 77 (by decide)).trans (ent_77 _)) rfl (s_lt hn rfl) rfl rfl (Nat.le_of_ble_eq_true rfl) (Nat.le_of_ble_eq_true rfl) (Nat.zero_le _) (Nat.zero_le _) (fun v81 w => ?_)
        refine v_callVVw dX12_behindSum_115 ml_X12_285 (so_X12_must hn hp  w) ((hp 77 (by decide)).trans (ent_77 _)) rfl (s_lt hn rfl) rfl rfl (Nat.le_of_ble_eq_true rfl) (Nat.le_of_ble_eq_true rfl) (Nat.zero_le _) (Nat.zero_le _) (fun X88 h89 hp91 hf90 w => ?_)
        have hf92 := Fr.trans hf hf90
        refine v_aload_n dX12_behindSum_118 rfl ?_
        refine v_get dX12_behindSum_119 fl_X12_254 ((hp91 77 (by decide)).trans (ent_77 _)) rfl (s_lt hn rfl) ?_
        obtain ⟨q93, w⟩ := w
        refine v_if_neI (tgt := 150) dX12_behindSum_122 (by decide) q93.1 q93.2 (fun c94 => ?_) (fun c94 => ?_)
        · replace w := w.1 c94
          refine v_iconstI dX12_behindSum_150 ?_
          exact v_iret dX12_behindSum_151 rfl (Nat.zero_le _) (Nat.zero_le _) ⟨rfl, hf92, _, _, rfl, hp91, w⟩
        · replace w := w.2 c94
          refine v_aload_n dX12_behindSum_125 rfl ?_
          refine v_iconstI dX12_behindSum_126 ?_
          refine v_callVVw dX12_behindSum_127 ml_X12_350 (so_X12_settle hn hp91  w) ((hp91 77 (by decide)).trans (ent_77 _)) rfl (s_lt hn rfl) rfl rfl (Nat.le_of_ble_eq_true rfl) (Nat.le_of_ble_eq_true rfl) (Nat.zero_le _) (Nat.zero_le _) (fun X96 h97 hp99 hf98 w => ?_)
          have hf100 := Fr.trans hf92 hf98
          refine v_aload_n dX12_behindSum_130 rfl ?_
          refine v_dup dX12_behindSum_131 rfl ?_
          refine v_get dX12_behindSum_132 fl_X12_292 ((hp99 77 (by decide)).trans (ent_77 _)) rfl (s_lt hn rfl) ?_
          refine v_iconstI dX12_behindSum_135 ?_
          refine v_isubI dX12_behindSum_136 ?_
          refine v_put dX12_behindSum_137 fl_X12_292 ((hp99 77 (by decide)).trans (ent_77 _)) (s_lt hn rfl) (Nat.le_of_ble_eq_true rfl) (fun _ => ⟨rfl, rfl⟩) trivial (fun h101 E102 F103 => ?_)
          have hp104 := pic_st hp99 (show h101 77 = ent 77 (uI _ 24 ((X96 77 24) - 1)) from E102) F103
          have hf105 := Fr.up (c := 77) hf100 F103 rfl
          refine v_aload_n dX12_behindSum_140 rfl ?_
          refine v_dup dX12_behindSum_141 rfl ?_
          refine v_get dX12_behindSum_142 fl_X12_310 ((hp104 77 (by decide)).trans (ent_77 _)) rfl (s_lt hn rfl) ?_
          refine v_iconstI dX12_behindSum_145 ?_
          refine v_isubI dX12_behindSum_146 ?_
          refine v_put dX12_behindSum_147 fl_X12_310 ((hp104 77 (by decide)).trans (ent_77 _)) (s_lt hn rfl) (Nat.le_of_ble_eq_true rfl) (fun _ => ⟨rfl, rfl⟩) trivial (fun h106 E107 F108 => ?_)
          have hp109 := pic_st hp104 (show h106 77 = ent 77 (uI _ 25 (((x_st X96 77 24 ((X96 77 24) - 1)) 77 25) - 1)) from E107) F108
          have hf110 := Fr.up (c := 77) hf105 F108 rfl
          refine v_iconstI dX12_behindSum_150 ?_
          exact v_iret dX12_behindSum_151 rfl (Nat.zero_le _) (Nat.zero_le _) ⟨rfl, hf110, _, _, rfl, hp109, w⟩
    · replace w := w.2 c10
      refine v_aload_n dX12_behindSum_77 rfl ?_
      refine v_iload_n dX12_behindSum_78 rfl ?_
      refine v_callSIr dX12_behindSum_79 ml_X12_295 (so_X12_binds hn hp  w) rfl rfl (Nat.le_of_ble_eq_true rfl) (Nat.le_of_ble_eq_true rfl) (Nat.zero_le _) (Nat.zero_le _) (fun v111 w => ?_)
      refine v_callVVw dX12_behindSum_82 ml_X12_350 (so_X12_settle hn hp  w) ((hp 77 (by decide)).trans (ent_77 _)) rfl (s_lt hn rfl) rfl rfl (Nat.le_of_ble_eq_true rfl) (Nat.le_of_ble_eq_true rfl) (Nat.zero_le _) (Nat.zero_le _) (fun X118 h119 hp121 hf120 w => ?_)
      have hf122 := Fr.trans hf hf120
      refine v_aload_n dX12_behindSum_85 rfl ?_
      refine v_iload_n dX12_behindSum_86 rfl ?_
      refine v_iconstI dX12_behindSum_87 ?_
      refine v_callVVw dX12_behindSum_88 ml_X12_313 (so_X12_push hn hp121  w) ((hp121 77 (by decide)).trans (ent_77 _)) rfl (s_lt hn rfl) rfl rfl (Nat.le_of_ble_eq_true rfl) (Nat.le_of_ble_eq_true rfl) (Nat.zero_le _) (Nat.zero_le _) (fun X124 h125 hp127 hf126 w => ?_)
      have hf128 := Fr.trans hf122 hf126
      refine v_aload_n dX12_behindSum_91 rfl ?_
      refine v_callVVw dX12_behindSum_92 ml_X12_258 (so_X12_next hn hp127  w) ((hp127 77 (by decide)).trans (ent_77 _)) rfl (s_lt hn rfl) rfl rfl (Nat.le_of_ble_eq_true rfl) (Nat.le_of_ble_eq_true rfl) (Nat.zero_le _) (Nat.zero_le _) (fun X130 h131 hp133 hf132 w => ?_)
      have hf134 := Fr.trans hf128 hf132
      refine v_iconstI dX12_behindSum_95 ?_
      exact v_iret dX12_behindSum_96 rfl (Nat.zero_le _) (Nat.zero_le _) ⟨rfl, hf134, _, _, rfl, hp133, w⟩
  )
  obtain ⟨q135, w⟩ := w
  refine v_if_eqI (tgt := 14) dX12_behindSum_6 (by decide) q135.1 q135.2 (fun c136 => ?_) (fun c136 => ?_)
  · replace w := w.1 c136
    refine v_aload_n dX12_behindSum_14 rfl ?_
    refine v_bipushI dX12_behindSum_15 rfl ?_
    refine v_callVIr dX12_behindSum_17 ml_X12_319 (so_X12_isSign hn hp  w) ((hp 77 (by decide)).trans (ent_77 _)) rfl (s_lt hn rfl) rfl rfl (Nat.le_of_ble_eq_true rfl) (Nat.le_of_ble_eq_true rfl) (Nat.zero_le _) (Nat.zero_le _) (fun v137 w => ?_)
    obtain ⟨q143, w⟩ := w
    refine v_if_eqI (tgt := 28) dX12_behindSum_20 (by decide) q143.1 q143.2 (fun c144 => ?_) (fun c144 => ?_)
    · replace w := w.1 c144
      refine v_aload_n dX12_behindSum_28 rfl ?_
      refine v_bipushI dX12_behindSum_29 rfl ?_
      refine v_callVIr dX12_behindSum_31 ml_X12_319 (so_X12_isSign hn hp  w) ((hp 77 (by decide)).trans (ent_77 _)) rfl (s_lt hn rfl) rfl rfl (Nat.le_of_ble_eq_true rfl) (Nat.le_of_ble_eq_true rfl) (Nat.zero_le _) (Nat.zero_le _) (fun v145 w => ?_)
      obtain ⟨q151, w⟩ := w
      refine v_if_eqI (tgt := 42) dX12_behindSum_34 (by decide) q151.1 q151.2 (fun c152 => ?_) (fun c152 => ?_)
      · replace w := w.1 c152
        refine v_aload_n dX12_behindSum_42 rfl ?_
        refine v_bipushI dX12_behindSum_43 rfl ?_
        refine v_callVIr dX12_behindSum_45 ml_X12_319 (so_X12_isSign hn hp  w) ((hp 77 (by decide)).trans (ent_77 _)) rfl (s_lt hn rfl) rfl rfl (Nat.le_of_ble_eq_true rfl) (Nat.le_of_ble_eq_true rfl) (Nat.zero_le _) (Nat.zero_le _) (fun v153 w => ?_)
        obtain ⟨q159, w⟩ := w
        refine v_if_eqI (tgt := 56) dX12_behindSum_48 (by decide) q159.1 q159.2 (fun c160 => ?_) (fun c160 => ?_)
        · replace w := w.1 c160
          refine v_aload_n dX12_behindSum_56 rfl ?_
          refine v_bipushI dX12_behindSum_57 rfl ?_
          refine v_callVIr dX12_behindSum_59 ml_X12_319 (so_X12_isSign hn hp  w) ((hp 77 (by decide)).trans (ent_77 _)) rfl (s_lt hn rfl) rfl rfl (Nat.le_of_ble_eq_true rfl) (Nat.le_of_ble_eq_true rfl) (Nat.zero_le _) (Nat.zero_le _) (fun v161 w => ?_)
          obtain ⟨q167, w⟩ := w
          refine v_if_eqI (tgt := 70) dX12_behindSum_62 (by decide) q167.1 q167.2 (fun c168 => ?_) (fun c168 => ?_)
          · replace w := w.1 c168
            refine v_iconstI dX12_behindSum_70 ?_
            exact w
          · replace w := w.2 c168
            refine v_bipushI dX12_behindSum_65 rfl ?_
            refine v_goto (tgt := 71) dX12_behindSum_67 (by decide) ?_
            exact w
        · replace w := w.2 c160
          refine v_bipushI dX12_behindSum_51 rfl ?_
          refine v_goto (tgt := 71) dX12_behindSum_53 (by decide) ?_
          exact w
      · replace w := w.2 c152
        refine v_bipushI dX12_behindSum_37 rfl ?_
        refine v_goto (tgt := 71) dX12_behindSum_39 (by decide) ?_
        exact w
    · replace w := w.2 c144
      refine v_bipushI dX12_behindSum_23 rfl ?_
      refine v_goto (tgt := 71) dX12_behindSum_25 (by decide) ?_
      exact w
  · replace w := w.2 c136
    refine v_bipushI dX12_behindSum_9 rfl ?_
    refine v_goto (tgt := 71) dX12_behindSum_11 (by decide) ?_
    exact w
theorem dX12_behindTest_0 : decode cX12_behindTest 0 = .ok (.aload_n 0, 1) := by decide +kernel
theorem dX12_behindTest_1 : decode cX12_behindTest 1 = .ok (.ldc2_w 360, 3) := by decide +kernel
theorem dX12_behindTest_4 : decode cX12_behindTest 4 = .ok (.invokevirtual 306, 3) := by decide +kernel
theorem dX12_behindTest_7 : decode cX12_behindTest 7 = .ok (.istore_n 1, 1) := by decide +kernel
theorem dX12_behindTest_8 : decode cX12_behindTest 8 = .ok (.iload_n 1, 1) := by decide +kernel
theorem dX12_behindTest_9 : decode cX12_behindTest 9 = .ok (.ifCond .ne 13, 3) := by decide +kernel
theorem dX12_behindTest_12 : decode cX12_behindTest 12 = .ok (.aload_n 0, 1) := by decide +kernel
theorem dX12_behindTest_13 : decode cX12_behindTest 13 = .ok (.ldc2_w 362, 3) := by decide +kernel
theorem dX12_behindTest_16 : decode cX12_behindTest 16 = .ok (.invokevirtual 306, 3) := by decide +kernel
theorem dX12_behindTest_19 : decode cX12_behindTest 19 = .ok (.ifCond .eq 57, 3) := by decide +kernel
theorem dX12_behindTest_22 : decode cX12_behindTest 22 = .ok (.aload_n 0, 1) := by decide +kernel
theorem dX12_behindTest_23 : decode cX12_behindTest 23 = .ok (.iload_n 1, 1) := by decide +kernel
theorem dX12_behindTest_24 : decode cX12_behindTest 24 = .ok (.ifCond .eq 7, 3) := by decide +kernel
theorem dX12_behindTest_27 : decode cX12_behindTest 27 = .ok (.iconst 2, 1) := by decide +kernel
theorem dX12_behindTest_28 : decode cX12_behindTest 28 = .ok (.goto 4, 3) := by decide +kernel
theorem dX12_behindTest_31 : decode cX12_behindTest 31 = .ok (.iconst 1, 1) := by decide +kernel
theorem dX12_behindTest_32 : decode cX12_behindTest 32 = .ok (.invokevirtual 350, 3) := by decide +kernel
theorem dX12_behindTest_35 : decode cX12_behindTest 35 = .ok (.aload_n 0, 1) := by decide +kernel
theorem dX12_behindTest_36 : decode cX12_behindTest 36 = .ok (.iload_n 1, 1) := by decide +kernel
theorem dX12_behindTest_37 : decode cX12_behindTest 37 = .ok (.ifCond .eq 8, 3) := by decide +kernel
theorem dX12_behindTest_40 : decode cX12_behindTest 40 = .ok (.bipush 29, 2) := by decide +kernel
theorem dX12_behindTest_42 : decode cX12_behindTest 42 = .ok (.goto 5, 3) := by decide +kernel
theorem dX12_behindTest_45 : decode cX12_behindTest 45 = .ok (.bipush 30, 2) := by decide +kernel
theorem dX12_behindTest_47 : decode cX12_behindTest 47 = .ok (.aload_n 0, 1) := by decide +kernel
theorem dX12_behindTest_48 : decode cX12_behindTest 48 = .ok (.getfield 289, 3) := by decide +kernel
theorem dX12_behindTest_51 : decode cX12_behindTest 51 = .ok (.invokevirtual 313, 3) := by decide +kernel
theorem dX12_behindTest_54 : decode cX12_behindTest 54 = .ok (.aload_n 0, 1) := by decide +kernel
theorem dX12_behindTest_55 : decode cX12_behindTest 55 = .ok (.iload_n 1, 1) := by decide +kernel
theorem dX12_behindTest_56 : decode cX12_behindTest 56 = .ok (.ifCond .eq 8, 3) := by decide +kernel
theorem dX12_behindTest_59 : decode cX12_behindTest 59 = .ok (.bipush 29, 2) := by decide +kernel
theorem dX12_behindTest_61 : decode cX12_behindTest 61 = .ok (.goto 5, 3) := by decide +kernel
theorem dX12_behindTest_64 : decode cX12_behindTest 64 = .ok (.bipush 30, 2) := by decide +kernel
theorem dX12_behindTest_66 : decode cX12_behindTest 66 = .ok (.iconst 0, 1) := by decide +kernel
theorem dX12_behindTest_67 : decode cX12_behindTest 67 = .ok (.invokevirtual 298, 3) := by decide +kernel
theorem dX12_behindTest_70 : decode cX12_behindTest 70 = .ok (.aload_n 0, 1) := by decide +kernel
theorem dX12_behindTest_71 : decode cX12_behindTest 71 = .ok (.invokevirtual 258, 3) := by decide +kernel
theorem dX12_behindTest_74 : decode cX12_behindTest 74 = .ok (.iconst 0, 1) := by decide +kernel
theorem dX12_behindTest_75 : decode cX12_behindTest 75 = .ok (.ireturn, 1) := by decide +kernel
theorem dX12_behindTest_76 : decode cX12_behindTest 76 = .ok (.aload_n 0, 1) := by decide +kernel
theorem dX12_behindTest_77 : decode cX12_behindTest 77 = .ok (.invokevirtual 353, 3) := by decide +kernel
theorem dX12_behindTest_80 : decode cX12_behindTest 80 = .ok (.iconst (-1), 1) := by decide +kernel
theorem dX12_behindTest_81 : decode cX12_behindTest 81 = .ok (.if_icmp .ne 5, 3) := by decide +kernel
theorem dX12_behindTest_84 : decode cX12_behindTest 84 = .ok (.iconst 4, 1) := by decide +kernel
theorem dX12_behindTest_85 : decode cX12_behindTest 85 = .ok (.ireturn, 1) := by decide +kernel
theorem dX12_behindTest_86 : decode cX12_behindTest 86 = .ok (.aload_n 0, 1) := by decide +kernel
theorem dX12_behindTest_87 : decode cX12_behindTest 87 = .ok (.aload_n 0, 1) := by decide +kernel
theorem dX12_behindTest_88 : decode cX12_behindTest 88 = .ok (.bipush 41, 2) := by decide +kernel
theorem dX12_behindTest_90 : decode cX12_behindTest 90 = .ok (.invokevirtual 319, 3) := by decide +kernel
theorem dX12_behindTest_93 : decode cX12_behindTest 93 = .ok (.invokevirtual 285, 3) := by decide +kernel
theorem dX12_behindTest_96 : decode cX12_behindTest 96 = .ok (.aload_n 0, 1) := by decide +kernel
theorem dX12_behindTest_97 : decode cX12_behindTest 97 = .ok (.getfield 254, 3) := by decide +kernel
theorem dX12_behindTest_100 : decode cX12_behindTest 100 = .ok (.ifCond .ne 28, 3) := by decide +kernel
theorem dX12_behindTest_103 : decode cX12_behindTest 103 = .ok (.aload_n 0, 1) := by decide +kernel
theorem dX12_behindTest_104 : decode cX12_behindTest 104 = .ok (.iconst 1, 1) := by decide +kernel
theorem dX12_behindTest_105 : decode cX12_behindTest 105 = .ok (.invokevirtual 350, 3) := by decide +kernel
theorem dX12_behindTest_108 : decode cX12_behindTest 108 = .ok (.aload_n 0, 1) := by decide +kernel
theorem dX12_behindTest_109 : decode cX12_behindTest 109 = .ok (.dup, 1) := by decide +kernel
theorem dX12_behindTest_110 : decode cX12_behindTest 110 = .ok (.getfield 292, 3) := by decide +kernel
theorem dX12_behindTest_113 : decode cX12_behindTest 113 = .ok (.iconst 1, 1) := by decide +kernel
theorem dX12_behindTest_114 : decode cX12_behindTest 114 = .ok (.isub, 1) := by decide +kernel
theorem dX12_behindTest_115 : decode cX12_behindTest 115 = .ok (.putfield 292, 3) := by decide +kernel
theorem dX12_behindTest_118 : decode cX12_behindTest 118 = .ok (.aload_n 0, 1) := by decide +kernel
theorem dX12_behindTest_119 : decode cX12_behindTest 119 = .ok (.dup, 1) := by decide +kernel
theorem dX12_behindTest_120 : decode cX12_behindTest 120 = .ok (.getfield 310, 3) := by decide +kernel
theorem dX12_behindTest_123 : decode cX12_behindTest 123 = .ok (.iconst 1, 1) := by decide +kernel
theorem dX12_behindTest_124 : decode cX12_behindTest 124 = .ok (.isub, 1) := by decide +kernel
theorem dX12_behindTest_125 : decode cX12_behindTest 125 = .ok (.putfield 310, 3) := by decide +kernel
theorem dX12_behindTest_128 : decode cX12_behindTest 128 = .ok (.iconst 2, 1) := by decide +kernel
theorem dX12_behindTest_129 : decode cX12_behindTest 129 = .ok (.ireturn, 1) := by decide +kernel
def w_X12_behindTest (X : XT) (Q : Int → XT → Prop) : Prop :=
  w_X12_isWord  1476 X (fun (v1 : Int) => ∀ J7 : Prop, ((∀ J9 : Int → Prop, (∀ (v8 : Int), (w_X12_settle  v8 X (fun (X11 : XT) => ∀ J17 : Int → Prop, (∀ (v16 : Int), (w_X12_push  v16 (X11 77 18) X11 (fun (X19 : XT) => ∀ J25 : Int → Prop, (∀ (v24 : Int), (w_X12_emit  v24 0 X19 (fun (X27 : XT) => w_X12_next   X27 (fun (X33 : XT) => Q 0 X33))) → J25 v24) → R32 v1 ∧ (v1 = 0 → J25 30) ∧ (¬ v1 = 0 → J25 29))) → J17 v16) → R32 v1 ∧ (v1 = 0 → J17 30) ∧ (¬ v1 = 0 → J17 29))) → J9 v8) → R32 v1 ∧ (v1 = 0 → J9 1) ∧ (¬ v1 = 0 → J9 2)) → J7) → R32 v1 ∧ (¬ v1 = 0 → J7 ) ∧ (v1 = 0 → w_X12_isWord  498 X (fun (v46 : Int) => R32 v46 ∧ (v46 = 0 → w_X12_inner   X (fun (v54 : Int) => R32 v54 ∧ (¬ v54 = (-1) → w_X12_isSign  41 X (fun (v62 : Int) => w_X12_must  v62 X (fun (X69 : XT) => R32 (X69 77 14) ∧ (¬ (X69 77 14) = 0 → Q 2 X69) ∧ ((X69 77 14) = 0 → w_X12_settle  1 X69 (fun (X77 : XT) => Q 2 (x_st (x_st X77 77 24 ((X77 77 24) - 1)) 77 25 (((x_st X77 77 24 ((X77 77 24) - 1)) 77 25) - 1))))))) ∧ (v54 = (-1) → Q 4 X))) ∧ (¬ v46 = 0 → J7 ))))
set_option maxRecDepth 20000 in
theorem so_X12_behindTest {n : Nat} {h : Nat → sE} {X : XT} {Q : Int → XT → Prop} (hn : 115 ≤ n) (hp : Pic X h) (w : w_X12_behindTest   X Q) : Sp m_X12_behindTest 3 0 0 [.ref 77] n h (pIw n h Q) := by
  unfold w_X12_behindTest at w
  refine Sp.ofV (by decide +kernel) (Nat.le_of_ble_eq_true rfl) ?_
  have hf : Fr h h := fun _ _ => rfl
  refine v_aload_n dX12_behindTest_0 rfl ?_
  refine v_ldc2I 1476 dX12_behindTest_1 k_X12_360 rfl ?_
  refine v_callVIr dX12_behindTest_4 ml_X12_306 (so_X12_isWord hn hp  w) ((hp 77 (by decide)).trans (ent_77 _)) rfl (s_lt hn rfl) rfl rfl (Nat.le_of_ble_eq_true rfl) (Nat.le_of_ble_eq_true rfl) (Nat.zero_le _) (Nat.zero_le _) (fun v1 w => ?_)
  refine v_istore_n dX12_behindTest_7 (Nat.le_of_ble_eq_true rfl) ?_
  refine v_iload_n dX12_behindTest_8 rfl ?_
  replace w := w (V (m_X12_behindTest, 3, 0, 0, n, pIw n h Q, s_G0) 0 0 n h 22 [(0, .ref 77), (1, .int (iI v1))] []) (by
    intro  w
    refine v_aload_n dX12_behindTest_22 rfl ?_
    refine v_iload_n dX12_behindTest_23 rfl ?_
    replace w := w (fun (v8 : Int) => V (m_X12_behindTest, 3, 0, 0, n, pIw n h Q, s_G0) 0 0 n h 32 [(0, .ref 77), (1, .int (iI v1))] [.int (iI v8), .ref 77]) (by
      intro v8 w
      refine v_callVVw dX12_behindTest_32 ml_X12_350 (so_X12_settle hn hp  w) ((hp 77 (by decide)).trans (ent_77 _)) rfl (s_lt hn rfl) rfl rfl (Nat.le_of_ble_eq_true rfl) (Nat.le_of_ble_eq_true rfl) (Nat.zero_le _) (Nat.zero_le _) (fun X11 h12 hp14 hf13 w => ?_)
      have hf15 := Fr.trans hf hf13
      refine v_aload_n dX12_behindTest_35 rfl ?_
      refine v_iload_n dX12_behindTest_36 rfl ?_
      replace w := w (fun (v16 : Int) => V (m_X12_behindTest, 3, 0, 0, n, pIw n h Q, s_G0) 0 0 n h12 47 [(0, .ref 77), (1, .int (iI v1))] [.int (iI v16), .ref 77]) (by
        intro v16 w
        refine v_aload_n dX12_behindTest_47 rfl ?_
        refine v_get dX12_behindTest_48 fl_X12_289 ((hp14 77 (by decide)).trans (ent_77 _)) rfl (s_lt hn rfl) ?_
        refine v_callVVw dX12_behindTest_51 ml_X12_313 (so_X12_push hn hp14  w) ((hp14 77 (by decide)).trans (ent_77 _)) rfl (s_lt hn rfl) rfl rfl (Nat.le_of_ble_eq_true rfl) (Nat.le_of_ble_eq_true rfl) (Nat.zero_le _) (Nat.zero_le _) (fun X19 h20 hp22 hf21 w => ?_)
        have hf23 := Fr.trans hf15 hf21
        refine v_aload_n dX12_behindTest_54 rfl ?_
        refine v_iload_n dX12_behindTest_55 rfl ?_
        replace w := w (fun (v24 : Int) => V (m_X12_behindTest, 3, 0, 0, n, pIw n h Q, s_G0) 0 0 n h20 66 [(0, .ref 77)] [.int (iI v24), .ref 77]) (by
          intro v24 w
          refine v_iconstI dX12_behindTest_66 ?_
          refine v_callVVw dX12_behindTest_67 ml_X12_298 (so_X12_emit hn hp22  w) ((hp22 77 (by decide)).trans (ent_77 _)) rfl (s_lt hn rfl) rfl rfl (Nat.le_of_ble_eq_true rfl) (Nat.le_of_ble_eq_true rfl) (Nat.zero_le _) (Nat.zero_le _) (fun X27 h28 hp30 hf29 w => ?_)
          have hf31 := Fr.trans hf23 hf29
          refine v_aload_n dX12_behindTest_70 rfl ?_
          refine v_callVVw dX12_behindTest_71 ml_X12_258 (so_X12_next hn hp30  w) ((hp30 77 (by decide)).trans (ent_77 _)) rfl (s_lt hn rfl) rfl rfl (Nat.le_of_ble_eq_true rfl) (Nat.le_of_ble_eq_true rfl) (Nat.zero_le _) (Nat.zero_le _) (fun X33 h34 hp36 hf35 w => ?_)
          have hf37 := Fr.trans hf31 hf35
          refine v_iconstI dX12_behindTest_74 ?_
          exact v_iret dX12_behindTest_75 rfl (Nat.zero_le _) (Nat.zero_le _) ⟨rfl, hf37, _, _, rfl, hp36, w⟩
        )
        obtain ⟨q38, w⟩ := w
        refine v_if_eqI (tgt := 64) dX12_behindTest_56 (by decide) q38.1 q38.2 (fun c39 => ?_) (fun c39 => ?_)
        · replace w := w.1 c39
          refine v_bipushI dX12_behindTest_64 rfl ?_
          refine v_pick [0] rfl ?_
          exact w
        · replace w := w.2 c39
          refine v_bipushI dX12_behindTest_59 rfl ?_
          refine v_goto (tgt := 66) dX12_behindTest_61 (by decide) ?_
          refine v_pick [0] rfl ?_
          exact w
      )
      obtain ⟨q40, w⟩ := w
      refine v_if_eqI (tgt := 45) dX12_behindTest_37 (by decide) q40.1 q40.2 (fun c41 => ?_) (fun c41 => ?_)
      · replace w := w.1 c41
        refine v_bipushI dX12_behindTest_45 rfl ?_
        exact w
      · replace w := w.2 c41
        refine v_bipushI dX12_behindTest_40 rfl ?_
        refine v_goto (tgt := 47) dX12_behindTest_42 (by decide) ?_
        exact w
    )
    obtain ⟨q42, w⟩ := w
    refine v_if_eqI (tgt := 31) dX12_behindTest_24 (by decide) q42.1 q42.2 (fun c43 => ?_) (fun c43 => ?_)
    · replace w := w.1 c43
      refine v_iconstI dX12_behindTest_31 ?_
      exact w
    · replace w := w.2 c43
      refine v_iconstI dX12_behindTest_27 ?_
      refine v_goto (tgt := 32) dX12_behindTest_28 (by decide) ?_
      exact w
  )
  obtain ⟨q44, w⟩ := w
  refine v_if_neI (tgt := 22) dX12_behindTest_9 (by decide) q44.1 q44.2 (fun c45 => ?_) (fun c45 => ?_)
  · replace w := w.1 c45
    refine v_pick [1, 0] rfl ?_
    exact w
  · replace w := w.2 c45
    refine v_aload_n dX12_behindTest_12 rfl ?_
    refine v_ldc2I 498 dX12_behindTest_13 k_X12_362 rfl ?_
    refine v_callVIr dX12_behindTest_16 ml_X12_306 (so_X12_isWord hn hp  w) ((hp 77 (by decide)).trans (ent_77 _)) rfl (s_lt hn rfl) rfl rfl (Nat.le_of_ble_eq_true rfl) (Nat.le_of_ble_eq_true rfl) (Nat.zero_le _) (Nat.zero_le _) (fun v46 w => ?_)
    obtain ⟨q52, w⟩ := w
    refine v_if_eqI (tgt := 76) dX12_behindTest_19 (by decide) q52.1 q52.2 (fun c53 => ?_) (fun c53 => ?_)
    · replace w := w.1 c53
      refine v_aload_n dX12_behindTest_76 rfl ?_
      refine v_callVIr dX12_behindTest_77 ml_X12_353 (so_X12_inner hn hp  w) ((hp 77 (by decide)).trans (ent_77 _)) rfl (s_lt hn rfl) rfl rfl (Nat.le_of_ble_eq_true rfl) (Nat.le_of_ble_eq_true rfl) (Nat.zero_le _) (Nat.zero_le _) (fun v54 w => ?_)
      refine v_iconstI dX12_behindTest_80 ?_
      obtain ⟨q60, w⟩ := w
      refine v_icmp_neI (tgt := 86) dX12_behindTest_81 (by decide) q60.1 q60.2 (by decide) (by decide) (fun c61 => ?_) (fun c61 => ?_)
      · replace w := w.1 c61
        refine v_aload_n dX12_behindTest_86 rfl ?_
        refine v_aload_n dX12_behindTest_87 rfl ?_
        refine v_bipushI dX12_behindTest_88 rfl ?_
        refine v_callVIr dX12_behindTest_90 ml_X12_319 (so_X12_isSign hn hp  w) ((hp 77 (by decide)).trans (ent_77 _)) rfl (s_lt hn rfl) rfl rfl (Nat.le_of_ble_eq_true rfl) (Nat.le_of_ble_eq_true rfl) (Nat.zero_le _) (Nat.zero_le _) (fun v62 w => ?_)
        refine v_callVVw dX12_behindTest_93 ml_X12_285 (so_X12_must hn hp  w) ((hp 77 (by decide)).trans (ent_77 _)) rfl (s_lt hn rfl) rfl rfl (Nat.le_of_ble_eq_true rfl) (Nat.le_of_ble_eq_true rfl) (Nat.zero_le _) (Nat.zero_le _) (fun X69 h70 hp72 hf71 w => ?_)
        have hf73 := Fr.trans hf hf71
        refine v_aload_n dX12_behindTest_96 rfl ?_
        refine v_get dX12_behindTest_97 fl_X12_254 ((hp72 77 (by decide)).trans (ent_77 _)) rfl (s_lt hn rfl) ?_
        obtain ⟨q74, w⟩ := w
        refine v_if_neI (tgt := 128) dX12_behindTest_100 (by decide) q74.1 q74.2 (fun c75 => ?_) (fun c75 => ?_)
        · replace w := w.1 c75
          refine v_iconstI dX12_behindTest_128 ?_
          exact v_iret dX12_behindTest_129 rfl (Nat.zero_le _) (Nat.zero_le _) ⟨rfl, hf73, _, _, rfl, hp72, w⟩
        · replace w := w.2 c75
          refine v_aload_n dX12_behindTest_103 rfl ?_
          refine v_iconstI dX12_behindTest_104 ?_
          refine v_callVVw dX12_behindTest_105 ml_X12_350 (so_X12_settle hn hp72  w) ((hp72 77 (by decide)).trans (ent_77 _)) rfl (s_lt hn rfl) rfl rfl (Nat.le_of_ble_eq_true rfl) (Nat.le_of_ble_eq_true rfl) (Nat.zero_le _) (Nat.zero_le _) (fun X77 h78 hp80 hf79 w => ?_)
          have hf81 := Fr.trans hf73 hf79
          refine v_aload_n dX12_behindTest_108 rfl ?_
          refine v_dup dX12_behindTest_109 rfl ?_
          refine v_get dX12_behindTest_110 fl_X12_292 ((hp80 77 (by decide)).trans (ent_77 _)) rfl (s_lt hn rfl) ?_
          refine v_iconstI dX12_behindTest_113 ?_
          refine v_isubI dX12_behindTest_114 ?_
          refine v_put dX12_behindTest_115 fl_X12_292 ((hp80 77 (by decide)).trans (ent_77 _)) (s_lt hn rfl) (Nat.le_of_ble_eq_true rfl) (fun _ => ⟨rfl, rfl⟩) trivial (fun h82 E83 F84 => ?_)
          have hp85 := pic_st hp80 (show h82 77 = ent 77 (uI _ 24 ((X77 77 24) - 1)) from E83) F84
          have hf86 := Fr.up (c := 77) hf81 F84 rfl
          refine v_aload_n dX12_behindTest_118 rfl ?_
          refine v_dup dX12_behindTest_119 rfl ?_
          refine v_get dX12_behindTest_120 fl_X12_310 ((hp85 77 (by decide)).trans (ent_77 _)) rfl (s_lt hn rfl) ?_
          refine v_iconstI dX12_behindTest_123 ?_
          refine v_isubI dX12_behindTest_124 ?_
          refine v_put dX12_behindTest_125 fl_X12_310 ((hp85 77 (by decide)).trans (ent_77 _)) (s_lt hn rfl) (Nat.le_of_ble_eq_true rfl) (fun _ => ⟨rfl, rfl⟩) trivial (fun h87 E88 F89 => ?_)
          have hp90 := pic_st hp85 (show h87 77 = ent 77 (uI _ 25 (((x_st X77 77 24 ((X77 77 24) - 1)) 77 25) - 1)) from E88) F89
          have hf91 := Fr.up (c := 77) hf86 F89 rfl
          refine v_iconstI dX12_behindTest_128 ?_
          exact v_iret dX12_behindTest_129 rfl (Nat.zero_le _) (Nat.zero_le _) ⟨rfl, hf91, _, _, rfl, hp90, w⟩
      · replace w := w.2 c61
        refine v_iconstI dX12_behindTest_84 ?_
        exact v_iret dX12_behindTest_85 rfl (Nat.zero_le _) (Nat.zero_le _) ⟨rfl, hf, _, _, rfl, hp, w⟩
    · replace w := w.2 c53
      refine v_pick [1, 0] rfl ?_
      exact w
theorem dX12_readExpression_0 : decode cX12_readExpression 0 = .ok (.aload_n 0, 1) := by decide +kernel
theorem dX12_readExpression_1 : decode cX12_readExpression 1 = .ok (.iconst 0, 1) := by decide +kernel
theorem dX12_readExpression_2 : decode cX12_readExpression 2 = .ok (.putfield 292, 3) := by decide +kernel
theorem dX12_readExpression_5 : decode cX12_readExpression 5 = .ok (.aload_n 0, 1) := by decide +kernel
theorem dX12_readExpression_6 : decode cX12_readExpression 6 = .ok (.iconst 0, 1) := by decide +kernel
theorem dX12_readExpression_7 : decode cX12_readExpression 7 = .ok (.putfield 310, 3) := by decide +kernel
theorem dX12_readExpression_10 : decode cX12_readExpression 10 = .ok (.iload_n 1, 1) := by decide +kernel
theorem dX12_readExpression_11 : decode cX12_readExpression 11 = .ok (.ifCond .eq 7, 3) := by decide +kernel
theorem dX12_readExpression_14 : decode cX12_readExpression 14 = .ok (.iconst 0, 1) := by decide +kernel
theorem dX12_readExpression_15 : decode cX12_readExpression 15 = .ok (.goto 4, 3) := by decide +kernel
theorem dX12_readExpression_18 : decode cX12_readExpression 18 = .ok (.iconst 1, 1) := by decide +kernel
theorem dX12_readExpression_19 : decode cX12_readExpression 19 = .ok (.istore_n 2, 1) := by decide +kernel
theorem dX12_readExpression_20 : decode cX12_readExpression 20 = .ok (.aload_n 0, 1) := by decide +kernel
theorem dX12_readExpression_21 : decode cX12_readExpression 21 = .ok (.getfield 254, 3) := by decide +kernel
theorem dX12_readExpression_24 : decode cX12_readExpression 24 = .ok (.ifCond .ne 52, 3) := by decide +kernel
theorem dX12_readExpression_27 : decode cX12_readExpression 27 = .ok (.iload_n 2, 1) := by decide +kernel
theorem dX12_readExpression_28 : decode cX12_readExpression 28 = .ok (.iconst 4, 1) := by decide +kernel
theorem dX12_readExpression_29 : decode cX12_readExpression 29 = .ok (.if_icmp .eq 47, 3) := by decide +kernel
theorem dX12_readExpression_32 : decode cX12_readExpression 32 = .ok (.iload_n 2, 1) := by decide +kernel
theorem dX12_readExpression_33 : decode cX12_readExpression 33 = .ok (.ifCond .ne 10, 3) := by decide +kernel
theorem dX12_readExpression_36 : decode cX12_readExpression 36 = .ok (.aload_n 0, 1) := by decide +kernel
theorem dX12_readExpression_37 : decode cX12_readExpression 37 = .ok (.invokevirtual 364, 3) := by decide +kernel
theorem dX12_readExpression_40 : decode cX12_readExpression 40 = .ok (.goto 32, 3) := by decide +kernel
theorem dX12_readExpression_43 : decode cX12_readExpression 43 = .ok (.iload_n 2, 1) := by decide +kernel
theorem dX12_readExpression_44 : decode cX12_readExpression 44 = .ok (.iconst 1, 1) := by decide +kernel
theorem dX12_readExpression_45 : decode cX12_readExpression 45 = .ok (.if_icmp .ne 10, 3) := by decide +kernel
theorem dX12_readExpression_48 : decode cX12_readExpression 48 = .ok (.aload_n 0, 1) := by decide +kernel
theorem dX12_readExpression_49 : decode cX12_readExpression 49 = .ok (.invokevirtual 347, 3) := by decide +kernel
theorem dX12_readExpression_52 : decode cX12_readExpression 52 = .ok (.goto 20, 3) := by decide +kernel
theorem dX12_readExpression_55 : decode cX12_readExpression 55 = .ok (.iload_n 2, 1) := by decide +kernel
theorem dX12_readExpression_56 : decode cX12_readExpression 56 = .ok (.iconst 3, 1) := by decide +kernel
theorem dX12_readExpression_57 : decode cX12_readExpression 57 = .ok (.if_icmp .ne 11, 3) := by decide +kernel
theorem dX12_readExpression_60 : decode cX12_readExpression 60 = .ok (.aload_n 0, 1) := by decide +kernel
theorem dX12_readExpression_61 : decode cX12_readExpression 61 = .ok (.iload_n 1, 1) := by decide +kernel
theorem dX12_readExpression_62 : decode cX12_readExpression 62 = .ok (.invokevirtual 367, 3) := by decide +kernel
theorem dX12_readExpression_65 : decode cX12_readExpression 65 = .ok (.goto 7, 3) := by decide +kernel
theorem dX12_readExpression_68 : decode cX12_readExpression 68 = .ok (.aload_n 0, 1) := by decide +kernel
theorem dX12_readExpression_69 : decode cX12_readExpression 69 = .ok (.invokevirtual 371, 3) := by decide +kernel
theorem dX12_readExpression_72 : decode cX12_readExpression 72 = .ok (.istore_n 2, 1) := by decide +kernel
theorem dX12_readExpression_73 : decode cX12_readExpression 73 = .ok (.goto (-53), 3) := by decide +kernel
theorem dX12_readExpression_76 : decode cX12_readExpression 76 = .ok (.aload_n 0, 1) := by decide +kernel
theorem dX12_readExpression_77 : decode cX12_readExpression 77 = .ok (.iconst 1, 1) := by decide +kernel
theorem dX12_readExpression_78 : decode cX12_readExpression 78 = .ok (.invokevirtual 350, 3) := by decide +kernel
theorem dX12_readExpression_81 : decode cX12_readExpression 81 = .ok (.return_, 1) := by decide +kernel
def w_X12_readExpression (a0 : Int) (X : XT) (Q : XT → Prop) : Prop :=
  ∀ J12 : Int → Prop, (∀ (v11 : Int), (∃ (I15 : Int → XT → Prop) (m16 : Int → XT → Nat), I15 v11 (x_st (x_st X 77 24 0) 77 25 0) ∧ ∀ (x13 : Int) (X14 : XT), I15 x13 X14 → R32 (X14 77 14) ∧ (¬ (X14 77 14) = 0 → w_X12_settle  1 X14 (fun (X30 : XT) => Q X30)) ∧ ((X14 77 14) = 0 → R32 x13 ∧ (x13 = 4 → w_X12_settle  1 X14 (fun (X38 : XT) => Q X38)) ∧ (¬ x13 = 4 → (¬ x13 = 0 → (¬ x13 = 1 → (¬ x13 = 3 → w_X12_behindTest   X14 (fun (v46 : Int) (X47 : XT) => I15 v46 X47 ∧ m16 v46 X47 < m16 x13 X14)) ∧ (x13 = 3 → w_X12_behindSum  a0 X14 (fun (v52 : Int) (X53 : XT) => I15 v52 X53 ∧ m16 v52 X53 < m16 x13 X14))) ∧ (x13 = 1 → w_X12_readPart   X14 (fun (v58 : Int) (X59 : XT) => I15 v58 X59 ∧ m16 v58 X59 < m16 x13 X14))) ∧ (x13 = 0 → w_X12_readPlain   X14 (fun (v64 : Int) (X65 : XT) => I15 v64 X65 ∧ m16 v64 X65 < m16 x13 X14))))) → J12 v11) → R32 a0 ∧ (a0 = 0 → J12 1) ∧ (¬ a0 = 0 → J12 0)
set_option maxRecDepth 20000 in
theorem so_X12_readExpression {n : Nat} {h : Nat → sE} {X : XT} {a0 : Int} {Q : XT → Prop} (hn : 115 ≤ n) (hp : Pic X h) (w : w_X12_readExpression  a0 X Q) : Sp m_X12_readExpression 6 0 0 [.ref 77, .int (iI a0)] n h (pVw n h Q) := by
  unfold w_X12_readExpression at w
  refine Sp.ofV (by decide +kernel) (Nat.le_of_ble_eq_true rfl) ?_
  have hf : Fr h h := fun _ _ => rfl
  refine v_aload_n dX12_readExpression_0 rfl ?_
  refine v_iconstI dX12_readExpression_1 ?_
  refine v_put dX12_readExpression_2 fl_X12_292 ((hp 77 (by decide)).trans (ent_77 _)) (s_lt hn rfl) (Nat.le_of_ble_eq_true rfl) (fun _ => ⟨rfl, rfl⟩) trivial (fun h1 E2 F3 => ?_)
  have hp4 := pic_st hp (show h1 77 = ent 77 (uI _ 24 0) from E2) F3
  have hf5 := Fr.up (c := 77) hf F3 rfl
  refine v_aload_n dX12_readExpression_5 rfl ?_
  refine v_iconstI dX12_readExpression_6 ?_
  refine v_put dX12_readExpression_7 fl_X12_310 ((hp4 77 (by decide)).trans (ent_77 _)) (s_lt hn rfl) (Nat.le_of_ble_eq_true rfl) (fun _ => ⟨rfl, rfl⟩) trivial (fun h6 E7 F8 => ?_)
  have hp9 := pic_st hp4 (show h6 77 = ent 77 (uI _ 25 0) from E7) F8
  have hf10 := Fr.up (c := 77) hf5 F8 rfl
  refine v_iload_n dX12_readExpression_10 rfl ?_
  replace w := w (fun (v11 : Int) => V (m_X12_readExpression, 6, 0, 0, n, pVw n h Q, s_G0) 0 0 n h6 19 [(0, .ref 77), (1, .int (iI a0))] [.int (iI v11)]) (by
    intro v11 w
    refine v_istore_n dX12_readExpression_19 (Nat.le_of_ble_eq_true rfl) ?_
    refine v_pick [1, 2, 0] rfl ?_
    obtain ⟨I15, m16, wi19, wl18⟩ := w
    have hL20 : ∀ (N23 : Nat) (x13 : Int) (X14 : XT) (h24 : Nat → sE), m16 x13 X14 < N23 → I15 x13 X14 → Pic X14 h24 → Fr h h24 → V (m_X12_readExpression, 6, 0, 0, n, pVw n h Q, s_G0) 0 0 n h24 20 [(0, .ref 77), (1, .int (iI a0)), (2, .int (iI x13))] [] := by
      intro N23
      induction N23 with
      | zero => intro x13 X14 h24 hm21; exact absurd hm21 (Nat.not_lt_zero _)
      | succ N23 ih17 =>
        intro x13 X14 h24 hm21 hI22 hp25 hf26
        have w := wl18 x13 X14 hI22
        refine v_aload_n dX12_readExpression_20 rfl ?_
        refine v_get dX12_readExpression_21 fl_X12_254 ((hp25 77 (by decide)).trans (ent_77 _)) rfl (s_lt hn rfl) ?_
        obtain ⟨q27, w⟩ := w
        refine v_if_neI (tgt := 76) dX12_readExpression_24 (by decide) q27.1 q27.2 (fun c28 => ?_) (fun c28 => ?_)
        · replace w := w.1 c28
          refine v_aload_n dX12_readExpression_76 rfl ?_
          refine v_iconstI dX12_readExpression_77 ?_
          refine v_callVVw dX12_readExpression_78 ml_X12_350 (so_X12_settle hn hp25  w) ((hp25 77 (by decide)).trans (ent_77 _)) rfl (s_lt hn rfl) rfl rfl (Nat.le_of_ble_eq_true rfl) (Nat.le_of_ble_eq_true rfl) (Nat.zero_le _) (Nat.zero_le _) (fun X30 h31 hp33 hf32 w => ?_)
          have hf34 := Fr.trans hf26 hf32
          exact v_vret dX12_readExpression_81 rfl (Nat.zero_le _) (Nat.zero_le _) ⟨rfl, hf34, _, rfl, hp33, w⟩
        · replace w := w.2 c28
          refine v_iload_n dX12_readExpression_27 rfl ?_
          refine v_iconstI dX12_readExpression_28 ?_
          obtain ⟨q35, w⟩ := w
          refine v_icmp_eqI (tgt := 76) dX12_readExpression_29 (by decide) q35.1 q35.2 (by decide) (by decide) (fun c36 => ?_) (fun c36 => ?_)
          · replace w := w.1 c36
            refine v_aload_n dX12_readExpression_76 rfl ?_
            refine v_iconstI dX12_readExpression_77 ?_
            refine v_callVVw dX12_readExpression_78 ml_X12_350 (so_X12_settle hn hp25  w) ((hp25 77 (by decide)).trans (ent_77 _)) rfl (s_lt hn rfl) rfl rfl (Nat.le_of_ble_eq_true rfl) (Nat.le_of_ble_eq_true rfl) (Nat.zero_le _) (Nat.zero_le _) (fun X38 h39 hp41 hf40 w => ?_)
            have hf42 := Fr.trans hf26 hf40
            exact v_vret dX12_readExpression_81 rfl (Nat.zero_le _) (Nat.zero_le _) ⟨rfl, hf42, _, rfl, hp41, w⟩
          · replace w := w.2 c36
            refine v_iload_n dX12_readExpression_32 rfl ?_
            refine v_if_neI (tgt := 43) dX12_readExpression_33 (by decide) q35.1 q35.2 (fun c43 => ?_) (fun c43 => ?_)
            · replace w := w.1 c43
              refine v_iload_n dX12_readExpression_43 rfl ?_
              refine v_iconstI dX12_readExpression_44 ?_
              refine v_icmp_neI (tgt := 55) dX12_readExpression_45 (by decide) q35.1 q35.2 (by decide) (by decide) (fun c44 => ?_) (fun c44 => ?_)
              · replace w := w.1 c44
                refine v_iload_n dX12_readExpression_55 rfl ?_
                refine v_iconstI dX12_readExpression_56 ?_
                refine v_icmp_neI (tgt := 68) dX12_readExpression_57 (by decide) q35.1 q35.2 (by decide) (by decide) (fun c45 => ?_) (fun c45 => ?_)
                · replace w := w.1 c45
                  refine v_aload_n dX12_readExpression_68 rfl ?_
                  refine v_callVIw dX12_readExpression_69 ml_X12_371 (so_X12_behindTest hn hp25  w) ((hp25 77 (by decide)).trans (ent_77 _)) rfl (s_lt hn rfl) rfl rfl (Nat.le_of_ble_eq_true rfl) (Nat.le_of_ble_eq_true rfl) (Nat.zero_le _) (Nat.zero_le _) (fun v46 X47 h48 hp50 hf49 w => ?_)
                  have hf51 := Fr.trans hf26 hf49
                  refine v_istore_n dX12_readExpression_72 (Nat.le_of_ble_eq_true rfl) ?_
                  refine v_goto (tgt := 20) dX12_readExpression_73 (by decide) ?_
                  refine v_pick [1, 2, 0] rfl ?_
                  exact ih17 _ _ _ (Nat.lt_of_lt_of_le w.2 (Nat.le_of_lt_succ hm21)) w.1 hp50 hf51
                · replace w := w.2 c45
                  refine v_aload_n dX12_readExpression_60 rfl ?_
                  refine v_iload_n dX12_readExpression_61 rfl ?_
                  refine v_callVIw dX12_readExpression_62 ml_X12_367 (so_X12_behindSum hn hp25  w) ((hp25 77 (by decide)).trans (ent_77 _)) rfl (s_lt hn rfl) rfl rfl (Nat.le_of_ble_eq_true rfl) (Nat.le_of_ble_eq_true rfl) (Nat.zero_le _) (Nat.zero_le _) (fun v52 X53 h54 hp56 hf55 w => ?_)
                  have hf57 := Fr.trans hf26 hf55
                  refine v_goto (tgt := 72) dX12_readExpression_65 (by decide) ?_
                  refine v_istore_n dX12_readExpression_72 (Nat.le_of_ble_eq_true rfl) ?_
                  refine v_goto (tgt := 20) dX12_readExpression_73 (by decide) ?_
                  refine v_pick [1, 2, 0] rfl ?_
                  exact ih17 _ _ _ (Nat.lt_of_lt_of_le w.2 (Nat.le_of_lt_succ hm21)) w.1 hp56 hf57
              · replace w := w.2 c44
                refine v_aload_n dX12_readExpression_48 rfl ?_
                refine v_callVIw dX12_readExpression_49 ml_X12_347 (so_X12_readPart hn hp25  w) ((hp25 77 (by decide)).trans (ent_77 _)) rfl (s_lt hn rfl) rfl rfl (Nat.le_of_ble_eq_true rfl) (Nat.le_of_ble_eq_true rfl) (Nat.zero_le _) (Nat.zero_le _) (fun v58 X59 h60 hp62 hf61 w => ?_)
                have hf63 := Fr.trans hf26 hf61
                refine v_goto (tgt := 72) dX12_readExpression_52 (by decide) ?_
                refine v_istore_n dX12_readExpression_72 (Nat.le_of_ble_eq_true rfl) ?_
                refine v_goto (tgt := 20) dX12_readExpression_73 (by decide) ?_
                refine v_pick [1, 2, 0] rfl ?_
                exact ih17 _ _ _ (Nat.lt_of_lt_of_le w.2 (Nat.le_of_lt_succ hm21)) w.1 hp62 hf63
            · replace w := w.2 c43
              refine v_aload_n dX12_readExpression_36 rfl ?_
              refine v_callVIw dX12_readExpression_37 ml_X12_364 (so_X12_readPlain hn hp25  w) ((hp25 77 (by decide)).trans (ent_77 _)) rfl (s_lt hn rfl) rfl rfl (Nat.le_of_ble_eq_true rfl) (Nat.le_of_ble_eq_true rfl) (Nat.zero_le _) (Nat.zero_le _) (fun v64 X65 h66 hp68 hf67 w => ?_)
              have hf69 := Fr.trans hf26 hf67
              refine v_goto (tgt := 72) dX12_readExpression_40 (by decide) ?_
              refine v_istore_n dX12_readExpression_72 (Nat.le_of_ble_eq_true rfl) ?_
              refine v_goto (tgt := 20) dX12_readExpression_73 (by decide) ?_
              refine v_pick [1, 2, 0] rfl ?_
              exact ih17 _ _ _ (Nat.lt_of_lt_of_le w.2 (Nat.le_of_lt_succ hm21)) w.1 hp68 hf69
    exact hL20 _ _ _ _ (Nat.lt_succ_self _) wi19 hp9 hf10
  )
  obtain ⟨q70, w⟩ := w
  refine v_if_eqI (tgt := 18) dX12_readExpression_11 (by decide) q70.1 q70.2 (fun c71 => ?_) (fun c71 => ?_)
  · replace w := w.1 c71
    refine v_iconstI dX12_readExpression_18 ?_
    exact w
  · replace w := w.2 c71
    refine v_iconstI dX12_readExpression_14 ?_
    refine v_goto (tgt := 19) dX12_readExpression_15 (by decide) ?_
    exact w
theorem dX12_readLaw_0 : decode cX12_readLaw 0 = .ok (.iconst (-1), 1) := by decide +kernel
theorem dX12_readLaw_1 : decode cX12_readLaw 1 = .ok (.istore_n 1, 1) := by decide +kernel
theorem dX12_readLaw_2 : decode cX12_readLaw 2 = .ok (.iconst 0, 1) := by decide +kernel
theorem dX12_readLaw_3 : decode cX12_readLaw 3 = .ok (.istore_n 2, 1) := by decide +kernel
theorem dX12_readLaw_4 : decode cX12_readLaw 4 = .ok (.iload_n 2, 1) := by decide +kernel
theorem dX12_readLaw_5 : decode cX12_readLaw 5 = .ok (.iconst 4, 1) := by decide +kernel
theorem dX12_readLaw_6 : decode cX12_readLaw 6 = .ok (.if_icmp .ge 28, 3) := by decide +kernel
theorem dX12_readLaw_9 : decode cX12_readLaw 9 = .ok (.aload_n 0, 1) := by decide +kernel
theorem dX12_readLaw_10 : decode cX12_readLaw 10 = .ok (.aload_n 0, 1) := by decide +kernel
theorem dX12_readLaw_11 : decode cX12_readLaw 11 = .ok (.getfield 90, 3) := by decide +kernel
theorem dX12_readLaw_14 : decode cX12_readLaw 14 = .ok (.iload_n 2, 1) := by decide +kernel
theorem dX12_readLaw_15 : decode cX12_readLaw 15 = .ok (.laload, 1) := by decide +kernel
theorem dX12_readLaw_16 : decode cX12_readLaw 16 = .ok (.invokevirtual 306, 3) := by decide +kernel
theorem dX12_readLaw_19 : decode cX12_readLaw 19 = .ok (.ifCond .eq 7, 3) := by decide +kernel
theorem dX12_readLaw_22 : decode cX12_readLaw 22 = .ok (.iload_n 2, 1) := by decide +kernel
theorem dX12_readLaw_23 : decode cX12_readLaw 23 = .ok (.goto 4, 3) := by decide +kernel
theorem dX12_readLaw_26 : decode cX12_readLaw 26 = .ok (.iload_n 1, 1) := by decide +kernel
theorem dX12_readLaw_27 : decode cX12_readLaw 27 = .ok (.istore_n 1, 1) := by decide +kernel
theorem dX12_readLaw_28 : decode cX12_readLaw 28 = .ok (.iinc 2 1, 3) := by decide +kernel
theorem dX12_readLaw_31 : decode cX12_readLaw 31 = .ok (.goto (-27), 3) := by decide +kernel
theorem dX12_readLaw_34 : decode cX12_readLaw 34 = .ok (.aload_n 0, 1) := by decide +kernel
theorem dX12_readLaw_35 : decode cX12_readLaw 35 = .ok (.iload_n 1, 1) := by decide +kernel
theorem dX12_readLaw_36 : decode cX12_readLaw 36 = .ok (.iconst (-1), 1) := by decide +kernel
theorem dX12_readLaw_37 : decode cX12_readLaw 37 = .ok (.if_icmp .eq 16, 3) := by decide +kernel
theorem dX12_readLaw_40 : decode cX12_readLaw 40 = .ok (.aload_n 0, 1) := by decide +kernel
theorem dX12_readLaw_41 : decode cX12_readLaw 41 = .ok (.getfield 377, 3) := by decide +kernel
theorem dX12_readLaw_44 : decode cX12_readLaw 44 = .ok (.bipush 12, 2) := by decide +kernel
theorem dX12_readLaw_46 : decode cX12_readLaw 46 = .ok (.if_icmp .ge 7, 3) := by decide +kernel
theorem dX12_readLaw_49 : decode cX12_readLaw 49 = .ok (.iconst 1, 1) := by decide +kernel
theorem dX12_readLaw_50 : decode cX12_readLaw 50 = .ok (.goto 4, 3) := by decide +kernel
theorem dX12_readLaw_53 : decode cX12_readLaw 53 = .ok (.iconst 0, 1) := by decide +kernel
theorem dX12_readLaw_54 : decode cX12_readLaw 54 = .ok (.invokevirtual 285, 3) := by decide +kernel
theorem dX12_readLaw_57 : decode cX12_readLaw 57 = .ok (.aload_n 0, 1) := by decide +kernel
theorem dX12_readLaw_58 : decode cX12_readLaw 58 = .ok (.getfield 254, 3) := by decide +kernel
theorem dX12_readLaw_61 : decode cX12_readLaw 61 = .ok (.ifCond .eq 4, 3) := by decide +kernel
theorem dX12_readLaw_64 : decode cX12_readLaw 64 = .ok (.return_, 1) := by decide +kernel
theorem dX12_readLaw_65 : decode cX12_readLaw 65 = .ok (.bipush 8, 2) := by decide +kernel
theorem dX12_readLaw_67 : decode cX12_readLaw 67 = .ok (.aload_n 0, 1) := by decide +kernel
theorem dX12_readLaw_68 : decode cX12_readLaw 68 = .ok (.getfield 377, 3) := by decide +kernel
theorem dX12_readLaw_71 : decode cX12_readLaw 71 = .ok (.imul, 1) := by decide +kernel
theorem dX12_readLaw_72 : decode cX12_readLaw 72 = .ok (.istore_n 2, 1) := by decide +kernel
theorem dX12_readLaw_73 : decode cX12_readLaw 73 = .ok (.iconst 0, 1) := by decide +kernel
theorem dX12_readLaw_74 : decode cX12_readLaw 74 = .ok (.istore_n 3, 1) := by decide +kernel
theorem dX12_readLaw_75 : decode cX12_readLaw 75 = .ok (.iload_n 3, 1) := by decide +kernel
theorem dX12_readLaw_76 : decode cX12_readLaw 76 = .ok (.bipush 8, 2) := by decide +kernel
theorem dX12_readLaw_78 : decode cX12_readLaw 78 = .ok (.if_icmp .ge 18, 3) := by decide +kernel
theorem dX12_readLaw_81 : decode cX12_readLaw 81 = .ok (.aload_n 0, 1) := by decide +kernel
theorem dX12_readLaw_82 : decode cX12_readLaw 82 = .ok (.getfield 30, 3) := by decide +kernel
theorem dX12_readLaw_85 : decode cX12_readLaw 85 = .ok (.iload_n 2, 1) := by decide +kernel
theorem dX12_readLaw_86 : decode cX12_readLaw 86 = .ok (.iload_n 3, 1) := by decide +kernel
theorem dX12_readLaw_87 : decode cX12_readLaw 87 = .ok (.iadd, 1) := by decide +kernel
theorem dX12_readLaw_88 : decode cX12_readLaw 88 = .ok (.iconst 0, 1) := by decide +kernel
theorem dX12_readLaw_89 : decode cX12_readLaw 89 = .ok (.iastore, 1) := by decide +kernel
theorem dX12_readLaw_90 : decode cX12_readLaw 90 = .ok (.iinc 3 1, 3) := by decide +kernel
theorem dX12_readLaw_93 : decode cX12_readLaw 93 = .ok (.goto (-18), 3) := by decide +kernel
theorem dX12_readLaw_96 : decode cX12_readLaw 96 = .ok (.aload_n 0, 1) := by decide +kernel
theorem dX12_readLaw_97 : decode cX12_readLaw 97 = .ok (.getfield 30, 3) := by decide +kernel
theorem dX12_readLaw_100 : decode cX12_readLaw 100 = .ok (.iload_n 2, 1) := by decide +kernel
theorem dX12_readLaw_101 : decode cX12_readLaw 101 = .ok (.iload_n 1, 1) := by decide +kernel
theorem dX12_readLaw_102 : decode cX12_readLaw 102 = .ok (.iastore, 1) := by decide +kernel
theorem dX12_readLaw_103 : decode cX12_readLaw 103 = .ok (.aload_n 0, 1) := by decide +kernel
theorem dX12_readLaw_104 : decode cX12_readLaw 104 = .ok (.dup, 1) := by decide +kernel
theorem dX12_readLaw_105 : decode cX12_readLaw 105 = .ok (.getfield 377, 3) := by decide +kernel
theorem dX12_readLaw_108 : decode cX12_readLaw 108 = .ok (.iconst 1, 1) := by decide +kernel
theorem dX12_readLaw_109 : decode cX12_readLaw 109 = .ok (.iadd, 1) := by decide +kernel
theorem dX12_readLaw_110 : decode cX12_readLaw 110 = .ok (.putfield 377, 3) := by decide +kernel
theorem dX12_readLaw_113 : decode cX12_readLaw 113 = .ok (.aload_n 0, 1) := by decide +kernel
theorem dX12_readLaw_114 : decode cX12_readLaw 114 = .ok (.getfield 30, 3) := by decide +kernel
theorem dX12_readLaw_117 : decode cX12_readLaw 117 = .ok (.iload_n 2, 1) := by decide +kernel
theorem dX12_readLaw_118 : decode cX12_readLaw 118 = .ok (.iconst 3, 1) := by decide +kernel
theorem dX12_readLaw_119 : decode cX12_readLaw 119 = .ok (.iadd, 1) := by decide +kernel
theorem dX12_readLaw_120 : decode cX12_readLaw 120 = .ok (.aload_n 0, 1) := by decide +kernel
theorem dX12_readLaw_121 : decode cX12_readLaw 121 = .ok (.getfield 289, 3) := by decide +kernel
theorem dX12_readLaw_124 : decode cX12_readLaw 124 = .ok (.iastore, 1) := by decide +kernel
theorem dX12_readLaw_125 : decode cX12_readLaw 125 = .ok (.iload_n 1, 1) := by decide +kernel
theorem dX12_readLaw_126 : decode cX12_readLaw 126 = .ok (.iconst 3, 1) := by decide +kernel
theorem dX12_readLaw_127 : decode cX12_readLaw 127 = .ok (.if_icmp .eq 8, 3) := by decide +kernel
theorem dX12_readLaw_130 : decode cX12_readLaw 130 = .ok (.aload_n 0, 1) := by decide +kernel
theorem dX12_readLaw_131 : decode cX12_readLaw 131 = .ok (.iconst 0, 1) := by decide +kernel
theorem dX12_readLaw_132 : decode cX12_readLaw 132 = .ok (.invokevirtual 380, 3) := by decide +kernel
theorem dX12_readLaw_135 : decode cX12_readLaw 135 = .ok (.aload_n 0, 1) := by decide +kernel
theorem dX12_readLaw_136 : decode cX12_readLaw 136 = .ok (.getfield 30, 3) := by decide +kernel
theorem dX12_readLaw_139 : decode cX12_readLaw 139 = .ok (.iload_n 2, 1) := by decide +kernel
theorem dX12_readLaw_140 : decode cX12_readLaw 140 = .ok (.iconst 4, 1) := by decide +kernel
theorem dX12_readLaw_141 : decode cX12_readLaw 141 = .ok (.iadd, 1) := by decide +kernel
theorem dX12_readLaw_142 : decode cX12_readLaw 142 = .ok (.aload_n 0, 1) := by decide +kernel
theorem dX12_readLaw_143 : decode cX12_readLaw 143 = .ok (.getfield 289, 3) := by decide +kernel
theorem dX12_readLaw_146 : decode cX12_readLaw 146 = .ok (.iastore, 1) := by decide +kernel
theorem dX12_readLaw_147 : decode cX12_readLaw 147 = .ok (.aload_n 0, 1) := by decide +kernel
theorem dX12_readLaw_148 : decode cX12_readLaw 148 = .ok (.getfield 30, 3) := by decide +kernel
theorem dX12_readLaw_151 : decode cX12_readLaw 151 = .ok (.iload_n 2, 1) := by decide +kernel
theorem dX12_readLaw_152 : decode cX12_readLaw 152 = .ok (.iconst 5, 1) := by decide +kernel
theorem dX12_readLaw_153 : decode cX12_readLaw 153 = .ok (.iadd, 1) := by decide +kernel
theorem dX12_readLaw_154 : decode cX12_readLaw 154 = .ok (.aload_n 0, 1) := by decide +kernel
theorem dX12_readLaw_155 : decode cX12_readLaw 155 = .ok (.getfield 289, 3) := by decide +kernel
theorem dX12_readLaw_158 : decode cX12_readLaw 158 = .ok (.iastore, 1) := by decide +kernel
theorem dX12_readLaw_159 : decode cX12_readLaw 159 = .ok (.aload_n 0, 1) := by decide +kernel
theorem dX12_readLaw_160 : decode cX12_readLaw 160 = .ok (.getfield 254, 3) := by decide +kernel
theorem dX12_readLaw_163 : decode cX12_readLaw 163 = .ok (.ifCond .ne 22, 3) := by decide +kernel
theorem dX12_readLaw_166 : decode cX12_readLaw 166 = .ok (.aload_n 0, 1) := by decide +kernel
theorem dX12_readLaw_167 : decode cX12_readLaw 167 = .ok (.ldc2_w 383, 3) := by decide +kernel
theorem dX12_readLaw_170 : decode cX12_readLaw 170 = .ok (.invokevirtual 306, 3) := by decide +kernel
theorem dX12_readLaw_173 : decode cX12_readLaw 173 = .ok (.ifCond .eq 12, 3) := by decide +kernel
theorem dX12_readLaw_176 : decode cX12_readLaw 176 = .ok (.aload_n 0, 1) := by decide +kernel
theorem dX12_readLaw_177 : decode cX12_readLaw 177 = .ok (.invokevirtual 258, 3) := by decide +kernel
theorem dX12_readLaw_180 : decode cX12_readLaw 180 = .ok (.aload_n 0, 1) := by decide +kernel
theorem dX12_readLaw_181 : decode cX12_readLaw 181 = .ok (.iconst 1, 1) := by decide +kernel
theorem dX12_readLaw_182 : decode cX12_readLaw 182 = .ok (.invokevirtual 380, 3) := by decide +kernel
theorem dX12_readLaw_185 : decode cX12_readLaw 185 = .ok (.aload_n 0, 1) := by decide +kernel
theorem dX12_readLaw_186 : decode cX12_readLaw 186 = .ok (.getfield 30, 3) := by decide +kernel
theorem dX12_readLaw_189 : decode cX12_readLaw 189 = .ok (.iload_n 2, 1) := by decide +kernel
theorem dX12_readLaw_190 : decode cX12_readLaw 190 = .ok (.bipush 6, 2) := by decide +kernel
theorem dX12_readLaw_192 : decode cX12_readLaw 192 = .ok (.iadd, 1) := by decide +kernel
theorem dX12_readLaw_193 : decode cX12_readLaw 193 = .ok (.aload_n 0, 1) := by decide +kernel
theorem dX12_readLaw_194 : decode cX12_readLaw 194 = .ok (.getfield 289, 3) := by decide +kernel
theorem dX12_readLaw_197 : decode cX12_readLaw 197 = .ok (.iastore, 1) := by decide +kernel
theorem dX12_readLaw_198 : decode cX12_readLaw 198 = .ok (.return_, 1) := by decide +kernel
def w_X12_readLaw (X : XT) (Q : XT → Prop) : Prop :=
  ∃ (I3 : Int → Int → Prop) (m4 : Int → Int → Nat), I3 (-1) 0 ∧ ∀ (x1 : Int) (x2 : Int), I3 x1 x2 → R32 x2 ∧ (4 ≤ x2 → ∀ J15 : Int → Prop, (∀ (v14 : Int), (w_X12_must  v14 X (fun (X17 : XT) => R32 (X17 77 14) ∧ ((X17 77 14) = 0 → ∃ (I26 : Int → XT → Prop) (m27 : Int → XT → Nat), I26 0 X17 ∧ ∀ (x24 : Int) (X25 : XT), I26 x24 X25 → R32 x24 ∧ (8 ≤ x24 → (0 ≤ (8 * (X17 77 16)) ∧ (8 * (X17 77 16)) < 96) ∧ (0 ≤ ((8 * (X17 77 16)) + 3) ∧ ((8 * (X17 77 16)) + 3) < 96) ∧ ∀ J58 : XT → Prop, (∀  (X57 : XT), ((0 ≤ ((8 * (X17 77 16)) + 4) ∧ ((8 * (X17 77 16)) + 4) < 96) ∧ (0 ≤ ((8 * (X17 77 16)) + 5) ∧ ((8 * (X17 77 16)) + 5) < 96) ∧ ∀ J75 : XT → Prop, (∀  (X74 : XT), ((0 ≤ ((8 * (X17 77 16)) + 6) ∧ ((8 * (X17 77 16)) + 6) < 96) ∧ Q (x_st X74 83 ((8 * (X17 77 16)) + 6) (X74 77 18))) → J75  X74) → R32 ((x_st (x_st X57 83 ((8 * (X17 77 16)) + 4) (X57 77 18)) 83 ((8 * (X17 77 16)) + 5) ((x_st X57 83 ((8 * (X17 77 16)) + 4) (X57 77 18)) 77 18)) 77 14) ∧ (¬ ((x_st (x_st X57 83 ((8 * (X17 77 16)) + 4) (X57 77 18)) 83 ((8 * (X17 77 16)) + 5) ((x_st X57 83 ((8 * (X17 77 16)) + 4) (X57 77 18)) 77 18)) 77 14) = 0 → J75  (x_st (x_st X57 83 ((8 * (X17 77 16)) + 4) (X57 77 18)) 83 ((8 * (X17 77 16)) + 5) ((x_st X57 83 ((8 * (X17 77 16)) + 4) (X57 77 18)) 77 18))) ∧ (((x_st (x_st X57 83 ((8 * (X17 77 16)) + 4) (X57 77 18)) 83 ((8 * (X17 77 16)) + 5) ((x_st X57 83 ((8 * (X17 77 16)) + 4) (X57 77 18)) 77 18)) 77 14) = 0 → w_X12_isWord  294 (x_st (x_st X57 83 ((8 * (X17 77 16)) + 4) (X57 77 18)) 83 ((8 * (X17 77 16)) + 5) ((x_st X57 83 ((8 * (X17 77 16)) + 4) (X57 77 18)) 77 18)) (fun (v87 : Int) => R32 v87 ∧ (v87 = 0 → J75  (x_st (x_st X57 83 ((8 * (X17 77 16)) + 4) (X57 77 18)) 83 ((8 * (X17 77 16)) + 5) ((x_st X57 83 ((8 * (X17 77 16)) + 4) (X57 77 18)) 77 18))) ∧ (¬ v87 = 0 → w_X12_next   (x_st (x_st X57 83 ((8 * (X17 77 16)) + 4) (X57 77 18)) 83 ((8 * (X17 77 16)) + 5) ((x_st X57 83 ((8 * (X17 77 16)) + 4) (X57 77 18)) 77 18)) (fun (X96 : XT) => w_X12_readExpression  1 X96 (fun (X102 : XT) => J75  X102)))))) → J58  X57) → R32 x1 ∧ (x1 = 3 → J58  (x_st (x_st (x_st X25 83 (8 * (X17 77 16)) x1) 77 16 (((x_st X25 83 (8 * (X17 77 16)) x1) 77 16) + 1)) 83 ((8 * (X17 77 16)) + 3) ((x_st (x_st X25 83 (8 * (X17 77 16)) x1) 77 16 (((x_st X25 83 (8 * (X17 77 16)) x1) 77 16) + 1)) 77 18))) ∧ (¬ x1 = 3 → w_X12_readExpression  0 (x_st (x_st (x_st X25 83 (8 * (X17 77 16)) x1) 77 16 (((x_st X25 83 (8 * (X17 77 16)) x1) 77 16) + 1)) 83 ((8 * (X17 77 16)) + 3) ((x_st (x_st X25 83 (8 * (X17 77 16)) x1) 77 16 (((x_st X25 83 (8 * (X17 77 16)) x1) 77 16) + 1)) 77 18)) (fun (X110 : XT) => J58  X110))) ∧ (¬ 8 ≤ x24 → (0 ≤ ((8 * (X17 77 16)) + x24) ∧ ((8 * (X17 77 16)) + x24) < 96) ∧ I26 (x24 + 1) (x_st X25 83 ((8 * (X17 77 16)) + x24) 0) ∧ m27 (x24 + 1) (x_st X25 83 ((8 * (X17 77 16)) + x24) 0) < m27 x24 X25)) ∧ (¬ (X17 77 14) = 0 → Q X17))) → J15 v14) → R32 x1 ∧ (x1 = (-1) → J15 0) ∧ (¬ x1 = (-1) → R32 (X 77 16) ∧ (12 ≤ (X 77 16) → J15 0) ∧ (¬ 12 ≤ (X 77 16) → J15 1))) ∧ (¬ 4 ≤ x2 → (0 ≤ x2 ∧ x2 < 4) ∧ w_X12_isWord  (X 90 x2) X (fun (v126 : Int) => R32 v126 ∧ (v126 = 0 → I3 x1 (x2 + 1) ∧ m4 x1 (x2 + 1) < m4 x1 x2) ∧ (¬ v126 = 0 → I3 x2 (x2 + 1) ∧ m4 x2 (x2 + 1) < m4 x1 x2)))
set_option maxRecDepth 20000 in
theorem so_X12_readLaw {n : Nat} {h : Nat → sE} {X : XT} {Q : XT → Prop} (hn : 115 ≤ n) (hp : Pic X h) (w : w_X12_readLaw   X Q) : Sp m_X12_readLaw 7 0 0 [.ref 77] n h (pVw n h Q) := by
  unfold w_X12_readLaw at w
  refine Sp.ofV (by decide +kernel) (Nat.le_of_ble_eq_true rfl) ?_
  have hf : Fr h h := fun _ _ => rfl
  refine v_iconstI dX12_readLaw_0 ?_
  refine v_istore_n dX12_readLaw_1 (Nat.le_of_ble_eq_true rfl) ?_
  refine v_iconstI dX12_readLaw_2 ?_
  refine v_istore_n dX12_readLaw_3 (Nat.le_of_ble_eq_true rfl) ?_
  refine v_pick [2, 1, 0] rfl ?_
  obtain ⟨I3, m4, wi7, wl6⟩ := w
  have hL8 : ∀ (N11 : Nat) (x1 : Int) (x2 : Int), m4 x1 x2 < N11 → I3 x1 x2 → V (m_X12_readLaw, 7, 0, 0, n, pVw n h Q, s_G0) 0 0 n h 4 [(0, .ref 77), (1, .int (iI x1)), (2, .int (iI x2))] [] := by
    intro N11
    induction N11 with
    | zero => intro x1 x2  hm9; exact absurd hm9 (Nat.not_lt_zero _)
    | succ N11 ih5 =>
      intro x1 x2  hm9 hI10
      have w := wl6 x1 x2 hI10
      refine v_iload_n dX12_readLaw_4 rfl ?_
      refine v_iconstI dX12_readLaw_5 ?_
      obtain ⟨q12, w⟩ := w
      refine v_icmp_geI (tgt := 34) dX12_readLaw_6 (by decide) q12.1 q12.2 (by decide) (by decide) (fun c13 => ?_) (fun c13 => ?_)
      · replace w := w.1 c13
        refine v_aload_n dX12_readLaw_34 rfl ?_
        refine v_iload_n dX12_readLaw_35 rfl ?_
        refine v_iconstI dX12_readLaw_36 ?_
        replace w := w (fun (v14 : Int) => V (m_X12_readLaw, 7, 0, 0, n, pVw n h Q, s_G0) 0 0 n h 54 [(0, .ref 77), (1, .int (iI x1))] [.int (iI v14), .ref 77]) (by
          intro v14 w
          refine v_callVVw dX12_readLaw_54 ml_X12_285 (so_X12_must hn hp  w) ((hp 77 (by decide)).trans (ent_77 _)) rfl (s_lt hn rfl) rfl rfl (Nat.le_of_ble_eq_true rfl) (Nat.le_of_ble_eq_true rfl) (Nat.zero_le _) (Nat.zero_le _) (fun X17 h18 hp20 hf19 w => ?_)
          have hf21 := Fr.trans hf hf19
          refine v_aload_n dX12_readLaw_57 rfl ?_
          refine v_get dX12_readLaw_58 fl_X12_254 ((hp20 77 (by decide)).trans (ent_77 _)) rfl (s_lt hn rfl) ?_
          obtain ⟨q22, w⟩ := w
          refine v_if_eqI (tgt := 65) dX12_readLaw_61 (by decide) q22.1 q22.2 (fun c23 => ?_) (fun c23 => ?_)
          · replace w := w.1 c23
            refine v_bipushI dX12_readLaw_65 rfl ?_
            refine v_aload_n dX12_readLaw_67 rfl ?_
            refine v_get dX12_readLaw_68 fl_X12_377 ((hp20 77 (by decide)).trans (ent_77 _)) rfl (s_lt hn rfl) ?_
            refine v_imulI dX12_readLaw_71 ?_
            refine v_istore_n dX12_readLaw_72 (Nat.le_of_ble_eq_true rfl) ?_
            refine v_iconstI dX12_readLaw_73 ?_
            refine v_istore_n dX12_readLaw_74 (Nat.le_of_ble_eq_true rfl) ?_
            refine v_pick [2, 3, 1, 0] rfl ?_
            obtain ⟨I26, m27, wi30, wl29⟩ := w
            have hL31 : ∀ (N34 : Nat) (x24 : Int) (X25 : XT) (h35 : Nat → sE), m27 x24 X25 < N34 → I26 x24 X25 → Pic X25 h35 → Fr h h35 → V (m_X12_readLaw, 7, 0, 0, n, pVw n h Q, s_G0) 0 0 n h35 75 [(0, .ref 77), (1, .int (iI x1)), (2, .int (iI (8 * (X17 77 16)))), (3, .int (iI x24))] [] := by
              intro N34
              induction N34 with
              | zero => intro x24 X25 h35 hm32; exact absurd hm32 (Nat.not_lt_zero _)
              | succ N34 ih28 =>
                intro x24 X25 h35 hm32 hI33 hp36 hf37
                have w := wl29 x24 X25 hI33
                refine v_iload_n dX12_readLaw_75 rfl ?_
                refine v_bipushI dX12_readLaw_76 rfl ?_
                obtain ⟨q38, w⟩ := w
                refine v_icmp_geI (tgt := 96) dX12_readLaw_78 (by decide) q38.1 q38.2 (by decide) (by decide) (fun c39 => ?_) (fun c39 => ?_)
                · replace w := w.1 c39
                  refine v_aload_n dX12_readLaw_96 rfl ?_
                  refine v_get dX12_readLaw_97 fl_X12_30 ((hp36 77 (by decide)).trans (ent_77 _)) rfl (s_lt hn rfl) ?_
                  refine v_iload_n dX12_readLaw_100 rfl ?_
                  refine v_iload_n dX12_readLaw_101 rfl ?_
                  obtain ⟨q40, w⟩ := w
                  refine v_iastI dX12_readLaw_102 ((hp36 83 (by decide)).trans (ent_83 _)) (s_lt hn rfl) q40.1 q40.2 (ix_le q40.2 (by decide)) (fun h41 E42 F43 => ?_)
                  have hp44 := pic_st hp36 (show h41 83 = ent 83 (uI _ (8 * (X17 77 16)) x1) from E42) F43
                  have hf45 := Fr.up (c := 83) hf37 F43 rfl
                  refine v_aload_n dX12_readLaw_103 rfl ?_
                  refine v_dup dX12_readLaw_104 rfl ?_
                  refine v_get dX12_readLaw_105 fl_X12_377 ((hp44 77 (by decide)).trans (ent_77 _)) rfl (s_lt hn rfl) ?_
                  refine v_iconstI dX12_readLaw_108 ?_
                  refine v_iaddI dX12_readLaw_109 ?_
                  refine v_put dX12_readLaw_110 fl_X12_377 ((hp44 77 (by decide)).trans (ent_77 _)) (s_lt hn rfl) (Nat.le_of_ble_eq_true rfl) (fun _ => ⟨rfl, rfl⟩) trivial (fun h46 E47 F48 => ?_)
                  have hp49 := pic_st hp44 (show h46 77 = ent 77 (uI _ 16 (((x_st X25 83 (8 * (X17 77 16)) x1) 77 16) + 1)) from E47) F48
                  have hf50 := Fr.up (c := 77) hf45 F48 rfl
                  refine v_aload_n dX12_readLaw_113 rfl ?_
                  refine v_get dX12_readLaw_114 fl_X12_30 ((hp49 77 (by decide)).trans (ent_77 _)) rfl (s_lt hn rfl) ?_
                  refine v_iload_n dX12_readLaw_117 rfl ?_
                  refine v_iconstI dX12_readLaw_118 ?_
                  refine v_iaddI dX12_readLaw_119 ?_
                  refine v_aload_n dX12_readLaw_120 rfl ?_
                  refine v_get dX12_readLaw_121 fl_X12_289 ((hp49 77 (by decide)).trans (ent_77 _)) rfl (s_lt hn rfl) ?_
                  obtain ⟨q51, w⟩ := w
                  refine v_iastI dX12_readLaw_124 ((hp49 83 (by decide)).trans (ent_83 _)) (s_lt hn rfl) q51.1 q51.2 (ix_le q51.2 (by decide)) (fun h52 E53 F54 => ?_)
                  have hp55 := pic_st hp49 (show h52 83 = ent 83 (uI _ ((8 * (X17 77 16)) + 3) ((x_st (x_st X25 83 (8 * (X17 77 16)) x1) 77 16 (((x_st X25 83 (8 * (X17 77 16)) x1) 77 16) + 1)) 77 18)) from E53) F54
                  have hf56 := Fr.up (c := 83) hf50 F54 rfl
                  refine v_iload_n dX12_readLaw_125 rfl ?_
                  refine v_iconstI dX12_readLaw_126 ?_
                  replace w := w (fun  (X57 : XT) => ∀ h61 : Nat → sE, Pic X57 h61 → Fr h h61 → V (m_X12_readLaw, 7, 0, 0, n, pVw n h Q, s_G0) 0 0 n h61 135 [(0, .ref 77), (2, .int (iI (8 * (X17 77 16))))] []) (by
                    intro  X57 w h61 hp59 hf60
                    refine v_aload_n dX12_readLaw_135 rfl ?_
                    refine v_get dX12_readLaw_136 fl_X12_30 ((hp59 77 (by decide)).trans (ent_77 _)) rfl (s_lt hn rfl) ?_
                    refine v_iload_n dX12_readLaw_139 rfl ?_
                    refine v_iconstI dX12_readLaw_140 ?_
                    refine v_iaddI dX12_readLaw_141 ?_
                    refine v_aload_n dX12_readLaw_142 rfl ?_
                    refine v_get dX12_readLaw_143 fl_X12_289 ((hp59 77 (by decide)).trans (ent_77 _)) rfl (s_lt hn rfl) ?_
                    obtain ⟨q62, w⟩ := w
                    refine v_iastI dX12_readLaw_146 ((hp59 83 (by decide)).trans (ent_83 _)) (s_lt hn rfl) q62.1 q62.2 (ix_le q62.2 (by decide)) (fun h63 E64 F65 => ?_)
                    have hp66 := pic_st hp59 (show h63 83 = ent 83 (uI _ ((8 * (X17 77 16)) + 4) (X57 77 18)) from E64) F65
                    have hf67 := Fr.up (c := 83) hf60 F65 rfl
                    refine v_aload_n dX12_readLaw_147 rfl ?_
                    refine v_get dX12_readLaw_148 fl_X12_30 ((hp66 77 (by decide)).trans (ent_77 _)) rfl (s_lt hn rfl) ?_
                    refine v_iload_n dX12_readLaw_151 rfl ?_
                    refine v_iconstI dX12_readLaw_152 ?_
                    refine v_iaddI dX12_readLaw_153 ?_
                    refine v_aload_n dX12_readLaw_154 rfl ?_
                    refine v_get dX12_readLaw_155 fl_X12_289 ((hp66 77 (by decide)).trans (ent_77 _)) rfl (s_lt hn rfl) ?_
                    obtain ⟨q68, w⟩ := w
                    refine v_iastI dX12_readLaw_158 ((hp66 83 (by decide)).trans (ent_83 _)) (s_lt hn rfl) q68.1 q68.2 (ix_le q68.2 (by decide)) (fun h69 E70 F71 => ?_)
                    have hp72 := pic_st hp66 (show h69 83 = ent 83 (uI _ ((8 * (X17 77 16)) + 5) ((x_st X57 83 ((8 * (X17 77 16)) + 4) (X57 77 18)) 77 18)) from E70) F71
                    have hf73 := Fr.up (c := 83) hf67 F71 rfl
                    refine v_aload_n dX12_readLaw_159 rfl ?_
                    refine v_get dX12_readLaw_160 fl_X12_254 ((hp72 77 (by decide)).trans (ent_77 _)) rfl (s_lt hn rfl) ?_
                    replace w := w (fun  (X74 : XT) => ∀ h78 : Nat → sE, Pic X74 h78 → Fr h h78 → V (m_X12_readLaw, 7, 0, 0, n, pVw n h Q, s_G0) 0 0 n h78 185 [(0, .ref 77), (2, .int (iI (8 * (X17 77 16))))] []) (by
                      intro  X74 w h78 hp76 hf77
                      refine v_aload_n dX12_readLaw_185 rfl ?_
                      refine v_get dX12_readLaw_186 fl_X12_30 ((hp76 77 (by decide)).trans (ent_77 _)) rfl (s_lt hn rfl) ?_
                      refine v_iload_n dX12_readLaw_189 rfl ?_
                      refine v_bipushI dX12_readLaw_190 rfl ?_
                      refine v_iaddI dX12_readLaw_192 ?_
                      refine v_aload_n dX12_readLaw_193 rfl ?_
                      refine v_get dX12_readLaw_194 fl_X12_289 ((hp76 77 (by decide)).trans (ent_77 _)) rfl (s_lt hn rfl) ?_
                      obtain ⟨q79, w⟩ := w
                      refine v_iastI dX12_readLaw_197 ((hp76 83 (by decide)).trans (ent_83 _)) (s_lt hn rfl) q79.1 q79.2 (ix_le q79.2 (by decide)) (fun h80 E81 F82 => ?_)
                      have hp83 := pic_st hp76 (show h80 83 = ent 83 (uI _ ((8 * (X17 77 16)) + 6) (X74 77 18)) from E81) F82
                      have hf84 := Fr.up (c := 83) hf77 F82 rfl
                      exact v_vret dX12_readLaw_198 rfl (Nat.zero_le _) (Nat.zero_le _) ⟨rfl, hf84, _, rfl, hp83, w⟩
                    )
                    obtain ⟨q85, w⟩ := w
                    refine v_if_neI (tgt := 185) dX12_readLaw_163 (by decide) q85.1 q85.2 (fun c86 => ?_) (fun c86 => ?_)
                    · replace w := w.1 c86
                      exact w _ hp72 hf73
                    · replace w := w.2 c86
                      refine v_aload_n dX12_readLaw_166 rfl ?_
                      refine v_ldc2I 294 dX12_readLaw_167 k_X12_383 rfl ?_
                      refine v_callVIr dX12_readLaw_170 ml_X12_306 (so_X12_isWord hn hp72  w) ((hp72 77 (by decide)).trans (ent_77 _)) rfl (s_lt hn rfl) rfl rfl (Nat.le_of_ble_eq_true rfl) (Nat.le_of_ble_eq_true rfl) (Nat.zero_le _) (Nat.zero_le _) (fun v87 w => ?_)
                      obtain ⟨q93, w⟩ := w
                      refine v_if_eqI (tgt := 185) dX12_readLaw_173 (by decide) q93.1 q93.2 (fun c94 => ?_) (fun c94 => ?_)
                      · replace w := w.1 c94
                        exact w _ hp72 hf73
                      · replace w := w.2 c94
                        refine v_aload_n dX12_readLaw_176 rfl ?_
                        refine v_callVVw dX12_readLaw_177 ml_X12_258 (so_X12_next hn hp72  w) ((hp72 77 (by decide)).trans (ent_77 _)) rfl (s_lt hn rfl) rfl rfl (Nat.le_of_ble_eq_true rfl) (Nat.le_of_ble_eq_true rfl) (Nat.zero_le _) (Nat.zero_le _) (fun X96 h97 hp99 hf98 w => ?_)
                        have hf100 := Fr.trans hf73 hf98
                        refine v_aload_n dX12_readLaw_180 rfl ?_
                        refine v_iconstI dX12_readLaw_181 ?_
                        refine v_callVVw dX12_readLaw_182 ml_X12_380 (so_X12_readExpression hn hp99  w) ((hp99 77 (by decide)).trans (ent_77 _)) rfl (s_lt hn rfl) rfl rfl (Nat.le_of_ble_eq_true rfl) (Nat.le_of_ble_eq_true rfl) (Nat.zero_le _) (Nat.zero_le _) (fun X102 h103 hp105 hf104 w => ?_)
                        have hf106 := Fr.trans hf100 hf104
                        exact w _ hp105 hf106
                  )
                  obtain ⟨q107, w⟩ := w
                  refine v_icmp_eqI (tgt := 135) dX12_readLaw_127 (by decide) q107.1 q107.2 (by decide) (by decide) (fun c108 => ?_) (fun c108 => ?_)
                  · replace w := w.1 c108
                    refine v_pick [0, 2] rfl ?_
                    exact w _ hp55 hf56
                  · replace w := w.2 c108
                    refine v_aload_n dX12_readLaw_130 rfl ?_
                    refine v_iconstI dX12_readLaw_131 ?_
                    refine v_callVVw dX12_readLaw_132 ml_X12_380 (so_X12_readExpression hn hp55  w) ((hp55 77 (by decide)).trans (ent_77 _)) rfl (s_lt hn rfl) rfl rfl (Nat.le_of_ble_eq_true rfl) (Nat.le_of_ble_eq_true rfl) (Nat.zero_le _) (Nat.zero_le _) (fun X110 h111 hp113 hf112 w => ?_)
                    have hf114 := Fr.trans hf56 hf112
                    refine v_pick [0, 2] rfl ?_
                    exact w _ hp113 hf114
                · replace w := w.2 c39
                  refine v_aload_n dX12_readLaw_81 rfl ?_
                  refine v_get dX12_readLaw_82 fl_X12_30 ((hp36 77 (by decide)).trans (ent_77 _)) rfl (s_lt hn rfl) ?_
                  refine v_iload_n dX12_readLaw_85 rfl ?_
                  refine v_iload_n dX12_readLaw_86 rfl ?_
                  refine v_iaddI dX12_readLaw_87 ?_
                  refine v_iconstI dX12_readLaw_88 ?_
                  obtain ⟨q115, w⟩ := w
                  refine v_iastI dX12_readLaw_89 ((hp36 83 (by decide)).trans (ent_83 _)) (s_lt hn rfl) q115.1 q115.2 (ix_le q115.2 (by decide)) (fun h116 E117 F118 => ?_)
                  have hp119 := pic_st hp36 (show h116 83 = ent 83 (uI _ ((8 * (X17 77 16)) + x24) 0) from E117) F118
                  have hf120 := Fr.up (c := 83) hf37 F118 rfl
                  refine v_iincI dX12_readLaw_90 rfl (Nat.le_of_ble_eq_true rfl) ?_
                  refine v_goto (tgt := 75) dX12_readLaw_93 (by decide) ?_
                  refine v_pick [1, 2, 3, 0] rfl ?_
                  exact ih28 _ _ _ (Nat.lt_of_lt_of_le w.2 (Nat.le_of_lt_succ hm32)) w.1 hp119 hf120
            exact hL31 _ _ _ _ (Nat.lt_succ_self _) wi30 hp20 hf21
          · replace w := w.2 c23
            exact v_vret dX12_readLaw_64 rfl (Nat.zero_le _) (Nat.zero_le _) ⟨rfl, hf21, _, rfl, hp20, w⟩
        )
        obtain ⟨q121, w⟩ := w
        refine v_icmp_eqI (tgt := 53) dX12_readLaw_37 (by decide) q121.1 q121.2 (by decide) (by decide) (fun c122 => ?_) (fun c122 => ?_)
        · replace w := w.1 c122
          refine v_iconstI dX12_readLaw_53 ?_
          refine v_pick [0, 1] rfl ?_
          exact w
        · replace w := w.2 c122
          refine v_aload_n dX12_readLaw_40 rfl ?_
          refine v_get dX12_readLaw_41 fl_X12_377 ((hp 77 (by decide)).trans (ent_77 _)) rfl (s_lt hn rfl) ?_
          refine v_bipushI dX12_readLaw_44 rfl ?_
          obtain ⟨q123, w⟩ := w
          refine v_icmp_geI (tgt := 53) dX12_readLaw_46 (by decide) q123.1 q123.2 (by decide) (by decide) (fun c124 => ?_) (fun c124 => ?_)
          · replace w := w.1 c124
            refine v_iconstI dX12_readLaw_53 ?_
            refine v_pick [0, 1] rfl ?_
            exact w
          · replace w := w.2 c124
            refine v_iconstI dX12_readLaw_49 ?_
            refine v_goto (tgt := 54) dX12_readLaw_50 (by decide) ?_
            refine v_pick [0, 1] rfl ?_
            exact w
      · replace w := w.2 c13
        refine v_aload_n dX12_readLaw_9 rfl ?_
        refine v_aload_n dX12_readLaw_10 rfl ?_
        refine v_get dX12_readLaw_11 fl_X12_90 ((hp 77 (by decide)).trans (ent_77 _)) rfl (s_lt hn rfl) ?_
        refine v_iload_n dX12_readLaw_14 rfl ?_
        obtain ⟨q125, w⟩ := w
        refine v_laldI dX12_readLaw_15 ((hp 90 (by decide)).trans (ent_90 _)) (s_lt hn rfl) q125.1 q125.2 (ix_le q125.2 (by decide)) ?_
        refine v_callVIr dX12_readLaw_16 ml_X12_306 (so_X12_isWord hn hp  w) ((hp 77 (by decide)).trans (ent_77 _)) rfl (s_lt hn rfl) rfl rfl (Nat.le_of_ble_eq_true rfl) (Nat.le_of_ble_eq_true rfl) (Nat.zero_le _) (Nat.zero_le _) (fun v126 w => ?_)
        obtain ⟨q132, w⟩ := w
        refine v_if_eqI (tgt := 26) dX12_readLaw_19 (by decide) q132.1 q132.2 (fun c133 => ?_) (fun c133 => ?_)
        · replace w := w.1 c133
          refine v_iload_n dX12_readLaw_26 rfl ?_
          refine v_istore_n dX12_readLaw_27 (Nat.le_of_ble_eq_true rfl) ?_
          refine v_iincI dX12_readLaw_28 rfl (Nat.le_of_ble_eq_true rfl) ?_
          refine v_goto (tgt := 4) dX12_readLaw_31 (by decide) ?_
          refine v_pick [2, 1, 0] rfl ?_
          exact ih5 _ _ (Nat.lt_of_lt_of_le w.2 (Nat.le_of_lt_succ hm9)) w.1
        · replace w := w.2 c133
          refine v_iload_n dX12_readLaw_22 rfl ?_
          refine v_goto (tgt := 27) dX12_readLaw_23 (by decide) ?_
          refine v_istore_n dX12_readLaw_27 (Nat.le_of_ble_eq_true rfl) ?_
          refine v_iincI dX12_readLaw_28 rfl (Nat.le_of_ble_eq_true rfl) ?_
          refine v_goto (tgt := 4) dX12_readLaw_31 (by decide) ?_
          refine v_pick [2, 1, 0] rfl ?_
          exact ih5 _ _ (Nat.lt_of_lt_of_le w.2 (Nat.le_of_lt_succ hm9)) w.1
  exact hL8 _ _ _ (Nat.lt_succ_self _) wi7
theorem dX12_endText_0 : decode cX12_endText 0 = .ok (.aload_n 0, 1) := by decide +kernel
theorem dX12_endText_1 : decode cX12_endText 1 = .ok (.getfield 254, 3) := by decide +kernel
theorem dX12_endText_4 : decode cX12_endText 4 = .ok (.ifCond .ne 15, 3) := by decide +kernel
theorem dX12_endText_7 : decode cX12_endText 7 = .ok (.aload_n 0, 1) := by decide +kernel
theorem dX12_endText_8 : decode cX12_endText 8 = .ok (.getfield 274, 3) := by decide +kernel
theorem dX12_endText_11 : decode cX12_endText 11 = .ok (.ifCond .eq 8, 3) := by decide +kernel
theorem dX12_endText_14 : decode cX12_endText 14 = .ok (.aload_n 0, 1) := by decide +kernel
theorem dX12_endText_15 : decode cX12_endText 15 = .ok (.iconst 0, 1) := by decide +kernel
theorem dX12_endText_16 : decode cX12_endText 16 = .ok (.invokevirtual 285, 3) := by decide +kernel
theorem dX12_endText_19 : decode cX12_endText 19 = .ok (.aload_n 0, 1) := by decide +kernel
theorem dX12_endText_20 : decode cX12_endText 20 = .ok (.iconst 0, 1) := by decide +kernel
theorem dX12_endText_21 : decode cX12_endText 21 = .ok (.putfield 325, 3) := by decide +kernel
theorem dX12_endText_24 : decode cX12_endText 24 = .ok (.aload_n 0, 1) := by decide +kernel
theorem dX12_endText_25 : decode cX12_endText 25 = .ok (.iconst 0, 1) := by decide +kernel
theorem dX12_endText_26 : decode cX12_endText 26 = .ok (.putfield 241, 3) := by decide +kernel
theorem dX12_endText_29 : decode cX12_endText 29 = .ok (.return_, 1) := by decide +kernel
def w_X12_endText (X : XT) (Q : XT → Prop) : Prop :=
  ∀ J2 : XT → Prop, (∀  (X1 : XT), (Q (x_st (x_st X1 77 15 0) 77 8 0)) → J2  X1) → R32 (X 77 14) ∧ (¬ (X 77 14) = 0 → J2  X) ∧ ((X 77 14) = 0 → R32 (X 77 11) ∧ ((X 77 11) = 0 → J2  X) ∧ (¬ (X 77 11) = 0 → w_X12_must  0 X (fun (X21 : XT) => J2  X21)))
set_option maxRecDepth 20000 in
theorem so_X12_endText {n : Nat} {h : Nat → sE} {X : XT} {Q : XT → Prop} (hn : 115 ≤ n) (hp : Pic X h) (w : w_X12_endText   X Q) : Sp m_X12_endText 3 0 0 [.ref 77] n h (pVw n h Q) := by
  unfold w_X12_endText at w
  refine Sp.ofV (by decide +kernel) (Nat.le_of_ble_eq_true rfl) ?_
  have hf : Fr h h := fun _ _ => rfl
  refine v_aload_n dX12_endText_0 rfl ?_
  refine v_get dX12_endText_1 fl_X12_254 ((hp 77 (by decide)).trans (ent_77 _)) rfl (s_lt hn rfl) ?_
  replace w := w (fun  (X1 : XT) => ∀ h5 : Nat → sE, Pic X1 h5 → Fr h h5 → V (m_X12_endText, 3, 0, 0, n, pVw n h Q, s_G0) 0 0 n h5 19 [(0, .ref 77)] []) (by
    intro  X1 w h5 hp3 hf4
    refine v_aload_n dX12_endText_19 rfl ?_
    refine v_iconstI dX12_endText_20 ?_
    refine v_put dX12_endText_21 fl_X12_325 ((hp3 77 (by decide)).trans (ent_77 _)) (s_lt hn rfl) (Nat.le_of_ble_eq_true rfl) (fun _ => ⟨iI_nb0, rfl⟩) trivial (fun h6 E7 F8 => ?_)
    have hp9 := pic_st hp3 (show h6 77 = ent 77 (uI _ 15 0) from E7) F8
    have hf10 := Fr.up (c := 77) hf4 F8 rfl
    refine v_aload_n dX12_endText_24 rfl ?_
    refine v_iconstI dX12_endText_25 ?_
    refine v_put dX12_endText_26 fl_X12_241 ((hp9 77 (by decide)).trans (ent_77 _)) (s_lt hn rfl) (Nat.le_of_ble_eq_true rfl) (fun _ => ⟨rfl, rfl⟩) trivial (fun h11 E12 F13 => ?_)
    have hp14 := pic_st hp9 (show h11 77 = ent 77 (uI _ 8 0) from E12) F13
    have hf15 := Fr.up (c := 77) hf10 F13 rfl
    exact v_vret dX12_endText_29 rfl (Nat.zero_le _) (Nat.zero_le _) ⟨rfl, hf15, _, rfl, hp14, w⟩
  )
  obtain ⟨q16, w⟩ := w
  refine v_if_neI (tgt := 19) dX12_endText_4 (by decide) q16.1 q16.2 (fun c17 => ?_) (fun c17 => ?_)
  · replace w := w.1 c17
    exact w _ hp hf
  · replace w := w.2 c17
    refine v_aload_n dX12_endText_7 rfl ?_
    refine v_get dX12_endText_8 fl_X12_274 ((hp 77 (by decide)).trans (ent_77 _)) rfl (s_lt hn rfl) ?_
    obtain ⟨q18, w⟩ := w
    refine v_if_eqI (tgt := 19) dX12_endText_11 (by decide) q18.1 q18.2 (fun c19 => ?_) (fun c19 => ?_)
    · replace w := w.1 c19
      exact w _ hp hf
    · replace w := w.2 c19
      refine v_aload_n dX12_endText_14 rfl ?_
      refine v_iconstI dX12_endText_15 ?_
      refine v_callVVw dX12_endText_16 ml_X12_285 (so_X12_must hn hp  w) ((hp 77 (by decide)).trans (ent_77 _)) rfl (s_lt hn rfl) rfl rfl (Nat.le_of_ble_eq_true rfl) (Nat.le_of_ble_eq_true rfl) (Nat.zero_le _) (Nat.zero_le _) (fun X21 h22 hp24 hf23 w => ?_)
      have hf25 := Fr.trans hf hf23
      exact w _ hp24 hf25
theorem dX12_law_0 : decode cX12_law 0 = .ok (.aload_n 0, 1) := by decide +kernel
theorem dX12_law_1 : decode cX12_law 1 = .ok (.iconst 0, 1) := by decide +kernel
theorem dX12_law_2 : decode cX12_law 2 = .ok (.putfield 169, 3) := by decide +kernel
theorem dX12_law_5 : decode cX12_law 5 = .ok (.aload_n 0, 1) := by decide +kernel
theorem dX12_law_6 : decode cX12_law 6 = .ok (.getfield 13, 3) := by decide +kernel
theorem dX12_law_9 : decode cX12_law 9 = .ok (.iconst 4, 1) := by decide +kernel
theorem dX12_law_10 : decode cX12_law 10 = .ok (.iaload, 1) := by decide +kernel
theorem dX12_law_11 : decode cX12_law 11 = .ok (.bipush 6, 2) := by decide +kernel
theorem dX12_law_13 : decode cX12_law 13 = .ok (.if_icmp .ne 15, 3) := by decide +kernel
theorem dX12_law_16 : decode cX12_law 16 = .ok (.aload_n 0, 1) := by decide +kernel
theorem dX12_law_17 : decode cX12_law 17 = .ok (.iconst 0, 1) := by decide +kernel
theorem dX12_law_18 : decode cX12_law 18 = .ok (.putfield 241, 3) := by decide +kernel
theorem dX12_law_21 : decode cX12_law 21 = .ok (.aload_n 0, 1) := by decide +kernel
theorem dX12_law_22 : decode cX12_law 22 = .ok (.bipush (-5), 2) := by decide +kernel
theorem dX12_law_24 : decode cX12_law 24 = .ok (.invokevirtual 179, 3) := by decide +kernel
theorem dX12_law_27 : decode cX12_law 27 = .ok (.ireturn, 1) := by decide +kernel
theorem dX12_law_28 : decode cX12_law 28 = .ok (.aload_n 0, 1) := by decide +kernel
theorem dX12_law_29 : decode cX12_law 29 = .ok (.iconst 0, 1) := by decide +kernel
theorem dX12_law_30 : decode cX12_law 30 = .ok (.invokevirtual 385, 3) := by decide +kernel
theorem dX12_law_33 : decode cX12_law 33 = .ok (.aload_n 0, 1) := by decide +kernel
theorem dX12_law_34 : decode cX12_law 34 = .ok (.invokevirtual 388, 3) := by decide +kernel
theorem dX12_law_37 : decode cX12_law 37 = .ok (.aload_n 0, 1) := by decide +kernel
theorem dX12_law_38 : decode cX12_law 38 = .ok (.getfield 254, 3) := by decide +kernel
theorem dX12_law_41 : decode cX12_law 41 = .ok (.ifCond .ne 23, 3) := by decide +kernel
theorem dX12_law_44 : decode cX12_law 44 = .ok (.aload_n 0, 1) := by decide +kernel
theorem dX12_law_45 : decode cX12_law 45 = .ok (.bipush 59, 2) := by decide +kernel
theorem dX12_law_47 : decode cX12_law 47 = .ok (.invokevirtual 319, 3) := by decide +kernel
theorem dX12_law_50 : decode cX12_law 50 = .ok (.ifCond .eq 14, 3) := by decide +kernel
theorem dX12_law_53 : decode cX12_law 53 = .ok (.aload_n 0, 1) := by decide +kernel
theorem dX12_law_54 : decode cX12_law 54 = .ok (.invokevirtual 258, 3) := by decide +kernel
theorem dX12_law_57 : decode cX12_law 57 = .ok (.aload_n 0, 1) := by decide +kernel
theorem dX12_law_58 : decode cX12_law 58 = .ok (.invokevirtual 388, 3) := by decide +kernel
theorem dX12_law_61 : decode cX12_law 61 = .ok (.goto (-24), 3) := by decide +kernel
theorem dX12_law_64 : decode cX12_law 64 = .ok (.aload_n 0, 1) := by decide +kernel
theorem dX12_law_65 : decode cX12_law 65 = .ok (.invokevirtual 391, 3) := by decide +kernel
theorem dX12_law_68 : decode cX12_law 68 = .ok (.aload_n 0, 1) := by decide +kernel
theorem dX12_law_69 : decode cX12_law 69 = .ok (.getfield 254, 3) := by decide +kernel
theorem dX12_law_72 : decode cX12_law 72 = .ok (.ifCond .eq 10, 3) := by decide +kernel
theorem dX12_law_75 : decode cX12_law 75 = .ok (.aload_n 0, 1) := by decide +kernel
theorem dX12_law_76 : decode cX12_law 76 = .ok (.bipush (-6), 2) := by decide +kernel
theorem dX12_law_78 : decode cX12_law 78 = .ok (.invokevirtual 179, 3) := by decide +kernel
theorem dX12_law_81 : decode cX12_law 81 = .ok (.ireturn, 1) := by decide +kernel
theorem dX12_law_82 : decode cX12_law 82 = .ok (.sipush 380, 3) := by decide +kernel
theorem dX12_law_85 : decode cX12_law 85 = .ok (.sipush 900, 3) := by decide +kernel
theorem dX12_law_88 : decode cX12_law 88 = .ok (.aload_n 0, 1) := by decide +kernel
theorem dX12_law_89 : decode cX12_law 89 = .ok (.getfield 13, 3) := by decide +kernel
theorem dX12_law_92 : decode cX12_law 92 = .ok (.iconst 4, 1) := by decide +kernel
theorem dX12_law_93 : decode cX12_law 93 = .ok (.iaload, 1) := by decide +kernel
theorem dX12_law_94 : decode cX12_law 94 = .ok (.imul, 1) := by decide +kernel
theorem dX12_law_95 : decode cX12_law 95 = .ok (.iadd, 1) := by decide +kernel
theorem dX12_law_96 : decode cX12_law 96 = .ok (.istore_n 1, 1) := by decide +kernel
theorem dX12_law_97 : decode cX12_law 97 = .ok (.aload_n 0, 1) := by decide +kernel
theorem dX12_law_98 : decode cX12_law 98 = .ok (.getfield 13, 3) := by decide +kernel
theorem dX12_law_101 : decode cX12_law 101 = .ok (.iload_n 1, 1) := by decide +kernel
theorem dX12_law_102 : decode cX12_law 102 = .ok (.iconst 1, 1) := by decide +kernel
theorem dX12_law_103 : decode cX12_law 103 = .ok (.iadd, 1) := by decide +kernel
theorem dX12_law_104 : decode cX12_law 104 = .ok (.aload_n 0, 1) := by decide +kernel
theorem dX12_law_105 : decode cX12_law 105 = .ok (.getfield 377, 3) := by decide +kernel
theorem dX12_law_108 : decode cX12_law 108 = .ok (.iastore, 1) := by decide +kernel
theorem dX12_law_109 : decode cX12_law 109 = .ok (.iconst 0, 1) := by decide +kernel
theorem dX12_law_110 : decode cX12_law 110 = .ok (.istore_n 2, 1) := by decide +kernel
theorem dX12_law_111 : decode cX12_law 111 = .ok (.iload_n 2, 1) := by decide +kernel
theorem dX12_law_112 : decode cX12_law 112 = .ok (.bipush 8, 2) := by decide +kernel
theorem dX12_law_114 : decode cX12_law 114 = .ok (.aload_n 0, 1) := by decide +kernel
theorem dX12_law_115 : decode cX12_law 115 = .ok (.getfield 377, 3) := by decide +kernel
theorem dX12_law_118 : decode cX12_law 118 = .ok (.imul, 1) := by decide +kernel
theorem dX12_law_119 : decode cX12_law 119 = .ok (.if_icmp .ge 25, 3) := by decide +kernel
theorem dX12_law_122 : decode cX12_law 122 = .ok (.aload_n 0, 1) := by decide +kernel
theorem dX12_law_123 : decode cX12_law 123 = .ok (.getfield 13, 3) := by decide +kernel
theorem dX12_law_126 : decode cX12_law 126 = .ok (.iload_n 1, 1) := by decide +kernel
theorem dX12_law_127 : decode cX12_law 127 = .ok (.iconst 2, 1) := by decide +kernel
theorem dX12_law_128 : decode cX12_law 128 = .ok (.iadd, 1) := by decide +kernel
theorem dX12_law_129 : decode cX12_law 129 = .ok (.iload_n 2, 1) := by decide +kernel
theorem dX12_law_130 : decode cX12_law 130 = .ok (.iadd, 1) := by decide +kernel
theorem dX12_law_131 : decode cX12_law 131 = .ok (.aload_n 0, 1) := by decide +kernel
theorem dX12_law_132 : decode cX12_law 132 = .ok (.getfield 30, 3) := by decide +kernel
theorem dX12_law_135 : decode cX12_law 135 = .ok (.iload_n 2, 1) := by decide +kernel
theorem dX12_law_136 : decode cX12_law 136 = .ok (.iaload, 1) := by decide +kernel
theorem dX12_law_137 : decode cX12_law 137 = .ok (.iastore, 1) := by decide +kernel
theorem dX12_law_138 : decode cX12_law 138 = .ok (.iinc 2 1, 3) := by decide +kernel
theorem dX12_law_141 : decode cX12_law 141 = .ok (.goto (-30), 3) := by decide +kernel
theorem dX12_law_144 : decode cX12_law 144 = .ok (.iconst 0, 1) := by decide +kernel
theorem dX12_law_145 : decode cX12_law 145 = .ok (.istore_n 2, 1) := by decide +kernel
theorem dX12_law_146 : decode cX12_law 146 = .ok (.iload_n 2, 1) := by decide +kernel
theorem dX12_law_147 : decode cX12_law 147 = .ok (.aload_n 0, 1) := by decide +kernel
theorem dX12_law_148 : decode cX12_law 148 = .ok (.getfield 289, 3) := by decide +kernel
theorem dX12_law_151 : decode cX12_law 151 = .ok (.if_icmp .ge 49, 3) := by decide +kernel
theorem dX12_law_154 : decode cX12_law 154 = .ok (.aload_n 0, 1) := by decide +kernel
theorem dX12_law_155 : decode cX12_law 155 = .ok (.getfield 13, 3) := by decide +kernel
theorem dX12_law_158 : decode cX12_law 158 = .ok (.iload_n 1, 1) := by decide +kernel
theorem dX12_law_159 : decode cX12_law 159 = .ok (.bipush 98, 2) := by decide +kernel
theorem dX12_law_161 : decode cX12_law 161 = .ok (.iadd, 1) := by decide +kernel
theorem dX12_law_162 : decode cX12_law 162 = .ok (.iconst 2, 1) := by decide +kernel
theorem dX12_law_163 : decode cX12_law 163 = .ok (.iload_n 2, 1) := by decide +kernel
theorem dX12_law_164 : decode cX12_law 164 = .ok (.imul, 1) := by decide +kernel
theorem dX12_law_165 : decode cX12_law 165 = .ok (.iadd, 1) := by decide +kernel
theorem dX12_law_166 : decode cX12_law 166 = .ok (.aload_n 0, 1) := by decide +kernel
theorem dX12_law_167 : decode cX12_law 167 = .ok (.getfield 33, 3) := by decide +kernel
theorem dX12_law_170 : decode cX12_law 170 = .ok (.iload_n 2, 1) := by decide +kernel
theorem dX12_law_171 : decode cX12_law 171 = .ok (.iaload, 1) := by decide +kernel
theorem dX12_law_172 : decode cX12_law 172 = .ok (.iastore, 1) := by decide +kernel
theorem dX12_law_173 : decode cX12_law 173 = .ok (.aload_n 0, 1) := by decide +kernel
theorem dX12_law_174 : decode cX12_law 174 = .ok (.getfield 13, 3) := by decide +kernel
theorem dX12_law_177 : decode cX12_law 177 = .ok (.iload_n 1, 1) := by decide +kernel
theorem dX12_law_178 : decode cX12_law 178 = .ok (.bipush 98, 2) := by decide +kernel
theorem dX12_law_180 : decode cX12_law 180 = .ok (.iadd, 1) := by decide +kernel
theorem dX12_law_181 : decode cX12_law 181 = .ok (.iconst 2, 1) := by decide +kernel
theorem dX12_law_182 : decode cX12_law 182 = .ok (.iload_n 2, 1) := by decide +kernel
theorem dX12_law_183 : decode cX12_law 183 = .ok (.imul, 1) := by decide +kernel
theorem dX12_law_184 : decode cX12_law 184 = .ok (.iadd, 1) := by decide +kernel
theorem dX12_law_185 : decode cX12_law 185 = .ok (.iconst 1, 1) := by decide +kernel
theorem dX12_law_186 : decode cX12_law 186 = .ok (.iadd, 1) := by decide +kernel
theorem dX12_law_187 : decode cX12_law 187 = .ok (.aload_n 0, 1) := by decide +kernel
theorem dX12_law_188 : decode cX12_law 188 = .ok (.getfield 36, 3) := by decide +kernel
theorem dX12_law_191 : decode cX12_law 191 = .ok (.iload_n 2, 1) := by decide +kernel
theorem dX12_law_192 : decode cX12_law 192 = .ok (.iaload, 1) := by decide +kernel
theorem dX12_law_193 : decode cX12_law 193 = .ok (.iastore, 1) := by decide +kernel
theorem dX12_law_194 : decode cX12_law 194 = .ok (.iinc 2 1, 3) := by decide +kernel
theorem dX12_law_197 : decode cX12_law 197 = .ok (.goto (-51), 3) := by decide +kernel
theorem dX12_law_200 : decode cX12_law 200 = .ok (.aload_n 0, 1) := by decide +kernel
theorem dX12_law_201 : decode cX12_law 201 = .ok (.getfield 13, 3) := by decide +kernel
theorem dX12_law_204 : decode cX12_law 204 = .ok (.iconst 4, 1) := by decide +kernel
theorem dX12_law_205 : decode cX12_law 205 = .ok (.dup2, 1) := by decide +kernel
theorem dX12_law_206 : decode cX12_law 206 = .ok (.iaload, 1) := by decide +kernel
theorem dX12_law_207 : decode cX12_law 207 = .ok (.iconst 1, 1) := by decide +kernel
theorem dX12_law_208 : decode cX12_law 208 = .ok (.iadd, 1) := by decide +kernel
theorem dX12_law_209 : decode cX12_law 209 = .ok (.iastore, 1) := by decide +kernel
theorem dX12_law_210 : decode cX12_law 210 = .ok (.aload_n 0, 1) := by decide +kernel
theorem dX12_law_211 : decode cX12_law 211 = .ok (.aload_n 0, 1) := by decide +kernel
theorem dX12_law_212 : decode cX12_law 212 = .ok (.getfield 13, 3) := by decide +kernel
theorem dX12_law_215 : decode cX12_law 215 = .ok (.iconst 4, 1) := by decide +kernel
theorem dX12_law_216 : decode cX12_law 216 = .ok (.iaload, 1) := by decide +kernel
theorem dX12_law_217 : decode cX12_law 217 = .ok (.iconst 1, 1) := by decide +kernel
theorem dX12_law_218 : decode cX12_law 218 = .ok (.isub, 1) := by decide +kernel
theorem dX12_law_219 : decode cX12_law 219 = .ok (.invokevirtual 179, 3) := by decide +kernel
theorem dX12_law_222 : decode cX12_law 222 = .ok (.ireturn, 1) := by decide +kernel
def w_X12_law (X : XT) (Q : Int → XT → Prop) : Prop :=
  R32 ((x_st X 77 0 0) 79 4) ∧ (¬ ((x_st X 77 0 0) 79 4) = 6 → w_X12_beginText  0 (x_st X 77 0 0) (fun (X9 : XT) => w_X12_readLaw   X9 (fun (X15 : XT) => ∃ (I21 : XT → Prop) (m22 : XT → Nat), I21  X15 ∧ ∀  (X20 : XT), I21  X20 → ∀ J33 : Prop, ((w_X12_endText   X20 (fun (X35 : XT) => R32 (X35 77 14) ∧ ((X35 77 14) = 0 → (0 ≤ ((380 + (900 * (X35 79 4))) + 1) ∧ ((380 + (900 * (X35 79 4))) + 1) < 5780) ∧ ∃ (I50 : Int → XT → Prop) (m51 : Int → XT → Nat), I50 0 (x_st X35 79 ((380 + (900 * (X35 79 4))) + 1) (X35 77 16)) ∧ ∀ (x48 : Int) (X49 : XT), I50 x48 X49 → R32 x48 ∧ R32 (8 * (X49 77 16)) ∧ ((8 * (X49 77 16)) ≤ x48 → ∃ (I67 : Int → XT → Prop) (m68 : Int → XT → Nat), I67 0 X49 ∧ ∀ (x65 : Int) (X66 : XT), I67 x65 X66 → R32 x65 ∧ R32 (X66 77 18) ∧ ((X66 77 18) ≤ x65 → w_X12_tell  (((x_st X66 79 4 ((X66 79 4) + 1)) 79 4) - 1) (x_st X66 79 4 ((X66 79 4) + 1)) (fun (v87 : Int) (X88 : XT) => Q v87 X88)) ∧ (¬ (X66 77 18) ≤ x65 → (0 ≤ x65 ∧ x65 < 400) ∧ (0 ≤ (((380 + (900 * (X35 79 4))) + 98) + (2 * x65)) ∧ (((380 + (900 * (X35 79 4))) + 98) + (2 * x65)) < 5780) ∧ (0 ≤ ((((380 + (900 * (X35 79 4))) + 98) + (2 * x65)) + 1) ∧ ((((380 + (900 * (X35 79 4))) + 98) + (2 * x65)) + 1) < 5780) ∧ I67 (x65 + 1) (x_st (x_st X66 79 (((380 + (900 * (X35 79 4))) + 98) + (2 * x65)) (X66 84 x65)) 79 ((((380 + (900 * (X35 79 4))) + 98) + (2 * x65)) + 1) ((x_st X66 79 (((380 + (900 * (X35 79 4))) + 98) + (2 * x65)) (X66 84 x65)) 85 x65)) ∧ m68 (x65 + 1) (x_st (x_st X66 79 (((380 + (900 * (X35 79 4))) + 98) + (2 * x65)) (X66 84 x65)) 79 ((((380 + (900 * (X35 79 4))) + 98) + (2 * x65)) + 1) ((x_st X66 79 (((380 + (900 * (X35 79 4))) + 98) + (2 * x65)) (X66 84 x65)) 85 x65)) < m68 x65 X66)) ∧ (¬ (8 * (X49 77 16)) ≤ x48 → (0 ≤ x48 ∧ x48 < 96) ∧ (0 ≤ (((380 + (900 * (X35 79 4))) + 2) + x48) ∧ (((380 + (900 * (X35 79 4))) + 2) + x48) < 5780) ∧ I50 (x48 + 1) (x_st X49 79 (((380 + (900 * (X35 79 4))) + 2) + x48) (X49 83 x48)) ∧ m51 (x48 + 1) (x_st X49 79 (((380 + (900 * (X35 79 4))) + 2) + x48) (X49 83 x48)) < m51 x48 X49)) ∧ (¬ (X35 77 14) = 0 → w_X12_tell  (-6) X35 (fun (v113 : Int) (X114 : XT) => Q v113 X114)))) → J33) → R32 (X20 77 14) ∧ (¬ (X20 77 14) = 0 → J33 ) ∧ ((X20 77 14) = 0 → w_X12_isSign  59 X20 (fun (v121 : Int) => R32 v121 ∧ (v121 = 0 → J33 ) ∧ (¬ v121 = 0 → w_X12_next   X20 (fun (X130 : XT) => w_X12_readLaw   X130 (fun (X136 : XT) => I21  X136 ∧ m22  X136 < m22  X20)))))))) ∧ (((x_st X 77 0 0) 79 4) = 6 → w_X12_tell  (-5) (x_st (x_st X 77 0 0) 77 8 0) (fun (v146 : Int) (X147 : XT) => Q v146 X147))
set_option maxRecDepth 20000 in
theorem so_X12_law {n : Nat} {h : Nat → sE} {X : XT} {Q : Int → XT → Prop} (hn : 115 ≤ n) (hp : Pic X h) (w : w_X12_law   X Q) : Sp m_X12_law 8 0 0 [.ref 77] n h (pIw n h Q) := by
  unfold w_X12_law at w
  refine Sp.ofV (by decide +kernel) (Nat.le_of_ble_eq_true rfl) ?_
  have hf : Fr h h := fun _ _ => rfl
  refine v_aload_n dX12_law_0 rfl ?_
  refine v_iconstI dX12_law_1 ?_
  refine v_put dX12_law_2 fl_X12_169 ((hp 77 (by decide)).trans (ent_77 _)) (s_lt hn rfl) (Nat.le_of_ble_eq_true rfl) (fun _ => ⟨rfl, rfl⟩) trivial (fun h1 E2 F3 => ?_)
  have hp4 := pic_st hp (show h1 77 = ent 77 (uI _ 0 0) from E2) F3
  have hf5 := Fr.up (c := 77) hf F3 rfl
  refine v_aload_n dX12_law_5 rfl ?_
  refine v_get dX12_law_6 fl_X12_13 ((hp4 77 (by decide)).trans (ent_77 _)) rfl (s_lt hn rfl) ?_
  refine v_iconstI dX12_law_9 ?_
  refine v_ialdI dX12_law_10 ((hp4 79 (by decide)).trans (ent_79 _)) (s_lt hn rfl) (by decide) (by decide) (by decide) ?_
  refine v_bipushI dX12_law_11 rfl ?_
  obtain ⟨q6, w⟩ := w
  refine v_icmp_neI (tgt := 28) dX12_law_13 (by decide) q6.1 q6.2 (by decide) (by decide) (fun c7 => ?_) (fun c7 => ?_)
  · replace w := w.1 c7
    refine v_aload_n dX12_law_28 rfl ?_
    refine v_iconstI dX12_law_29 ?_
    refine v_callVVw dX12_law_30 ml_X12_385 (so_X12_beginText hn hp4  w) ((hp4 77 (by decide)).trans (ent_77 _)) rfl (s_lt hn rfl) rfl rfl (Nat.le_of_ble_eq_true rfl) (Nat.le_of_ble_eq_true rfl) (Nat.zero_le _) (Nat.zero_le _) (fun X9 h10 hp12 hf11 w => ?_)
    have hf13 := Fr.trans hf5 hf11
    refine v_aload_n dX12_law_33 rfl ?_
    refine v_callVVw dX12_law_34 ml_X12_388 (so_X12_readLaw hn hp12  w) ((hp12 77 (by decide)).trans (ent_77 _)) rfl (s_lt hn rfl) rfl rfl (Nat.le_of_ble_eq_true rfl) (Nat.le_of_ble_eq_true rfl) (Nat.zero_le _) (Nat.zero_le _) (fun X15 h16 hp18 hf17 w => ?_)
    have hf19 := Fr.trans hf13 hf17
    obtain ⟨I21, m22, wi25, wl24⟩ := w
    have hL26 : ∀ (N29 : Nat)  (X20 : XT) (h30 : Nat → sE), m22  X20 < N29 → I21  X20 → Pic X20 h30 → Fr h h30 → V (m_X12_law, 8, 0, 0, n, pIw n h Q, s_G0) 0 0 n h30 37 [(0, .ref 77)] [] := by
      intro N29
      induction N29 with
      | zero => intro  X20 h30 hm27; exact absurd hm27 (Nat.not_lt_zero _)
      | succ N29 ih23 =>
        intro  X20 h30 hm27 hI28 hp31 hf32
        have w := wl24  X20 hI28
        refine v_aload_n dX12_law_37 rfl ?_
        refine v_get dX12_law_38 fl_X12_254 ((hp31 77 (by decide)).trans (ent_77 _)) rfl (s_lt hn rfl) ?_
        replace w := w (V (m_X12_law, 8, 0, 0, n, pIw n h Q, s_G0) 0 0 n h30 64 [(0, .ref 77)] []) (by
          intro  w
          refine v_aload_n dX12_law_64 rfl ?_
          refine v_callVVw dX12_law_65 ml_X12_391 (so_X12_endText hn hp31  w) ((hp31 77 (by decide)).trans (ent_77 _)) rfl (s_lt hn rfl) rfl rfl (Nat.le_of_ble_eq_true rfl) (Nat.le_of_ble_eq_true rfl) (Nat.zero_le _) (Nat.zero_le _) (fun X35 h36 hp38 hf37 w => ?_)
          have hf39 := Fr.trans hf32 hf37
          refine v_aload_n dX12_law_68 rfl ?_
          refine v_get dX12_law_69 fl_X12_254 ((hp38 77 (by decide)).trans (ent_77 _)) rfl (s_lt hn rfl) ?_
          obtain ⟨q40, w⟩ := w
          refine v_if_eqI (tgt := 82) dX12_law_72 (by decide) q40.1 q40.2 (fun c41 => ?_) (fun c41 => ?_)
          · replace w := w.1 c41
            refine v_sipushI dX12_law_82 rfl ?_
            refine v_sipushI dX12_law_85 rfl ?_
            refine v_aload_n dX12_law_88 rfl ?_
            refine v_get dX12_law_89 fl_X12_13 ((hp38 77 (by decide)).trans (ent_77 _)) rfl (s_lt hn rfl) ?_
            refine v_iconstI dX12_law_92 ?_
            refine v_ialdI dX12_law_93 ((hp38 79 (by decide)).trans (ent_79 _)) (s_lt hn rfl) (by decide) (by decide) (by decide) ?_
            refine v_imulI dX12_law_94 ?_
            refine v_iaddI dX12_law_95 ?_
            refine v_istore_n dX12_law_96 (Nat.le_of_ble_eq_true rfl) ?_
            refine v_aload_n dX12_law_97 rfl ?_
            refine v_get dX12_law_98 fl_X12_13 ((hp38 77 (by decide)).trans (ent_77 _)) rfl (s_lt hn rfl) ?_
            refine v_iload_n dX12_law_101 rfl ?_
            refine v_iconstI dX12_law_102 ?_
            refine v_iaddI dX12_law_103 ?_
            refine v_aload_n dX12_law_104 rfl ?_
            refine v_get dX12_law_105 fl_X12_377 ((hp38 77 (by decide)).trans (ent_77 _)) rfl (s_lt hn rfl) ?_
            obtain ⟨q42, w⟩ := w
            refine v_iastI dX12_law_108 ((hp38 79 (by decide)).trans (ent_79 _)) (s_lt hn rfl) q42.1 q42.2 (ix_le q42.2 (by decide)) (fun h43 E44 F45 => ?_)
            have hp46 := pic_st hp38 (show h43 79 = ent 79 (uI _ ((380 + (900 * (X35 79 4))) + 1) (X35 77 16)) from E44) F45
            have hf47 := Fr.up (c := 79) hf39 F45 rfl
            refine v_iconstI dX12_law_109 ?_
            refine v_istore_n dX12_law_110 (Nat.le_of_ble_eq_true rfl) ?_
            refine v_pick [2, 1, 0] rfl ?_
            obtain ⟨I50, m51, wi54, wl53⟩ := w
            have hL55 : ∀ (N58 : Nat) (x48 : Int) (X49 : XT) (h59 : Nat → sE), m51 x48 X49 < N58 → I50 x48 X49 → Pic X49 h59 → Fr h h59 → V (m_X12_law, 8, 0, 0, n, pIw n h Q, s_G0) 0 0 n h59 111 [(0, .ref 77), (1, .int (iI (380 + (900 * (X35 79 4))))), (2, .int (iI x48))] [] := by
              intro N58
              induction N58 with
              | zero => intro x48 X49 h59 hm56; exact absurd hm56 (Nat.not_lt_zero _)
              | succ N58 ih52 =>
                intro x48 X49 h59 hm56 hI57 hp60 hf61
                have w := wl53 x48 X49 hI57
                refine v_iload_n dX12_law_111 rfl ?_
                refine v_bipushI dX12_law_112 rfl ?_
                refine v_aload_n dX12_law_114 rfl ?_
                refine v_get dX12_law_115 fl_X12_377 ((hp60 77 (by decide)).trans (ent_77 _)) rfl (s_lt hn rfl) ?_
                refine v_imulI dX12_law_118 ?_
                obtain ⟨q62, q63, w⟩ := w
                refine v_icmp_geI (tgt := 144) dX12_law_119 (by decide) q62.1 q62.2 q63.1 q63.2 (fun c64 => ?_) (fun c64 => ?_)
                · replace w := w.1 c64
                  refine v_iconstI dX12_law_144 ?_
                  refine v_istore_n dX12_law_145 (Nat.le_of_ble_eq_true rfl) ?_
                  refine v_pick [1, 2, 0] rfl ?_
                  obtain ⟨I67, m68, wi71, wl70⟩ := w
                  have hL72 : ∀ (N75 : Nat) (x65 : Int) (X66 : XT) (h76 : Nat → sE), m68 x65 X66 < N75 → I67 x65 X66 → Pic X66 h76 → Fr h h76 → V (m_X12_law, 8, 0, 0, n, pIw n h Q, s_G0) 0 0 n h76 146 [(0, .ref 77), (1, .int (iI (380 + (900 * (X35 79 4))))), (2, .int (iI x65))] [] := by
                    intro N75
                    induction N75 with
                    | zero => intro x65 X66 h76 hm73; exact absurd hm73 (Nat.not_lt_zero _)
                    | succ N75 ih69 =>
                      intro x65 X66 h76 hm73 hI74 hp77 hf78
                      have w := wl70 x65 X66 hI74
                      refine v_iload_n dX12_law_146 rfl ?_
                      refine v_aload_n dX12_law_147 rfl ?_
                      refine v_get dX12_law_148 fl_X12_289 ((hp77 77 (by decide)).trans (ent_77 _)) rfl (s_lt hn rfl) ?_
                      obtain ⟨q79, q80, w⟩ := w
                      refine v_icmp_geI (tgt := 200) dX12_law_151 (by decide) q79.1 q79.2 q80.1 q80.2 (fun c81 => ?_) (fun c81 => ?_)
                      · replace w := w.1 c81
                        refine v_aload_n dX12_law_200 rfl ?_
                        refine v_get dX12_law_201 fl_X12_13 ((hp77 77 (by decide)).trans (ent_77 _)) rfl (s_lt hn rfl) ?_
                        refine v_iconstI dX12_law_204 ?_
                        refine v_dup2 dX12_law_205 rfl rfl ?_
                        refine v_ialdI dX12_law_206 ((hp77 79 (by decide)).trans (ent_79 _)) (s_lt hn rfl) (by decide) (by decide) (by decide) ?_
                        refine v_iconstI dX12_law_207 ?_
                        refine v_iaddI dX12_law_208 ?_
                        refine v_iastI dX12_law_209 ((hp77 79 (by decide)).trans (ent_79 _)) (s_lt hn rfl) (by decide) (by decide) (by decide) (fun h82 E83 F84 => ?_)
                        have hp85 := pic_st hp77 (show h82 79 = ent 79 (uI _ 4 ((X66 79 4) + 1)) from E83) F84
                        have hf86 := Fr.up (c := 79) hf78 F84 rfl
                        refine v_aload_n dX12_law_210 rfl ?_
                        refine v_aload_n dX12_law_211 rfl ?_
                        refine v_get dX12_law_212 fl_X12_13 ((hp85 77 (by decide)).trans (ent_77 _)) rfl (s_lt hn rfl) ?_
                        refine v_iconstI dX12_law_215 ?_
                        refine v_ialdI dX12_law_216 ((hp85 79 (by decide)).trans (ent_79 _)) (s_lt hn rfl) (by decide) (by decide) (by decide) ?_
                        refine v_iconstI dX12_law_217 ?_
                        refine v_isubI dX12_law_218 ?_
                        refine v_callVIw dX12_law_219 ml_X12_179 (so_X12_tell hn hp85  w) ((hp85 77 (by decide)).trans (ent_77 _)) rfl (s_lt hn rfl) rfl rfl (Nat.le_of_ble_eq_true rfl) (Nat.le_of_ble_eq_true rfl) (Nat.zero_le _) (Nat.zero_le _) (fun v87 X88 h89 hp91 hf90 w => ?_)
                        have hf92 := Fr.trans hf86 hf90
                        exact v_iret dX12_law_222 rfl (Nat.zero_le _) (Nat.zero_le _) ⟨rfl, hf92, _, _, rfl, hp91, w⟩
                      · replace w := w.2 c81
                        refine v_aload_n dX12_law_154 rfl ?_
                        refine v_get dX12_law_155 fl_X12_13 ((hp77 77 (by decide)).trans (ent_77 _)) rfl (s_lt hn rfl) ?_
                        refine v_iload_n dX12_law_158 rfl ?_
                        refine v_bipushI dX12_law_159 rfl ?_
                        refine v_iaddI dX12_law_161 ?_
                        refine v_iconstI dX12_law_162 ?_
                        refine v_iload_n dX12_law_163 rfl ?_
                        refine v_imulI dX12_law_164 ?_
                        refine v_iaddI dX12_law_165 ?_
                        refine v_aload_n dX12_law_166 rfl ?_
                        refine v_get dX12_law_167 fl_X12_33 ((hp77 77 (by decide)).trans (ent_77 _)) rfl (s_lt hn rfl) ?_
                        refine v_iload_n dX12_law_170 rfl ?_
                        obtain ⟨q93, w⟩ := w
                        refine v_ialdI dX12_law_171 ((hp77 84 (by decide)).trans (ent_84 _)) (s_lt hn rfl) q93.1 q93.2 (ix_le q93.2 (by decide)) ?_
                        obtain ⟨q94, w⟩ := w
                        refine v_iastI dX12_law_172 ((hp77 79 (by decide)).trans (ent_79 _)) (s_lt hn rfl) q94.1 q94.2 (ix_le q94.2 (by decide)) (fun h95 E96 F97 => ?_)
                        have hp98 := pic_st hp77 (show h95 79 = ent 79 (uI _ (((380 + (900 * (X35 79 4))) + 98) + (2 * x65)) (X66 84 x65)) from E96) F97
                        have hf99 := Fr.up (c := 79) hf78 F97 rfl
                        refine v_aload_n dX12_law_173 rfl ?_
                        refine v_get dX12_law_174 fl_X12_13 ((hp98 77 (by decide)).trans (ent_77 _)) rfl (s_lt hn rfl) ?_
                        refine v_iload_n dX12_law_177 rfl ?_
                        refine v_bipushI dX12_law_178 rfl ?_
                        refine v_iaddI dX12_law_180 ?_
                        refine v_iconstI dX12_law_181 ?_
                        refine v_iload_n dX12_law_182 rfl ?_
                        refine v_imulI dX12_law_183 ?_
                        refine v_iaddI dX12_law_184 ?_
                        refine v_iconstI dX12_law_185 ?_
                        refine v_iaddI dX12_law_186 ?_
                        refine v_aload_n dX12_law_187 rfl ?_
                        refine v_get dX12_law_188 fl_X12_36 ((hp98 77 (by decide)).trans (ent_77 _)) rfl (s_lt hn rfl) ?_
                        refine v_iload_n dX12_law_191 rfl ?_
                        refine v_ialdI dX12_law_192 ((hp98 85 (by decide)).trans (ent_85 _)) (s_lt hn rfl) q93.1 q93.2 (ix_le q93.2 (by decide)) ?_
                        obtain ⟨q100, w⟩ := w
                        refine v_iastI dX12_law_193 ((hp98 79 (by decide)).trans (ent_79 _)) (s_lt hn rfl) q100.1 q100.2 (ix_le q100.2 (by decide)) (fun h101 E102 F103 => ?_)
                        have hp104 := pic_st hp98 (show h101 79 = ent 79 (uI _ ((((380 + (900 * (X35 79 4))) + 98) + (2 * x65)) + 1) ((x_st X66 79 (((380 + (900 * (X35 79 4))) + 98) + (2 * x65)) (X66 84 x65)) 85 x65)) from E102) F103
                        have hf105 := Fr.up (c := 79) hf99 F103 rfl
                        refine v_iincI dX12_law_194 rfl (Nat.le_of_ble_eq_true rfl) ?_
                        refine v_goto (tgt := 146) dX12_law_197 (by decide) ?_
                        refine v_pick [1, 2, 0] rfl ?_
                        exact ih69 _ _ _ (Nat.lt_of_lt_of_le w.2 (Nat.le_of_lt_succ hm73)) w.1 hp104 hf105
                  exact hL72 _ _ _ _ (Nat.lt_succ_self _) wi71 hp60 hf61
                · replace w := w.2 c64
                  refine v_aload_n dX12_law_122 rfl ?_
                  refine v_get dX12_law_123 fl_X12_13 ((hp60 77 (by decide)).trans (ent_77 _)) rfl (s_lt hn rfl) ?_
                  refine v_iload_n dX12_law_126 rfl ?_
                  refine v_iconstI dX12_law_127 ?_
                  refine v_iaddI dX12_law_128 ?_
                  refine v_iload_n dX12_law_129 rfl ?_
                  refine v_iaddI dX12_law_130 ?_
                  refine v_aload_n dX12_law_131 rfl ?_
                  refine v_get dX12_law_132 fl_X12_30 ((hp60 77 (by decide)).trans (ent_77 _)) rfl (s_lt hn rfl) ?_
                  refine v_iload_n dX12_law_135 rfl ?_
                  obtain ⟨q106, w⟩ := w
                  refine v_ialdI dX12_law_136 ((hp60 83 (by decide)).trans (ent_83 _)) (s_lt hn rfl) q106.1 q106.2 (ix_le q106.2 (by decide)) ?_
                  obtain ⟨q107, w⟩ := w
                  refine v_iastI dX12_law_137 ((hp60 79 (by decide)).trans (ent_79 _)) (s_lt hn rfl) q107.1 q107.2 (ix_le q107.2 (by decide)) (fun h108 E109 F110 => ?_)
                  have hp111 := pic_st hp60 (show h108 79 = ent 79 (uI _ (((380 + (900 * (X35 79 4))) + 2) + x48) (X49 83 x48)) from E109) F110
                  have hf112 := Fr.up (c := 79) hf61 F110 rfl
                  refine v_iincI dX12_law_138 rfl (Nat.le_of_ble_eq_true rfl) ?_
                  refine v_goto (tgt := 111) dX12_law_141 (by decide) ?_
                  refine v_pick [1, 2, 0] rfl ?_
                  exact ih52 _ _ _ (Nat.lt_of_lt_of_le w.2 (Nat.le_of_lt_succ hm56)) w.1 hp111 hf112
            exact hL55 _ _ _ _ (Nat.lt_succ_self _) wi54 hp46 hf47
          · replace w := w.2 c41
            refine v_aload_n dX12_law_75 rfl ?_
            refine v_bipushI dX12_law_76 rfl ?_
            refine v_callVIw dX12_law_78 ml_X12_179 (so_X12_tell hn hp38  w) ((hp38 77 (by decide)).trans (ent_77 _)) rfl (s_lt hn rfl) rfl rfl (Nat.le_of_ble_eq_true rfl) (Nat.le_of_ble_eq_true rfl) (Nat.zero_le _) (Nat.zero_le _) (fun v113 X114 h115 hp117 hf116 w => ?_)
            have hf118 := Fr.trans hf39 hf116
            exact v_iret dX12_law_81 rfl (Nat.zero_le _) (Nat.zero_le _) ⟨rfl, hf118, _, _, rfl, hp117, w⟩
        )
        obtain ⟨q119, w⟩ := w
        refine v_if_neI (tgt := 64) dX12_law_41 (by decide) q119.1 q119.2 (fun c120 => ?_) (fun c120 => ?_)
        · replace w := w.1 c120
          exact w
        · replace w := w.2 c120
          refine v_aload_n dX12_law_44 rfl ?_
          refine v_bipushI dX12_law_45 rfl ?_
          refine v_callVIr dX12_law_47 ml_X12_319 (so_X12_isSign hn hp31  w) ((hp31 77 (by decide)).trans (ent_77 _)) rfl (s_lt hn rfl) rfl rfl (Nat.le_of_ble_eq_true rfl) (Nat.le_of_ble_eq_true rfl) (Nat.zero_le _) (Nat.zero_le _) (fun v121 w => ?_)
          obtain ⟨q127, w⟩ := w
          refine v_if_eqI (tgt := 64) dX12_law_50 (by decide) q127.1 q127.2 (fun c128 => ?_) (fun c128 => ?_)
          · replace w := w.1 c128
            exact w
          · replace w := w.2 c128
            refine v_aload_n dX12_law_53 rfl ?_
            refine v_callVVw dX12_law_54 ml_X12_258 (so_X12_next hn hp31  w) ((hp31 77 (by decide)).trans (ent_77 _)) rfl (s_lt hn rfl) rfl rfl (Nat.le_of_ble_eq_true rfl) (Nat.le_of_ble_eq_true rfl) (Nat.zero_le _) (Nat.zero_le _) (fun X130 h131 hp133 hf132 w => ?_)
            have hf134 := Fr.trans hf32 hf132
            refine v_aload_n dX12_law_57 rfl ?_
            refine v_callVVw dX12_law_58 ml_X12_388 (so_X12_readLaw hn hp133  w) ((hp133 77 (by decide)).trans (ent_77 _)) rfl (s_lt hn rfl) rfl rfl (Nat.le_of_ble_eq_true rfl) (Nat.le_of_ble_eq_true rfl) (Nat.zero_le _) (Nat.zero_le _) (fun X136 h137 hp139 hf138 w => ?_)
            have hf140 := Fr.trans hf134 hf138
            refine v_goto (tgt := 37) dX12_law_61 (by decide) ?_
            exact ih23 _ _ (Nat.lt_of_lt_of_le w.2 (Nat.le_of_lt_succ hm27)) w.1 hp139 hf140
    exact hL26 _ _ _ (Nat.lt_succ_self _) wi25 hp18 hf19
  · replace w := w.2 c7
    refine v_aload_n dX12_law_16 rfl ?_
    refine v_iconstI dX12_law_17 ?_
    refine v_put dX12_law_18 fl_X12_241 ((hp4 77 (by decide)).trans (ent_77 _)) (s_lt hn rfl) (Nat.le_of_ble_eq_true rfl) (fun _ => ⟨rfl, rfl⟩) trivial (fun h141 E142 F143 => ?_)
    have hp144 := pic_st hp4 (show h141 77 = ent 77 (uI _ 8 0) from E142) F143
    have hf145 := Fr.up (c := 77) hf5 F143 rfl
    refine v_aload_n dX12_law_21 rfl ?_
    refine v_bipushI dX12_law_22 rfl ?_
    refine v_callVIw dX12_law_24 ml_X12_179 (so_X12_tell hn hp144  w) ((hp144 77 (by decide)).trans (ent_77 _)) rfl (s_lt hn rfl) rfl rfl (Nat.le_of_ble_eq_true rfl) (Nat.le_of_ble_eq_true rfl) (Nat.zero_le _) (Nat.zero_le _) (fun v146 X147 h148 hp150 hf149 w => ?_)
    have hf151 := Fr.trans hf145 hf149
    exact v_iret dX12_law_27 rfl (Nat.zero_le _) (Nat.zero_le _) ⟨rfl, hf151, _, _, rfl, hp150, w⟩
theorem dX12_readSum_0 : decode cX12_readSum 0 = .ok (.aload_n 0, 1) := by decide +kernel
theorem dX12_readSum_1 : decode cX12_readSum 1 = .ok (.getfield 160, 3) := by decide +kernel
theorem dX12_readSum_4 : decode cX12_readSum 4 = .ok (.iload_n 1, 1) := by decide +kernel
theorem dX12_readSum_5 : decode cX12_readSum 5 = .ok (.aload_n 0, 1) := by decide +kernel
theorem dX12_readSum_6 : decode cX12_readSum 6 = .ok (.getfield 289, 3) := by decide +kernel
theorem dX12_readSum_9 : decode cX12_readSum 9 = .ok (.iastore, 1) := by decide +kernel
theorem dX12_readSum_10 : decode cX12_readSum 10 = .ok (.aload_n 0, 1) := by decide +kernel
theorem dX12_readSum_11 : decode cX12_readSum 11 = .ok (.getfield 254, 3) := by decide +kernel
theorem dX12_readSum_14 : decode cX12_readSum 14 = .ok (.ifCond .ne 8, 3) := by decide +kernel
theorem dX12_readSum_17 : decode cX12_readSum 17 = .ok (.aload_n 0, 1) := by decide +kernel
theorem dX12_readSum_18 : decode cX12_readSum 18 = .ok (.iconst 0, 1) := by decide +kernel
theorem dX12_readSum_19 : decode cX12_readSum 19 = .ok (.invokevirtual 380, 3) := by decide +kernel
theorem dX12_readSum_22 : decode cX12_readSum 22 = .ok (.aload_n 0, 1) := by decide +kernel
theorem dX12_readSum_23 : decode cX12_readSum 23 = .ok (.getfield 160, 3) := by decide +kernel
theorem dX12_readSum_26 : decode cX12_readSum 26 = .ok (.iload_n 1, 1) := by decide +kernel
theorem dX12_readSum_27 : decode cX12_readSum 27 = .ok (.iconst 1, 1) := by decide +kernel
theorem dX12_readSum_28 : decode cX12_readSum 28 = .ok (.iadd, 1) := by decide +kernel
theorem dX12_readSum_29 : decode cX12_readSum 29 = .ok (.aload_n 0, 1) := by decide +kernel
theorem dX12_readSum_30 : decode cX12_readSum 30 = .ok (.getfield 289, 3) := by decide +kernel
theorem dX12_readSum_33 : decode cX12_readSum 33 = .ok (.iastore, 1) := by decide +kernel
theorem dX12_readSum_34 : decode cX12_readSum 34 = .ok (.return_, 1) := by decide +kernel
def w_X12_readSum (a0 : Int) (X : XT) (Q : XT → Prop) : Prop :=
  (0 ≤ a0 ∧ a0 < 144) ∧ ∀ J8 : XT → Prop, (∀  (X7 : XT), ((0 ≤ (a0 + 1) ∧ (a0 + 1) < 144) ∧ Q (x_st X7 113 (a0 + 1) (X7 77 18))) → J8  X7) → R32 ((x_st X 113 a0 (X 77 18)) 77 14) ∧ (¬ ((x_st X 113 a0 (X 77 18)) 77 14) = 0 → J8  (x_st X 113 a0 (X 77 18))) ∧ (((x_st X 113 a0 (X 77 18)) 77 14) = 0 → w_X12_readExpression  0 (x_st X 113 a0 (X 77 18)) (fun (X21 : XT) => J8  X21))
set_option maxRecDepth 20000 in
theorem so_X12_readSum {n : Nat} {h : Nat → sE} {X : XT} {a0 : Int} {Q : XT → Prop} (hn : 115 ≤ n) (hp : Pic X h) (w : w_X12_readSum  a0 X Q) : Sp m_X12_readSum 7 0 0 [.ref 77, .int (iI a0)] n h (pVw n h Q) := by
  unfold w_X12_readSum at w
  refine Sp.ofV (by decide +kernel) (Nat.le_of_ble_eq_true rfl) ?_
  have hf : Fr h h := fun _ _ => rfl
  refine v_aload_n dX12_readSum_0 rfl ?_
  refine v_get dX12_readSum_1 fl_X12_160 ((hp 77 (by decide)).trans (ent_77 _)) rfl (s_lt hn rfl) ?_
  refine v_iload_n dX12_readSum_4 rfl ?_
  refine v_aload_n dX12_readSum_5 rfl ?_
  refine v_get dX12_readSum_6 fl_X12_289 ((hp 77 (by decide)).trans (ent_77 _)) rfl (s_lt hn rfl) ?_
  obtain ⟨q1, w⟩ := w
  refine v_iastI dX12_readSum_9 ((hp 113 (by decide)).trans (ent_113 _)) (s_lt hn rfl) q1.1 q1.2 (ix_le q1.2 (by decide)) (fun h2 E3 F4 => ?_)
  have hp5 := pic_st hp (show h2 113 = ent 113 (uI _ a0 (X 77 18)) from E3) F4
  have hf6 := Fr.up (c := 113) hf F4 rfl
  refine v_aload_n dX12_readSum_10 rfl ?_
  refine v_get dX12_readSum_11 fl_X12_254 ((hp5 77 (by decide)).trans (ent_77 _)) rfl (s_lt hn rfl) ?_
  replace w := w (fun  (X7 : XT) => ∀ h11 : Nat → sE, Pic X7 h11 → Fr h h11 → V (m_X12_readSum, 7, 0, 0, n, pVw n h Q, s_G0) 0 0 n h11 22 [(0, .ref 77), (1, .int (iI a0))] []) (by
    intro  X7 w h11 hp9 hf10
    refine v_aload_n dX12_readSum_22 rfl ?_
    refine v_get dX12_readSum_23 fl_X12_160 ((hp9 77 (by decide)).trans (ent_77 _)) rfl (s_lt hn rfl) ?_
    refine v_iload_n dX12_readSum_26 rfl ?_
    refine v_iconstI dX12_readSum_27 ?_
    refine v_iaddI dX12_readSum_28 ?_
    refine v_aload_n dX12_readSum_29 rfl ?_
    refine v_get dX12_readSum_30 fl_X12_289 ((hp9 77 (by decide)).trans (ent_77 _)) rfl (s_lt hn rfl) ?_
    obtain ⟨q12, w⟩ := w
    refine v_iastI dX12_readSum_33 ((hp9 113 (by decide)).trans (ent_113 _)) (s_lt hn rfl) q12.1 q12.2 (ix_le q12.2 (by decide)) (fun h13 E14 F15 => ?_)
    have hp16 := pic_st hp9 (show h13 113 = ent 113 (uI _ (a0 + 1) (X7 77 18)) from E14) F15
    have hf17 := Fr.up (c := 113) hf10 F15 rfl
    exact v_vret dX12_readSum_34 rfl (Nat.zero_le _) (Nat.zero_le _) ⟨rfl, hf17, _, rfl, hp16, w⟩
  )
  obtain ⟨q18, w⟩ := w
  refine v_if_neI (tgt := 22) dX12_readSum_14 (by decide) q18.1 q18.2 (fun c19 => ?_) (fun c19 => ?_)
  · replace w := w.1 c19
    exact w _ hp5 hf6
  · replace w := w.2 c19
    refine v_aload_n dX12_readSum_17 rfl ?_
    refine v_iconstI dX12_readSum_18 ?_
    refine v_callVVw dX12_readSum_19 ml_X12_380 (so_X12_readExpression hn hp5  w) ((hp5 77 (by decide)).trans (ent_77 _)) rfl (s_lt hn rfl) rfl rfl (Nat.le_of_ble_eq_true rfl) (Nat.le_of_ble_eq_true rfl) (Nat.zero_le _) (Nat.zero_le _) (fun X21 h22 hp24 hf23 w => ?_)
    have hf25 := Fr.trans hf6 hf23
    exact w _ hp24 hf25

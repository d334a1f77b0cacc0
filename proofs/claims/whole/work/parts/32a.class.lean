/-! THE CLASS'S METHODS, 1 of 3: texts over the picture, by program (tools/wp.py) -/
theorem pic_cp {X : XT} {h h2 : Nat → sE} {b c : Nat} {N : Int} (hp : Pic X h) (E : h2 c = ent c (fun j => if 0 ≤ j ∧ j < N then X b j else X c j)) (F : ∀ j, j ≠ c → h2 j = h j) : Pic (x_cp X b c N) h2 := Pic.up hp E F
theorem dX5_append_0 : decode cX5_append 0 = .ok (.bipush 24, 2) := by decide +kernel
theorem dX5_append_2 : decode cX5_append 2 = .ok (.istore_n 2, 1) := by decide +kernel
theorem dX5_append_3 : decode cX5_append 3 = .ok (.iload_n 2, 1) := by decide +kernel
theorem dX5_append_4 : decode cX5_append 4 = .ok (.ifCond .lt 45, 3) := by decide +kernel
theorem dX5_append_7 : decode cX5_append 7 = .ok (.aload_n 0, 1) := by decide +kernel
theorem dX5_append_8 : decode cX5_append 8 = .ok (.getfield 30, 3) := by decide +kernel
theorem dX5_append_11 : decode cX5_append 11 = .ok (.sipush 400, 3) := by decide +kernel
theorem dX5_append_14 : decode cX5_append 14 = .ok (.if_icmp .ge 29, 3) := by decide +kernel
theorem dX5_append_17 : decode cX5_append 17 = .ok (.aload_n 0, 1) := by decide +kernel
theorem dX5_append_18 : decode cX5_append 18 = .ok (.getfield 9, 3) := by decide +kernel
theorem dX5_append_21 : decode cX5_append 21 = .ok (.aload_n 0, 1) := by decide +kernel
theorem dX5_append_22 : decode cX5_append 22 = .ok (.getfield 30, 3) := by decide +kernel
theorem dX5_append_25 : decode cX5_append 25 = .ok (.iload_n 1, 1) := by decide +kernel
theorem dX5_append_26 : decode cX5_append 26 = .ok (.iload_n 2, 1) := by decide +kernel
theorem dX5_append_27 : decode cX5_append 27 = .ok (.iushr, 1) := by decide +kernel
theorem dX5_append_28 : decode cX5_append 28 = .ok (.sipush 255, 3) := by decide +kernel
theorem dX5_append_31 : decode cX5_append 31 = .ok (.iand, 1) := by decide +kernel
theorem dX5_append_32 : decode cX5_append 32 = .ok (.iastore, 1) := by decide +kernel
theorem dX5_append_33 : decode cX5_append 33 = .ok (.aload_n 0, 1) := by decide +kernel
theorem dX5_append_34 : decode cX5_append 34 = .ok (.dup, 1) := by decide +kernel
theorem dX5_append_35 : decode cX5_append 35 = .ok (.getfield 30, 3) := by decide +kernel
theorem dX5_append_38 : decode cX5_append 38 = .ok (.iconst 1, 1) := by decide +kernel
theorem dX5_append_39 : decode cX5_append 39 = .ok (.iadd, 1) := by decide +kernel
theorem dX5_append_40 : decode cX5_append 40 = .ok (.putfield 30, 3) := by decide +kernel
theorem dX5_append_43 : decode cX5_append 43 = .ok (.iinc 2 (-8), 3) := by decide +kernel
theorem dX5_append_46 : decode cX5_append 46 = .ok (.goto (-43), 3) := by decide +kernel
theorem dX5_append_49 : decode cX5_append 49 = .ok (.return_, 1) := by decide +kernel
def w_X5_append (a0 : Int) (X : XT) (Q : XT → Prop) : Prop :=
  ∃ (I3 : Int → XT → Prop) (m4 : Int → XT → Nat), I3 24 X ∧ ∀ (x1 : Int) (X2 : XT), I3 x1 X2 → R32 x1 ∧ (x1 < 0 → Q X2) ∧ (¬ x1 < 0 → R32 (X2 33 4) ∧ (400 ≤ (X2 33 4) → I3 (x1 + (-8)) X2 ∧ m4 (x1 + (-8)) X2 < m4 x1 X2) ∧ (¬ 400 ≤ (X2 33 4) → (0 ≤ (X2 33 4) ∧ (X2 33 4) < 400) ∧ I3 (x1 + (-8)) (x_st (x_st X2 34 (X2 33 4) (oAnd (oUshr a0 x1) 255)) 33 4 (((x_st X2 34 (X2 33 4) (oAnd (oUshr a0 x1) 255)) 33 4) + 1)) ∧ m4 (x1 + (-8)) (x_st (x_st X2 34 (X2 33 4) (oAnd (oUshr a0 x1) 255)) 33 4 (((x_st X2 34 (X2 33 4) (oAnd (oUshr a0 x1) 255)) 33 4) + 1)) < m4 x1 X2))
set_option maxRecDepth 20000 in
theorem so_X5_append {n : Nat} {h : Nat → sE} {X : XT} {a0 : Int} {Q : XT → Prop} (hn : 115 ≤ n) (hp : Pic X h) (w : w_X5_append  a0 X Q) : Sp m_X5_append 0 0 0 [.ref 33, .int (iI a0)] n h (pVw n h Q) := by
  unfold w_X5_append at w
  refine Sp.ofV (by decide +kernel) (Nat.le_of_ble_eq_true rfl) ?_
  have hf : Fr h h := fun _ _ => rfl
  refine v_bipushI dX5_append_0 rfl ?_
  refine v_istore_n dX5_append_2 (Nat.le_of_ble_eq_true rfl) ?_
  refine v_pick [1, 2, 0] rfl ?_
  obtain ⟨I3, m4, wi7, wl6⟩ := w
  have hL8 : ∀ (N11 : Nat) (x1 : Int) (X2 : XT) (h12 : Nat → sE), m4 x1 X2 < N11 → I3 x1 X2 → Pic X2 h12 → Fr h h12 → V (m_X5_append, 0, 0, 0, n, pVw n h Q, s_G0) 0 0 n h12 3 [(0, .ref 33), (1, .int (iI a0)), (2, .int (iI x1))] [] := by
    intro N11
    induction N11 with
    | zero => intro x1 X2 h12 hm9; exact absurd hm9 (Nat.not_lt_zero _)
    | succ N11 ih5 =>
      intro x1 X2 h12 hm9 hI10 hp13 hf14
      have w := wl6 x1 X2 hI10
      refine v_iload_n dX5_append_3 rfl ?_
      obtain ⟨q15, w⟩ := w
      refine v_if_ltI (tgt := 49) dX5_append_4 (by decide) q15.1 q15.2 (fun c16 => ?_) (fun c16 => ?_)
      · replace w := w.1 c16
        exact v_vret dX5_append_49 rfl (Nat.zero_le _) (Nat.zero_le _) ⟨rfl, hf14, _, rfl, hp13, w⟩
      · replace w := w.2 c16
        refine v_aload_n dX5_append_7 rfl ?_
        refine v_get dX5_append_8 fl_X5_30 ((hp13 33 (by decide)).trans (ent_33 _)) rfl (s_lt hn rfl) ?_
        refine v_sipushI dX5_append_11 rfl ?_
        obtain ⟨q17, w⟩ := w
        refine v_icmp_geI (tgt := 43) dX5_append_14 (by decide) q17.1 q17.2 (by decide) (by decide) (fun c18 => ?_) (fun c18 => ?_)
        · replace w := w.1 c18
          refine v_iincI dX5_append_43 rfl (Nat.le_of_ble_eq_true rfl) ?_
          refine v_goto (tgt := 3) dX5_append_46 (by decide) ?_
          refine v_pick [1, 2, 0] rfl ?_
          exact ih5 _ _ _ (Nat.lt_of_lt_of_le w.2 (Nat.le_of_lt_succ hm9)) w.1 hp13 hf14
        · replace w := w.2 c18
          refine v_aload_n dX5_append_17 rfl ?_
          refine v_get dX5_append_18 fl_X5_9 ((hp13 33 (by decide)).trans (ent_33 _)) rfl (s_lt hn rfl) ?_
          refine v_aload_n dX5_append_21 rfl ?_
          refine v_get dX5_append_22 fl_X5_30 ((hp13 33 (by decide)).trans (ent_33 _)) rfl (s_lt hn rfl) ?_
          refine v_iload_n dX5_append_25 rfl ?_
          refine v_iload_n dX5_append_26 rfl ?_
          refine v_iushrI dX5_append_27 ?_
          refine v_sipushI dX5_append_28 rfl ?_
          refine v_iandI dX5_append_31 ?_
          obtain ⟨q19, w⟩ := w
          refine v_iastI dX5_append_32 ((hp13 34 (by decide)).trans (ent_34 _)) (s_lt hn rfl) q19.1 q19.2 (ix_le q19.2 (by decide)) (fun h20 E21 F22 => ?_)
          have hp23 := pic_st hp13 (show h20 34 = ent 34 (uI _ (X2 33 4) (oAnd (oUshr a0 x1) 255)) from E21) F22
          have hf24 := Fr.up (c := 34) hf14 F22 rfl
          refine v_aload_n dX5_append_33 rfl ?_
          refine v_dup dX5_append_34 rfl ?_
          refine v_get dX5_append_35 fl_X5_30 ((hp23 33 (by decide)).trans (ent_33 _)) rfl (s_lt hn rfl) ?_
          refine v_iconstI dX5_append_38 ?_
          refine v_iaddI dX5_append_39 ?_
          refine v_put dX5_append_40 fl_X5_30 ((hp23 33 (by decide)).trans (ent_33 _)) (s_lt hn rfl) (Nat.le_of_ble_eq_true rfl) (fun _ => ⟨rfl, rfl⟩) trivial (fun h25 E26 F27 => ?_)
          have hp28 := pic_st hp23 (show h25 33 = ent 33 (uI _ 4 (((x_st X2 34 (X2 33 4) (oAnd (oUshr a0 x1) 255)) 33 4) + 1)) from E26) F27
          have hf29 := Fr.up (c := 33) hf24 F27 rfl
          refine v_iincI dX5_append_43 rfl (Nat.le_of_ble_eq_true rfl) ?_
          refine v_goto (tgt := 3) dX5_append_46 (by decide) ?_
          refine v_pick [1, 2, 0] rfl ?_
          exact ih5 _ _ _ (Nat.lt_of_lt_of_le w.2 (Nat.le_of_lt_succ hm9)) w.1 hp28 hf29
  exact hL8 _ _ _ _ (Nat.lt_succ_self _) wi7 hp hf
theorem dX11_feed_0 : decode cX11_feed 0 = .ok (.aload_n 0, 1) := by decide +kernel
theorem dX11_feed_1 : decode cX11_feed 1 = .ok (.getfield 27, 3) := by decide +kernel
theorem dX11_feed_4 : decode cX11_feed 4 = .ok (.getfield 201, 3) := by decide +kernel
theorem dX11_feed_7 : decode cX11_feed 7 = .ok (.bipush 20, 2) := by decide +kernel
theorem dX11_feed_9 : decode cX11_feed 9 = .ok (.iadd, 1) := by decide +kernel
theorem dX11_feed_10 : decode cX11_feed 10 = .ok (.sipush 400, 3) := by decide +kernel
theorem dX11_feed_13 : decode cX11_feed 13 = .ok (.if_icmp .le 5, 3) := by decide +kernel
theorem dX11_feed_16 : decode cX11_feed 16 = .ok (.iconst (-1), 1) := by decide +kernel
theorem dX11_feed_17 : decode cX11_feed 17 = .ok (.ireturn, 1) := by decide +kernel
theorem dX11_feed_18 : decode cX11_feed 18 = .ok (.aload_n 0, 1) := by decide +kernel
theorem dX11_feed_19 : decode cX11_feed 19 = .ok (.getfield 27, 3) := by decide +kernel
theorem dX11_feed_22 : decode cX11_feed 22 = .ok (.iload_n 1, 1) := by decide +kernel
theorem dX11_feed_23 : decode cX11_feed 23 = .ok (.invokevirtual 207, 3) := by decide +kernel
theorem dX11_feed_26 : decode cX11_feed 26 = .ok (.aload_n 0, 1) := by decide +kernel
theorem dX11_feed_27 : decode cX11_feed 27 = .ok (.getfield 27, 3) := by decide +kernel
theorem dX11_feed_30 : decode cX11_feed 30 = .ok (.iload_n 2, 1) := by decide +kernel
theorem dX11_feed_31 : decode cX11_feed 31 = .ok (.invokevirtual 207, 3) := by decide +kernel
theorem dX11_feed_34 : decode cX11_feed 34 = .ok (.aload_n 0, 1) := by decide +kernel
theorem dX11_feed_35 : decode cX11_feed 35 = .ok (.getfield 27, 3) := by decide +kernel
theorem dX11_feed_38 : decode cX11_feed 38 = .ok (.iload_n 3, 1) := by decide +kernel
theorem dX11_feed_39 : decode cX11_feed 39 = .ok (.invokevirtual 207, 3) := by decide +kernel
theorem dX11_feed_42 : decode cX11_feed 42 = .ok (.aload_n 0, 1) := by decide +kernel
theorem dX11_feed_43 : decode cX11_feed 43 = .ok (.getfield 27, 3) := by decide +kernel
theorem dX11_feed_46 : decode cX11_feed 46 = .ok (.iload 4, 2) := by decide +kernel
theorem dX11_feed_48 : decode cX11_feed 48 = .ok (.invokevirtual 207, 3) := by decide +kernel
theorem dX11_feed_51 : decode cX11_feed 51 = .ok (.aload_n 0, 1) := by decide +kernel
theorem dX11_feed_52 : decode cX11_feed 52 = .ok (.getfield 27, 3) := by decide +kernel
theorem dX11_feed_55 : decode cX11_feed 55 = .ok (.iload 5, 2) := by decide +kernel
theorem dX11_feed_57 : decode cX11_feed 57 = .ok (.invokevirtual 207, 3) := by decide +kernel
theorem dX11_feed_60 : decode cX11_feed 60 = .ok (.aload_n 0, 1) := by decide +kernel
theorem dX11_feed_61 : decode cX11_feed 61 = .ok (.getfield 27, 3) := by decide +kernel
theorem dX11_feed_64 : decode cX11_feed 64 = .ok (.getfield 201, 3) := by decide +kernel
theorem dX11_feed_67 : decode cX11_feed 67 = .ok (.ireturn, 1) := by decide +kernel
def w_X11_feed (a0 a1 a2 a3 a4 : Int) (X : XT) (Q : Int → XT → Prop) : Prop :=
  R32 ((X 33 4) + 20) ∧ (((X 33 4) + 20) ≤ 400 → w_X5_append  a0 X (fun (X4 : XT) => w_X5_append  a1 X4 (fun (X10 : XT) => w_X5_append  a2 X10 (fun (X16 : XT) => w_X5_append  a3 X16 (fun (X22 : XT) => w_X5_append  a4 X22 (fun (X28 : XT) => Q (X28 33 4) X28)))))) ∧ (¬ ((X 33 4) + 20) ≤ 400 → Q (-1) X)
set_option maxRecDepth 20000 in
theorem so_X11_feed {n : Nat} {h : Nat → sE} {X : XT} {a0 a1 a2 a3 a4 : Int} {Q : Int → XT → Prop} (hn : 115 ≤ n) (hp : Pic X h) (w : w_X11_feed  a0 a1 a2 a3 a4 X Q) : Sp m_X11_feed 1 0 0 [.ref 0, .int (iI a0), .int (iI a1), .int (iI a2), .int (iI a3), .int (iI a4)] n h (pIw n h Q) := by
  unfold w_X11_feed at w
  refine Sp.ofV (by decide +kernel) (Nat.le_of_ble_eq_true rfl) ?_
  have hf : Fr h h := fun _ _ => rfl
  refine v_aload_n dX11_feed_0 rfl ?_
  refine v_get dX11_feed_1 fl_X11_27 ((hp 0 (by decide)).trans (ent_0 _)) rfl (s_lt hn rfl) ?_
  refine v_get dX11_feed_4 fl_X11_201 ((hp 33 (by decide)).trans (ent_33 _)) rfl (s_lt hn rfl) ?_
  refine v_bipushI dX11_feed_7 rfl ?_
  refine v_iaddI dX11_feed_9 ?_
  refine v_sipushI dX11_feed_10 rfl ?_
  obtain ⟨q1, w⟩ := w
  refine v_icmp_leI (tgt := 18) dX11_feed_13 (by decide) q1.1 q1.2 (by decide) (by decide) (fun c2 => ?_) (fun c2 => ?_)
  · replace w := w.1 c2
    refine v_aload_n dX11_feed_18 rfl ?_
    refine v_get dX11_feed_19 fl_X11_27 ((hp 0 (by decide)).trans (ent_0 _)) rfl (s_lt hn rfl) ?_
    refine v_iload_n dX11_feed_22 rfl ?_
    refine v_callVVw dX11_feed_23 ml_X11_207 (so_X5_append hn hp  w) ((hp 33 (by decide)).trans (ent_33 _)) rfl (s_lt hn rfl) rfl rfl (Nat.le_of_ble_eq_true rfl) (Nat.le_of_ble_eq_true rfl) (Nat.zero_le _) (Nat.zero_le _) (fun X4 h5 hp7 hf6 w => ?_)
    have hf8 := Fr.trans hf hf6
    refine v_aload_n dX11_feed_26 rfl ?_
    refine v_get dX11_feed_27 fl_X11_27 ((hp7 0 (by decide)).trans (ent_0 _)) rfl (s_lt hn rfl) ?_
    refine v_iload_n dX11_feed_30 rfl ?_
    refine v_callVVw dX11_feed_31 ml_X11_207 (so_X5_append hn hp7  w) ((hp7 33 (by decide)).trans (ent_33 _)) rfl (s_lt hn rfl) rfl rfl (Nat.le_of_ble_eq_true rfl) (Nat.le_of_ble_eq_true rfl) (Nat.zero_le _) (Nat.zero_le _) (fun X10 h11 hp13 hf12 w => ?_)
    have hf14 := Fr.trans hf8 hf12
    refine v_aload_n dX11_feed_34 rfl ?_
    refine v_get dX11_feed_35 fl_X11_27 ((hp13 0 (by decide)).trans (ent_0 _)) rfl (s_lt hn rfl) ?_
    refine v_iload_n dX11_feed_38 rfl ?_
    refine v_callVVw dX11_feed_39 ml_X11_207 (so_X5_append hn hp13  w) ((hp13 33 (by decide)).trans (ent_33 _)) rfl (s_lt hn rfl) rfl rfl (Nat.le_of_ble_eq_true rfl) (Nat.le_of_ble_eq_true rfl) (Nat.zero_le _) (Nat.zero_le _) (fun X16 h17 hp19 hf18 w => ?_)
    have hf20 := Fr.trans hf14 hf18
    refine v_aload_n dX11_feed_42 rfl ?_
    refine v_get dX11_feed_43 fl_X11_27 ((hp19 0 (by decide)).trans (ent_0 _)) rfl (s_lt hn rfl) ?_
    refine v_iload dX11_feed_46 rfl ?_
    refine v_callVVw dX11_feed_48 ml_X11_207 (so_X5_append hn hp19  w) ((hp19 33 (by decide)).trans (ent_33 _)) rfl (s_lt hn rfl) rfl rfl (Nat.le_of_ble_eq_true rfl) (Nat.le_of_ble_eq_true rfl) (Nat.zero_le _) (Nat.zero_le _) (fun X22 h23 hp25 hf24 w => ?_)
    have hf26 := Fr.trans hf20 hf24
    refine v_aload_n dX11_feed_51 rfl ?_
    refine v_get dX11_feed_52 fl_X11_27 ((hp25 0 (by decide)).trans (ent_0 _)) rfl (s_lt hn rfl) ?_
    refine v_iload dX11_feed_55 rfl ?_
    refine v_callVVw dX11_feed_57 ml_X11_207 (so_X5_append hn hp25  w) ((hp25 33 (by decide)).trans (ent_33 _)) rfl (s_lt hn rfl) rfl rfl (Nat.le_of_ble_eq_true rfl) (Nat.le_of_ble_eq_true rfl) (Nat.zero_le _) (Nat.zero_le _) (fun X28 h29 hp31 hf30 w => ?_)
    have hf32 := Fr.trans hf26 hf30
    refine v_aload_n dX11_feed_60 rfl ?_
    refine v_get dX11_feed_61 fl_X11_27 ((hp31 0 (by decide)).trans (ent_0 _)) rfl (s_lt hn rfl) ?_
    refine v_get dX11_feed_64 fl_X11_201 ((hp31 33 (by decide)).trans (ent_33 _)) rfl (s_lt hn rfl) ?_
    exact v_iret dX11_feed_67 rfl (Nat.zero_le _) (Nat.zero_le _) ⟨rfl, hf32, _, _, rfl, hp31, w⟩
  · replace w := w.2 c2
    refine v_iconstI dX11_feed_16 ?_
    exact v_iret dX11_feed_17 rfl (Nat.zero_le _) (Nat.zero_le _) ⟨rfl, hf, _, _, rfl, hp, w⟩
theorem dX5_byteAt_0 : decode cX5_byteAt 0 = .ok (.iload_n 1, 1) := by decide +kernel
theorem dX5_byteAt_1 : decode cX5_byteAt 1 = .ok (.ifCond .lt 27, 3) := by decide +kernel
theorem dX5_byteAt_4 : decode cX5_byteAt 4 = .ok (.iload_n 1, 1) := by decide +kernel
theorem dX5_byteAt_5 : decode cX5_byteAt 5 = .ok (.aload_n 0, 1) := by decide +kernel
theorem dX5_byteAt_6 : decode cX5_byteAt 6 = .ok (.getfield 30, 3) := by decide +kernel
theorem dX5_byteAt_9 : decode cX5_byteAt 9 = .ok (.if_icmp .ge 19, 3) := by decide +kernel
theorem dX5_byteAt_12 : decode cX5_byteAt 12 = .ok (.iload_n 1, 1) := by decide +kernel
theorem dX5_byteAt_13 : decode cX5_byteAt 13 = .ok (.sipush 400, 3) := by decide +kernel
theorem dX5_byteAt_16 : decode cX5_byteAt 16 = .ok (.if_icmp .ge 12, 3) := by decide +kernel
theorem dX5_byteAt_19 : decode cX5_byteAt 19 = .ok (.aload_n 0, 1) := by decide +kernel
theorem dX5_byteAt_20 : decode cX5_byteAt 20 = .ok (.getfield 9, 3) := by decide +kernel
theorem dX5_byteAt_23 : decode cX5_byteAt 23 = .ok (.iload_n 1, 1) := by decide +kernel
theorem dX5_byteAt_24 : decode cX5_byteAt 24 = .ok (.iaload, 1) := by decide +kernel
theorem dX5_byteAt_25 : decode cX5_byteAt 25 = .ok (.goto 4, 3) := by decide +kernel
theorem dX5_byteAt_28 : decode cX5_byteAt 28 = .ok (.iconst (-1), 1) := by decide +kernel
theorem dX5_byteAt_29 : decode cX5_byteAt 29 = .ok (.ireturn, 1) := by decide +kernel
def w_X5_byteAt (a0 : Int) (X : XT) (Q : Int → Prop) : Prop :=
  R32 a0 ∧ (a0 < 0 → Q (-1)) ∧ (¬ a0 < 0 → R32 (X 33 4) ∧ ((X 33 4) ≤ a0 → Q (-1)) ∧ (¬ (X 33 4) ≤ a0 → (400 ≤ a0 → Q (-1)) ∧ (¬ 400 ≤ a0 → (0 ≤ a0 ∧ a0 < 400) ∧ Q (X 34 a0))))
set_option maxRecDepth 20000 in
theorem so_X5_byteAt {n : Nat} {h : Nat → sE} {X : XT} {a0 : Int} {Q : Int → Prop} (hn : 115 ≤ n) (hp : Pic X h) (w : w_X5_byteAt  a0 X Q) : Sp m_X5_byteAt 0 0 0 [.ref 33, .int (iI a0)] n h (pIr n h Q) := by
  unfold w_X5_byteAt at w
  refine Sp.ofV (by decide +kernel) (Nat.le_of_ble_eq_true rfl) ?_
  have hf : Fr h h := fun _ _ => rfl
  refine v_iload_n dX5_byteAt_0 rfl ?_
  obtain ⟨q1, w⟩ := w
  refine v_if_ltI (tgt := 28) dX5_byteAt_1 (by decide) q1.1 q1.2 (fun c2 => ?_) (fun c2 => ?_)
  · replace w := w.1 c2
    refine v_iconstI dX5_byteAt_28 ?_
    exact v_iret dX5_byteAt_29 rfl (Nat.zero_le _) (Nat.zero_le _) ⟨rfl, rfl, _, rfl, w⟩
  · replace w := w.2 c2
    refine v_iload_n dX5_byteAt_4 rfl ?_
    refine v_aload_n dX5_byteAt_5 rfl ?_
    refine v_get dX5_byteAt_6 fl_X5_30 ((hp 33 (by decide)).trans (ent_33 _)) rfl (s_lt hn rfl) ?_
    obtain ⟨q3, w⟩ := w
    refine v_icmp_geI (tgt := 28) dX5_byteAt_9 (by decide) q1.1 q1.2 q3.1 q3.2 (fun c4 => ?_) (fun c4 => ?_)
    · replace w := w.1 c4
      refine v_iconstI dX5_byteAt_28 ?_
      exact v_iret dX5_byteAt_29 rfl (Nat.zero_le _) (Nat.zero_le _) ⟨rfl, rfl, _, rfl, w⟩
    · replace w := w.2 c4
      refine v_iload_n dX5_byteAt_12 rfl ?_
      refine v_sipushI dX5_byteAt_13 rfl ?_
      refine v_icmp_geI (tgt := 28) dX5_byteAt_16 (by decide) q1.1 q1.2 (by decide) (by decide) (fun c5 => ?_) (fun c5 => ?_)
      · replace w := w.1 c5
        refine v_iconstI dX5_byteAt_28 ?_
        exact v_iret dX5_byteAt_29 rfl (Nat.zero_le _) (Nat.zero_le _) ⟨rfl, rfl, _, rfl, w⟩
      · replace w := w.2 c5
        refine v_aload_n dX5_byteAt_19 rfl ?_
        refine v_get dX5_byteAt_20 fl_X5_9 ((hp 33 (by decide)).trans (ent_33 _)) rfl (s_lt hn rfl) ?_
        refine v_iload_n dX5_byteAt_23 rfl ?_
        obtain ⟨q6, w⟩ := w
        refine v_ialdI dX5_byteAt_24 ((hp 34 (by decide)).trans (ent_34 _)) (s_lt hn rfl) q6.1 q6.2 (ix_le q6.2 (by decide)) ?_
        refine v_goto (tgt := 29) dX5_byteAt_25 (by decide) ?_
        exact v_iret dX5_byteAt_29 rfl (Nat.zero_le _) (Nat.zero_le _) ⟨rfl, rfl, _, rfl, w⟩
def w_X11_refuse (a0 : Int) (X : XT) (Q : Int → XT → Prop) : Prop :=
  ∀ J7 : Int → Prop, (∀ (v6 : Int), (R32 v6 ∧ (v6 < 0 → Q a0 (x_st X 0 13 a0)) ∧ (¬ v6 < 0 → (5 ≤ v6 → Q a0 (x_st X 0 13 a0)) ∧ (¬ 5 ≤ v6 → (0 ≤ v6 ∧ v6 < 5) ∧ Q a0 (x_st (x_st X 0 13 a0) 76 v6 (((x_st X 0 13 a0) 76 v6) + 1))))) → J7 v6) → R32 a0 ∧ (a0 < (-3) → J7 ((-a0) - 2)) ∧ (¬ a0 < (-3) → J7 ((-a0) - 1))
set_option maxRecDepth 20000 in
theorem so_X11_refuse {n : Nat} {h : Nat → sE} {X : XT} {a0 : Int} {Q : Int → XT → Prop} (hn : 115 ≤ n) (hp : Pic X h) (w : w_X11_refuse  a0 X Q) : Sp m_X11_refuse 0 0 0 [.ref 0, .int (iI a0)] n h (pIw n h Q) := by
  unfold w_X11_refuse at w
  refine Sp.ofV (by decide +kernel) (Nat.le_of_ble_eq_true rfl) ?_
  have hf : Fr h h := fun _ _ => rfl
  refine v_aload_n dX11_refuse_0 rfl ?_
  refine v_iload_n dX11_refuse_1 rfl ?_
  refine v_put dX11_refuse_2 fl_X11_99 ((hp 0 (by decide)).trans (ent_0 _)) (s_lt hn rfl) (Nat.le_of_ble_eq_true rfl) (fun _ => ⟨rfl, rfl⟩) trivial (fun h1 E2 F3 => ?_)
  have hp4 := pic_st hp (show h1 0 = ent 0 (uI _ 13 a0) from E2) F3
  have hf5 := Fr.up (c := 0) hf F3 rfl
  refine v_iload_n dX11_refuse_5 rfl ?_
  refine v_bipushI dX11_refuse_6 rfl ?_
  replace w := w (fun (v6 : Int) => V (m_X11_refuse, 0, 0, 0, n, pIw n h Q, s_G0) 0 0 n h1 22 [(0, .ref 0), (1, .int (iI a0))] [.int (iI v6)]) (by
    intro v6 w
    refine v_istore_n dX11_refuse_22 (Nat.le_of_ble_eq_true rfl) ?_
    refine v_iload_n dX11_refuse_23 rfl ?_
    obtain ⟨q8, w⟩ := w
    refine v_if_ltI (tgt := 46) dX11_refuse_24 (by decide) q8.1 q8.2 (fun c9 => ?_) (fun c9 => ?_)
    · replace w := w.1 c9
      refine v_iload_n dX11_refuse_46 rfl ?_
      exact v_iret dX11_refuse_47 rfl (Nat.zero_le _) (Nat.zero_le _) ⟨rfl, hf5, _, _, rfl, hp4, w⟩
    · replace w := w.2 c9
      refine v_iload_n dX11_refuse_27 rfl ?_
      refine v_aload_n dX11_refuse_28 rfl ?_
      refine v_get dX11_refuse_29 fl_X11_95 ((hp4 0 (by decide)).trans (ent_0 _)) rfl (s_lt hn rfl) ?_
      refine v_alen_aI dX11_refuse_32 ((hp4 76 (by decide)).trans (ent_76 _)) (s_lt hn rfl) ?_
      refine v_icmp_geI (tgt := 46) dX11_refuse_33 (by decide) q8.1 q8.2 (by decide) (by decide) (fun c10 => ?_) (fun c10 => ?_)
      · replace w := w.1 c10
        refine v_iload_n dX11_refuse_46 rfl ?_
        exact v_iret dX11_refuse_47 rfl (Nat.zero_le _) (Nat.zero_le _) ⟨rfl, hf5, _, _, rfl, hp4, w⟩
      · replace w := w.2 c10
        refine v_aload_n dX11_refuse_36 rfl ?_
        refine v_get dX11_refuse_37 fl_X11_95 ((hp4 0 (by decide)).trans (ent_0 _)) rfl (s_lt hn rfl) ?_
        refine v_iload_n dX11_refuse_40 rfl ?_
        refine v_dup2 dX11_refuse_41 rfl rfl ?_
        obtain ⟨q11, w⟩ := w
        refine v_ialdI dX11_refuse_42 ((hp4 76 (by decide)).trans (ent_76 _)) (s_lt hn rfl) q11.1 q11.2 (ix_le q11.2 (by decide)) ?_
        refine v_iconstI dX11_refuse_43 ?_
        refine v_iaddI dX11_refuse_44 ?_
        refine v_iastI dX11_refuse_45 ((hp4 76 (by decide)).trans (ent_76 _)) (s_lt hn rfl) q11.1 q11.2 (ix_le q11.2 (by decide)) (fun h12 E13 F14 => ?_)
        have hp15 := pic_st hp4 (show h12 76 = ent 76 (uI _ v6 (((x_st X 0 13 a0) 76 v6) + 1)) from E13) F14
        have hf16 := Fr.up (c := 76) hf5 F14 rfl
        refine v_iload_n dX11_refuse_46 rfl ?_
        exact v_iret dX11_refuse_47 rfl (Nat.zero_le _) (Nat.zero_le _) ⟨rfl, hf16, _, _, rfl, hp15, w⟩
  )
  obtain ⟨q17, w⟩ := w
  refine v_icmp_ltI (tgt := 18) dX11_refuse_8 (by decide) q17.1 q17.2 (by decide) (by decide) (fun c18 => ?_) (fun c18 => ?_)
  · replace w := w.1 c18
    refine v_iload_n dX11_refuse_18 rfl ?_
    refine v_inegI dX11_refuse_19 ?_
    refine v_iconstI dX11_refuse_20 ?_
    refine v_isubI dX11_refuse_21 ?_
    exact w
  · replace w := w.2 c18
    refine v_iload_n dX11_refuse_11 rfl ?_
    refine v_inegI dX11_refuse_12 ?_
    refine v_iconstI dX11_refuse_13 ?_
    refine v_isubI dX11_refuse_14 ?_
    refine v_goto (tgt := 22) dX11_refuse_15 (by decide) ?_
    exact w
def w_X3_setField (a0 a1 a2 : Int) (X : XT) (Q : XT → Prop) : Prop :=
  R32 a0 ∧ (¬ (0 ≤ a0 ∧ a0 ≤ 63) → Q X) ∧ ((0 ≤ a0 ∧ a0 ≤ 63) → R32 a1 ∧ (¬ (0 ≤ a1 ∧ a1 ≤ 2) → Q X) ∧ ((0 ≤ a1 ∧ a1 ≤ 2) → (0 ≤ ((a1 * 64) + a0) ∧ ((a1 * 64) + a0) < 192) ∧ Q (x_st X 2 ((a1 * 64) + a0) a2)))
set_option maxRecDepth 20000 in
theorem so_X3_setField {n : Nat} {h : Nat → sE} {X : XT} {a0 a1 a2 : Int} {Q : XT → Prop} (hn : 115 ≤ n) (hp : Pic X h) (w : w_X3_setField  a0 a1 a2 X Q) : Sp m_X3_setField 1 0 0 [.ref 1, .int (iI a0), .int (iI a1), .int (iI a2)] n h (pVw n h Q) := by
  unfold w_X3_setField at w
  refine Sp.ofV (by decide +kernel) (Nat.le_of_ble_eq_true rfl) ?_
  have hf : Fr h h := fun _ _ => rfl
  refine v_iload_n dX3_setField_0 rfl ?_
  refine v_iconstI dX3_setField_1 ?_
  refine v_bipushI dX3_setField_2 rfl ?_
  obtain ⟨q1, w⟩ := w
  refine v_callSp dX3_setField_4 ml_X3_67 (sp_X11_within (a := a0) (b := 0) (c := 63) q1 (by decide) (by decide)) rfl rfl (Nat.le_of_ble_eq_true rfl) (Nat.le_of_ble_eq_true rfl) (Nat.zero_le _) (Nat.zero_le _) ?_
  refine v_ifeqB (tgt := 31) dX3_setField_7 (by decide) (fun c2 => ?_) (fun c2 => ?_)
  · replace w := w.1 c2
    exact v_vret dX3_setField_31 rfl (Nat.zero_le _) (Nat.zero_le _) ⟨rfl, hf, _, rfl, hp, w⟩
  · replace w := w.2 c2
    refine v_iload_n dX3_setField_10 rfl ?_
    refine v_iconstI dX3_setField_11 ?_
    refine v_iconstI dX3_setField_12 ?_
    obtain ⟨q3, w⟩ := w
    refine v_callSp dX3_setField_13 ml_X3_67 (sp_X11_within (a := a1) (b := 0) (c := 2) q3 (by decide) (by decide)) rfl rfl (Nat.le_of_ble_eq_true rfl) (Nat.le_of_ble_eq_true rfl) (Nat.zero_le _) (Nat.zero_le _) ?_
    refine v_ifeqB (tgt := 31) dX3_setField_16 (by decide) (fun c4 => ?_) (fun c4 => ?_)
    · replace w := w.1 c4
      exact v_vret dX3_setField_31 rfl (Nat.zero_le _) (Nat.zero_le _) ⟨rfl, hf, _, rfl, hp, w⟩
    · replace w := w.2 c4
      refine v_aload_n dX3_setField_19 rfl ?_
      refine v_get dX3_setField_20 fl_X3_9 ((hp 1 (by decide)).trans (ent_1 _)) rfl (s_lt hn rfl) ?_
      refine v_iload_n dX3_setField_23 rfl ?_
      refine v_bipushI dX3_setField_24 rfl ?_
      refine v_imulI dX3_setField_26 ?_
      refine v_iload_n dX3_setField_27 rfl ?_
      refine v_iaddI dX3_setField_28 ?_
      refine v_iload_n dX3_setField_29 rfl ?_
      obtain ⟨q5, w⟩ := w
      refine v_iastI dX3_setField_30 ((hp 2 (by decide)).trans (ent_2 _)) (s_lt hn rfl) q5.1 q5.2 (ix_le q5.2 (by decide)) (fun h6 E7 F8 => ?_)
      have hp9 := pic_st hp (show h6 2 = ent 2 (uI _ ((a1 * 64) + a0) a2) from E7) F8
      have hf10 := Fr.up (c := 2) hf F8 rfl
      exact v_vret dX3_setField_31 rfl (Nat.zero_le _) (Nat.zero_le _) ⟨rfl, hf10, _, rfl, hp9, w⟩
def w_X11_grant (a0 : Int) (X : XT) (Q : Int → XT → Prop) : Prop :=
  Q a0 (x_st X 0 13 0)
set_option maxRecDepth 20000 in
theorem so_X11_grant {n : Nat} {h : Nat → sE} {X : XT} {a0 : Int} {Q : Int → XT → Prop} (hn : 115 ≤ n) (hp : Pic X h) (w : w_X11_grant  a0 X Q) : Sp m_X11_grant 0 0 0 [.ref 0, .int (iI a0)] n h (pIw n h Q) := by
  unfold w_X11_grant at w
  refine Sp.ofV (by decide +kernel) (Nat.le_of_ble_eq_true rfl) ?_
  have hf : Fr h h := fun _ _ => rfl
  refine v_aload_n dX11_grant_0 rfl ?_
  refine v_iconstI dX11_grant_1 ?_
  refine v_put dX11_grant_2 fl_X11_99 ((hp 0 (by decide)).trans (ent_0 _)) (s_lt hn rfl) (Nat.le_of_ble_eq_true rfl) (fun _ => ⟨rfl, rfl⟩) trivial (fun h1 E2 F3 => ?_)
  have hp4 := pic_st hp (show h1 0 = ent 0 (uI _ 13 0) from E2) F3
  have hf5 := Fr.up (c := 0) hf F3 rfl
  refine v_iload_n dX11_grant_5 rfl ?_
  exact v_iret dX11_grant_6 rfl (Nat.zero_le _) (Nat.zero_le _) ⟨rfl, hf5, _, _, rfl, hp4, w⟩
theorem dX11_row_0 : decode cX11_row 0 = .ok (.aload_n 0, 1) := by decide +kernel
theorem dX11_row_1 : decode cX11_row 1 = .ok (.getfield 27, 3) := by decide +kernel
theorem dX11_row_4 : decode cX11_row 4 = .ok (.getfield 201, 3) := by decide +kernel
theorem dX11_row_7 : decode cX11_row 7 = .ok (.istore_n 1, 1) := by decide +kernel
theorem dX11_row_8 : decode cX11_row 8 = .ok (.aload_n 0, 1) := by decide +kernel
theorem dX11_row_9 : decode cX11_row 9 = .ok (.getfield 27, 3) := by decide +kernel
theorem dX11_row_12 : decode cX11_row 12 = .ok (.iconst 0, 1) := by decide +kernel
theorem dX11_row_13 : decode cX11_row 13 = .ok (.invokevirtual 211, 3) := by decide +kernel
theorem dX11_row_16 : decode cX11_row 16 = .ok (.istore_n 2, 1) := by decide +kernel
theorem dX11_row_17 : decode cX11_row 17 = .ok (.iload_n 1, 1) := by decide +kernel
theorem dX11_row_18 : decode cX11_row 18 = .ok (.ifCond .eq 13, 3) := by decide +kernel
theorem dX11_row_21 : decode cX11_row 21 = .ok (.iload_n 2, 1) := by decide +kernel
theorem dX11_row_22 : decode cX11_row 22 = .ok (.iconst 0, 1) := by decide +kernel
theorem dX11_row_23 : decode cX11_row 23 = .ok (.bipush 7, 2) := by decide +kernel
theorem dX11_row_25 : decode cX11_row 25 = .ok (.invokestatic 115, 3) := by decide +kernel
theorem dX11_row_28 : decode cX11_row 28 = .ok (.ifCond .ne 18, 3) := by decide +kernel
theorem dX11_row_31 : decode cX11_row 31 = .ok (.aload_n 0, 1) := by decide +kernel
theorem dX11_row_32 : decode cX11_row 32 = .ok (.getfield 27, 3) := by decide +kernel
theorem dX11_row_35 : decode cX11_row 35 = .ok (.iconst 0, 1) := by decide +kernel
theorem dX11_row_36 : decode cX11_row 36 = .ok (.putfield 201, 3) := by decide +kernel
theorem dX11_row_39 : decode cX11_row 39 = .ok (.aload_n 0, 1) := by decide +kernel
theorem dX11_row_40 : decode cX11_row 40 = .ok (.bipush (-6), 2) := by decide +kernel
theorem dX11_row_42 : decode cX11_row 42 = .ok (.invokevirtual 123, 3) := by decide +kernel
theorem dX11_row_45 : decode cX11_row 45 = .ok (.ireturn, 1) := by decide +kernel
theorem dX11_row_46 : decode cX11_row 46 = .ok (.iconst 0, 1) := by decide +kernel
theorem dX11_row_47 : decode cX11_row 47 = .ok (.istore_n 3, 1) := by decide +kernel
theorem dX11_row_48 : decode cX11_row 48 = .ok (.iconst 0, 1) := by decide +kernel
theorem dX11_row_49 : decode cX11_row 49 = .ok (.istore 4, 2) := by decide +kernel
theorem dX11_row_51 : decode cX11_row 51 = .ok (.iload 4, 2) := by decide +kernel
theorem dX11_row_53 : decode cX11_row 53 = .ok (.bipush 8, 2) := by decide +kernel
theorem dX11_row_55 : decode cX11_row 55 = .ok (.if_icmp .ge 55, 3) := by decide +kernel
theorem dX11_row_58 : decode cX11_row 58 = .ok (.iload 4, 2) := by decide +kernel
theorem dX11_row_60 : decode cX11_row 60 = .ok (.iconst 1, 1) := by decide +kernel
theorem dX11_row_61 : decode cX11_row 61 = .ok (.iadd, 1) := by decide +kernel
theorem dX11_row_62 : decode cX11_row 62 = .ok (.iload_n 1, 1) := by decide +kernel
theorem dX11_row_63 : decode cX11_row 63 = .ok (.if_icmp .ge 47, 3) := by decide +kernel
theorem dX11_row_66 : decode cX11_row 66 = .ok (.aload_n 0, 1) := by decide +kernel
theorem dX11_row_67 : decode cX11_row 67 = .ok (.getfield 27, 3) := by decide +kernel
theorem dX11_row_70 : decode cX11_row 70 = .ok (.iload 4, 2) := by decide +kernel
theorem dX11_row_72 : decode cX11_row 72 = .ok (.iconst 1, 1) := by decide +kernel
theorem dX11_row_73 : decode cX11_row 73 = .ok (.iadd, 1) := by decide +kernel
theorem dX11_row_74 : decode cX11_row 74 = .ok (.invokevirtual 211, 3) := by decide +kernel
theorem dX11_row_77 : decode cX11_row 77 = .ok (.istore 5, 2) := by decide +kernel
theorem dX11_row_79 : decode cX11_row 79 = .ok (.iload 5, 2) := by decide +kernel
theorem dX11_row_81 : decode cX11_row 81 = .ok (.ifCond .le 23, 3) := by decide +kernel
theorem dX11_row_84 : decode cX11_row 84 = .ok (.aload_n 0, 1) := by decide +kernel
theorem dX11_row_85 : decode cX11_row 85 = .ok (.getfield 12, 3) := by decide +kernel
theorem dX11_row_88 : decode cX11_row 88 = .ok (.bipush 8, 2) := by decide +kernel
theorem dX11_row_90 : decode cX11_row 90 = .ok (.iload_n 2, 1) := by decide +kernel
theorem dX11_row_91 : decode cX11_row 91 = .ok (.imul, 1) := by decide +kernel
theorem dX11_row_92 : decode cX11_row 92 = .ok (.iload 4, 2) := by decide +kernel
theorem dX11_row_94 : decode cX11_row 94 = .ok (.iadd, 1) := by decide +kernel
theorem dX11_row_95 : decode cX11_row 95 = .ok (.iconst 1, 1) := by decide +kernel
theorem dX11_row_96 : decode cX11_row 96 = .ok (.iload 5, 2) := by decide +kernel
theorem dX11_row_98 : decode cX11_row 98 = .ok (.invokevirtual 131, 3) := by decide +kernel
theorem dX11_row_101 : decode cX11_row 101 = .ok (.iinc 3 1, 3) := by decide +kernel
theorem dX11_row_104 : decode cX11_row 104 = .ok (.iinc 4 1, 3) := by decide +kernel
theorem dX11_row_107 : decode cX11_row 107 = .ok (.goto (-56), 3) := by decide +kernel
theorem dX11_row_110 : decode cX11_row 110 = .ok (.aload_n 0, 1) := by decide +kernel
theorem dX11_row_111 : decode cX11_row 111 = .ok (.iload_n 1, 1) := by decide +kernel
theorem dX11_row_112 : decode cX11_row 112 = .ok (.iconst 1, 1) := by decide +kernel
theorem dX11_row_113 : decode cX11_row 113 = .ok (.isub, 1) := by decide +kernel
theorem dX11_row_114 : decode cX11_row 114 = .ok (.iload_n 3, 1) := by decide +kernel
theorem dX11_row_115 : decode cX11_row 115 = .ok (.isub, 1) := by decide +kernel
theorem dX11_row_116 : decode cX11_row 116 = .ok (.putfield 103, 3) := by decide +kernel
theorem dX11_row_119 : decode cX11_row 119 = .ok (.aload_n 0, 1) := by decide +kernel
theorem dX11_row_120 : decode cX11_row 120 = .ok (.getfield 27, 3) := by decide +kernel
theorem dX11_row_123 : decode cX11_row 123 = .ok (.iconst 0, 1) := by decide +kernel
theorem dX11_row_124 : decode cX11_row 124 = .ok (.putfield 201, 3) := by decide +kernel
theorem dX11_row_127 : decode cX11_row 127 = .ok (.aload_n 0, 1) := by decide +kernel
theorem dX11_row_128 : decode cX11_row 128 = .ok (.iload_n 3, 1) := by decide +kernel
theorem dX11_row_129 : decode cX11_row 129 = .ok (.invokevirtual 135, 3) := by decide +kernel
theorem dX11_row_132 : decode cX11_row 132 = .ok (.ireturn, 1) := by decide +kernel
def w_X11_row (X : XT) (Q : Int → XT → Prop) : Prop :=
  w_X5_byteAt  0 X (fun (v1 : Int) => ∀ J7 : Prop, ((w_X11_refuse  (-6) (x_st X 33 4 0) (fun (v13 : Int) (X14 : XT) => Q v13 X14)) → J7) → R32 (X 33 4) ∧ ((X 33 4) = 0 → J7 ) ∧ (¬ (X 33 4) = 0 → R32 v1 ∧ ((0 ≤ v1 ∧ v1 ≤ 7) → ∃ (I26 : Int → Int → XT → Prop) (m27 : Int → Int → XT → Nat), I26 0 0 X ∧ ∀ (x23 : Int) (x24 : Int) (X25 : XT), I26 x23 x24 X25 → ∀ J38 : Prop, ((w_X11_grant  x23 (x_st (x_st X25 0 14 (((X 33 4) - 1) - x23)) 33 4 0) (fun (v49 : Int) (X50 : XT) => Q v49 X50)) → J38) → R32 x24 ∧ (8 ≤ x24 → J38 ) ∧ (¬ 8 ≤ x24 → R32 (x24 + 1) ∧ ((X 33 4) ≤ (x24 + 1) → J38 ) ∧ (¬ (X 33 4) ≤ (x24 + 1) → w_X5_byteAt  (x24 + 1) X25 (fun (v59 : Int) => R32 v59 ∧ (v59 ≤ 0 → I26 x23 (x24 + 1) X25 ∧ m27 x23 (x24 + 1) X25 < m27 x23 x24 X25) ∧ (¬ v59 ≤ 0 → w_X3_setField  ((8 * v1) + x24) 1 v59 X25 (fun (X68 : XT) => I26 (x23 + 1) (x24 + 1) X68 ∧ m27 (x23 + 1) (x24 + 1) X68 < m27 x23 x24 X25)))))) ∧ (¬ (0 ≤ v1 ∧ v1 ≤ 7) → J7 )))
set_option maxRecDepth 20000 in
theorem so_X11_row {n : Nat} {h : Nat → sE} {X : XT} {Q : Int → XT → Prop} (hn : 115 ≤ n) (hp : Pic X h) (w : w_X11_row   X Q) : Sp m_X11_row 2 0 0 [.ref 0] n h (pIw n h Q) := by
  unfold w_X11_row at w
  refine Sp.ofV (by decide +kernel) (Nat.le_of_ble_eq_true rfl) ?_
  have hf : Fr h h := fun _ _ => rfl
  refine v_aload_n dX11_row_0 rfl ?_
  refine v_get dX11_row_1 fl_X11_27 ((hp 0 (by decide)).trans (ent_0 _)) rfl (s_lt hn rfl) ?_
  refine v_get dX11_row_4 fl_X11_201 ((hp 33 (by decide)).trans (ent_33 _)) rfl (s_lt hn rfl) ?_
  refine v_istore_n dX11_row_7 (Nat.le_of_ble_eq_true rfl) ?_
  refine v_aload_n dX11_row_8 rfl ?_
  refine v_get dX11_row_9 fl_X11_27 ((hp 0 (by decide)).trans (ent_0 _)) rfl (s_lt hn rfl) ?_
  refine v_iconstI dX11_row_12 ?_
  refine v_callVIr dX11_row_13 ml_X11_211 (so_X5_byteAt hn hp  w) ((hp 33 (by decide)).trans (ent_33 _)) rfl (s_lt hn rfl) rfl rfl (Nat.le_of_ble_eq_true rfl) (Nat.le_of_ble_eq_true rfl) (Nat.zero_le _) (Nat.zero_le _) (fun v1 w => ?_)
  refine v_istore_n dX11_row_16 (Nat.le_of_ble_eq_true rfl) ?_
  refine v_iload_n dX11_row_17 rfl ?_
  replace w := w (V (m_X11_row, 2, 0, 0, n, pIw n h Q, s_G0) 0 0 n h 31 [(0, .ref 0)] []) (by
    intro  w
    refine v_aload_n dX11_row_31 rfl ?_
    refine v_get dX11_row_32 fl_X11_27 ((hp 0 (by decide)).trans (ent_0 _)) rfl (s_lt hn rfl) ?_
    refine v_iconstI dX11_row_35 ?_
    refine v_put dX11_row_36 fl_X11_201 ((hp 33 (by decide)).trans (ent_33 _)) (s_lt hn rfl) (Nat.le_of_ble_eq_true rfl) (fun _ => ⟨rfl, rfl⟩) trivial (fun h8 E9 F10 => ?_)
    have hp11 := pic_st hp (show h8 33 = ent 33 (uI _ 4 0) from E9) F10
    have hf12 := Fr.up (c := 33) hf F10 rfl
    refine v_aload_n dX11_row_39 rfl ?_
    refine v_bipushI dX11_row_40 rfl ?_
    refine v_callVIw dX11_row_42 ml_X11_123 (so_X11_refuse hn hp11  w) ((hp11 0 (by decide)).trans (ent_0 _)) rfl (s_lt hn rfl) rfl rfl (Nat.le_of_ble_eq_true rfl) (Nat.le_of_ble_eq_true rfl) (Nat.zero_le _) (Nat.zero_le _) (fun v13 X14 h15 hp17 hf16 w => ?_)
    have hf18 := Fr.trans hf12 hf16
    exact v_iret dX11_row_45 rfl (Nat.zero_le _) (Nat.zero_le _) ⟨rfl, hf18, _, _, rfl, hp17, w⟩
  )
  obtain ⟨q19, w⟩ := w
  refine v_if_eqI (tgt := 31) dX11_row_18 (by decide) q19.1 q19.2 (fun c20 => ?_) (fun c20 => ?_)
  · replace w := w.1 c20
    refine v_pick [2] rfl ?_
    exact w
  · replace w := w.2 c20
    refine v_iload_n dX11_row_21 rfl ?_
    refine v_iconstI dX11_row_22 ?_
    refine v_bipushI dX11_row_23 rfl ?_
    obtain ⟨q21, w⟩ := w
    refine v_callSp dX11_row_25 ml_X11_115 (sp_X11_within (a := v1) (b := 0) (c := 7) q21 (by decide) (by decide)) rfl rfl (Nat.le_of_ble_eq_true rfl) (Nat.le_of_ble_eq_true rfl) (Nat.zero_le _) (Nat.zero_le _) ?_
    refine v_ifneB (tgt := 46) dX11_row_28 (by decide) (fun c22 => ?_) (fun c22 => ?_)
    · replace w := w.1 c22
      refine v_iconstI dX11_row_46 ?_
      refine v_istore_n dX11_row_47 (Nat.le_of_ble_eq_true rfl) ?_
      refine v_iconstI dX11_row_48 ?_
      refine v_istore dX11_row_49 (Nat.le_of_ble_eq_true rfl) ?_
      refine v_pick [4, 3, 2, 1, 0] rfl ?_
      obtain ⟨I26, m27, wi30, wl29⟩ := w
      have hL31 : ∀ (N34 : Nat) (x23 : Int) (x24 : Int) (X25 : XT) (h35 : Nat → sE), m27 x23 x24 X25 < N34 → I26 x23 x24 X25 → Pic X25 h35 → Fr h h35 → V (m_X11_row, 2, 0, 0, n, pIw n h Q, s_G0) 0 0 n h35 51 [(0, .ref 0), (1, .int (iI (X 33 4))), (2, .int (iI v1)), (3, .int (iI x23)), (4, .int (iI x24))] [] := by
        intro N34
        induction N34 with
        | zero => intro x23 x24 X25 h35 hm32; exact absurd hm32 (Nat.not_lt_zero _)
        | succ N34 ih28 =>
          intro x23 x24 X25 h35 hm32 hI33 hp36 hf37
          have w := wl29 x23 x24 X25 hI33
          refine v_iload dX11_row_51 rfl ?_
          refine v_bipushI dX11_row_53 rfl ?_
          replace w := w (V (m_X11_row, 2, 0, 0, n, pIw n h Q, s_G0) 0 0 n h35 110 [(0, .ref 0), (1, .int (iI (X 33 4))), (3, .int (iI x23))] []) (by
            intro  w
            refine v_aload_n dX11_row_110 rfl ?_
            refine v_iload_n dX11_row_111 rfl ?_
            refine v_iconstI dX11_row_112 ?_
            refine v_isubI dX11_row_113 ?_
            refine v_iload_n dX11_row_114 rfl ?_
            refine v_isubI dX11_row_115 ?_
            refine v_put dX11_row_116 fl_X11_103 ((hp36 0 (by decide)).trans (ent_0 _)) (s_lt hn rfl) (Nat.le_of_ble_eq_true rfl) (fun _ => ⟨rfl, rfl⟩) trivial (fun h39 E40 F41 => ?_)
            have hp42 := pic_st hp36 (show h39 0 = ent 0 (uI _ 14 (((X 33 4) - 1) - x23)) from E40) F41
            have hf43 := Fr.up (c := 0) hf37 F41 rfl
            refine v_aload_n dX11_row_119 rfl ?_
            refine v_get dX11_row_120 fl_X11_27 ((hp42 0 (by decide)).trans (ent_0 _)) rfl (s_lt hn rfl) ?_
            refine v_iconstI dX11_row_123 ?_
            refine v_put dX11_row_124 fl_X11_201 ((hp42 33 (by decide)).trans (ent_33 _)) (s_lt hn rfl) (Nat.le_of_ble_eq_true rfl) (fun _ => ⟨rfl, rfl⟩) trivial (fun h44 E45 F46 => ?_)
            have hp47 := pic_st hp42 (show h44 33 = ent 33 (uI _ 4 0) from E45) F46
            have hf48 := Fr.up (c := 33) hf43 F46 rfl
            refine v_aload_n dX11_row_127 rfl ?_
            refine v_iload_n dX11_row_128 rfl ?_
            refine v_callVIw dX11_row_129 ml_X11_135 (so_X11_grant hn hp47  w) ((hp47 0 (by decide)).trans (ent_0 _)) rfl (s_lt hn rfl) rfl rfl (Nat.le_of_ble_eq_true rfl) (Nat.le_of_ble_eq_true rfl) (Nat.zero_le _) (Nat.zero_le _) (fun v49 X50 h51 hp53 hf52 w => ?_)
            have hf54 := Fr.trans hf48 hf52
            exact v_iret dX11_row_132 rfl (Nat.zero_le _) (Nat.zero_le _) ⟨rfl, hf54, _, _, rfl, hp53, w⟩
          )
          obtain ⟨q55, w⟩ := w
          refine v_icmp_geI (tgt := 110) dX11_row_55 (by decide) q55.1 q55.2 (by decide) (by decide) (fun c56 => ?_) (fun c56 => ?_)
          · replace w := w.1 c56
            refine v_pick [0, 1, 3] rfl ?_
            exact w
          · replace w := w.2 c56
            refine v_iload dX11_row_58 rfl ?_
            refine v_iconstI dX11_row_60 ?_
            refine v_iaddI dX11_row_61 ?_
            refine v_iload_n dX11_row_62 rfl ?_
            obtain ⟨q57, w⟩ := w
            refine v_icmp_geI (tgt := 110) dX11_row_63 (by decide) q57.1 q57.2 q19.1 q19.2 (fun c58 => ?_) (fun c58 => ?_)
            · replace w := w.1 c58
              refine v_pick [0, 1, 3] rfl ?_
              exact w
            · replace w := w.2 c58
              refine v_aload_n dX11_row_66 rfl ?_
              refine v_get dX11_row_67 fl_X11_27 ((hp36 0 (by decide)).trans (ent_0 _)) rfl (s_lt hn rfl) ?_
              refine v_iload dX11_row_70 rfl ?_
              refine v_iconstI dX11_row_72 ?_
              refine v_iaddI dX11_row_73 ?_
              refine v_callVIr dX11_row_74 ml_X11_211 (so_X5_byteAt hn hp36  w) ((hp36 33 (by decide)).trans (ent_33 _)) rfl (s_lt hn rfl) rfl rfl (Nat.le_of_ble_eq_true rfl) (Nat.le_of_ble_eq_true rfl) (Nat.zero_le _) (Nat.zero_le _) (fun v59 w => ?_)
              refine v_istore dX11_row_77 (Nat.le_of_ble_eq_true rfl) ?_
              refine v_iload dX11_row_79 rfl ?_
              obtain ⟨q65, w⟩ := w
              refine v_if_leI (tgt := 104) dX11_row_81 (by decide) q65.1 q65.2 (fun c66 => ?_) (fun c66 => ?_)
              · replace w := w.1 c66
                refine v_iincI dX11_row_104 rfl (Nat.le_of_ble_eq_true rfl) ?_
                refine v_goto (tgt := 51) dX11_row_107 (by decide) ?_
                refine v_pick [2, 3, 4, 5, 0] rfl ?_
                exact ih28 _ _ _ _ (Nat.lt_of_lt_of_le w.2 (Nat.le_of_lt_succ hm32)) w.1 hp36 hf37
              · replace w := w.2 c66
                refine v_aload_n dX11_row_84 rfl ?_
                refine v_get dX11_row_85 fl_X11_12 ((hp36 0 (by decide)).trans (ent_0 _)) rfl (s_lt hn rfl) ?_
                refine v_bipushI dX11_row_88 rfl ?_
                refine v_iload_n dX11_row_90 rfl ?_
                refine v_imulI dX11_row_91 ?_
                refine v_iload dX11_row_92 rfl ?_
                refine v_iaddI dX11_row_94 ?_
                refine v_iconstI dX11_row_95 ?_
                refine v_iload dX11_row_96 rfl ?_
                refine v_callVVw dX11_row_98 ml_X11_131 (so_X3_setField hn hp36  w) ((hp36 1 (by decide)).trans (ent_1 _)) rfl (s_lt hn rfl) rfl rfl (Nat.le_of_ble_eq_true rfl) (Nat.le_of_ble_eq_true rfl) (Nat.zero_le _) (Nat.zero_le _) (fun X68 h69 hp71 hf70 w => ?_)
                have hf72 := Fr.trans hf37 hf70
                refine v_iincI dX11_row_101 rfl (Nat.le_of_ble_eq_true rfl) ?_
                refine v_iincI dX11_row_104 rfl (Nat.le_of_ble_eq_true rfl) ?_
                refine v_goto (tgt := 51) dX11_row_107 (by decide) ?_
                refine v_pick [3, 4, 5, 1, 0] rfl ?_
                exact ih28 _ _ _ _ (Nat.lt_of_lt_of_le w.2 (Nat.le_of_lt_succ hm32)) w.1 hp71 hf72
      exact hL31 _ _ _ _ _ (Nat.lt_succ_self _) wi30 hp hf
    · replace w := w.2 c22
      refine v_pick [2] rfl ?_
      exact w
theorem dX0_tellWords_0 : decode cX0_tellWords 0 = .ok (.aload_n 0, 1) := by decide +kernel
theorem dX0_tellWords_1 : decode cX0_tellWords 1 = .ok (.getfield 12, 3) := by decide +kernel
theorem dX0_tellWords_4 : decode cX0_tellWords 4 = .ok (.getfield 45, 3) := by decide +kernel
theorem dX0_tellWords_7 : decode cX0_tellWords 7 = .ok (.astore 5, 2) := by decide +kernel
theorem dX0_tellWords_9 : decode cX0_tellWords 9 = .ok (.aload 5, 2) := by decide +kernel
theorem dX0_tellWords_11 : decode cX0_tellWords 11 = .ok (.iconst 0, 1) := by decide +kernel
theorem dX0_tellWords_12 : decode cX0_tellWords 12 = .ok (.iload_n 1, 1) := by decide +kernel
theorem dX0_tellWords_13 : decode cX0_tellWords 13 = .ok (.iastore, 1) := by decide +kernel
theorem dX0_tellWords_14 : decode cX0_tellWords 14 = .ok (.aload 5, 2) := by decide +kernel
theorem dX0_tellWords_16 : decode cX0_tellWords 16 = .ok (.iconst 1, 1) := by decide +kernel
theorem dX0_tellWords_17 : decode cX0_tellWords 17 = .ok (.iload_n 2, 1) := by decide +kernel
theorem dX0_tellWords_18 : decode cX0_tellWords 18 = .ok (.iastore, 1) := by decide +kernel
theorem dX0_tellWords_19 : decode cX0_tellWords 19 = .ok (.aload 5, 2) := by decide +kernel
theorem dX0_tellWords_21 : decode cX0_tellWords 21 = .ok (.iconst 2, 1) := by decide +kernel
theorem dX0_tellWords_22 : decode cX0_tellWords 22 = .ok (.iload_n 3, 1) := by decide +kernel
theorem dX0_tellWords_23 : decode cX0_tellWords 23 = .ok (.iastore, 1) := by decide +kernel
theorem dX0_tellWords_24 : decode cX0_tellWords 24 = .ok (.aload 5, 2) := by decide +kernel
theorem dX0_tellWords_26 : decode cX0_tellWords 26 = .ok (.iconst 5, 1) := by decide +kernel
theorem dX0_tellWords_27 : decode cX0_tellWords 27 = .ok (.iload 4, 2) := by decide +kernel
theorem dX0_tellWords_29 : decode cX0_tellWords 29 = .ok (.iastore, 1) := by decide +kernel
theorem dX0_tellWords_30 : decode cX0_tellWords 30 = .ok (.aload 5, 2) := by decide +kernel
theorem dX0_tellWords_32 : decode cX0_tellWords 32 = .ok (.bipush 6, 2) := by decide +kernel
theorem dX0_tellWords_34 : decode cX0_tellWords 34 = .ok (.aload_n 0, 1) := by decide +kernel
theorem dX0_tellWords_35 : decode cX0_tellWords 35 = .ok (.getfield 18, 3) := by decide +kernel
theorem dX0_tellWords_38 : decode cX0_tellWords 38 = .ok (.getfield 65, 3) := by decide +kernel
theorem dX0_tellWords_41 : decode cX0_tellWords 41 = .ok (.iconst 2, 1) := by decide +kernel
theorem dX0_tellWords_42 : decode cX0_tellWords 42 = .ok (.iaload, 1) := by decide +kernel
theorem dX0_tellWords_43 : decode cX0_tellWords 43 = .ok (.iastore, 1) := by decide +kernel
theorem dX0_tellWords_44 : decode cX0_tellWords 44 = .ok (.aload 5, 2) := by decide +kernel
theorem dX0_tellWords_46 : decode cX0_tellWords 46 = .ok (.bipush 7, 2) := by decide +kernel
theorem dX0_tellWords_48 : decode cX0_tellWords 48 = .ok (.aload_n 0, 1) := by decide +kernel
theorem dX0_tellWords_49 : decode cX0_tellWords 49 = .ok (.getfield 18, 3) := by decide +kernel
theorem dX0_tellWords_52 : decode cX0_tellWords 52 = .ok (.getfield 65, 3) := by decide +kernel
theorem dX0_tellWords_55 : decode cX0_tellWords 55 = .ok (.iconst 0, 1) := by decide +kernel
theorem dX0_tellWords_56 : decode cX0_tellWords 56 = .ok (.iaload, 1) := by decide +kernel
theorem dX0_tellWords_57 : decode cX0_tellWords 57 = .ok (.iastore, 1) := by decide +kernel
theorem dX0_tellWords_58 : decode cX0_tellWords 58 = .ok (.return_, 1) := by decide +kernel
def w_X0_tellWords (a0 a1 a2 a3 : Int) (X : XT) (Q : XT → Prop) : Prop :=
  Q (x_st (x_st (x_st (x_st (x_st (x_st X 46 0 a0) 46 1 a1) 46 2 a2) 46 5 a3) 46 6 ((x_st (x_st (x_st (x_st X 46 0 a0) 46 1 a1) 46 2 a2) 46 5 a3) 9 2)) 46 7 ((x_st (x_st (x_st (x_st (x_st X 46 0 a0) 46 1 a1) 46 2 a2) 46 5 a3) 46 6 ((x_st (x_st (x_st (x_st X 46 0 a0) 46 1 a1) 46 2 a2) 46 5 a3) 9 2)) 9 0))
set_option maxRecDepth 20000 in
theorem so_X0_tellWords {n : Nat} {h : Nat → sE} {X : XT} {a0 a1 a2 a3 : Int} {Q : XT → Prop} (hn : 115 ≤ n) (hp : Pic X h) (w : w_X0_tellWords  a0 a1 a2 a3 X Q) : Sp m_X0_tellWords 0 0 0 [.ref 44, .int (iI a0), .int (iI a1), .int (iI a2), .int (iI a3)] n h (pVw n h Q) := by
  unfold w_X0_tellWords at w
  refine Sp.ofV (by decide +kernel) (Nat.le_of_ble_eq_true rfl) ?_
  have hf : Fr h h := fun _ _ => rfl
  refine v_aload_n dX0_tellWords_0 rfl ?_
  refine v_get dX0_tellWords_1 fl_X0_12 ((hp 44 (by decide)).trans (ent_44 _)) rfl (s_lt hn rfl) ?_
  refine v_get dX0_tellWords_4 fl_X0_45 ((hp 45 (by decide)).trans (ent_45 _)) rfl (s_lt hn rfl) ?_
  refine v_astore dX0_tellWords_7 (Nat.le_of_ble_eq_true rfl) ?_
  refine v_aload dX0_tellWords_9 rfl ?_
  refine v_iconstI dX0_tellWords_11 ?_
  refine v_iload_n dX0_tellWords_12 rfl ?_
  refine v_iastI dX0_tellWords_13 ((hp 46 (by decide)).trans (ent_46 _)) (s_lt hn rfl) (by decide) (by decide) (by decide) (fun h1 E2 F3 => ?_)
  have hp4 := pic_st hp (show h1 46 = ent 46 (uI _ 0 a0) from E2) F3
  have hf5 := Fr.up (c := 46) hf F3 rfl
  refine v_aload dX0_tellWords_14 rfl ?_
  refine v_iconstI dX0_tellWords_16 ?_
  refine v_iload_n dX0_tellWords_17 rfl ?_
  refine v_iastI dX0_tellWords_18 ((hp4 46 (by decide)).trans (ent_46 _)) (s_lt hn rfl) (by decide) (by decide) (by decide) (fun h6 E7 F8 => ?_)
  have hp9 := pic_st hp4 (show h6 46 = ent 46 (uI _ 1 a1) from E7) F8
  have hf10 := Fr.up (c := 46) hf5 F8 rfl
  refine v_aload dX0_tellWords_19 rfl ?_
  refine v_iconstI dX0_tellWords_21 ?_
  refine v_iload_n dX0_tellWords_22 rfl ?_
  refine v_iastI dX0_tellWords_23 ((hp9 46 (by decide)).trans (ent_46 _)) (s_lt hn rfl) (by decide) (by decide) (by decide) (fun h11 E12 F13 => ?_)
  have hp14 := pic_st hp9 (show h11 46 = ent 46 (uI _ 2 a2) from E12) F13
  have hf15 := Fr.up (c := 46) hf10 F13 rfl
  refine v_aload dX0_tellWords_24 rfl ?_
  refine v_iconstI dX0_tellWords_26 ?_
  refine v_iload dX0_tellWords_27 rfl ?_
  refine v_iastI dX0_tellWords_29 ((hp14 46 (by decide)).trans (ent_46 _)) (s_lt hn rfl) (by decide) (by decide) (by decide) (fun h16 E17 F18 => ?_)
  have hp19 := pic_st hp14 (show h16 46 = ent 46 (uI _ 5 a3) from E17) F18
  have hf20 := Fr.up (c := 46) hf15 F18 rfl
  refine v_aload dX0_tellWords_30 rfl ?_
  refine v_bipushI dX0_tellWords_32 rfl ?_
  refine v_aload_n dX0_tellWords_34 rfl ?_
  refine v_get dX0_tellWords_35 fl_X0_18 ((hp19 44 (by decide)).trans (ent_44 _)) rfl (s_lt hn rfl) ?_
  refine v_get dX0_tellWords_38 fl_X0_65 ((hp19 1 (by decide)).trans (ent_1 _)) rfl (s_lt hn rfl) ?_
  refine v_iconstI dX0_tellWords_41 ?_
  refine v_ialdI dX0_tellWords_42 ((hp19 9 (by decide)).trans (ent_9 _)) (s_lt hn rfl) (by decide) (by decide) (by decide) ?_
  refine v_iastI dX0_tellWords_43 ((hp19 46 (by decide)).trans (ent_46 _)) (s_lt hn rfl) (by decide) (by decide) (by decide) (fun h21 E22 F23 => ?_)
  have hp24 := pic_st hp19 (show h21 46 = ent 46 (uI _ 6 ((x_st (x_st (x_st (x_st X 46 0 a0) 46 1 a1) 46 2 a2) 46 5 a3) 9 2)) from E22) F23
  have hf25 := Fr.up (c := 46) hf20 F23 rfl
  refine v_aload dX0_tellWords_44 rfl ?_
  refine v_bipushI dX0_tellWords_46 rfl ?_
  refine v_aload_n dX0_tellWords_48 rfl ?_
  refine v_get dX0_tellWords_49 fl_X0_18 ((hp24 44 (by decide)).trans (ent_44 _)) rfl (s_lt hn rfl) ?_
  refine v_get dX0_tellWords_52 fl_X0_65 ((hp24 1 (by decide)).trans (ent_1 _)) rfl (s_lt hn rfl) ?_
  refine v_iconstI dX0_tellWords_55 ?_
  refine v_ialdI dX0_tellWords_56 ((hp24 9 (by decide)).trans (ent_9 _)) (s_lt hn rfl) (by decide) (by decide) (by decide) ?_
  refine v_iastI dX0_tellWords_57 ((hp24 46 (by decide)).trans (ent_46 _)) (s_lt hn rfl) (by decide) (by decide) (by decide) (fun h26 E27 F28 => ?_)
  have hp29 := pic_st hp24 (show h26 46 = ent 46 (uI _ 7 ((x_st (x_st (x_st (x_st (x_st X 46 0 a0) 46 1 a1) 46 2 a2) 46 5 a3) 46 6 ((x_st (x_st (x_st (x_st X 46 0 a0) 46 1 a1) 46 2 a2) 46 5 a3) 9 2)) 9 0)) from E27) F28
  have hf30 := Fr.up (c := 46) hf25 F28 rfl
  exact v_vret dX0_tellWords_58 rfl (Nat.zero_le _) (Nat.zero_le _) ⟨rfl, hf30, _, rfl, hp29, w⟩
theorem dX0_askField_0 : decode cX0_askField 0 = .ok (.aload_n 0, 1) := by decide +kernel
theorem dX0_askField_1 : decode cX0_askField 1 = .ok (.iload_n 1, 1) := by decide +kernel
theorem dX0_askField_2 : decode cX0_askField 2 = .ok (.bipush 8, 2) := by decide +kernel
theorem dX0_askField_4 : decode cX0_askField 4 = .ok (.irem, 1) := by decide +kernel
theorem dX0_askField_5 : decode cX0_askField 5 = .ok (.iload_n 1, 1) := by decide +kernel
theorem dX0_askField_6 : decode cX0_askField 6 = .ok (.bipush 8, 2) := by decide +kernel
theorem dX0_askField_8 : decode cX0_askField 8 = .ok (.idiv, 1) := by decide +kernel
theorem dX0_askField_9 : decode cX0_askField 9 = .ok (.iload_n 2, 1) := by decide +kernel
theorem dX0_askField_10 : decode cX0_askField 10 = .ok (.iload_n 3, 1) := by decide +kernel
theorem dX0_askField_11 : decode cX0_askField 11 = .ok (.invokevirtual 41, 3) := by decide +kernel
theorem dX0_askField_14 : decode cX0_askField 14 = .ok (.aload_n 0, 1) := by decide +kernel
theorem dX0_askField_15 : decode cX0_askField 15 = .ok (.getfield 12, 3) := by decide +kernel
theorem dX0_askField_18 : decode cX0_askField 18 = .ok (.getfield 45, 3) := by decide +kernel
theorem dX0_askField_21 : decode cX0_askField 21 = .ok (.iconst 3, 1) := by decide +kernel
theorem dX0_askField_22 : decode cX0_askField 22 = .ok (.iconst (-1), 1) := by decide +kernel
theorem dX0_askField_23 : decode cX0_askField 23 = .ok (.iastore, 1) := by decide +kernel
theorem dX0_askField_24 : decode cX0_askField 24 = .ok (.aload_n 0, 1) := by decide +kernel
theorem dX0_askField_25 : decode cX0_askField 25 = .ok (.getfield 12, 3) := by decide +kernel
theorem dX0_askField_28 : decode cX0_askField 28 = .ok (.getfield 45, 3) := by decide +kernel
theorem dX0_askField_31 : decode cX0_askField 31 = .ok (.iconst 4, 1) := by decide +kernel
theorem dX0_askField_32 : decode cX0_askField 32 = .ok (.iconst (-1), 1) := by decide +kernel
theorem dX0_askField_33 : decode cX0_askField 33 = .ok (.iastore, 1) := by decide +kernel
theorem dX0_askField_34 : decode cX0_askField 34 = .ok (.return_, 1) := by decide +kernel
def w_X0_askField (a0 a1 a2 : Int) (X : XT) (Q : XT → Prop) : Prop :=
  R32 a0 ∧ (0 ≤ a0) ∧ w_X0_tellWords  (a0 % 8) (a0 / 8) a1 a2 X (fun (X4 : XT) => Q (x_st (x_st X4 46 3 (-1)) 46 4 (-1)))
set_option maxRecDepth 20000 in
theorem so_X0_askField {n : Nat} {h : Nat → sE} {X : XT} {a0 a1 a2 : Int} {Q : XT → Prop} (hn : 115 ≤ n) (hp : Pic X h) (w : w_X0_askField  a0 a1 a2 X Q) : Sp m_X0_askField 1 0 0 [.ref 44, .int (iI a0), .int (iI a1), .int (iI a2)] n h (pVw n h Q) := by
  unfold w_X0_askField at w
  refine Sp.ofV (by decide +kernel) (Nat.le_of_ble_eq_true rfl) ?_
  have hf : Fr h h := fun _ _ => rfl
  refine v_aload_n dX0_askField_0 rfl ?_
  refine v_iload_n dX0_askField_1 rfl ?_
  refine v_bipushI dX0_askField_2 rfl ?_
  obtain ⟨q1, q2, w⟩ := w
  refine v_iremI dX0_askField_4 q2 q1.2 (by decide) (by decide) ?_
  refine v_iload_n dX0_askField_5 rfl ?_
  refine v_bipushI dX0_askField_6 rfl ?_
  refine v_idivI dX0_askField_8 q2 q1.2 (by decide) (by decide) ?_
  refine v_iload_n dX0_askField_9 rfl ?_
  refine v_iload_n dX0_askField_10 rfl ?_
  refine v_callVVw dX0_askField_11 ml_X0_41 (so_X0_tellWords hn hp  w) ((hp 44 (by decide)).trans (ent_44 _)) rfl (s_lt hn rfl) rfl rfl (Nat.le_of_ble_eq_true rfl) (Nat.le_of_ble_eq_true rfl) (Nat.zero_le _) (Nat.zero_le _) (fun X4 h5 hp7 hf6 w => ?_)
  have hf8 := Fr.trans hf hf6
  refine v_aload_n dX0_askField_14 rfl ?_
  refine v_get dX0_askField_15 fl_X0_12 ((hp7 44 (by decide)).trans (ent_44 _)) rfl (s_lt hn rfl) ?_
  refine v_get dX0_askField_18 fl_X0_45 ((hp7 45 (by decide)).trans (ent_45 _)) rfl (s_lt hn rfl) ?_
  refine v_iconstI dX0_askField_21 ?_
  refine v_iconstI dX0_askField_22 ?_
  refine v_iastI dX0_askField_23 ((hp7 46 (by decide)).trans (ent_46 _)) (s_lt hn rfl) (by decide) (by decide) (by decide) (fun h9 E10 F11 => ?_)
  have hp12 := pic_st hp7 (show h9 46 = ent 46 (uI _ 3 (-1)) from E10) F11
  have hf13 := Fr.up (c := 46) hf8 F11 rfl
  refine v_aload_n dX0_askField_24 rfl ?_
  refine v_get dX0_askField_25 fl_X0_12 ((hp12 44 (by decide)).trans (ent_44 _)) rfl (s_lt hn rfl) ?_
  refine v_get dX0_askField_28 fl_X0_45 ((hp12 45 (by decide)).trans (ent_45 _)) rfl (s_lt hn rfl) ?_
  refine v_iconstI dX0_askField_31 ?_
  refine v_iconstI dX0_askField_32 ?_
  refine v_iastI dX0_askField_33 ((hp12 46 (by decide)).trans (ent_46 _)) (s_lt hn rfl) (by decide) (by decide) (by decide) (fun h14 E15 F16 => ?_)
  have hp17 := pic_st hp12 (show h14 46 = ent 46 (uI _ 4 (-1)) from E15) F16
  have hf18 := Fr.up (c := 46) hf13 F16 rfl
  exact v_vret dX0_askField_34 rfl (Nat.zero_le _) (Nat.zero_le _) ⟨rfl, hf18, _, rfl, hp17, w⟩
theorem dX0_worthOf_0 : decode cX0_worthOf 0 = .ok (.aload_n 0, 1) := by decide +kernel
theorem dX0_worthOf_1 : decode cX0_worthOf 1 = .ok (.iload_n 1, 1) := by decide +kernel
theorem dX0_worthOf_2 : decode cX0_worthOf 2 = .ok (.iload_n 2, 1) := by decide +kernel
theorem dX0_worthOf_3 : decode cX0_worthOf 3 = .ok (.iconst (-1), 1) := by decide +kernel
theorem dX0_worthOf_4 : decode cX0_worthOf 4 = .ok (.invokevirtual 22, 3) := by decide +kernel
theorem dX0_worthOf_7 : decode cX0_worthOf 7 = .ok (.aload_n 0, 1) := by decide +kernel
theorem dX0_worthOf_8 : decode cX0_worthOf 8 = .ok (.bipush 17, 2) := by decide +kernel
theorem dX0_worthOf_10 : decode cX0_worthOf 10 = .ok (.iconst 1, 1) := by decide +kernel
theorem dX0_worthOf_11 : decode cX0_worthOf 11 = .ok (.invokevirtual 28, 3) := by decide +kernel
theorem dX0_worthOf_14 : decode cX0_worthOf 14 = .ok (.ireturn, 1) := by decide +kernel
def w_X0_worthOf (K : LK) (a0 a1 : Int) (X : XT) (Q : Int → XT → Prop) : Prop :=
  w_X0_askField  a0 a1 (-1) X (fun (X2 : XT) => w_X0_toldBy K  17 1 X2 (fun (v7 : Int) (X8 : XT) => Q v7 X8))
set_option maxRecDepth 20000 in
theorem so_X0_worthOf {n : Nat} {h : Nat → sE} {X : XT} {K : LK} {hk : Nat → sE} (hK : LKok K n hk) {a0 a1 : Int} {Q : Int → XT → Prop} (hn : 115 ≤ n) (hp : Pic X h) (hf9 : Fr hk h) (w : w_X0_worthOf K  a0 a1 X Q) : Sp m_X0_worthOf 3 0 0 [.ref 44, .int (iI a0), .int (iI a1)] n h (pIw n h Q) := by
  unfold w_X0_worthOf at w
  refine Sp.ofV (by decide +kernel) (Nat.le_of_ble_eq_true rfl) ?_
  have hf : Fr h h := fun _ _ => rfl
  refine v_aload_n dX0_worthOf_0 rfl ?_
  refine v_iload_n dX0_worthOf_1 rfl ?_
  refine v_iload_n dX0_worthOf_2 rfl ?_
  refine v_iconstI dX0_worthOf_3 ?_
  refine v_callVVw dX0_worthOf_4 ml_X0_22 (so_X0_askField hn hp  w) ((hp 44 (by decide)).trans (ent_44 _)) rfl (s_lt hn rfl) rfl rfl (Nat.le_of_ble_eq_true rfl) (Nat.le_of_ble_eq_true rfl) (Nat.zero_le _) (Nat.zero_le _) (fun X2 h3 hp5 hf4 w => ?_)
  have hf6 := Fr.trans hf hf4
  refine v_aload_n dX0_worthOf_7 rfl ?_
  refine v_bipushI dX0_worthOf_8 rfl ?_
  refine v_iconstI dX0_worthOf_10 ?_
  refine v_callVIw dX0_worthOf_11 ml_X0_28 (so_X0_toldBy hK hn hp5 (Fr.trans hf9 hf6) w) ((hp5 44 (by decide)).trans (ent_44 _)) rfl (s_lt hn rfl) rfl rfl (Nat.le_of_ble_eq_true rfl) (Nat.le_of_ble_eq_true rfl) (Nat.zero_le _) (Nat.zero_le _) (fun v7 X8 h9 hp11 hf10 w => ?_)
  have hf12 := Fr.trans hf6 hf10
  exact v_iret dX0_worthOf_14 rfl (Nat.zero_le _) (Nat.zero_le _) ⟨rfl, hf12, _, _, rfl, hp11, w⟩
theorem dX8_tell_0 : decode cX8_tell 0 = .ok (.iload_n 1, 1) := by decide +kernel
theorem dX8_tell_1 : decode cX8_tell 1 = .ok (.iconst 0, 1) := by decide +kernel
theorem dX8_tell_2 : decode cX8_tell 2 = .ok (.iconst 4, 1) := by decide +kernel
theorem dX8_tell_3 : decode cX8_tell 3 = .ok (.invokestatic 26, 3) := by decide +kernel
theorem dX8_tell_6 : decode cX8_tell 6 = .ok (.ifCond .eq 25, 3) := by decide +kernel
theorem dX8_tell_9 : decode cX8_tell 9 = .ok (.iload_n 2, 1) := by decide +kernel
theorem dX8_tell_10 : decode cX8_tell 10 = .ok (.iconst 0, 1) := by decide +kernel
theorem dX8_tell_11 : decode cX8_tell 11 = .ok (.bipush 10, 2) := by decide +kernel
theorem dX8_tell_13 : decode cX8_tell 13 = .ok (.invokestatic 26, 3) := by decide +kernel
theorem dX8_tell_16 : decode cX8_tell 16 = .ok (.ifCond .eq 15, 3) := by decide +kernel
theorem dX8_tell_19 : decode cX8_tell 19 = .ok (.aload_n 0, 1) := by decide +kernel
theorem dX8_tell_20 : decode cX8_tell 20 = .ok (.getfield 9, 3) := by decide +kernel
theorem dX8_tell_23 : decode cX8_tell 23 = .ok (.iload_n 1, 1) := by decide +kernel
theorem dX8_tell_24 : decode cX8_tell 24 = .ok (.bipush 11, 2) := by decide +kernel
theorem dX8_tell_26 : decode cX8_tell 26 = .ok (.imul, 1) := by decide +kernel
theorem dX8_tell_27 : decode cX8_tell 27 = .ok (.iload_n 2, 1) := by decide +kernel
theorem dX8_tell_28 : decode cX8_tell 28 = .ok (.iadd, 1) := by decide +kernel
theorem dX8_tell_29 : decode cX8_tell 29 = .ok (.iload_n 3, 1) := by decide +kernel
theorem dX8_tell_30 : decode cX8_tell 30 = .ok (.iastore, 1) := by decide +kernel
theorem dX8_tell_31 : decode cX8_tell 31 = .ok (.return_, 1) := by decide +kernel
def w_X8_tell (ta sb : Nat) (a0 a1 a2 : Int) (X : XT) (Q : XT → Prop) : Prop :=
  R32 a0 ∧ (¬ (0 ≤ a0 ∧ a0 ≤ 4) → Q X) ∧ ((0 ≤ a0 ∧ a0 ≤ 4) → R32 a1 ∧ (¬ (0 ≤ a1 ∧ a1 ≤ 10) → Q X) ∧ ((0 ≤ a1 ∧ a1 ≤ 10) → (0 ≤ ((a0 * 11) + a1) ∧ ((a0 * 11) + a1) < 55) ∧ Q (x_st X ta ((a0 * 11) + a1) a2)))
set_option maxRecDepth 20000 in
theorem so_X8_tell_49 {n : Nat} {h : Nat → sE} {X : XT} {a0 a1 a2 : Int} {Q : XT → Prop} (hn : 115 ≤ n) (hp : Pic X h) (w : w_X8_tell 50 51 a0 a1 a2 X Q) : Sp m_X8_tell 1 0 0 [.ref 49, .int (iI a0), .int (iI a1), .int (iI a2)] n h (pVw n h Q) := by
  unfold w_X8_tell at w
  refine Sp.ofV (by decide +kernel) (Nat.le_of_ble_eq_true rfl) ?_
  have hf : Fr h h := fun _ _ => rfl
  refine v_iload_n dX8_tell_0 rfl ?_
  refine v_iconstI dX8_tell_1 ?_
  refine v_iconstI dX8_tell_2 ?_
  obtain ⟨q1, w⟩ := w
  refine v_callSp dX8_tell_3 ml_X8_26 (sp_X11_within (a := a0) (b := 0) (c := 4) q1 (by decide) (by decide)) rfl rfl (Nat.le_of_ble_eq_true rfl) (Nat.le_of_ble_eq_true rfl) (Nat.zero_le _) (Nat.zero_le _) ?_
  refine v_ifeqB (tgt := 31) dX8_tell_6 (by decide) (fun c2 => ?_) (fun c2 => ?_)
  · replace w := w.1 c2
    exact v_vret dX8_tell_31 rfl (Nat.zero_le _) (Nat.zero_le _) ⟨rfl, hf, _, rfl, hp, w⟩
  · replace w := w.2 c2
    refine v_iload_n dX8_tell_9 rfl ?_
    refine v_iconstI dX8_tell_10 ?_
    refine v_bipushI dX8_tell_11 rfl ?_
    obtain ⟨q3, w⟩ := w
    refine v_callSp dX8_tell_13 ml_X8_26 (sp_X11_within (a := a1) (b := 0) (c := 10) q3 (by decide) (by decide)) rfl rfl (Nat.le_of_ble_eq_true rfl) (Nat.le_of_ble_eq_true rfl) (Nat.zero_le _) (Nat.zero_le _) ?_
    refine v_ifeqB (tgt := 31) dX8_tell_16 (by decide) (fun c4 => ?_) (fun c4 => ?_)
    · replace w := w.1 c4
      exact v_vret dX8_tell_31 rfl (Nat.zero_le _) (Nat.zero_le _) ⟨rfl, hf, _, rfl, hp, w⟩
    · replace w := w.2 c4
      refine v_aload_n dX8_tell_19 rfl ?_
      refine v_get dX8_tell_20 fl_X8_9 ((hp 49 (by decide)).trans (ent_49 _)) rfl (s_lt hn rfl) ?_
      refine v_iload_n dX8_tell_23 rfl ?_
      refine v_bipushI dX8_tell_24 rfl ?_
      refine v_imulI dX8_tell_26 ?_
      refine v_iload_n dX8_tell_27 rfl ?_
      refine v_iaddI dX8_tell_28 ?_
      refine v_iload_n dX8_tell_29 rfl ?_
      obtain ⟨q5, w⟩ := w
      refine v_iastI dX8_tell_30 ((hp 50 (by decide)).trans (ent_50 _)) (s_lt hn rfl) q5.1 q5.2 (ix_le q5.2 (by decide)) (fun h6 E7 F8 => ?_)
      have hp9 := pic_st hp (show h6 50 = ent 50 (uI _ ((a0 * 11) + a1) a2) from E7) F8
      have hf10 := Fr.up (c := 50) hf F8 rfl
      exact v_vret dX8_tell_31 rfl (Nat.zero_le _) (Nat.zero_le _) ⟨rfl, hf10, _, rfl, hp9, w⟩
theorem dX8_hearFlags_0 : decode cX8_hearFlags 0 = .ok (.iconst 0, 1) := by decide +kernel
theorem dX8_hearFlags_1 : decode cX8_hearFlags 1 = .ok (.istore_n 1, 1) := by decide +kernel
theorem dX8_hearFlags_2 : decode cX8_hearFlags 2 = .ok (.iload_n 1, 1) := by decide +kernel
theorem dX8_hearFlags_3 : decode cX8_hearFlags 3 = .ok (.aload_n 0, 1) := by decide +kernel
theorem dX8_hearFlags_4 : decode cX8_hearFlags 4 = .ok (.getfield 9, 3) := by decide +kernel
theorem dX8_hearFlags_7 : decode cX8_hearFlags 7 = .ok (.arraylength, 1) := by decide +kernel
theorem dX8_hearFlags_8 : decode cX8_hearFlags 8 = .ok (.if_icmp .ge 16, 3) := by decide +kernel
theorem dX8_hearFlags_11 : decode cX8_hearFlags 11 = .ok (.aload_n 0, 1) := by decide +kernel
theorem dX8_hearFlags_12 : decode cX8_hearFlags 12 = .ok (.getfield 9, 3) := by decide +kernel
theorem dX8_hearFlags_15 : decode cX8_hearFlags 15 = .ok (.iload_n 1, 1) := by decide +kernel
theorem dX8_hearFlags_16 : decode cX8_hearFlags 16 = .ok (.iconst 4, 1) := by decide +kernel
theorem dX8_hearFlags_17 : decode cX8_hearFlags 17 = .ok (.iastore, 1) := by decide +kernel
theorem dX8_hearFlags_18 : decode cX8_hearFlags 18 = .ok (.iinc 1 1, 3) := by decide +kernel
theorem dX8_hearFlags_21 : decode cX8_hearFlags 21 = .ok (.goto (-19), 3) := by decide +kernel
theorem dX8_hearFlags_24 : decode cX8_hearFlags 24 = .ok (.iconst 0, 1) := by decide +kernel
theorem dX8_hearFlags_25 : decode cX8_hearFlags 25 = .ok (.istore_n 1, 1) := by decide +kernel
theorem dX8_hearFlags_26 : decode cX8_hearFlags 26 = .ok (.iload_n 1, 1) := by decide +kernel
theorem dX8_hearFlags_27 : decode cX8_hearFlags 27 = .ok (.aload_n 0, 1) := by decide +kernel
theorem dX8_hearFlags_28 : decode cX8_hearFlags 28 = .ok (.getfield 18, 3) := by decide +kernel
theorem dX8_hearFlags_31 : decode cX8_hearFlags 31 = .ok (.getfield 63, 3) := by decide +kernel
theorem dX8_hearFlags_34 : decode cX8_hearFlags 34 = .ok (.if_icmp .ge 42, 3) := by decide +kernel
theorem dX8_hearFlags_37 : decode cX8_hearFlags 37 = .ok (.aload_n 0, 1) := by decide +kernel
theorem dX8_hearFlags_38 : decode cX8_hearFlags 38 = .ok (.getfield 18, 3) := by decide +kernel
theorem dX8_hearFlags_41 : decode cX8_hearFlags 41 = .ok (.iload_n 1, 1) := by decide +kernel
theorem dX8_hearFlags_42 : decode cX8_hearFlags 42 = .ok (.iconst 0, 1) := by decide +kernel
theorem dX8_hearFlags_43 : decode cX8_hearFlags 43 = .ok (.invokevirtual 66, 3) := by decide +kernel
theorem dX8_hearFlags_46 : decode cX8_hearFlags 46 = .ok (.istore_n 2, 1) := by decide +kernel
theorem dX8_hearFlags_47 : decode cX8_hearFlags 47 = .ok (.aload_n 0, 1) := by decide +kernel
theorem dX8_hearFlags_48 : decode cX8_hearFlags 48 = .ok (.aload_n 0, 1) := by decide +kernel
theorem dX8_hearFlags_49 : decode cX8_hearFlags 49 = .ok (.getfield 18, 3) := by decide +kernel
theorem dX8_hearFlags_52 : decode cX8_hearFlags 52 = .ok (.iload_n 1, 1) := by decide +kernel
theorem dX8_hearFlags_53 : decode cX8_hearFlags 53 = .ok (.iconst 1, 1) := by decide +kernel
theorem dX8_hearFlags_54 : decode cX8_hearFlags 54 = .ok (.invokevirtual 66, 3) := by decide +kernel
theorem dX8_hearFlags_57 : decode cX8_hearFlags 57 = .ok (.iload_n 2, 1) := by decide +kernel
theorem dX8_hearFlags_58 : decode cX8_hearFlags 58 = .ok (.aload_n 0, 1) := by decide +kernel
theorem dX8_hearFlags_59 : decode cX8_hearFlags 59 = .ok (.getfield 18, 3) := by decide +kernel
theorem dX8_hearFlags_62 : decode cX8_hearFlags 62 = .ok (.iload_n 1, 1) := by decide +kernel
theorem dX8_hearFlags_63 : decode cX8_hearFlags 63 = .ok (.iconst 2, 1) := by decide +kernel
theorem dX8_hearFlags_64 : decode cX8_hearFlags 64 = .ok (.invokevirtual 66, 3) := by decide +kernel
theorem dX8_hearFlags_67 : decode cX8_hearFlags 67 = .ok (.invokevirtual 70, 3) := by decide +kernel
theorem dX8_hearFlags_70 : decode cX8_hearFlags 70 = .ok (.iinc 1 1, 3) := by decide +kernel
theorem dX8_hearFlags_73 : decode cX8_hearFlags 73 = .ok (.goto (-47), 3) := by decide +kernel
theorem dX8_hearFlags_76 : decode cX8_hearFlags 76 = .ok (.return_, 1) := by decide +kernel
def w_X8_hearFlags (ta sb : Nat) (X : XT) (Q : XT → Prop) : Prop :=
  ∃ (I3 : Int → XT → Prop) (m4 : Int → XT → Nat), I3 0 X ∧ ∀ (x1 : Int) (X2 : XT), I3 x1 X2 → R32 x1 ∧ (55 ≤ x1 → ∃ (I19 : Int → XT → Prop) (m20 : Int → XT → Nat), I19 0 X2 ∧ ∀ (x17 : Int) (X18 : XT), I19 x17 X18 → R32 x17 ∧ R32 (X18 1 10) ∧ ((X18 1 10) ≤ x17 → Q X18) ∧ (¬ (X18 1 10) ≤ x17 → (0 ≤ x17 ∧ x17 ≤ 23) ∧ w_X8_tell ta sb (X18 6 (x17 * 3 + 1)) (X18 6 (x17 * 3 + 0)) (X18 6 (x17 * 3 + 2)) X18 (fun (X36 : XT) => I19 (x17 + 1) X36 ∧ m20 (x17 + 1) X36 < m20 x17 X18))) ∧ (¬ 55 ≤ x1 → (0 ≤ x1 ∧ x1 < 55) ∧ I3 (x1 + 1) (x_st X2 ta x1 4) ∧ m4 (x1 + 1) (x_st X2 ta x1 4) < m4 x1 X2)
set_option maxRecDepth 20000 in
theorem so_X8_hearFlags_49 {n : Nat} {h : Nat → sE} {X : XT} {Q : XT → Prop} (hn : 115 ≤ n) (hp : Pic X h) (w : w_X8_hearFlags 50 51  X Q) : Sp m_X8_hearFlags 2 0 0 [.ref 49] n h (pVw n h Q) := by
  unfold w_X8_hearFlags at w
  refine Sp.ofV (by decide +kernel) (Nat.le_of_ble_eq_true rfl) ?_
  have hf : Fr h h := fun _ _ => rfl
  refine v_iconstI dX8_hearFlags_0 ?_
  refine v_istore_n dX8_hearFlags_1 (Nat.le_of_ble_eq_true rfl) ?_
  refine v_pick [1, 0] rfl ?_
  obtain ⟨I3, m4, wi7, wl6⟩ := w
  have hL8 : ∀ (N11 : Nat) (x1 : Int) (X2 : XT) (h12 : Nat → sE), m4 x1 X2 < N11 → I3 x1 X2 → Pic X2 h12 → Fr h h12 → V (m_X8_hearFlags, 2, 0, 0, n, pVw n h Q, s_G0) 0 0 n h12 2 [(0, .ref 49), (1, .int (iI x1))] [] := by
    intro N11
    induction N11 with
    | zero => intro x1 X2 h12 hm9; exact absurd hm9 (Nat.not_lt_zero _)
    | succ N11 ih5 =>
      intro x1 X2 h12 hm9 hI10 hp13 hf14
      have w := wl6 x1 X2 hI10
      refine v_iload_n dX8_hearFlags_2 rfl ?_
      refine v_aload_n dX8_hearFlags_3 rfl ?_
      refine v_get dX8_hearFlags_4 fl_X8_9 ((hp13 49 (by decide)).trans (ent_49 _)) rfl (s_lt hn rfl) ?_
      refine v_alen_aI dX8_hearFlags_7 ((hp13 50 (by decide)).trans (ent_50 _)) (s_lt hn rfl) ?_
      obtain ⟨q15, w⟩ := w
      refine v_icmp_geI (tgt := 24) dX8_hearFlags_8 (by decide) q15.1 q15.2 (by decide) (by decide) (fun c16 => ?_) (fun c16 => ?_)
      · replace w := w.1 c16
        refine v_iconstI dX8_hearFlags_24 ?_
        refine v_istore_n dX8_hearFlags_25 (Nat.le_of_ble_eq_true rfl) ?_
        refine v_pick [1, 0] rfl ?_
        obtain ⟨I19, m20, wi23, wl22⟩ := w
        have hL24 : ∀ (N27 : Nat) (x17 : Int) (X18 : XT) (h28 : Nat → sE), m20 x17 X18 < N27 → I19 x17 X18 → Pic X18 h28 → Fr h h28 → V (m_X8_hearFlags, 2, 0, 0, n, pVw n h Q, s_G0) 0 0 n h28 26 [(0, .ref 49), (1, .int (iI x17))] [] := by
          intro N27
          induction N27 with
          | zero => intro x17 X18 h28 hm25; exact absurd hm25 (Nat.not_lt_zero _)
          | succ N27 ih21 =>
            intro x17 X18 h28 hm25 hI26 hp29 hf30
            have w := wl22 x17 X18 hI26
            refine v_iload_n dX8_hearFlags_26 rfl ?_
            refine v_aload_n dX8_hearFlags_27 rfl ?_
            refine v_get dX8_hearFlags_28 fl_X8_18 ((hp29 49 (by decide)).trans (ent_49 _)) rfl (s_lt hn rfl) ?_
            refine v_get dX8_hearFlags_31 fl_X8_63 ((hp29 1 (by decide)).trans (ent_1 _)) rfl (s_lt hn rfl) ?_
            obtain ⟨q31, q32, w⟩ := w
            refine v_icmp_geI (tgt := 76) dX8_hearFlags_34 (by decide) q31.1 q31.2 q32.1 q32.2 (fun c33 => ?_) (fun c33 => ?_)
            · replace w := w.1 c33
              exact v_vret dX8_hearFlags_76 rfl (Nat.zero_le _) (Nat.zero_le _) ⟨rfl, hf30, _, rfl, hp29, w⟩
            · replace w := w.2 c33
              refine v_aload_n dX8_hearFlags_37 rfl ?_
              refine v_get dX8_hearFlags_38 fl_X8_18 ((hp29 49 (by decide)).trans (ent_49 _)) rfl (s_lt hn rfl) ?_
              refine v_iload_n dX8_hearFlags_41 rfl ?_
              refine v_iconstI dX8_hearFlags_42 ?_
              obtain ⟨q34, w⟩ := w
              refine v_callVp dX8_hearFlags_43 ml_X8_66 (sv_X3_flagFact (a := x17) (b := 0) (g1 := X18 1) (g6 := X18 6) hn (hp29 1 (by decide)) (hp29 6 (by decide)) q34 (by decide)) ((hp29 1 (by decide)).trans (ent_1 _)) rfl (s_lt hn rfl) rfl rfl (Nat.le_of_ble_eq_true rfl) (Nat.le_of_ble_eq_true rfl) (Nat.zero_le _) (Nat.zero_le _) ?_
              refine v_istore_n dX8_hearFlags_46 (Nat.le_of_ble_eq_true rfl) ?_
              refine v_aload_n dX8_hearFlags_47 rfl ?_
              refine v_aload_n dX8_hearFlags_48 rfl ?_
              refine v_get dX8_hearFlags_49 fl_X8_18 ((hp29 49 (by decide)).trans (ent_49 _)) rfl (s_lt hn rfl) ?_
              refine v_iload_n dX8_hearFlags_52 rfl ?_
              refine v_iconstI dX8_hearFlags_53 ?_
              refine v_callVp dX8_hearFlags_54 ml_X8_66 (sv_X3_flagFact (a := x17) (b := 1) (g1 := X18 1) (g6 := X18 6) hn (hp29 1 (by decide)) (hp29 6 (by decide)) q34 (by decide)) ((hp29 1 (by decide)).trans (ent_1 _)) rfl (s_lt hn rfl) rfl rfl (Nat.le_of_ble_eq_true rfl) (Nat.le_of_ble_eq_true rfl) (Nat.zero_le _) (Nat.zero_le _) ?_
              refine v_iload_n dX8_hearFlags_57 rfl ?_
              refine v_aload_n dX8_hearFlags_58 rfl ?_
              refine v_get dX8_hearFlags_59 fl_X8_18 ((hp29 49 (by decide)).trans (ent_49 _)) rfl (s_lt hn rfl) ?_
              refine v_iload_n dX8_hearFlags_62 rfl ?_
              refine v_iconstI dX8_hearFlags_63 ?_
              refine v_callVp dX8_hearFlags_64 ml_X8_66 (sv_X3_flagFact (a := x17) (b := 2) (g1 := X18 1) (g6 := X18 6) hn (hp29 1 (by decide)) (hp29 6 (by decide)) q34 (by decide)) ((hp29 1 (by decide)).trans (ent_1 _)) rfl (s_lt hn rfl) rfl rfl (Nat.le_of_ble_eq_true rfl) (Nat.le_of_ble_eq_true rfl) (Nat.zero_le _) (Nat.zero_le _) ?_
              refine v_callVVw dX8_hearFlags_67 ml_X8_70 (so_X8_tell_49 hn hp29  w) ((hp29 49 (by decide)).trans (ent_49 _)) rfl (s_lt hn rfl) rfl rfl (Nat.le_of_ble_eq_true rfl) (Nat.le_of_ble_eq_true rfl) (Nat.zero_le _) (Nat.zero_le _) (fun X36 h37 hp39 hf38 w => ?_)
              have hf40 := Fr.trans hf30 hf38
              refine v_iincI dX8_hearFlags_70 rfl (Nat.le_of_ble_eq_true rfl) ?_
              refine v_goto (tgt := 26) dX8_hearFlags_73 (by decide) ?_
              refine v_pick [2, 0] rfl ?_
              exact ih21 _ _ _ (Nat.lt_of_lt_of_le w.2 (Nat.le_of_lt_succ hm25)) w.1 hp39 hf40
        exact hL24 _ _ _ _ (Nat.lt_succ_self _) wi23 hp13 hf14
      · replace w := w.2 c16
        refine v_aload_n dX8_hearFlags_11 rfl ?_
        refine v_get dX8_hearFlags_12 fl_X8_9 ((hp13 49 (by decide)).trans (ent_49 _)) rfl (s_lt hn rfl) ?_
        refine v_iload_n dX8_hearFlags_15 rfl ?_
        refine v_iconstI dX8_hearFlags_16 ?_
        obtain ⟨q41, w⟩ := w
        refine v_iastI dX8_hearFlags_17 ((hp13 50 (by decide)).trans (ent_50 _)) (s_lt hn rfl) q41.1 q41.2 (ix_le q41.2 (by decide)) (fun h42 E43 F44 => ?_)
        have hp45 := pic_st hp13 (show h42 50 = ent 50 (uI _ x1 4) from E43) F44
        have hf46 := Fr.up (c := 50) hf14 F44 rfl
        refine v_iincI dX8_hearFlags_18 rfl (Nat.le_of_ble_eq_true rfl) ?_
        refine v_goto (tgt := 2) dX8_hearFlags_21 (by decide) ?_
        refine v_pick [1, 0] rfl ?_
        exact ih5 _ _ _ (Nat.lt_of_lt_of_le w.2 (Nat.le_of_lt_succ hm9)) w.1 hp45 hf46
  exact hL8 _ _ _ _ (Nat.lt_succ_self _) wi7 hp hf
theorem dX3_startOf_0 : decode cX3_startOf 0 = .ok (.aload_n 0, 1) := by decide +kernel
theorem dX3_startOf_1 : decode cX3_startOf 1 = .ok (.iload_n 1, 1) := by decide +kernel
theorem dX3_startOf_2 : decode cX3_startOf 2 = .ok (.invokevirtual 71, 3) := by decide +kernel
theorem dX3_startOf_5 : decode cX3_startOf 5 = .ok (.ifCond .eq 21, 3) := by decide +kernel
theorem dX3_startOf_8 : decode cX3_startOf 8 = .ok (.aload_n 0, 1) := by decide +kernel
theorem dX3_startOf_9 : decode cX3_startOf 9 = .ok (.iload_n 1, 1) := by decide +kernel
theorem dX3_startOf_10 : decode cX3_startOf 10 = .ok (.iconst 3, 1) := by decide +kernel
theorem dX3_startOf_11 : decode cX3_startOf 11 = .ok (.invokevirtual 75, 3) := by decide +kernel
theorem dX3_startOf_14 : decode cX3_startOf 14 = .ok (.aload_n 0, 1) := by decide +kernel
theorem dX3_startOf_15 : decode cX3_startOf 15 = .ok (.iload_n 1, 1) := by decide +kernel
theorem dX3_startOf_16 : decode cX3_startOf 16 = .ok (.iconst 4, 1) := by decide +kernel
theorem dX3_startOf_17 : decode cX3_startOf 17 = .ok (.invokevirtual 75, 3) := by decide +kernel
theorem dX3_startOf_20 : decode cX3_startOf 20 = .ok (.invokestatic 79, 3) := by decide +kernel
theorem dX3_startOf_23 : decode cX3_startOf 23 = .ok (.goto 6, 3) := by decide +kernel
theorem dX3_startOf_26 : decode cX3_startOf 26 = .ok (.sipush 576, 3) := by decide +kernel
theorem dX3_startOf_29 : decode cX3_startOf 29 = .ok (.ireturn, 1) := by decide +kernel
def w_X3_startOf (a0 : Int) (X : XT) (Q : Int → Prop) : Prop :=
  R32 a0 ∧ R32 (X 1 9) ∧ (¬ (0 ≤ a0 ∧ a0 < X 1 9) → Q 576) ∧ ((0 ≤ a0 ∧ a0 < X 1 9) → (0 ≤ a0 ∧ a0 < X 1 9 ∧ X 1 9 ≤ 5) ∧ (-8 ≤ (X 5 (a0 * 5 + 3)) ∧ (X 5 (a0 * 5 + 3)) ≤ 15 ∧ -8 ≤ (X 5 (a0 * 5 + 4)) ∧ (X 5 (a0 * 5 + 4)) ≤ 15) ∧ Q (24 * ((X 5 (a0 * 5 + 4)) + 8) + (X 5 (a0 * 5 + 3)) + 8))
set_option maxRecDepth 20000 in
theorem so_X3_startOf {n : Nat} {h : Nat → sE} {X : XT} {a0 : Int} {Q : Int → Prop} (hn : 115 ≤ n) (hp : Pic X h) (w : w_X3_startOf  a0 X Q) : Sp m_X3_startOf 2 0 0 [.ref 1, .int (iI a0)] n h (pIr n h Q) := by
  unfold w_X3_startOf at w
  refine Sp.ofV (by decide +kernel) (Nat.le_of_ble_eq_true rfl) ?_
  have hf : Fr h h := fun _ _ => rfl
  refine v_aload_n dX3_startOf_0 rfl ?_
  refine v_iload_n dX3_startOf_1 rfl ?_
  obtain ⟨q1, q2, w⟩ := w
  refine v_callVp dX3_startOf_2 ml_X3_71 (sq_X3_isCloud (a := a0) (g1 := X 1) hn (hp 1 (by decide)) q1 q2) ((hp 1 (by decide)).trans (ent_1 _)) rfl (s_lt hn rfl) rfl rfl (Nat.le_of_ble_eq_true rfl) (Nat.le_of_ble_eq_true rfl) (Nat.zero_le _) (Nat.zero_le _) ?_
  refine v_ifeqB (tgt := 26) dX3_startOf_5 (by decide) (fun c3 => ?_) (fun c3 => ?_)
  · replace w := w.1 c3
    refine v_sipushI dX3_startOf_26 rfl ?_
    exact v_iret dX3_startOf_29 rfl (Nat.zero_le _) (Nat.zero_le _) ⟨rfl, rfl, _, rfl, w⟩
  · replace w := w.2 c3
    refine v_aload_n dX3_startOf_8 rfl ?_
    refine v_iload_n dX3_startOf_9 rfl ?_
    refine v_iconstI dX3_startOf_10 ?_
    obtain ⟨q4, w⟩ := w
    refine v_callVp dX3_startOf_11 ml_X3_75 (sv_X3_cloudFact (a := a0) (b := 3) (g1 := X 1) (g5 := X 5) hn (hp 1 (by decide)) (hp 5 (by decide)) q4 (by decide)) ((hp 1 (by decide)).trans (ent_1 _)) rfl (s_lt hn rfl) rfl rfl (Nat.le_of_ble_eq_true rfl) (Nat.le_of_ble_eq_true rfl) (Nat.zero_le _) (Nat.zero_le _) ?_
    refine v_aload_n dX3_startOf_14 rfl ?_
    refine v_iload_n dX3_startOf_15 rfl ?_
    refine v_iconstI dX3_startOf_16 ?_
    refine v_callVp dX3_startOf_17 ml_X3_75 (sv_X3_cloudFact (a := a0) (b := 4) (g1 := X 1) (g5 := X 5) hn (hp 1 (by decide)) (hp 5 (by decide)) q4 (by decide)) ((hp 1 (by decide)).trans (ent_1 _)) rfl (s_lt hn rfl) rfl rfl (Nat.le_of_ble_eq_true rfl) (Nat.le_of_ble_eq_true rfl) (Nat.zero_le _) (Nat.zero_le _) ?_
    obtain ⟨q5, w⟩ := w
    refine v_callSp dX3_startOf_20 ml_X3_79 (sv_X8_spotAt (a := (X 5 (a0 * 5 + 3))) (b := (X 5 (a0 * 5 + 4))) q5) rfl rfl (Nat.le_of_ble_eq_true rfl) (Nat.le_of_ble_eq_true rfl) (Nat.zero_le _) (Nat.zero_le _) ?_
    refine v_goto (tgt := 29) dX3_startOf_23 (by decide) ?_
    exact v_iret dX3_startOf_29 rfl (Nat.zero_le _) (Nat.zero_le _) ⟨rfl, rfl, _, rfl, w⟩
theorem dX8_place_0 : decode cX8_place 0 = .ok (.iload_n 1, 1) := by decide +kernel
theorem dX8_place_1 : decode cX8_place 1 = .ok (.iconst 0, 1) := by decide +kernel
theorem dX8_place_2 : decode cX8_place 2 = .ok (.iconst 4, 1) := by decide +kernel
theorem dX8_place_3 : decode cX8_place 3 = .ok (.invokestatic 26, 3) := by decide +kernel
theorem dX8_place_6 : decode cX8_place 6 = .ok (.ifCond .eq 22, 3) := by decide +kernel
theorem dX8_place_9 : decode cX8_place 9 = .ok (.iload_n 2, 1) := by decide +kernel
theorem dX8_place_10 : decode cX8_place 10 = .ok (.invokestatic 100, 3) := by decide +kernel
theorem dX8_place_13 : decode cX8_place 13 = .ok (.ifCond .eq 15, 3) := by decide +kernel
theorem dX8_place_16 : decode cX8_place 16 = .ok (.aload_n 0, 1) := by decide +kernel
theorem dX8_place_17 : decode cX8_place 17 = .ok (.getfield 15, 3) := by decide +kernel
theorem dX8_place_20 : decode cX8_place 20 = .ok (.iload_n 1, 1) := by decide +kernel
theorem dX8_place_21 : decode cX8_place 21 = .ok (.bipush 12, 2) := by decide +kernel
theorem dX8_place_23 : decode cX8_place 23 = .ok (.imul, 1) := by decide +kernel
theorem dX8_place_24 : decode cX8_place 24 = .ok (.iload_n 2, 1) := by decide +kernel
theorem dX8_place_25 : decode cX8_place 25 = .ok (.iadd, 1) := by decide +kernel
theorem dX8_place_26 : decode cX8_place 26 = .ok (.iload_n 3, 1) := by decide +kernel
theorem dX8_place_27 : decode cX8_place 27 = .ok (.iastore, 1) := by decide +kernel
theorem dX8_place_28 : decode cX8_place 28 = .ok (.return_, 1) := by decide +kernel
def w_X8_place (ta sb : Nat) (a0 a1 a2 : Int) (X : XT) (Q : XT → Prop) : Prop :=
  R32 a0 ∧ (¬ (0 ≤ a0 ∧ a0 ≤ 4) → Q X) ∧ ((0 ≤ a0 ∧ a0 ≤ 4) → R32 a1 ∧ (¬ (0 ≤ a1 ∧ a1 ≤ 11) → Q X) ∧ ((0 ≤ a1 ∧ a1 ≤ 11) → (0 ≤ ((a0 * 12) + a1) ∧ ((a0 * 12) + a1) < 60) ∧ Q (x_st X sb ((a0 * 12) + a1) a2)))
set_option maxRecDepth 20000 in
theorem so_X8_place_49 {n : Nat} {h : Nat → sE} {X : XT} {a0 a1 a2 : Int} {Q : XT → Prop} (hn : 115 ≤ n) (hp : Pic X h) (w : w_X8_place 50 51 a0 a1 a2 X Q) : Sp m_X8_place 2 0 0 [.ref 49, .int (iI a0), .int (iI a1), .int (iI a2)] n h (pVw n h Q) := by
  unfold w_X8_place at w
  refine Sp.ofV (by decide +kernel) (Nat.le_of_ble_eq_true rfl) ?_
  have hf : Fr h h := fun _ _ => rfl
  refine v_iload_n dX8_place_0 rfl ?_
  refine v_iconstI dX8_place_1 ?_
  refine v_iconstI dX8_place_2 ?_
  obtain ⟨q1, w⟩ := w
  refine v_callSp dX8_place_3 ml_X8_26 (sp_X11_within (a := a0) (b := 0) (c := 4) q1 (by decide) (by decide)) rfl rfl (Nat.le_of_ble_eq_true rfl) (Nat.le_of_ble_eq_true rfl) (Nat.zero_le _) (Nat.zero_le _) ?_
  refine v_ifeqB (tgt := 28) dX8_place_6 (by decide) (fun c2 => ?_) (fun c2 => ?_)
  · replace w := w.1 c2
    exact v_vret dX8_place_28 rfl (Nat.zero_le _) (Nat.zero_le _) ⟨rfl, hf, _, rfl, hp, w⟩
  · replace w := w.2 c2
    refine v_iload_n dX8_place_9 rfl ?_
    obtain ⟨q3, w⟩ := w
    refine v_callSp dX8_place_10 ml_X8_100 (sp_X11_isHour (a := a1) q3) rfl rfl (Nat.le_of_ble_eq_true rfl) (Nat.le_of_ble_eq_true rfl) (Nat.zero_le _) (Nat.zero_le _) ?_
    refine v_ifeqB (tgt := 28) dX8_place_13 (by decide) (fun c4 => ?_) (fun c4 => ?_)
    · replace w := w.1 c4
      exact v_vret dX8_place_28 rfl (Nat.zero_le _) (Nat.zero_le _) ⟨rfl, hf, _, rfl, hp, w⟩
    · replace w := w.2 c4
      refine v_aload_n dX8_place_16 rfl ?_
      refine v_get dX8_place_17 fl_X8_15 ((hp 49 (by decide)).trans (ent_49 _)) rfl (s_lt hn rfl) ?_
      refine v_iload_n dX8_place_20 rfl ?_
      refine v_bipushI dX8_place_21 rfl ?_
      refine v_imulI dX8_place_23 ?_
      refine v_iload_n dX8_place_24 rfl ?_
      refine v_iaddI dX8_place_25 ?_
      refine v_iload_n dX8_place_26 rfl ?_
      obtain ⟨q5, w⟩ := w
      refine v_iastI dX8_place_27 ((hp 51 (by decide)).trans (ent_51 _)) (s_lt hn rfl) q5.1 q5.2 (ix_le q5.2 (by decide)) (fun h6 E7 F8 => ?_)
      have hp9 := pic_st hp (show h6 51 = ent 51 (uI _ ((a0 * 12) + a1) a2) from E7) F8
      have hf10 := Fr.up (c := 51) hf F8 rfl
      exact v_vret dX8_place_28 rfl (Nat.zero_le _) (Nat.zero_le _) ⟨rfl, hf10, _, rfl, hp9, w⟩
theorem dX8_spotOf_0 : decode cX8_spotOf 0 = .ok (.iload_n 1, 1) := by decide +kernel
theorem dX8_spotOf_1 : decode cX8_spotOf 1 = .ok (.iconst 0, 1) := by decide +kernel
theorem dX8_spotOf_2 : decode cX8_spotOf 2 = .ok (.iconst 4, 1) := by decide +kernel
theorem dX8_spotOf_3 : decode cX8_spotOf 3 = .ok (.invokestatic 26, 3) := by decide +kernel
theorem dX8_spotOf_6 : decode cX8_spotOf 6 = .ok (.ifCond .eq 10, 3) := by decide +kernel
theorem dX8_spotOf_9 : decode cX8_spotOf 9 = .ok (.iload_n 2, 1) := by decide +kernel
theorem dX8_spotOf_10 : decode cX8_spotOf 10 = .ok (.invokestatic 100, 3) := by decide +kernel
theorem dX8_spotOf_13 : decode cX8_spotOf 13 = .ok (.ifCond .ne 7, 3) := by decide +kernel
theorem dX8_spotOf_16 : decode cX8_spotOf 16 = .ok (.sipush 576, 3) := by decide +kernel
theorem dX8_spotOf_19 : decode cX8_spotOf 19 = .ok (.ireturn, 1) := by decide +kernel
theorem dX8_spotOf_20 : decode cX8_spotOf 20 = .ok (.aload_n 0, 1) := by decide +kernel
theorem dX8_spotOf_21 : decode cX8_spotOf 21 = .ok (.getfield 15, 3) := by decide +kernel
theorem dX8_spotOf_24 : decode cX8_spotOf 24 = .ok (.iload_n 1, 1) := by decide +kernel
theorem dX8_spotOf_25 : decode cX8_spotOf 25 = .ok (.bipush 12, 2) := by decide +kernel
theorem dX8_spotOf_27 : decode cX8_spotOf 27 = .ok (.imul, 1) := by decide +kernel
theorem dX8_spotOf_28 : decode cX8_spotOf 28 = .ok (.iload_n 2, 1) := by decide +kernel
theorem dX8_spotOf_29 : decode cX8_spotOf 29 = .ok (.iadd, 1) := by decide +kernel
theorem dX8_spotOf_30 : decode cX8_spotOf 30 = .ok (.iaload, 1) := by decide +kernel
theorem dX8_spotOf_31 : decode cX8_spotOf 31 = .ok (.ireturn, 1) := by decide +kernel
def w_X8_spotOf (ta sb : Nat) (a0 a1 : Int) (X : XT) (Q : Int → Prop) : Prop :=
  R32 a0 ∧ (¬ (0 ≤ a0 ∧ a0 ≤ 4) → Q 576) ∧ ((0 ≤ a0 ∧ a0 ≤ 4) → R32 a1 ∧ ((0 ≤ a1 ∧ a1 ≤ 11) → (0 ≤ ((a0 * 12) + a1) ∧ ((a0 * 12) + a1) < 60) ∧ Q (X sb ((a0 * 12) + a1))) ∧ (¬ (0 ≤ a1 ∧ a1 ≤ 11) → Q 576))
set_option maxRecDepth 20000 in
theorem so_X8_spotOf_49 {n : Nat} {h : Nat → sE} {X : XT} {a0 a1 : Int} {Q : Int → Prop} (hn : 115 ≤ n) (hp : Pic X h) (w : w_X8_spotOf 50 51 a0 a1 X Q) : Sp m_X8_spotOf 2 0 0 [.ref 49, .int (iI a0), .int (iI a1)] n h (pIr n h Q) := by
  unfold w_X8_spotOf at w
  refine Sp.ofV (by decide +kernel) (Nat.le_of_ble_eq_true rfl) ?_
  have hf : Fr h h := fun _ _ => rfl
  refine v_iload_n dX8_spotOf_0 rfl ?_
  refine v_iconstI dX8_spotOf_1 ?_
  refine v_iconstI dX8_spotOf_2 ?_
  obtain ⟨q1, w⟩ := w
  refine v_callSp dX8_spotOf_3 ml_X8_26 (sp_X11_within (a := a0) (b := 0) (c := 4) q1 (by decide) (by decide)) rfl rfl (Nat.le_of_ble_eq_true rfl) (Nat.le_of_ble_eq_true rfl) (Nat.zero_le _) (Nat.zero_le _) ?_
  refine v_ifeqB (tgt := 16) dX8_spotOf_6 (by decide) (fun c2 => ?_) (fun c2 => ?_)
  · replace w := w.1 c2
    refine v_sipushI dX8_spotOf_16 rfl ?_
    exact v_iret dX8_spotOf_19 rfl (Nat.zero_le _) (Nat.zero_le _) ⟨rfl, rfl, _, rfl, w⟩
  · replace w := w.2 c2
    refine v_iload_n dX8_spotOf_9 rfl ?_
    obtain ⟨q3, w⟩ := w
    refine v_callSp dX8_spotOf_10 ml_X8_100 (sp_X11_isHour (a := a1) q3) rfl rfl (Nat.le_of_ble_eq_true rfl) (Nat.le_of_ble_eq_true rfl) (Nat.zero_le _) (Nat.zero_le _) ?_
    refine v_ifneB (tgt := 20) dX8_spotOf_13 (by decide) (fun c4 => ?_) (fun c4 => ?_)
    · replace w := w.1 c4
      refine v_aload_n dX8_spotOf_20 rfl ?_
      refine v_get dX8_spotOf_21 fl_X8_15 ((hp 49 (by decide)).trans (ent_49 _)) rfl (s_lt hn rfl) ?_
      refine v_iload_n dX8_spotOf_24 rfl ?_
      refine v_bipushI dX8_spotOf_25 rfl ?_
      refine v_imulI dX8_spotOf_27 ?_
      refine v_iload_n dX8_spotOf_28 rfl ?_
      refine v_iaddI dX8_spotOf_29 ?_
      obtain ⟨q5, w⟩ := w
      refine v_ialdI dX8_spotOf_30 ((hp 51 (by decide)).trans (ent_51 _)) (s_lt hn rfl) q5.1 q5.2 (ix_le q5.2 (by decide)) ?_
      exact v_iret dX8_spotOf_31 rfl (Nat.zero_le _) (Nat.zero_le _) ⟨rfl, rfl, _, rfl, w⟩
    · replace w := w.2 c4
      refine v_sipushI dX8_spotOf_16 rfl ?_
      exact v_iret dX8_spotOf_19 rfl (Nat.zero_le _) (Nat.zero_le _) ⟨rfl, rfl, _, rfl, w⟩
theorem dX8_flagOf_0 : decode cX8_flagOf 0 = .ok (.iload_n 1, 1) := by decide +kernel
theorem dX8_flagOf_1 : decode cX8_flagOf 1 = .ok (.iconst 0, 1) := by decide +kernel
theorem dX8_flagOf_2 : decode cX8_flagOf 2 = .ok (.iconst 4, 1) := by decide +kernel
theorem dX8_flagOf_3 : decode cX8_flagOf 3 = .ok (.invokestatic 26, 3) := by decide +kernel
theorem dX8_flagOf_6 : decode cX8_flagOf 6 = .ok (.ifCond .eq 13, 3) := by decide +kernel
theorem dX8_flagOf_9 : decode cX8_flagOf 9 = .ok (.iload_n 2, 1) := by decide +kernel
theorem dX8_flagOf_10 : decode cX8_flagOf 10 = .ok (.iconst 0, 1) := by decide +kernel
theorem dX8_flagOf_11 : decode cX8_flagOf 11 = .ok (.bipush 10, 2) := by decide +kernel
theorem dX8_flagOf_13 : decode cX8_flagOf 13 = .ok (.invokestatic 26, 3) := by decide +kernel
theorem dX8_flagOf_16 : decode cX8_flagOf 16 = .ok (.ifCond .ne 5, 3) := by decide +kernel
theorem dX8_flagOf_19 : decode cX8_flagOf 19 = .ok (.iconst 4, 1) := by decide +kernel
theorem dX8_flagOf_20 : decode cX8_flagOf 20 = .ok (.ireturn, 1) := by decide +kernel
theorem dX8_flagOf_21 : decode cX8_flagOf 21 = .ok (.aload_n 0, 1) := by decide +kernel
theorem dX8_flagOf_22 : decode cX8_flagOf 22 = .ok (.getfield 9, 3) := by decide +kernel
theorem dX8_flagOf_25 : decode cX8_flagOf 25 = .ok (.iload_n 1, 1) := by decide +kernel
theorem dX8_flagOf_26 : decode cX8_flagOf 26 = .ok (.bipush 11, 2) := by decide +kernel
theorem dX8_flagOf_28 : decode cX8_flagOf 28 = .ok (.imul, 1) := by decide +kernel
theorem dX8_flagOf_29 : decode cX8_flagOf 29 = .ok (.iload_n 2, 1) := by decide +kernel
theorem dX8_flagOf_30 : decode cX8_flagOf 30 = .ok (.iadd, 1) := by decide +kernel
theorem dX8_flagOf_31 : decode cX8_flagOf 31 = .ok (.iaload, 1) := by decide +kernel
theorem dX8_flagOf_32 : decode cX8_flagOf 32 = .ok (.ireturn, 1) := by decide +kernel
def w_X8_flagOf (ta sb : Nat) (a0 a1 : Int) (X : XT) (Q : Int → Prop) : Prop :=
  R32 a0 ∧ (¬ (0 ≤ a0 ∧ a0 ≤ 4) → Q 4) ∧ ((0 ≤ a0 ∧ a0 ≤ 4) → R32 a1 ∧ ((0 ≤ a1 ∧ a1 ≤ 10) → (0 ≤ ((a0 * 11) + a1) ∧ ((a0 * 11) + a1) < 55) ∧ Q (X ta ((a0 * 11) + a1))) ∧ (¬ (0 ≤ a1 ∧ a1 ≤ 10) → Q 4))
set_option maxRecDepth 20000 in
theorem so_X8_flagOf_49 {n : Nat} {h : Nat → sE} {X : XT} {a0 a1 : Int} {Q : Int → Prop} (hn : 115 ≤ n) (hp : Pic X h) (w : w_X8_flagOf 50 51 a0 a1 X Q) : Sp m_X8_flagOf 1 0 0 [.ref 49, .int (iI a0), .int (iI a1)] n h (pIr n h Q) := by
  unfold w_X8_flagOf at w
  refine Sp.ofV (by decide +kernel) (Nat.le_of_ble_eq_true rfl) ?_
  have hf : Fr h h := fun _ _ => rfl
  refine v_iload_n dX8_flagOf_0 rfl ?_
  refine v_iconstI dX8_flagOf_1 ?_
  refine v_iconstI dX8_flagOf_2 ?_
  obtain ⟨q1, w⟩ := w
  refine v_callSp dX8_flagOf_3 ml_X8_26 (sp_X11_within (a := a0) (b := 0) (c := 4) q1 (by decide) (by decide)) rfl rfl (Nat.le_of_ble_eq_true rfl) (Nat.le_of_ble_eq_true rfl) (Nat.zero_le _) (Nat.zero_le _) ?_
  refine v_ifeqB (tgt := 19) dX8_flagOf_6 (by decide) (fun c2 => ?_) (fun c2 => ?_)
  · replace w := w.1 c2
    refine v_iconstI dX8_flagOf_19 ?_
    exact v_iret dX8_flagOf_20 rfl (Nat.zero_le _) (Nat.zero_le _) ⟨rfl, rfl, _, rfl, w⟩
  · replace w := w.2 c2
    refine v_iload_n dX8_flagOf_9 rfl ?_
    refine v_iconstI dX8_flagOf_10 ?_
    refine v_bipushI dX8_flagOf_11 rfl ?_
    obtain ⟨q3, w⟩ := w
    refine v_callSp dX8_flagOf_13 ml_X8_26 (sp_X11_within (a := a1) (b := 0) (c := 10) q3 (by decide) (by decide)) rfl rfl (Nat.le_of_ble_eq_true rfl) (Nat.le_of_ble_eq_true rfl) (Nat.zero_le _) (Nat.zero_le _) ?_
    refine v_ifneB (tgt := 21) dX8_flagOf_16 (by decide) (fun c4 => ?_) (fun c4 => ?_)
    · replace w := w.1 c4
      refine v_aload_n dX8_flagOf_21 rfl ?_
      refine v_get dX8_flagOf_22 fl_X8_9 ((hp 49 (by decide)).trans (ent_49 _)) rfl (s_lt hn rfl) ?_
      refine v_iload_n dX8_flagOf_25 rfl ?_
      refine v_bipushI dX8_flagOf_26 rfl ?_
      refine v_imulI dX8_flagOf_28 ?_
      refine v_iload_n dX8_flagOf_29 rfl ?_
      refine v_iaddI dX8_flagOf_30 ?_
      obtain ⟨q5, w⟩ := w
      refine v_ialdI dX8_flagOf_31 ((hp 50 (by decide)).trans (ent_50 _)) (s_lt hn rfl) q5.1 q5.2 (ix_le q5.2 (by decide)) ?_
      exact v_iret dX8_flagOf_32 rfl (Nat.zero_le _) (Nat.zero_le _) ⟨rfl, rfl, _, rfl, w⟩
    · replace w := w.2 c4
      refine v_iconstI dX8_flagOf_19 ?_
      exact v_iret dX8_flagOf_20 rfl (Nat.zero_le _) (Nat.zero_le _) ⟨rfl, rfl, _, rfl, w⟩
theorem dX0_isOverWater_0 : decode cX0_isOverWater 0 = .ok (.iload_n 1, 1) := by decide +kernel
theorem dX0_isOverWater_1 : decode cX0_isOverWater 1 = .ok (.invokestatic 32, 3) := by decide +kernel
theorem dX0_isOverWater_4 : decode cX0_isOverWater 4 = .ok (.istore_n 2, 1) := by decide +kernel
theorem dX0_isOverWater_5 : decode cX0_isOverWater 5 = .ok (.iload_n 1, 1) := by decide +kernel
theorem dX0_isOverWater_6 : decode cX0_isOverWater 6 = .ok (.invokestatic 38, 3) := by decide +kernel
theorem dX0_isOverWater_9 : decode cX0_isOverWater 9 = .ok (.istore_n 3, 1) := by decide +kernel
theorem dX0_isOverWater_10 : decode cX0_isOverWater 10 = .ok (.iload_n 2, 1) := by decide +kernel
theorem dX0_isOverWater_11 : decode cX0_isOverWater 11 = .ok (.iconst 0, 1) := by decide +kernel
theorem dX0_isOverWater_12 : decode cX0_isOverWater 12 = .ok (.bipush 7, 2) := by decide +kernel
theorem dX0_isOverWater_14 : decode cX0_isOverWater 14 = .ok (.invokestatic 58, 3) := by decide +kernel
theorem dX0_isOverWater_17 : decode cX0_isOverWater 17 = .ok (.ifCond .eq 13, 3) := by decide +kernel
theorem dX0_isOverWater_20 : decode cX0_isOverWater 20 = .ok (.iload_n 3, 1) := by decide +kernel
theorem dX0_isOverWater_21 : decode cX0_isOverWater 21 = .ok (.iconst 0, 1) := by decide +kernel
theorem dX0_isOverWater_22 : decode cX0_isOverWater 22 = .ok (.bipush 7, 2) := by decide +kernel
theorem dX0_isOverWater_24 : decode cX0_isOverWater 24 = .ok (.invokestatic 58, 3) := by decide +kernel
theorem dX0_isOverWater_27 : decode cX0_isOverWater 27 = .ok (.ifCond .ne 5, 3) := by decide +kernel
theorem dX0_isOverWater_30 : decode cX0_isOverWater 30 = .ok (.iconst 0, 1) := by decide +kernel
theorem dX0_isOverWater_31 : decode cX0_isOverWater 31 = .ok (.ireturn, 1) := by decide +kernel
theorem dX0_isOverWater_32 : decode cX0_isOverWater 32 = .ok (.aload_n 0, 1) := by decide +kernel
theorem dX0_isOverWater_33 : decode cX0_isOverWater 33 = .ok (.getfield 18, 3) := by decide +kernel
theorem dX0_isOverWater_36 : decode cX0_isOverWater 36 = .ok (.bipush 8, 2) := by decide +kernel
theorem dX0_isOverWater_38 : decode cX0_isOverWater 38 = .ok (.iload_n 3, 1) := by decide +kernel
theorem dX0_isOverWater_39 : decode cX0_isOverWater 39 = .ok (.imul, 1) := by decide +kernel
theorem dX0_isOverWater_40 : decode cX0_isOverWater 40 = .ok (.iload_n 2, 1) := by decide +kernel
theorem dX0_isOverWater_41 : decode cX0_isOverWater 41 = .ok (.iadd, 1) := by decide +kernel
theorem dX0_isOverWater_42 : decode cX0_isOverWater 42 = .ok (.iconst 2, 1) := by decide +kernel
theorem dX0_isOverWater_43 : decode cX0_isOverWater 43 = .ok (.invokevirtual 62, 3) := by decide +kernel
theorem dX0_isOverWater_46 : decode cX0_isOverWater 46 = .ok (.iconst 1, 1) := by decide +kernel
theorem dX0_isOverWater_47 : decode cX0_isOverWater 47 = .ok (.if_icmp .ne 7, 3) := by decide +kernel
theorem dX0_isOverWater_50 : decode cX0_isOverWater 50 = .ok (.iconst 1, 1) := by decide +kernel
theorem dX0_isOverWater_51 : decode cX0_isOverWater 51 = .ok (.goto 4, 3) := by decide +kernel
theorem dX0_isOverWater_54 : decode cX0_isOverWater 54 = .ok (.iconst 0, 1) := by decide +kernel
theorem dX0_isOverWater_55 : decode cX0_isOverWater 55 = .ok (.ireturn, 1) := by decide +kernel
def w_X0_isOverWater (a0 : Int) (X : XT) (Q : Int → Prop) : Prop :=
  (0 ≤ a0 ∧ a0 ≤ 2147483647) ∧ R32 (a0 % 24 - 8) ∧ (¬ (0 ≤ (a0 % 24 - 8) ∧ (a0 % 24 - 8) ≤ 7) → Q 0) ∧ ((0 ≤ (a0 % 24 - 8) ∧ (a0 % 24 - 8) ≤ 7) → R32 (a0 / 24 - 8) ∧ ((0 ≤ (a0 / 24 - 8) ∧ (a0 / 24 - 8) ≤ 7) → (0 ≤ ((8 * (a0 / 24 - 8)) + (a0 % 24 - 8)) ∧ ((8 * (a0 / 24 - 8)) + (a0 % 24 - 8)) ≤ 63) ∧ R32 (X 2 (2 * 64 + ((8 * (a0 / 24 - 8)) + (a0 % 24 - 8)))) ∧ (¬ (X 2 (2 * 64 + ((8 * (a0 / 24 - 8)) + (a0 % 24 - 8)))) = 1 → Q 0) ∧ ((X 2 (2 * 64 + ((8 * (a0 / 24 - 8)) + (a0 % 24 - 8)))) = 1 → Q 1)) ∧ (¬ (0 ≤ (a0 / 24 - 8) ∧ (a0 / 24 - 8) ≤ 7) → Q 0))
set_option maxRecDepth 20000 in
theorem so_X0_isOverWater {n : Nat} {h : Nat → sE} {X : XT} {a0 : Int} {Q : Int → Prop} (hn : 115 ≤ n) (hp : Pic X h) (w : w_X0_isOverWater  a0 X Q) : Sp m_X0_isOverWater 2 0 0 [.ref 44, .int (iI a0)] n h (pIr n h Q) := by
  unfold w_X0_isOverWater at w
  refine Sp.ofV (by decide +kernel) (Nat.le_of_ble_eq_true rfl) ?_
  have hf : Fr h h := fun _ _ => rfl
  refine v_iload_n dX0_isOverWater_0 rfl ?_
  obtain ⟨q1, w⟩ := w
  refine v_callSp dX0_isOverWater_1 ml_X0_32 (sp_X8_xOf (a := a0) q1) rfl rfl (Nat.le_of_ble_eq_true rfl) (Nat.le_of_ble_eq_true rfl) (Nat.zero_le _) (Nat.zero_le _) ?_
  refine v_istore_n dX0_isOverWater_4 (Nat.le_of_ble_eq_true rfl) ?_
  refine v_iload_n dX0_isOverWater_5 rfl ?_
  refine v_callSp dX0_isOverWater_6 ml_X0_38 (sp_X8_yOf (a := a0) q1) rfl rfl (Nat.le_of_ble_eq_true rfl) (Nat.le_of_ble_eq_true rfl) (Nat.zero_le _) (Nat.zero_le _) ?_
  refine v_istore_n dX0_isOverWater_9 (Nat.le_of_ble_eq_true rfl) ?_
  refine v_iload_n dX0_isOverWater_10 rfl ?_
  refine v_iconstI dX0_isOverWater_11 ?_
  refine v_bipushI dX0_isOverWater_12 rfl ?_
  obtain ⟨q2, w⟩ := w
  refine v_callSp dX0_isOverWater_14 ml_X0_58 (sp_X11_within (a := (a0 % 24 - 8)) (b := 0) (c := 7) q2 (by decide) (by decide)) rfl rfl (Nat.le_of_ble_eq_true rfl) (Nat.le_of_ble_eq_true rfl) (Nat.zero_le _) (Nat.zero_le _) ?_
  refine v_ifeqB (tgt := 30) dX0_isOverWater_17 (by decide) (fun c3 => ?_) (fun c3 => ?_)
  · replace w := w.1 c3
    refine v_iconstI dX0_isOverWater_30 ?_
    exact v_z0 dX0_isOverWater_31 rfl (Nat.zero_le _) (Nat.zero_le _) ⟨rfl, rfl, _, rfl, w⟩
  · replace w := w.2 c3
    refine v_iload_n dX0_isOverWater_20 rfl ?_
    refine v_iconstI dX0_isOverWater_21 ?_
    refine v_bipushI dX0_isOverWater_22 rfl ?_
    obtain ⟨q4, w⟩ := w
    refine v_callSp dX0_isOverWater_24 ml_X0_58 (sp_X11_within (a := (a0 / 24 - 8)) (b := 0) (c := 7) q4 (by decide) (by decide)) rfl rfl (Nat.le_of_ble_eq_true rfl) (Nat.le_of_ble_eq_true rfl) (Nat.zero_le _) (Nat.zero_le _) ?_
    refine v_ifneB (tgt := 32) dX0_isOverWater_27 (by decide) (fun c5 => ?_) (fun c5 => ?_)
    · replace w := w.1 c5
      refine v_aload_n dX0_isOverWater_32 rfl ?_
      refine v_get dX0_isOverWater_33 fl_X0_18 ((hp 44 (by decide)).trans (ent_44 _)) rfl (s_lt hn rfl) ?_
      refine v_bipushI dX0_isOverWater_36 rfl ?_
      refine v_iload_n dX0_isOverWater_38 rfl ?_
      refine v_imulI dX0_isOverWater_39 ?_
      refine v_iload_n dX0_isOverWater_40 rfl ?_
      refine v_iaddI dX0_isOverWater_41 ?_
      refine v_iconstI dX0_isOverWater_42 ?_
      obtain ⟨q6, w⟩ := w
      refine v_callVp dX0_isOverWater_43 ml_X0_62 (sv_X3_fieldFact (a := ((8 * (a0 / 24 - 8)) + (a0 % 24 - 8))) (b := 2) (g1 := X 1) (g2 := X 2) hn (hp 1 (by decide)) (hp 2 (by decide)) q6 (by decide)) ((hp 1 (by decide)).trans (ent_1 _)) rfl (s_lt hn rfl) rfl rfl (Nat.le_of_ble_eq_true rfl) (Nat.le_of_ble_eq_true rfl) (Nat.zero_le _) (Nat.zero_le _) ?_
      refine v_iconstI dX0_isOverWater_46 ?_
      obtain ⟨q7, w⟩ := w
      refine v_icmp_neI (tgt := 54) dX0_isOverWater_47 (by decide) q7.1 q7.2 (by decide) (by decide) (fun c8 => ?_) (fun c8 => ?_)
      · replace w := w.1 c8
        refine v_iconstI dX0_isOverWater_54 ?_
        exact v_z0 dX0_isOverWater_55 rfl (Nat.zero_le _) (Nat.zero_le _) ⟨rfl, rfl, _, rfl, w⟩
      · replace w := w.2 c8
        refine v_iconstI dX0_isOverWater_50 ?_
        refine v_goto (tgt := 55) dX0_isOverWater_51 (by decide) ?_
        exact v_z1 dX0_isOverWater_55 rfl (Nat.zero_le _) (Nat.zero_le _) ⟨rfl, rfl, _, rfl, w⟩
    · replace w := w.2 c5
      refine v_iconstI dX0_isOverWater_30 ?_
      exact v_z0 dX0_isOverWater_31 rfl (Nat.zero_le _) (Nat.zero_le _) ⟨rfl, rfl, _, rfl, w⟩
theorem dX0_hindrance_0 : decode cX0_hindrance 0 = .ok (.aload_n 0, 1) := by decide +kernel
theorem dX0_hindrance_1 : decode cX0_hindrance 1 = .ok (.iload_n 3, 1) := by decide +kernel
theorem dX0_hindrance_2 : decode cX0_hindrance 2 = .ok (.invokestatic 32, 3) := by decide +kernel
theorem dX0_hindrance_5 : decode cX0_hindrance 5 = .ok (.iload_n 3, 1) := by decide +kernel
theorem dX0_hindrance_6 : decode cX0_hindrance 6 = .ok (.invokestatic 38, 3) := by decide +kernel
theorem dX0_hindrance_9 : decode cX0_hindrance 9 = .ok (.iload_n 2, 1) := by decide +kernel
theorem dX0_hindrance_10 : decode cX0_hindrance 10 = .ok (.iconst (-1), 1) := by decide +kernel
theorem dX0_hindrance_11 : decode cX0_hindrance 11 = .ok (.invokevirtual 41, 3) := by decide +kernel
theorem dX0_hindrance_14 : decode cX0_hindrance 14 = .ok (.aload_n 0, 1) := by decide +kernel
theorem dX0_hindrance_15 : decode cX0_hindrance 15 = .ok (.getfield 12, 3) := by decide +kernel
theorem dX0_hindrance_18 : decode cX0_hindrance 18 = .ok (.getfield 45, 3) := by decide +kernel
theorem dX0_hindrance_21 : decode cX0_hindrance 21 = .ok (.iconst 3, 1) := by decide +kernel
theorem dX0_hindrance_22 : decode cX0_hindrance 22 = .ok (.iload_n 1, 1) := by decide +kernel
theorem dX0_hindrance_23 : decode cX0_hindrance 23 = .ok (.iastore, 1) := by decide +kernel
theorem dX0_hindrance_24 : decode cX0_hindrance 24 = .ok (.aload_n 0, 1) := by decide +kernel
theorem dX0_hindrance_25 : decode cX0_hindrance 25 = .ok (.getfield 12, 3) := by decide +kernel
theorem dX0_hindrance_28 : decode cX0_hindrance 28 = .ok (.getfield 45, 3) := by decide +kernel
theorem dX0_hindrance_31 : decode cX0_hindrance 31 = .ok (.iconst 4, 1) := by decide +kernel
theorem dX0_hindrance_32 : decode cX0_hindrance 32 = .ok (.aload_n 0, 1) := by decide +kernel
theorem dX0_hindrance_33 : decode cX0_hindrance 33 = .ok (.getfield 18, 3) := by decide +kernel
theorem dX0_hindrance_36 : decode cX0_hindrance 36 = .ok (.iload_n 1, 1) := by decide +kernel
theorem dX0_hindrance_37 : decode cX0_hindrance 37 = .ok (.iconst 2, 1) := by decide +kernel
theorem dX0_hindrance_38 : decode cX0_hindrance 38 = .ok (.invokevirtual 51, 3) := by decide +kernel
theorem dX0_hindrance_41 : decode cX0_hindrance 41 = .ok (.iastore, 1) := by decide +kernel
theorem dX0_hindrance_42 : decode cX0_hindrance 42 = .ok (.aload_n 0, 1) := by decide +kernel
theorem dX0_hindrance_43 : decode cX0_hindrance 43 = .ok (.bipush 18, 2) := by decide +kernel
theorem dX0_hindrance_45 : decode cX0_hindrance 45 = .ok (.iconst 0, 1) := by decide +kernel
theorem dX0_hindrance_46 : decode cX0_hindrance 46 = .ok (.invokevirtual 28, 3) := by decide +kernel
theorem dX0_hindrance_49 : decode cX0_hindrance 49 = .ok (.iconst 1, 1) := by decide +kernel
theorem dX0_hindrance_50 : decode cX0_hindrance 50 = .ok (.if_icmp .ne 5, 3) := by decide +kernel
theorem dX0_hindrance_53 : decode cX0_hindrance 53 = .ok (.iconst 1, 1) := by decide +kernel
theorem dX0_hindrance_54 : decode cX0_hindrance 54 = .ok (.ireturn, 1) := by decide +kernel
theorem dX0_hindrance_55 : decode cX0_hindrance 55 = .ok (.aload_n 0, 1) := by decide +kernel
theorem dX0_hindrance_56 : decode cX0_hindrance 56 = .ok (.iload_n 3, 1) := by decide +kernel
theorem dX0_hindrance_57 : decode cX0_hindrance 57 = .ok (.invokevirtual 54, 3) := by decide +kernel
theorem dX0_hindrance_60 : decode cX0_hindrance 60 = .ok (.ifCond .eq 7, 3) := by decide +kernel
theorem dX0_hindrance_63 : decode cX0_hindrance 63 = .ok (.iconst 2, 1) := by decide +kernel
theorem dX0_hindrance_64 : decode cX0_hindrance 64 = .ok (.goto 4, 3) := by decide +kernel
theorem dX0_hindrance_67 : decode cX0_hindrance 67 = .ok (.iconst 0, 1) := by decide +kernel
theorem dX0_hindrance_68 : decode cX0_hindrance 68 = .ok (.ireturn, 1) := by decide +kernel
def w_X0_hindrance (K : LK) (a0 a1 a2 : Int) (X : XT) (Q : Int → XT → Prop) : Prop :=
  (0 ≤ a2 ∧ a2 ≤ 2147483647) ∧ w_X0_tellWords  (a2 % 24 - 8) (a2 / 24 - 8) a1 (-1) X (fun (X3 : XT) => (0 ≤ a0 ∧ a0 < (x_st X3 46 3 a0) 1 9 ∧ (x_st X3 46 3 a0) 1 9 ≤ 5) ∧ w_X0_toldBy K  18 0 (x_st (x_st X3 46 3 a0) 46 4 ((x_st X3 46 3 a0) 5 (a0 * 5 + 2))) (fun (v19 : Int) (X20 : XT) => R32 v19 ∧ (¬ v19 = 1 → w_X0_isOverWater  a2 X20 (fun (v27 : Int) => R32 v27 ∧ (v27 = 0 → Q 0 X20) ∧ (¬ v27 = 0 → Q 2 X20))) ∧ (v19 = 1 → Q 1 X20)))
set_option maxRecDepth 20000 in
theorem so_X0_hindrance {n : Nat} {h : Nat → sE} {X : XT} {K : LK} {hk : Nat → sE} (hK : LKok K n hk) {a0 a1 a2 : Int} {Q : Int → XT → Prop} (hn : 115 ≤ n) (hp : Pic X h) (hf9 : Fr hk h) (w : w_X0_hindrance K  a0 a1 a2 X Q) : Sp m_X0_hindrance 3 0 0 [.ref 44, .int (iI a0), .int (iI a1), .int (iI a2)] n h (pIw n h Q) := by
  unfold w_X0_hindrance at w
  refine Sp.ofV (by decide +kernel) (Nat.le_of_ble_eq_true rfl) ?_
  have hf : Fr h h := fun _ _ => rfl
  refine v_aload_n dX0_hindrance_0 rfl ?_
  refine v_iload_n dX0_hindrance_1 rfl ?_
  obtain ⟨q1, w⟩ := w
  refine v_callSp dX0_hindrance_2 ml_X0_32 (sp_X8_xOf (a := a2) q1) rfl rfl (Nat.le_of_ble_eq_true rfl) (Nat.le_of_ble_eq_true rfl) (Nat.zero_le _) (Nat.zero_le _) ?_
  refine v_iload_n dX0_hindrance_5 rfl ?_
  refine v_callSp dX0_hindrance_6 ml_X0_38 (sp_X8_yOf (a := a2) q1) rfl rfl (Nat.le_of_ble_eq_true rfl) (Nat.le_of_ble_eq_true rfl) (Nat.zero_le _) (Nat.zero_le _) ?_
  refine v_iload_n dX0_hindrance_9 rfl ?_
  refine v_iconstI dX0_hindrance_10 ?_
  refine v_callVVw dX0_hindrance_11 ml_X0_41 (so_X0_tellWords hn hp  w) ((hp 44 (by decide)).trans (ent_44 _)) rfl (s_lt hn rfl) rfl rfl (Nat.le_of_ble_eq_true rfl) (Nat.le_of_ble_eq_true rfl) (Nat.zero_le _) (Nat.zero_le _) (fun X3 h4 hp6 hf5 w => ?_)
  have hf7 := Fr.trans hf hf5
  refine v_aload_n dX0_hindrance_14 rfl ?_
  refine v_get dX0_hindrance_15 fl_X0_12 ((hp6 44 (by decide)).trans (ent_44 _)) rfl (s_lt hn rfl) ?_
  refine v_get dX0_hindrance_18 fl_X0_45 ((hp6 45 (by decide)).trans (ent_45 _)) rfl (s_lt hn rfl) ?_
  refine v_iconstI dX0_hindrance_21 ?_
  refine v_iload_n dX0_hindrance_22 rfl ?_
  refine v_iastI dX0_hindrance_23 ((hp6 46 (by decide)).trans (ent_46 _)) (s_lt hn rfl) (by decide) (by decide) (by decide) (fun h8 E9 F10 => ?_)
  have hp11 := pic_st hp6 (show h8 46 = ent 46 (uI _ 3 a0) from E9) F10
  have hf12 := Fr.up (c := 46) hf7 F10 rfl
  refine v_aload_n dX0_hindrance_24 rfl ?_
  refine v_get dX0_hindrance_25 fl_X0_12 ((hp11 44 (by decide)).trans (ent_44 _)) rfl (s_lt hn rfl) ?_
  refine v_get dX0_hindrance_28 fl_X0_45 ((hp11 45 (by decide)).trans (ent_45 _)) rfl (s_lt hn rfl) ?_
  refine v_iconstI dX0_hindrance_31 ?_
  refine v_aload_n dX0_hindrance_32 rfl ?_
  refine v_get dX0_hindrance_33 fl_X0_18 ((hp11 44 (by decide)).trans (ent_44 _)) rfl (s_lt hn rfl) ?_
  refine v_iload_n dX0_hindrance_36 rfl ?_
  refine v_iconstI dX0_hindrance_37 ?_
  obtain ⟨q13, w⟩ := w
  refine v_callVp dX0_hindrance_38 ml_X0_51 (sv_X3_cloudFact (a := a0) (b := 2) (g1 := (x_st X3 46 3 a0) 1) (g5 := (x_st X3 46 3 a0) 5) hn (hp11 1 (by decide)) (hp11 5 (by decide)) q13 (by decide)) ((hp11 1 (by decide)).trans (ent_1 _)) rfl (s_lt hn rfl) rfl rfl (Nat.le_of_ble_eq_true rfl) (Nat.le_of_ble_eq_true rfl) (Nat.zero_le _) (Nat.zero_le _) ?_
  refine v_iastI dX0_hindrance_41 ((hp11 46 (by decide)).trans (ent_46 _)) (s_lt hn rfl) (by decide) (by decide) (by decide) (fun h14 E15 F16 => ?_)
  have hp17 := pic_st hp11 (show h14 46 = ent 46 (uI _ 4 ((x_st X3 46 3 a0) 5 (a0 * 5 + 2))) from E15) F16
  have hf18 := Fr.up (c := 46) hf12 F16 rfl
  refine v_aload_n dX0_hindrance_42 rfl ?_
  refine v_bipushI dX0_hindrance_43 rfl ?_
  refine v_iconstI dX0_hindrance_45 ?_
  refine v_callVIw dX0_hindrance_46 ml_X0_28 (so_X0_toldBy hK hn hp17 (Fr.trans hf9 hf18) w) ((hp17 44 (by decide)).trans (ent_44 _)) rfl (s_lt hn rfl) rfl rfl (Nat.le_of_ble_eq_true rfl) (Nat.le_of_ble_eq_true rfl) (Nat.zero_le _) (Nat.zero_le _) (fun v19 X20 h21 hp23 hf22 w => ?_)
  have hf24 := Fr.trans hf18 hf22
  refine v_iconstI dX0_hindrance_49 ?_
  obtain ⟨q25, w⟩ := w
  refine v_icmp_neI (tgt := 55) dX0_hindrance_50 (by decide) q25.1 q25.2 (by decide) (by decide) (fun c26 => ?_) (fun c26 => ?_)
  · replace w := w.1 c26
    refine v_aload_n dX0_hindrance_55 rfl ?_
    refine v_iload_n dX0_hindrance_56 rfl ?_
    refine v_callVIr dX0_hindrance_57 ml_X0_54 (so_X0_isOverWater hn hp23  w) ((hp23 44 (by decide)).trans (ent_44 _)) rfl (s_lt hn rfl) rfl rfl (Nat.le_of_ble_eq_true rfl) (Nat.le_of_ble_eq_true rfl) (Nat.zero_le _) (Nat.zero_le _) (fun v27 w => ?_)
    obtain ⟨q33, w⟩ := w
    refine v_if_eqI (tgt := 67) dX0_hindrance_60 (by decide) q33.1 q33.2 (fun c34 => ?_) (fun c34 => ?_)
    · replace w := w.1 c34
      refine v_iconstI dX0_hindrance_67 ?_
      exact v_iret dX0_hindrance_68 rfl (Nat.zero_le _) (Nat.zero_le _) ⟨rfl, hf24, _, _, rfl, hp23, w⟩
    · replace w := w.2 c34
      refine v_iconstI dX0_hindrance_63 ?_
      refine v_goto (tgt := 68) dX0_hindrance_64 (by decide) ?_
      exact v_iret dX0_hindrance_68 rfl (Nat.zero_le _) (Nat.zero_le _) ⟨rfl, hf24, _, _, rfl, hp23, w⟩
  · replace w := w.2 c26
    refine v_iconstI dX0_hindrance_53 ?_
    exact v_iret dX0_hindrance_54 rfl (Nat.zero_le _) (Nat.zero_le _) ⟨rfl, hf24, _, _, rfl, hp23, w⟩
theorem dX3_windXOf_0 : decode cX3_windXOf 0 = .ok (.aload_n 0, 1) := by decide +kernel
theorem dX3_windXOf_1 : decode cX3_windXOf 1 = .ok (.iload_n 1, 1) := by decide +kernel
theorem dX3_windXOf_2 : decode cX3_windXOf 2 = .ok (.iconst 2, 1) := by decide +kernel
theorem dX3_windXOf_3 : decode cX3_windXOf 3 = .ok (.invokevirtual 75, 3) := by decide +kernel
theorem dX3_windXOf_6 : decode cX3_windXOf 6 = .ok (.istore_n 2, 1) := by decide +kernel
theorem dX3_windXOf_7 : decode cX3_windXOf 7 = .ok (.iload_n 2, 1) := by decide +kernel
theorem dX3_windXOf_8 : decode cX3_windXOf 8 = .ok (.iconst 0, 1) := by decide +kernel
theorem dX3_windXOf_9 : decode cX3_windXOf 9 = .ok (.iconst 2, 1) := by decide +kernel
theorem dX3_windXOf_10 : decode cX3_windXOf 10 = .ok (.invokestatic 67, 3) := by decide +kernel
theorem dX3_windXOf_13 : decode cX3_windXOf 13 = .ok (.ifCond .eq 12, 3) := by decide +kernel
theorem dX3_windXOf_16 : decode cX3_windXOf 16 = .ok (.aload_n 0, 1) := by decide +kernel
theorem dX3_windXOf_17 : decode cX3_windXOf 17 = .ok (.getfield 15, 3) := by decide +kernel
theorem dX3_windXOf_20 : decode cX3_windXOf 20 = .ok (.iload_n 2, 1) := by decide +kernel
theorem dX3_windXOf_21 : decode cX3_windXOf 21 = .ok (.iaload, 1) := by decide +kernel
theorem dX3_windXOf_22 : decode cX3_windXOf 22 = .ok (.goto 4, 3) := by decide +kernel
theorem dX3_windXOf_25 : decode cX3_windXOf 25 = .ok (.iconst 0, 1) := by decide +kernel
theorem dX3_windXOf_26 : decode cX3_windXOf 26 = .ok (.ireturn, 1) := by decide +kernel
def w_X3_windXOf (a0 : Int) (X : XT) (Q : Int → Prop) : Prop :=
  (0 ≤ a0 ∧ a0 < X 1 9 ∧ X 1 9 ≤ 5) ∧ R32 (X 5 (a0 * 5 + 2)) ∧ (¬ (0 ≤ (X 5 (a0 * 5 + 2)) ∧ (X 5 (a0 * 5 + 2)) ≤ 2) → Q 0) ∧ ((0 ≤ (X 5 (a0 * 5 + 2)) ∧ (X 5 (a0 * 5 + 2)) ≤ 2) → (0 ≤ (X 5 (a0 * 5 + 2)) ∧ (X 5 (a0 * 5 + 2)) < 3) ∧ Q (X 3 (X 5 (a0 * 5 + 2))))
set_option maxRecDepth 20000 in
theorem so_X3_windXOf {n : Nat} {h : Nat → sE} {X : XT} {a0 : Int} {Q : Int → Prop} (hn : 115 ≤ n) (hp : Pic X h) (w : w_X3_windXOf  a0 X Q) : Sp m_X3_windXOf 2 0 0 [.ref 1, .int (iI a0)] n h (pIr n h Q) := by
  unfold w_X3_windXOf at w
  refine Sp.ofV (by decide +kernel) (Nat.le_of_ble_eq_true rfl) ?_
  have hf : Fr h h := fun _ _ => rfl
  refine v_aload_n dX3_windXOf_0 rfl ?_
  refine v_iload_n dX3_windXOf_1 rfl ?_
  refine v_iconstI dX3_windXOf_2 ?_
  obtain ⟨q1, w⟩ := w
  refine v_callVp dX3_windXOf_3 ml_X3_75 (sv_X3_cloudFact (a := a0) (b := 2) (g1 := X 1) (g5 := X 5) hn (hp 1 (by decide)) (hp 5 (by decide)) q1 (by decide)) ((hp 1 (by decide)).trans (ent_1 _)) rfl (s_lt hn rfl) rfl rfl (Nat.le_of_ble_eq_true rfl) (Nat.le_of_ble_eq_true rfl) (Nat.zero_le _) (Nat.zero_le _) ?_
  refine v_istore_n dX3_windXOf_6 (Nat.le_of_ble_eq_true rfl) ?_
  refine v_iload_n dX3_windXOf_7 rfl ?_
  refine v_iconstI dX3_windXOf_8 ?_
  refine v_iconstI dX3_windXOf_9 ?_
  obtain ⟨q2, w⟩ := w
  refine v_callSp dX3_windXOf_10 ml_X3_67 (sp_X11_within (a := (X 5 (a0 * 5 + 2))) (b := 0) (c := 2) q2 (by decide) (by decide)) rfl rfl (Nat.le_of_ble_eq_true rfl) (Nat.le_of_ble_eq_true rfl) (Nat.zero_le _) (Nat.zero_le _) ?_
  refine v_ifeqB (tgt := 25) dX3_windXOf_13 (by decide) (fun c3 => ?_) (fun c3 => ?_)
  · replace w := w.1 c3
    refine v_iconstI dX3_windXOf_25 ?_
    exact v_iret dX3_windXOf_26 rfl (Nat.zero_le _) (Nat.zero_le _) ⟨rfl, rfl, _, rfl, w⟩
  · replace w := w.2 c3
    refine v_aload_n dX3_windXOf_16 rfl ?_
    refine v_get dX3_windXOf_17 fl_X3_15 ((hp 1 (by decide)).trans (ent_1 _)) rfl (s_lt hn rfl) ?_
    refine v_iload_n dX3_windXOf_20 rfl ?_
    obtain ⟨q4, w⟩ := w
    refine v_ialdI dX3_windXOf_21 ((hp 3 (by decide)).trans (ent_3 _)) (s_lt hn rfl) q4.1 q4.2 (ix_le q4.2 (by decide)) ?_
    refine v_goto (tgt := 26) dX3_windXOf_22 (by decide) ?_
    exact v_iret dX3_windXOf_26 rfl (Nat.zero_le _) (Nat.zero_le _) ⟨rfl, rfl, _, rfl, w⟩
theorem dX3_windYOf_0 : decode cX3_windYOf 0 = .ok (.aload_n 0, 1) := by decide +kernel
theorem dX3_windYOf_1 : decode cX3_windYOf 1 = .ok (.iload_n 1, 1) := by decide +kernel
theorem dX3_windYOf_2 : decode cX3_windYOf 2 = .ok (.iconst 2, 1) := by decide +kernel
theorem dX3_windYOf_3 : decode cX3_windYOf 3 = .ok (.invokevirtual 75, 3) := by decide +kernel
theorem dX3_windYOf_6 : decode cX3_windYOf 6 = .ok (.istore_n 2, 1) := by decide +kernel
theorem dX3_windYOf_7 : decode cX3_windYOf 7 = .ok (.iload_n 2, 1) := by decide +kernel
theorem dX3_windYOf_8 : decode cX3_windYOf 8 = .ok (.iconst 0, 1) := by decide +kernel
theorem dX3_windYOf_9 : decode cX3_windYOf 9 = .ok (.iconst 2, 1) := by decide +kernel
theorem dX3_windYOf_10 : decode cX3_windYOf 10 = .ok (.invokestatic 67, 3) := by decide +kernel
theorem dX3_windYOf_13 : decode cX3_windYOf 13 = .ok (.ifCond .eq 12, 3) := by decide +kernel
theorem dX3_windYOf_16 : decode cX3_windYOf 16 = .ok (.aload_n 0, 1) := by decide +kernel
theorem dX3_windYOf_17 : decode cX3_windYOf 17 = .ok (.getfield 18, 3) := by decide +kernel
theorem dX3_windYOf_20 : decode cX3_windYOf 20 = .ok (.iload_n 2, 1) := by decide +kernel
theorem dX3_windYOf_21 : decode cX3_windYOf 21 = .ok (.iaload, 1) := by decide +kernel
theorem dX3_windYOf_22 : decode cX3_windYOf 22 = .ok (.goto 4, 3) := by decide +kernel
theorem dX3_windYOf_25 : decode cX3_windYOf 25 = .ok (.iconst 0, 1) := by decide +kernel
theorem dX3_windYOf_26 : decode cX3_windYOf 26 = .ok (.ireturn, 1) := by decide +kernel
def w_X3_windYOf (a0 : Int) (X : XT) (Q : Int → Prop) : Prop :=
  (0 ≤ a0 ∧ a0 < X 1 9 ∧ X 1 9 ≤ 5) ∧ R32 (X 5 (a0 * 5 + 2)) ∧ (¬ (0 ≤ (X 5 (a0 * 5 + 2)) ∧ (X 5 (a0 * 5 + 2)) ≤ 2) → Q 0) ∧ ((0 ≤ (X 5 (a0 * 5 + 2)) ∧ (X 5 (a0 * 5 + 2)) ≤ 2) → (0 ≤ (X 5 (a0 * 5 + 2)) ∧ (X 5 (a0 * 5 + 2)) < 3) ∧ Q (X 4 (X 5 (a0 * 5 + 2))))
set_option maxRecDepth 20000 in
theorem so_X3_windYOf {n : Nat} {h : Nat → sE} {X : XT} {a0 : Int} {Q : Int → Prop} (hn : 115 ≤ n) (hp : Pic X h) (w : w_X3_windYOf  a0 X Q) : Sp m_X3_windYOf 2 0 0 [.ref 1, .int (iI a0)] n h (pIr n h Q) := by
  unfold w_X3_windYOf at w
  refine Sp.ofV (by decide +kernel) (Nat.le_of_ble_eq_true rfl) ?_
  have hf : Fr h h := fun _ _ => rfl
  refine v_aload_n dX3_windYOf_0 rfl ?_
  refine v_iload_n dX3_windYOf_1 rfl ?_
  refine v_iconstI dX3_windYOf_2 ?_
  obtain ⟨q1, w⟩ := w
  refine v_callVp dX3_windYOf_3 ml_X3_75 (sv_X3_cloudFact (a := a0) (b := 2) (g1 := X 1) (g5 := X 5) hn (hp 1 (by decide)) (hp 5 (by decide)) q1 (by decide)) ((hp 1 (by decide)).trans (ent_1 _)) rfl (s_lt hn rfl) rfl rfl (Nat.le_of_ble_eq_true rfl) (Nat.le_of_ble_eq_true rfl) (Nat.zero_le _) (Nat.zero_le _) ?_
  refine v_istore_n dX3_windYOf_6 (Nat.le_of_ble_eq_true rfl) ?_
  refine v_iload_n dX3_windYOf_7 rfl ?_
  refine v_iconstI dX3_windYOf_8 ?_
  refine v_iconstI dX3_windYOf_9 ?_
  obtain ⟨q2, w⟩ := w
  refine v_callSp dX3_windYOf_10 ml_X3_67 (sp_X11_within (a := (X 5 (a0 * 5 + 2))) (b := 0) (c := 2) q2 (by decide) (by decide)) rfl rfl (Nat.le_of_ble_eq_true rfl) (Nat.le_of_ble_eq_true rfl) (Nat.zero_le _) (Nat.zero_le _) ?_
  refine v_ifeqB (tgt := 25) dX3_windYOf_13 (by decide) (fun c3 => ?_) (fun c3 => ?_)
  · replace w := w.1 c3
    refine v_iconstI dX3_windYOf_25 ?_
    exact v_iret dX3_windYOf_26 rfl (Nat.zero_le _) (Nat.zero_le _) ⟨rfl, rfl, _, rfl, w⟩
  · replace w := w.2 c3
    refine v_aload_n dX3_windYOf_16 rfl ?_
    refine v_get dX3_windYOf_17 fl_X3_18 ((hp 1 (by decide)).trans (ent_1 _)) rfl (s_lt hn rfl) ?_
    refine v_iload_n dX3_windYOf_20 rfl ?_
    obtain ⟨q4, w⟩ := w
    refine v_ialdI dX3_windYOf_21 ((hp 4 (by decide)).trans (ent_4 _)) (s_lt hn rfl) q4.1 q4.2 (ix_le q4.2 (by decide)) ?_
    refine v_goto (tgt := 26) dX3_windYOf_22 (by decide) ?_
    exact v_iret dX3_windYOf_26 rfl (Nat.zero_le _) (Nat.zero_le _) ⟨rfl, rfl, _, rfl, w⟩
theorem dX8_goOn_0 : decode cX8_goOn 0 = .ok (.aload_n 0, 1) := by decide +kernel
theorem dX8_goOn_1 : decode cX8_goOn 1 = .ok (.iload_n 1, 1) := by decide +kernel
theorem dX8_goOn_2 : decode cX8_goOn 2 = .ok (.iload_n 2, 1) := by decide +kernel
theorem dX8_goOn_3 : decode cX8_goOn 3 = .ok (.invokevirtual 73, 3) := by decide +kernel
theorem dX8_goOn_6 : decode cX8_goOn 6 = .ok (.istore 4, 2) := by decide +kernel
theorem dX8_goOn_8 : decode cX8_goOn 8 = .ok (.aload_n 0, 1) := by decide +kernel
theorem dX8_goOn_9 : decode cX8_goOn 9 = .ok (.iload_n 1, 1) := by decide +kernel
theorem dX8_goOn_10 : decode cX8_goOn 10 = .ok (.iload_n 2, 1) := by decide +kernel
theorem dX8_goOn_11 : decode cX8_goOn 11 = .ok (.invokevirtual 76, 3) := by decide +kernel
theorem dX8_goOn_14 : decode cX8_goOn 14 = .ok (.istore 5, 2) := by decide +kernel
theorem dX8_goOn_16 : decode cX8_goOn 16 = .ok (.iload 4, 2) := by decide +kernel
theorem dX8_goOn_18 : decode cX8_goOn 18 = .ok (.sipush 576, 3) := by decide +kernel
theorem dX8_goOn_21 : decode cX8_goOn 21 = .ok (.if_icmp .eq 26, 3) := by decide +kernel
theorem dX8_goOn_24 : decode cX8_goOn 24 = .ok (.iload 5, 2) := by decide +kernel
theorem dX8_goOn_26 : decode cX8_goOn 26 = .ok (.iconst 4, 1) := by decide +kernel
theorem dX8_goOn_27 : decode cX8_goOn 27 = .ok (.if_icmp .eq 20, 3) := by decide +kernel
theorem dX8_goOn_30 : decode cX8_goOn 30 = .ok (.aload_n 0, 1) := by decide +kernel
theorem dX8_goOn_31 : decode cX8_goOn 31 = .ok (.getfield 22, 3) := by decide +kernel
theorem dX8_goOn_34 : decode cX8_goOn 34 = .ok (.iload_n 1, 1) := by decide +kernel
theorem dX8_goOn_35 : decode cX8_goOn 35 = .ok (.iload_n 2, 1) := by decide +kernel
theorem dX8_goOn_36 : decode cX8_goOn 36 = .ok (.iload 4, 2) := by decide +kernel
theorem dX8_goOn_38 : decode cX8_goOn 38 = .ok (.invokevirtual 79, 3) := by decide +kernel
theorem dX8_goOn_41 : decode cX8_goOn 41 = .ok (.ifCond .eq 6, 3) := by decide +kernel
theorem dX8_goOn_44 : decode cX8_goOn 44 = .ok (.iconst 4, 1) := by decide +kernel
theorem dX8_goOn_45 : decode cX8_goOn 45 = .ok (.istore 5, 2) := by decide +kernel
theorem dX8_goOn_47 : decode cX8_goOn 47 = .ok (.aload_n 0, 1) := by decide +kernel
theorem dX8_goOn_48 : decode cX8_goOn 48 = .ok (.getfield 18, 3) := by decide +kernel
theorem dX8_goOn_51 : decode cX8_goOn 51 = .ok (.iload_n 1, 1) := by decide +kernel
theorem dX8_goOn_52 : decode cX8_goOn 52 = .ok (.invokevirtual 85, 3) := by decide +kernel
theorem dX8_goOn_55 : decode cX8_goOn 55 = .ok (.istore 6, 2) := by decide +kernel
theorem dX8_goOn_57 : decode cX8_goOn 57 = .ok (.aload_n 0, 1) := by decide +kernel
theorem dX8_goOn_58 : decode cX8_goOn 58 = .ok (.getfield 18, 3) := by decide +kernel
theorem dX8_goOn_61 : decode cX8_goOn 61 = .ok (.iload_n 1, 1) := by decide +kernel
theorem dX8_goOn_62 : decode cX8_goOn 62 = .ok (.invokevirtual 88, 3) := by decide +kernel
theorem dX8_goOn_65 : decode cX8_goOn 65 = .ok (.istore 7, 2) := by decide +kernel
theorem dX8_goOn_67 : decode cX8_goOn 67 = .ok (.iload_n 3, 1) := by decide +kernel
theorem dX8_goOn_68 : decode cX8_goOn 68 = .ok (.ifCond .eq 9, 3) := by decide +kernel
theorem dX8_goOn_71 : decode cX8_goOn 71 = .ok (.iload 7, 2) := by decide +kernel
theorem dX8_goOn_73 : decode cX8_goOn 73 = .ok (.ineg, 1) := by decide +kernel
theorem dX8_goOn_74 : decode cX8_goOn 74 = .ok (.goto 5, 3) := by decide +kernel
theorem dX8_goOn_77 : decode cX8_goOn 77 = .ok (.iload 6, 2) := by decide +kernel
theorem dX8_goOn_79 : decode cX8_goOn 79 = .ok (.istore 8, 2) := by decide +kernel
theorem dX8_goOn_81 : decode cX8_goOn 81 = .ok (.iload_n 3, 1) := by decide +kernel
theorem dX8_goOn_82 : decode cX8_goOn 82 = .ok (.ifCond .eq 8, 3) := by decide +kernel
theorem dX8_goOn_85 : decode cX8_goOn 85 = .ok (.iload 6, 2) := by decide +kernel
theorem dX8_goOn_87 : decode cX8_goOn 87 = .ok (.goto 5, 3) := by decide +kernel
theorem dX8_goOn_90 : decode cX8_goOn 90 = .ok (.iload 7, 2) := by decide +kernel
theorem dX8_goOn_92 : decode cX8_goOn 92 = .ok (.istore 9, 2) := by decide +kernel
theorem dX8_goOn_94 : decode cX8_goOn 94 = .ok (.aload_n 0, 1) := by decide +kernel
theorem dX8_goOn_95 : decode cX8_goOn 95 = .ok (.iload_n 1, 1) := by decide +kernel
theorem dX8_goOn_96 : decode cX8_goOn 96 = .ok (.iload_n 2, 1) := by decide +kernel
theorem dX8_goOn_97 : decode cX8_goOn 97 = .ok (.iconst 1, 1) := by decide +kernel
theorem dX8_goOn_98 : decode cX8_goOn 98 = .ok (.iadd, 1) := by decide +kernel
theorem dX8_goOn_99 : decode cX8_goOn 99 = .ok (.iload 4, 2) := by decide +kernel
theorem dX8_goOn_101 : decode cX8_goOn 101 = .ok (.iload 8, 2) := by decide +kernel
theorem dX8_goOn_103 : decode cX8_goOn 103 = .ok (.iload 5, 2) := by decide +kernel
theorem dX8_goOn_105 : decode cX8_goOn 105 = .ok (.invokestatic 91, 3) := by decide +kernel
theorem dX8_goOn_108 : decode cX8_goOn 108 = .ok (.iadd, 1) := by decide +kernel
theorem dX8_goOn_109 : decode cX8_goOn 109 = .ok (.iload 9, 2) := by decide +kernel
theorem dX8_goOn_111 : decode cX8_goOn 111 = .ok (.iload 5, 2) := by decide +kernel
theorem dX8_goOn_113 : decode cX8_goOn 113 = .ok (.invokestatic 94, 3) := by decide +kernel
theorem dX8_goOn_116 : decode cX8_goOn 116 = .ok (.iadd, 1) := by decide +kernel
theorem dX8_goOn_117 : decode cX8_goOn 117 = .ok (.invokestatic 97, 3) := by decide +kernel
theorem dX8_goOn_120 : decode cX8_goOn 120 = .ok (.invokevirtual 55, 3) := by decide +kernel
theorem dX8_goOn_123 : decode cX8_goOn 123 = .ok (.return_, 1) := by decide +kernel
def w_X8_goOn (K : LK) (ta sb : Nat) (a0 a1 a2 : Int) (X : XT) (Q : XT → Prop) : Prop :=
  w_X8_spotOf ta sb a0 a1 X (fun (v1 : Int) => w_X8_flagOf ta sb a0 a1 X (fun (v7 : Int) => ∀ J15 : Int → XT → Prop, (∀ (v13 : Int) (X14 : XT), (w_X3_windXOf  a0 X14 (fun (v19 : Int) => w_X3_windYOf  a0 X14 (fun (v25 : Int) => ∀ J32 : Int → Prop, (∀ (v31 : Int), (∀ J34 : Int → Prop, (∀ (v33 : Int), (R32 v13 ∧ (0 ≤ v1 ∧ v1 ≤ 576) ∧ (-3 ≤ (v31 + (sxF v13)) ∧ (v31 + (sxF v13)) ≤ 3) ∧ (-3 ≤ (v33 + (syF v13)) ∧ (v33 + (syF v13)) ≤ 3) ∧ w_X8_place ta sb a0 (a1 + 1) (mvF v1 (v31 + (sxF v13)) (v33 + (syF v13))) X14 (fun (X40 : XT) => Q X40)) → J34 v33) → R32 a2 ∧ (a2 = 0 → J34 v25) ∧ (¬ a2 = 0 → J34 v19)) → J32 v31) → R32 a2 ∧ (a2 = 0 → J32 v19) ∧ (¬ a2 = 0 → J32 (-v25))))) → J15 v13 X14) → R32 v1 ∧ (v1 = 576 → J15 v7 X) ∧ (¬ v1 = 576 → R32 v7 ∧ (v7 = 4 → J15 v7 X) ∧ (¬ v7 = 4 → w_X0_hindrance K  a0 a1 v1 X (fun (v53 : Int) (X54 : XT) => R32 v53 ∧ (v53 = 0 → J15 v7 X54) ∧ (¬ v53 = 0 → J15 4 X54))))))
set_option maxRecDepth 20000 in
theorem so_X8_goOn_49 {n : Nat} {h : Nat → sE} {X : XT} {K : LK} {hk : Nat → sE} (hK : LKok K n hk) {a0 a1 a2 : Int} {Q : XT → Prop} (hn : 115 ≤ n) (hp : Pic X h) (hf9 : Fr hk h) (w : w_X8_goOn K 50 51 a0 a1 a2 X Q) : Sp m_X8_goOn 4 0 0 [.ref 49, .int (iI a0), .int (iI a1), .int (iI a2)] n h (pVw n h Q) := by
  unfold w_X8_goOn at w
  refine Sp.ofV (by decide +kernel) (Nat.le_of_ble_eq_true rfl) ?_
  have hf : Fr h h := fun _ _ => rfl
  refine v_aload_n dX8_goOn_0 rfl ?_
  refine v_iload_n dX8_goOn_1 rfl ?_
  refine v_iload_n dX8_goOn_2 rfl ?_
  refine v_callVIr dX8_goOn_3 ml_X8_73 (so_X8_spotOf_49 hn hp  w) ((hp 49 (by decide)).trans (ent_49 _)) rfl (s_lt hn rfl) rfl rfl (Nat.le_of_ble_eq_true rfl) (Nat.le_of_ble_eq_true rfl) (Nat.zero_le _) (Nat.zero_le _) (fun v1 w => ?_)
  refine v_istore dX8_goOn_6 (Nat.le_of_ble_eq_true rfl) ?_
  refine v_aload_n dX8_goOn_8 rfl ?_
  refine v_iload_n dX8_goOn_9 rfl ?_
  refine v_iload_n dX8_goOn_10 rfl ?_
  refine v_callVIr dX8_goOn_11 ml_X8_76 (so_X8_flagOf_49 hn hp  w) ((hp 49 (by decide)).trans (ent_49 _)) rfl (s_lt hn rfl) rfl rfl (Nat.le_of_ble_eq_true rfl) (Nat.le_of_ble_eq_true rfl) (Nat.zero_le _) (Nat.zero_le _) (fun v7 w => ?_)
  refine v_istore dX8_goOn_14 (Nat.le_of_ble_eq_true rfl) ?_
  refine v_iload dX8_goOn_16 rfl ?_
  refine v_sipushI dX8_goOn_18 rfl ?_
  replace w := w (fun (v13 : Int) (X14 : XT) => ∀ h18 : Nat → sE, Pic X14 h18 → Fr h h18 → V (m_X8_goOn, 4, 0, 0, n, pVw n h Q, s_G0) 0 0 n h18 47 [(0, .ref 49), (1, .int (iI a0)), (2, .int (iI a1)), (3, .int (iI a2)), (4, .int (iI v1)), (5, .int (iI v13))] []) (by
    intro v13 X14 w h18 hp16 hf17
    refine v_aload_n dX8_goOn_47 rfl ?_
    refine v_get dX8_goOn_48 fl_X8_18 ((hp16 49 (by decide)).trans (ent_49 _)) rfl (s_lt hn rfl) ?_
    refine v_iload_n dX8_goOn_51 rfl ?_
    refine v_callVIr dX8_goOn_52 ml_X8_85 (so_X3_windXOf hn hp16  w) ((hp16 1 (by decide)).trans (ent_1 _)) rfl (s_lt hn rfl) rfl rfl (Nat.le_of_ble_eq_true rfl) (Nat.le_of_ble_eq_true rfl) (Nat.zero_le _) (Nat.zero_le _) (fun v19 w => ?_)
    refine v_istore dX8_goOn_55 (Nat.le_of_ble_eq_true rfl) ?_
    refine v_aload_n dX8_goOn_57 rfl ?_
    refine v_get dX8_goOn_58 fl_X8_18 ((hp16 49 (by decide)).trans (ent_49 _)) rfl (s_lt hn rfl) ?_
    refine v_iload_n dX8_goOn_61 rfl ?_
    refine v_callVIr dX8_goOn_62 ml_X8_88 (so_X3_windYOf hn hp16  w) ((hp16 1 (by decide)).trans (ent_1 _)) rfl (s_lt hn rfl) rfl rfl (Nat.le_of_ble_eq_true rfl) (Nat.le_of_ble_eq_true rfl) (Nat.zero_le _) (Nat.zero_le _) (fun v25 w => ?_)
    refine v_istore dX8_goOn_65 (Nat.le_of_ble_eq_true rfl) ?_
    refine v_iload_n dX8_goOn_67 rfl ?_
    replace w := w (fun (v31 : Int) => V (m_X8_goOn, 4, 0, 0, n, pVw n h Q, s_G0) 0 0 n h18 79 [(0, .ref 49), (1, .int (iI a0)), (2, .int (iI a1)), (3, .int (iI a2)), (4, .int (iI v1)), (5, .int (iI v13)), (6, .int (iI v19)), (7, .int (iI v25))] [.int (iI v31)]) (by
      intro v31 w
      refine v_istore dX8_goOn_79 (Nat.le_of_ble_eq_true rfl) ?_
      refine v_iload_n dX8_goOn_81 rfl ?_
      replace w := w (fun (v33 : Int) => V (m_X8_goOn, 4, 0, 0, n, pVw n h Q, s_G0) 0 0 n h18 92 [(0, .ref 49), (1, .int (iI a0)), (2, .int (iI a1)), (4, .int (iI v1)), (5, .int (iI v13)), (8, .int (iI v31))] [.int (iI v33)]) (by
        intro v33 w
        refine v_istore dX8_goOn_92 (Nat.le_of_ble_eq_true rfl) ?_
        refine v_aload_n dX8_goOn_94 rfl ?_
        refine v_iload_n dX8_goOn_95 rfl ?_
        refine v_iload_n dX8_goOn_96 rfl ?_
        refine v_iconstI dX8_goOn_97 ?_
        refine v_iaddI dX8_goOn_98 ?_
        refine v_iload dX8_goOn_99 rfl ?_
        refine v_iload dX8_goOn_101 rfl ?_
        refine v_iload dX8_goOn_103 rfl ?_
        obtain ⟨q35, w⟩ := w
        refine v_callSp dX8_goOn_105 ml_X8_91 (sp_X8_stepX (a := v13) q35) rfl rfl (Nat.le_of_ble_eq_true rfl) (Nat.le_of_ble_eq_true rfl) (Nat.zero_le _) (Nat.zero_le _) ?_
        refine v_iaddI dX8_goOn_108 ?_
        refine v_iload dX8_goOn_109 rfl ?_
        refine v_iload dX8_goOn_111 rfl ?_
        refine v_callSp dX8_goOn_113 ml_X8_94 (sp_X8_stepY (a := v13) q35) rfl rfl (Nat.le_of_ble_eq_true rfl) (Nat.le_of_ble_eq_true rfl) (Nat.zero_le _) (Nat.zero_le _) ?_
        refine v_iaddI dX8_goOn_116 ?_
        obtain ⟨q36, q37, q38, w⟩ := w
        refine v_callSp dX8_goOn_117 ml_X8_97 (sp_X8_movedBy (a := v1) (x := (v31 + (sxF v13))) (y := (v33 + (syF v13))) q36 q37 q38) rfl rfl (Nat.le_of_ble_eq_true rfl) (Nat.le_of_ble_eq_true rfl) (Nat.zero_le _) (Nat.zero_le _) ?_
        refine v_callVVw dX8_goOn_120 ml_X8_55 (so_X8_place_49 hn hp16  w) ((hp16 49 (by decide)).trans (ent_49 _)) rfl (s_lt hn rfl) rfl rfl (Nat.le_of_ble_eq_true rfl) (Nat.le_of_ble_eq_true rfl) (Nat.zero_le _) (Nat.zero_le _) (fun X40 h41 hp43 hf42 w => ?_)
        have hf44 := Fr.trans hf17 hf42
        exact v_vret dX8_goOn_123 rfl (Nat.zero_le _) (Nat.zero_le _) ⟨rfl, hf44, _, rfl, hp43, w⟩
      )
      obtain ⟨q45, w⟩ := w
      refine v_if_eqI (tgt := 90) dX8_goOn_82 (by decide) q45.1 q45.2 (fun c46 => ?_) (fun c46 => ?_)
      · replace w := w.1 c46
        refine v_iload dX8_goOn_90 rfl ?_
        refine v_pick [1, 2, 3, 5, 6, 0] rfl ?_
        exact w
      · replace w := w.2 c46
        refine v_iload dX8_goOn_85 rfl ?_
        refine v_goto (tgt := 92) dX8_goOn_87 (by decide) ?_
        refine v_pick [1, 2, 3, 5, 6, 0] rfl ?_
        exact w
    )
    obtain ⟨q47, w⟩ := w
    refine v_if_eqI (tgt := 77) dX8_goOn_68 (by decide) q47.1 q47.2 (fun c48 => ?_) (fun c48 => ?_)
    · replace w := w.1 c48
      refine v_iload dX8_goOn_77 rfl ?_
      refine v_pick [2, 3, 4, 5, 6, 7, 1, 0] rfl ?_
      exact w
    · replace w := w.2 c48
      refine v_iload dX8_goOn_71 rfl ?_
      refine v_inegI dX8_goOn_73 ?_
      refine v_goto (tgt := 79) dX8_goOn_74 (by decide) ?_
      refine v_pick [2, 3, 4, 5, 6, 7, 1, 0] rfl ?_
      exact w
  )
  obtain ⟨q49, w⟩ := w
  refine v_icmp_eqI (tgt := 47) dX8_goOn_21 (by decide) q49.1 q49.2 (by decide) (by decide) (fun c50 => ?_) (fun c50 => ?_)
  · replace w := w.1 c50
    refine v_pick [2, 3, 4, 5, 1, 0] rfl ?_
    exact w _ hp hf
  · replace w := w.2 c50
    refine v_iload dX8_goOn_24 rfl ?_
    refine v_iconstI dX8_goOn_26 ?_
    obtain ⟨q51, w⟩ := w
    refine v_icmp_eqI (tgt := 47) dX8_goOn_27 (by decide) q51.1 q51.2 (by decide) (by decide) (fun c52 => ?_) (fun c52 => ?_)
    · replace w := w.1 c52
      refine v_pick [2, 3, 4, 5, 1, 0] rfl ?_
      exact w _ hp hf
    · replace w := w.2 c52
      refine v_aload_n dX8_goOn_30 rfl ?_
      refine v_get dX8_goOn_31 fl_X8_22 ((hp 49 (by decide)).trans (ent_49 _)) rfl (s_lt hn rfl) ?_
      refine v_iload_n dX8_goOn_34 rfl ?_
      refine v_iload_n dX8_goOn_35 rfl ?_
      refine v_iload dX8_goOn_36 rfl ?_
      refine v_callVIw dX8_goOn_38 ml_X8_79 (so_X0_hindrance hK hn hp (Fr.trans hf9 hf) w) ((hp 44 (by decide)).trans (ent_44 _)) rfl (s_lt hn rfl) rfl rfl (Nat.le_of_ble_eq_true rfl) (Nat.le_of_ble_eq_true rfl) (Nat.zero_le _) (Nat.zero_le _) (fun v53 X54 h55 hp57 hf56 w => ?_)
      have hf58 := Fr.trans hf hf56
      obtain ⟨q59, w⟩ := w
      refine v_if_eqI (tgt := 47) dX8_goOn_41 (by decide) q59.1 q59.2 (fun c60 => ?_) (fun c60 => ?_)
      · replace w := w.1 c60
        refine v_pick [2, 3, 4, 5, 1, 0] rfl ?_
        exact w _ hp57 hf58
      · replace w := w.2 c60
        refine v_iconstI dX8_goOn_44 ?_
        refine v_istore dX8_goOn_45 (Nat.le_of_ble_eq_true rfl) ?_
        refine v_pick [2, 3, 4, 5, 1, 0] rfl ?_
        exact w _ hp57 hf58
theorem dX8_look_0 : decode cX8_look 0 = .ok (.aload_n 0, 1) := by decide +kernel
theorem dX8_look_1 : decode cX8_look 1 = .ok (.invokevirtual 43, 3) := by decide +kernel
theorem dX8_look_4 : decode cX8_look 4 = .ok (.iconst 0, 1) := by decide +kernel
theorem dX8_look_5 : decode cX8_look 5 = .ok (.istore_n 1, 1) := by decide +kernel
theorem dX8_look_6 : decode cX8_look 6 = .ok (.iload_n 1, 1) := by decide +kernel
theorem dX8_look_7 : decode cX8_look 7 = .ok (.aload_n 0, 1) := by decide +kernel
theorem dX8_look_8 : decode cX8_look 8 = .ok (.getfield 18, 3) := by decide +kernel
theorem dX8_look_11 : decode cX8_look 11 = .ok (.getfield 46, 3) := by decide +kernel
theorem dX8_look_14 : decode cX8_look 14 = .ok (.if_icmp .ge 44, 3) := by decide +kernel
theorem dX8_look_17 : decode cX8_look 17 = .ok (.aload_n 0, 1) := by decide +kernel
theorem dX8_look_18 : decode cX8_look 18 = .ok (.iload_n 1, 1) := by decide +kernel
theorem dX8_look_19 : decode cX8_look 19 = .ok (.iconst 0, 1) := by decide +kernel
theorem dX8_look_20 : decode cX8_look 20 = .ok (.aload_n 0, 1) := by decide +kernel
theorem dX8_look_21 : decode cX8_look 21 = .ok (.getfield 18, 3) := by decide +kernel
theorem dX8_look_24 : decode cX8_look 24 = .ok (.iload_n 1, 1) := by decide +kernel
theorem dX8_look_25 : decode cX8_look 25 = .ok (.invokevirtual 52, 3) := by decide +kernel
theorem dX8_look_28 : decode cX8_look 28 = .ok (.invokevirtual 55, 3) := by decide +kernel
theorem dX8_look_31 : decode cX8_look 31 = .ok (.iconst 0, 1) := by decide +kernel
theorem dX8_look_32 : decode cX8_look 32 = .ok (.istore_n 2, 1) := by decide +kernel
theorem dX8_look_33 : decode cX8_look 33 = .ok (.iload_n 2, 1) := by decide +kernel
theorem dX8_look_34 : decode cX8_look 34 = .ok (.bipush 11, 2) := by decide +kernel
theorem dX8_look_36 : decode cX8_look 36 = .ok (.if_icmp .ge 16, 3) := by decide +kernel
theorem dX8_look_39 : decode cX8_look 39 = .ok (.aload_n 0, 1) := by decide +kernel
theorem dX8_look_40 : decode cX8_look 40 = .ok (.iload_n 1, 1) := by decide +kernel
theorem dX8_look_41 : decode cX8_look 41 = .ok (.iload_n 2, 1) := by decide +kernel
theorem dX8_look_42 : decode cX8_look 42 = .ok (.iconst 0, 1) := by decide +kernel
theorem dX8_look_43 : decode cX8_look 43 = .ok (.invokevirtual 59, 3) := by decide +kernel
theorem dX8_look_46 : decode cX8_look 46 = .ok (.iinc 2 1, 3) := by decide +kernel
theorem dX8_look_49 : decode cX8_look 49 = .ok (.goto (-16), 3) := by decide +kernel
theorem dX8_look_52 : decode cX8_look 52 = .ok (.iinc 1 1, 3) := by decide +kernel
theorem dX8_look_55 : decode cX8_look 55 = .ok (.goto (-49), 3) := by decide +kernel
theorem dX8_look_58 : decode cX8_look 58 = .ok (.return_, 1) := by decide +kernel
def w_X8_look (K : LK) (ta sb : Nat) (X : XT) (Q : XT → Prop) : Prop :=
  w_X8_hearFlags ta sb  X (fun (X2 : XT) => ∃ (I9 : Int → XT → Prop) (m10 : Int → XT → Nat), I9 0 X2 ∧ ∀ (x7 : Int) (X8 : XT), I9 x7 X8 → R32 x7 ∧ R32 (X8 1 9) ∧ ((X8 1 9) ≤ x7 → Q X8) ∧ (¬ (X8 1 9) ≤ x7 → w_X3_startOf  x7 X8 (fun (v24 : Int) => w_X8_place ta sb x7 0 v24 X8 (fun (X31 : XT) => ∃ (I38 : Int → XT → Prop) (m39 : Int → XT → Nat), I38 0 X31 ∧ ∀ (x36 : Int) (X37 : XT), I38 x36 X37 → R32 x36 ∧ (11 ≤ x36 → I9 (x7 + 1) X37 ∧ m10 (x7 + 1) X37 < m10 x7 X8) ∧ (¬ 11 ≤ x36 → w_X8_goOn K ta sb x7 x36 0 X37 (fun (X53 : XT) => I38 (x36 + 1) X53 ∧ m39 (x36 + 1) X53 < m39 x36 X37))))))
set_option maxRecDepth 20000 in
theorem so_X8_look_49 {n : Nat} {h : Nat → sE} {X : XT} {K : LK} {hk : Nat → sE} (hK : LKok K n hk) {Q : XT → Prop} (hn : 115 ≤ n) (hp : Pic X h) (hf9 : Fr hk h) (w : w_X8_look K 50 51  X Q) : Sp m_X8_look 5 0 0 [.ref 49] n h (pVw n h Q) := by
  unfold w_X8_look at w
  refine Sp.ofV (by decide +kernel) (Nat.le_of_ble_eq_true rfl) ?_
  have hf : Fr h h := fun _ _ => rfl
  refine v_aload_n dX8_look_0 rfl ?_
  refine v_callVVw dX8_look_1 ml_X8_43 (so_X8_hearFlags_49 hn hp  w) ((hp 49 (by decide)).trans (ent_49 _)) rfl (s_lt hn rfl) rfl rfl (Nat.le_of_ble_eq_true rfl) (Nat.le_of_ble_eq_true rfl) (Nat.zero_le _) (Nat.zero_le _) (fun X2 h3 hp5 hf4 w => ?_)
  have hf6 := Fr.trans hf hf4
  refine v_iconstI dX8_look_4 ?_
  refine v_istore_n dX8_look_5 (Nat.le_of_ble_eq_true rfl) ?_
  refine v_pick [1, 0] rfl ?_
  obtain ⟨I9, m10, wi13, wl12⟩ := w
  have hL14 : ∀ (N17 : Nat) (x7 : Int) (X8 : XT) (h18 : Nat → sE), m10 x7 X8 < N17 → I9 x7 X8 → Pic X8 h18 → Fr h h18 → V (m_X8_look, 5, 0, 0, n, pVw n h Q, s_G0) 0 0 n h18 6 [(0, .ref 49), (1, .int (iI x7))] [] := by
    intro N17
    induction N17 with
    | zero => intro x7 X8 h18 hm15; exact absurd hm15 (Nat.not_lt_zero _)
    | succ N17 ih11 =>
      intro x7 X8 h18 hm15 hI16 hp19 hf20
      have w := wl12 x7 X8 hI16
      refine v_iload_n dX8_look_6 rfl ?_
      refine v_aload_n dX8_look_7 rfl ?_
      refine v_get dX8_look_8 fl_X8_18 ((hp19 49 (by decide)).trans (ent_49 _)) rfl (s_lt hn rfl) ?_
      refine v_get dX8_look_11 fl_X8_46 ((hp19 1 (by decide)).trans (ent_1 _)) rfl (s_lt hn rfl) ?_
      obtain ⟨q21, q22, w⟩ := w
      refine v_icmp_geI (tgt := 58) dX8_look_14 (by decide) q21.1 q21.2 q22.1 q22.2 (fun c23 => ?_) (fun c23 => ?_)
      · replace w := w.1 c23
        exact v_vret dX8_look_58 rfl (Nat.zero_le _) (Nat.zero_le _) ⟨rfl, hf20, _, rfl, hp19, w⟩
      · replace w := w.2 c23
        refine v_aload_n dX8_look_17 rfl ?_
        refine v_iload_n dX8_look_18 rfl ?_
        refine v_iconstI dX8_look_19 ?_
        refine v_aload_n dX8_look_20 rfl ?_
        refine v_get dX8_look_21 fl_X8_18 ((hp19 49 (by decide)).trans (ent_49 _)) rfl (s_lt hn rfl) ?_
        refine v_iload_n dX8_look_24 rfl ?_
        refine v_callVIr dX8_look_25 ml_X8_52 (so_X3_startOf hn hp19  w) ((hp19 1 (by decide)).trans (ent_1 _)) rfl (s_lt hn rfl) rfl rfl (Nat.le_of_ble_eq_true rfl) (Nat.le_of_ble_eq_true rfl) (Nat.zero_le _) (Nat.zero_le _) (fun v24 w => ?_)
        refine v_callVVw dX8_look_28 ml_X8_55 (so_X8_place_49 hn hp19  w) ((hp19 49 (by decide)).trans (ent_49 _)) rfl (s_lt hn rfl) rfl rfl (Nat.le_of_ble_eq_true rfl) (Nat.le_of_ble_eq_true rfl) (Nat.zero_le _) (Nat.zero_le _) (fun X31 h32 hp34 hf33 w => ?_)
        have hf35 := Fr.trans hf20 hf33
        refine v_iconstI dX8_look_31 ?_
        refine v_istore_n dX8_look_32 (Nat.le_of_ble_eq_true rfl) ?_
        refine v_pick [1, 2, 0] rfl ?_
        obtain ⟨I38, m39, wi42, wl41⟩ := w
        have hL43 : ∀ (N46 : Nat) (x36 : Int) (X37 : XT) (h47 : Nat → sE), m39 x36 X37 < N46 → I38 x36 X37 → Pic X37 h47 → Fr h h47 → V (m_X8_look, 5, 0, 0, n, pVw n h Q, s_G0) 0 0 n h47 33 [(0, .ref 49), (1, .int (iI x7)), (2, .int (iI x36))] [] := by
          intro N46
          induction N46 with
          | zero => intro x36 X37 h47 hm44; exact absurd hm44 (Nat.not_lt_zero _)
          | succ N46 ih40 =>
            intro x36 X37 h47 hm44 hI45 hp48 hf49
            have w := wl41 x36 X37 hI45
            refine v_iload_n dX8_look_33 rfl ?_
            refine v_bipushI dX8_look_34 rfl ?_
            obtain ⟨q50, w⟩ := w
            refine v_icmp_geI (tgt := 52) dX8_look_36 (by decide) q50.1 q50.2 (by decide) (by decide) (fun c51 => ?_) (fun c51 => ?_)
            · replace w := w.1 c51
              refine v_iincI dX8_look_52 rfl (Nat.le_of_ble_eq_true rfl) ?_
              refine v_goto (tgt := 6) dX8_look_55 (by decide) ?_
              refine v_pick [1, 0] rfl ?_
              exact ih11 _ _ _ (Nat.lt_of_lt_of_le w.2 (Nat.le_of_lt_succ hm15)) w.1 hp48 hf49
            · replace w := w.2 c51
              refine v_aload_n dX8_look_39 rfl ?_
              refine v_iload_n dX8_look_40 rfl ?_
              refine v_iload_n dX8_look_41 rfl ?_
              refine v_iconstI dX8_look_42 ?_
              refine v_callVVw dX8_look_43 ml_X8_59 (so_X8_goOn_49 hK hn hp48 (Fr.trans hf9 hf49) w) ((hp48 49 (by decide)).trans (ent_49 _)) rfl (s_lt hn rfl) rfl rfl (Nat.le_of_ble_eq_true rfl) (Nat.le_of_ble_eq_true rfl) (Nat.zero_le _) (Nat.zero_le _) (fun X53 h54 hp56 hf55 w => ?_)
              have hf57 := Fr.trans hf49 hf55
              refine v_iincI dX8_look_46 rfl (Nat.le_of_ble_eq_true rfl) ?_
              refine v_goto (tgt := 33) dX8_look_49 (by decide) ?_
              refine v_pick [1, 2, 0] rfl ?_
              exact ih40 _ _ _ (Nat.lt_of_lt_of_le w.2 (Nat.le_of_lt_succ hm44)) w.1 hp56 hf57
        exact hL43 _ _ _ _ (Nat.lt_succ_self _) wi42 hp34 hf35
  exact hL14 _ _ _ _ (Nat.lt_succ_self _) wi13 hp5 hf6
theorem dX3_shadowCovers_0 : decode cX3_shadowCovers 0 = .ok (.iload_n 2, 1) := by decide +kernel
theorem dX3_shadowCovers_1 : decode cX3_shadowCovers 1 = .ok (.aload_n 0, 1) := by decide +kernel
theorem dX3_shadowCovers_2 : decode cX3_shadowCovers 2 = .ok (.iload_n 1, 1) := by decide +kernel
theorem dX3_shadowCovers_3 : decode cX3_shadowCovers 3 = .ok (.iconst 0, 1) := by decide +kernel
theorem dX3_shadowCovers_4 : decode cX3_shadowCovers 4 = .ok (.invokevirtual 75, 3) := by decide +kernel
theorem dX3_shadowCovers_7 : decode cX3_shadowCovers 7 = .ok (.aload_n 0, 1) := by decide +kernel
theorem dX3_shadowCovers_8 : decode cX3_shadowCovers 8 = .ok (.iload_n 1, 1) := by decide +kernel
theorem dX3_shadowCovers_9 : decode cX3_shadowCovers 9 = .ok (.iconst 1, 1) := by decide +kernel
theorem dX3_shadowCovers_10 : decode cX3_shadowCovers 10 = .ok (.invokevirtual 75, 3) := by decide +kernel
theorem dX3_shadowCovers_13 : decode cX3_shadowCovers 13 = .ok (.iload_n 3, 1) := by decide +kernel
theorem dX3_shadowCovers_14 : decode cX3_shadowCovers 14 = .ok (.invokestatic 84, 3) := by decide +kernel
theorem dX3_shadowCovers_17 : decode cX3_shadowCovers 17 = .ok (.ireturn, 1) := by decide +kernel
def w_X3_shadowCovers (a0 a1 a2 : Int) (X : XT) (Q : Int → Prop) : Prop :=
  (0 ≤ a0 ∧ a0 < X 1 9 ∧ X 1 9 ≤ 5) ∧ (0 ≤ a1 ∧ a1 ≤ 576) ∧ (0 ≤ (X 5 (a0 * 5 + 0)) ∧ (X 5 (a0 * 5 + 0)) ≤ 1000) ∧ (0 ≤ (X 5 (a0 * 5 + 1)) ∧ (X 5 (a0 * 5 + 1)) ≤ 1000) ∧ (0 ≤ a2 ∧ a2 ≤ 63) ∧ Q (if (¬ a1 = 576 ∧ cvB a1 (X 5 (a0 * 5 + 0)) (X 5 (a0 * 5 + 1)) a2) then 1 else 0)
set_option maxRecDepth 20000 in
theorem so_X3_shadowCovers {n : Nat} {h : Nat → sE} {X : XT} {a0 a1 a2 : Int} {Q : Int → Prop} (hn : 115 ≤ n) (hp : Pic X h) (w : w_X3_shadowCovers  a0 a1 a2 X Q) : Sp m_X3_shadowCovers 3 0 0 [.ref 1, .int (iI a0), .int (iI a1), .int (iI a2)] n h (pIr n h Q) := by
  unfold w_X3_shadowCovers at w
  refine Sp.ofV (by decide +kernel) (Nat.le_of_ble_eq_true rfl) ?_
  have hf : Fr h h := fun _ _ => rfl
  refine v_iload_n dX3_shadowCovers_0 rfl ?_
  refine v_aload_n dX3_shadowCovers_1 rfl ?_
  refine v_iload_n dX3_shadowCovers_2 rfl ?_
  refine v_iconstI dX3_shadowCovers_3 ?_
  obtain ⟨q1, w⟩ := w
  refine v_callVp dX3_shadowCovers_4 ml_X3_75 (sv_X3_cloudFact (a := a0) (b := 0) (g1 := X 1) (g5 := X 5) hn (hp 1 (by decide)) (hp 5 (by decide)) q1 (by decide)) ((hp 1 (by decide)).trans (ent_1 _)) rfl (s_lt hn rfl) rfl rfl (Nat.le_of_ble_eq_true rfl) (Nat.le_of_ble_eq_true rfl) (Nat.zero_le _) (Nat.zero_le _) ?_
  refine v_aload_n dX3_shadowCovers_7 rfl ?_
  refine v_iload_n dX3_shadowCovers_8 rfl ?_
  refine v_iconstI dX3_shadowCovers_9 ?_
  refine v_callVp dX3_shadowCovers_10 ml_X3_75 (sv_X3_cloudFact (a := a0) (b := 1) (g1 := X 1) (g5 := X 5) hn (hp 1 (by decide)) (hp 5 (by decide)) q1 (by decide)) ((hp 1 (by decide)).trans (ent_1 _)) rfl (s_lt hn rfl) rfl rfl (Nat.le_of_ble_eq_true rfl) (Nat.le_of_ble_eq_true rfl) (Nat.zero_le _) (Nat.zero_le _) ?_
  refine v_iload_n dX3_shadowCovers_13 rfl ?_
  obtain ⟨q2, q3, q4, q5, w⟩ := w
  refine v_callSp dX3_shadowCovers_14 ml_X3_84 (sp_X8_covers (s := a1) (wd := (X 5 (a0 * 5 + 0))) (tl := (X 5 (a0 * 5 + 1))) (f := a2) q2 q3 q4 q5) rfl rfl (Nat.le_of_ble_eq_true rfl) (Nat.le_of_ble_eq_true rfl) (Nat.zero_le _) (Nat.zero_le _) ?_
  exact v_bretI dX3_shadowCovers_17 rfl (Nat.zero_le _) (Nat.zero_le _) ⟨rfl, rfl, _, rfl, w⟩
theorem dX8_shadeOf_0 : decode cX8_shadeOf 0 = .ok (.iconst 0, 1) := by decide +kernel
theorem dX8_shadeOf_1 : decode cX8_shadeOf 1 = .ok (.istore_n 3, 1) := by decide +kernel
theorem dX8_shadeOf_2 : decode cX8_shadeOf 2 = .ok (.iconst 0, 1) := by decide +kernel
theorem dX8_shadeOf_3 : decode cX8_shadeOf 3 = .ok (.istore 4, 2) := by decide +kernel
theorem dX8_shadeOf_5 : decode cX8_shadeOf 5 = .ok (.iload 4, 2) := by decide +kernel
theorem dX8_shadeOf_7 : decode cX8_shadeOf 7 = .ok (.aload_n 0, 1) := by decide +kernel
theorem dX8_shadeOf_8 : decode cX8_shadeOf 8 = .ok (.getfield 18, 3) := by decide +kernel
theorem dX8_shadeOf_11 : decode cX8_shadeOf 11 = .ok (.getfield 46, 3) := by decide +kernel
theorem dX8_shadeOf_14 : decode cX8_shadeOf 14 = .ok (.if_icmp .ge 32, 3) := by decide +kernel
theorem dX8_shadeOf_17 : decode cX8_shadeOf 17 = .ok (.aload_n 0, 1) := by decide +kernel
theorem dX8_shadeOf_18 : decode cX8_shadeOf 18 = .ok (.getfield 18, 3) := by decide +kernel
theorem dX8_shadeOf_21 : decode cX8_shadeOf 21 = .ok (.iload 4, 2) := by decide +kernel
theorem dX8_shadeOf_23 : decode cX8_shadeOf 23 = .ok (.aload_n 0, 1) := by decide +kernel
theorem dX8_shadeOf_24 : decode cX8_shadeOf 24 = .ok (.iload 4, 2) := by decide +kernel
theorem dX8_shadeOf_26 : decode cX8_shadeOf 26 = .ok (.iload_n 2, 1) := by decide +kernel
theorem dX8_shadeOf_27 : decode cX8_shadeOf 27 = .ok (.invokevirtual 73, 3) := by decide +kernel
theorem dX8_shadeOf_30 : decode cX8_shadeOf 30 = .ok (.iload_n 1, 1) := by decide +kernel
theorem dX8_shadeOf_31 : decode cX8_shadeOf 31 = .ok (.invokevirtual 104, 3) := by decide +kernel
theorem dX8_shadeOf_34 : decode cX8_shadeOf 34 = .ok (.ifCond .eq 6, 3) := by decide +kernel
theorem dX8_shadeOf_37 : decode cX8_shadeOf 37 = .ok (.iinc 3 1, 3) := by decide +kernel
theorem dX8_shadeOf_40 : decode cX8_shadeOf 40 = .ok (.iinc 4 1, 3) := by decide +kernel
theorem dX8_shadeOf_43 : decode cX8_shadeOf 43 = .ok (.goto (-38), 3) := by decide +kernel
theorem dX8_shadeOf_46 : decode cX8_shadeOf 46 = .ok (.iload_n 3, 1) := by decide +kernel
theorem dX8_shadeOf_47 : decode cX8_shadeOf 47 = .ok (.ireturn, 1) := by decide +kernel
def w_X8_shadeOf (ta sb : Nat) (a0 a1 : Int) (X : XT) (Q : Int → Prop) : Prop :=
  ∃ (I3 : Int → Int → Prop) (m4 : Int → Int → Nat), I3 0 0 ∧ ∀ (x1 : Int) (x2 : Int), I3 x1 x2 → R32 x2 ∧ R32 (X 1 9) ∧ ((X 1 9) ≤ x2 → Q x1) ∧ (¬ (X 1 9) ≤ x2 → w_X8_spotOf ta sb x2 a1 X (fun (v15 : Int) => w_X3_shadowCovers  x2 v15 a0 X (fun (v21 : Int) => R32 v21 ∧ (v21 = 0 → I3 x1 (x2 + 1) ∧ m4 x1 (x2 + 1) < m4 x1 x2) ∧ (¬ v21 = 0 → I3 (x1 + 1) (x2 + 1) ∧ m4 (x1 + 1) (x2 + 1) < m4 x1 x2))))
set_option maxRecDepth 20000 in
theorem so_X8_shadeOf_49 {n : Nat} {h : Nat → sE} {X : XT} {a0 a1 : Int} {Q : Int → Prop} (hn : 115 ≤ n) (hp : Pic X h) (w : w_X8_shadeOf 50 51 a0 a1 X Q) : Sp m_X8_shadeOf 4 0 0 [.ref 49, .int (iI a0), .int (iI a1)] n h (pIr n h Q) := by
  unfold w_X8_shadeOf at w
  refine Sp.ofV (by decide +kernel) (Nat.le_of_ble_eq_true rfl) ?_
  have hf : Fr h h := fun _ _ => rfl
  refine v_iconstI dX8_shadeOf_0 ?_
  refine v_istore_n dX8_shadeOf_1 (Nat.le_of_ble_eq_true rfl) ?_
  refine v_iconstI dX8_shadeOf_2 ?_
  refine v_istore dX8_shadeOf_3 (Nat.le_of_ble_eq_true rfl) ?_
  refine v_pick [2, 3, 4, 1, 0] rfl ?_
  obtain ⟨I3, m4, wi7, wl6⟩ := w
  have hL8 : ∀ (N11 : Nat) (x1 : Int) (x2 : Int), m4 x1 x2 < N11 → I3 x1 x2 → V (m_X8_shadeOf, 4, 0, 0, n, pIr n h Q, s_G0) 0 0 n h 5 [(0, .ref 49), (1, .int (iI a0)), (2, .int (iI a1)), (3, .int (iI x1)), (4, .int (iI x2))] [] := by
    intro N11
    induction N11 with
    | zero => intro x1 x2  hm9; exact absurd hm9 (Nat.not_lt_zero _)
    | succ N11 ih5 =>
      intro x1 x2  hm9 hI10
      have w := wl6 x1 x2 hI10
      refine v_iload dX8_shadeOf_5 rfl ?_
      refine v_aload_n dX8_shadeOf_7 rfl ?_
      refine v_get dX8_shadeOf_8 fl_X8_18 ((hp 49 (by decide)).trans (ent_49 _)) rfl (s_lt hn rfl) ?_
      refine v_get dX8_shadeOf_11 fl_X8_46 ((hp 1 (by decide)).trans (ent_1 _)) rfl (s_lt hn rfl) ?_
      obtain ⟨q12, q13, w⟩ := w
      refine v_icmp_geI (tgt := 46) dX8_shadeOf_14 (by decide) q12.1 q12.2 q13.1 q13.2 (fun c14 => ?_) (fun c14 => ?_)
      · replace w := w.1 c14
        refine v_iload_n dX8_shadeOf_46 rfl ?_
        exact v_iret dX8_shadeOf_47 rfl (Nat.zero_le _) (Nat.zero_le _) ⟨rfl, rfl, _, rfl, w⟩
      · replace w := w.2 c14
        refine v_aload_n dX8_shadeOf_17 rfl ?_
        refine v_get dX8_shadeOf_18 fl_X8_18 ((hp 49 (by decide)).trans (ent_49 _)) rfl (s_lt hn rfl) ?_
        refine v_iload dX8_shadeOf_21 rfl ?_
        refine v_aload_n dX8_shadeOf_23 rfl ?_
        refine v_iload dX8_shadeOf_24 rfl ?_
        refine v_iload_n dX8_shadeOf_26 rfl ?_
        refine v_callVIr dX8_shadeOf_27 ml_X8_73 (so_X8_spotOf_49 hn hp  w) ((hp 49 (by decide)).trans (ent_49 _)) rfl (s_lt hn rfl) rfl rfl (Nat.le_of_ble_eq_true rfl) (Nat.le_of_ble_eq_true rfl) (Nat.zero_le _) (Nat.zero_le _) (fun v15 w => ?_)
        refine v_iload_n dX8_shadeOf_30 rfl ?_
        refine v_callVIr dX8_shadeOf_31 ml_X8_104 (so_X3_shadowCovers hn hp  w) ((hp 1 (by decide)).trans (ent_1 _)) rfl (s_lt hn rfl) rfl rfl (Nat.le_of_ble_eq_true rfl) (Nat.le_of_ble_eq_true rfl) (Nat.zero_le _) (Nat.zero_le _) (fun v21 w => ?_)
        obtain ⟨q27, w⟩ := w
        refine v_if_eqI (tgt := 40) dX8_shadeOf_34 (by decide) q27.1 q27.2 (fun c28 => ?_) (fun c28 => ?_)
        · replace w := w.1 c28
          refine v_iincI dX8_shadeOf_40 rfl (Nat.le_of_ble_eq_true rfl) ?_
          refine v_goto (tgt := 5) dX8_shadeOf_43 (by decide) ?_
          refine v_pick [1, 2, 3, 4, 0] rfl ?_
          exact ih5 _ _ (Nat.lt_of_lt_of_le w.2 (Nat.le_of_lt_succ hm9)) w.1
        · replace w := w.2 c28
          refine v_iincI dX8_shadeOf_37 rfl (Nat.le_of_ble_eq_true rfl) ?_
          refine v_iincI dX8_shadeOf_40 rfl (Nat.le_of_ble_eq_true rfl) ?_
          refine v_goto (tgt := 5) dX8_shadeOf_43 (by decide) ?_
          refine v_pick [2, 3, 4, 1, 0] rfl ?_
          exact ih5 _ _ (Nat.lt_of_lt_of_le w.2 (Nat.le_of_lt_succ hm9)) w.1
  exact hL8 _ _ _ (Nat.lt_succ_self _) wi7
theorem dX0_heatsBy_0 : decode cX0_heatsBy 0 = .ok (.aload_n 0, 1) := by decide +kernel
theorem dX0_heatsBy_1 : decode cX0_heatsBy 1 = .ok (.iload_n 1, 1) := by decide +kernel
theorem dX0_heatsBy_2 : decode cX0_heatsBy 2 = .ok (.iload_n 2, 1) := by decide +kernel
theorem dX0_heatsBy_3 : decode cX0_heatsBy 3 = .ok (.iload_n 3, 1) := by decide +kernel
theorem dX0_heatsBy_4 : decode cX0_heatsBy 4 = .ok (.invokevirtual 22, 3) := by decide +kernel
theorem dX0_heatsBy_7 : decode cX0_heatsBy 7 = .ok (.aload_n 0, 1) := by decide +kernel
theorem dX0_heatsBy_8 : decode cX0_heatsBy 8 = .ok (.bipush 15, 2) := by decide +kernel
theorem dX0_heatsBy_10 : decode cX0_heatsBy 10 = .ok (.iconst 5, 1) := by decide +kernel
theorem dX0_heatsBy_11 : decode cX0_heatsBy 11 = .ok (.invokevirtual 28, 3) := by decide +kernel
theorem dX0_heatsBy_14 : decode cX0_heatsBy 14 = .ok (.ireturn, 1) := by decide +kernel
def w_X0_heatsBy (K : LK) (a0 a1 a2 : Int) (X : XT) (Q : Int → XT → Prop) : Prop :=
  w_X0_askField  a0 a1 a2 X (fun (X2 : XT) => w_X0_toldBy K  15 5 X2 (fun (v7 : Int) (X8 : XT) => Q v7 X8))
set_option maxRecDepth 20000 in
theorem so_X0_heatsBy {n : Nat} {h : Nat → sE} {X : XT} {K : LK} {hk : Nat → sE} (hK : LKok K n hk) {a0 a1 a2 : Int} {Q : Int → XT → Prop} (hn : 115 ≤ n) (hp : Pic X h) (hf9 : Fr hk h) (w : w_X0_heatsBy K  a0 a1 a2 X Q) : Sp m_X0_heatsBy 3 0 0 [.ref 44, .int (iI a0), .int (iI a1), .int (iI a2)] n h (pIw n h Q) := by
  unfold w_X0_heatsBy at w
  refine Sp.ofV (by decide +kernel) (Nat.le_of_ble_eq_true rfl) ?_
  have hf : Fr h h := fun _ _ => rfl
  refine v_aload_n dX0_heatsBy_0 rfl ?_
  refine v_iload_n dX0_heatsBy_1 rfl ?_
  refine v_iload_n dX0_heatsBy_2 rfl ?_
  refine v_iload_n dX0_heatsBy_3 rfl ?_
  refine v_callVVw dX0_heatsBy_4 ml_X0_22 (so_X0_askField hn hp  w) ((hp 44 (by decide)).trans (ent_44 _)) rfl (s_lt hn rfl) rfl rfl (Nat.le_of_ble_eq_true rfl) (Nat.le_of_ble_eq_true rfl) (Nat.zero_le _) (Nat.zero_le _) (fun X2 h3 hp5 hf4 w => ?_)
  have hf6 := Fr.trans hf hf4
  refine v_aload_n dX0_heatsBy_7 rfl ?_
  refine v_bipushI dX0_heatsBy_8 rfl ?_
  refine v_iconstI dX0_heatsBy_10 ?_
  refine v_callVIw dX0_heatsBy_11 ml_X0_28 (so_X0_toldBy hK hn hp5 (Fr.trans hf9 hf6) w) ((hp5 44 (by decide)).trans (ent_44 _)) rfl (s_lt hn rfl) rfl rfl (Nat.le_of_ble_eq_true rfl) (Nat.le_of_ble_eq_true rfl) (Nat.zero_le _) (Nat.zero_le _) (fun v7 X8 h9 hp11 hf10 w => ?_)
  have hf12 := Fr.trans hf6 hf10
  exact v_iret dX0_heatsBy_14 rfl (Nat.zero_le _) (Nat.zero_le _) ⟨rfl, hf12, _, _, rfl, hp11, w⟩
theorem dX0_coolsBy_0 : decode cX0_coolsBy 0 = .ok (.aload_n 0, 1) := by decide +kernel
theorem dX0_coolsBy_1 : decode cX0_coolsBy 1 = .ok (.iload_n 1, 1) := by decide +kernel
theorem dX0_coolsBy_2 : decode cX0_coolsBy 2 = .ok (.iload_n 2, 1) := by decide +kernel
theorem dX0_coolsBy_3 : decode cX0_coolsBy 3 = .ok (.iload_n 3, 1) := by decide +kernel
theorem dX0_coolsBy_4 : decode cX0_coolsBy 4 = .ok (.invokevirtual 22, 3) := by decide +kernel
theorem dX0_coolsBy_7 : decode cX0_coolsBy 7 = .ok (.aload_n 0, 1) := by decide +kernel
theorem dX0_coolsBy_8 : decode cX0_coolsBy 8 = .ok (.bipush 16, 2) := by decide +kernel
theorem dX0_coolsBy_10 : decode cX0_coolsBy 10 = .ok (.iconst 3, 1) := by decide +kernel
theorem dX0_coolsBy_11 : decode cX0_coolsBy 11 = .ok (.invokevirtual 28, 3) := by decide +kernel
theorem dX0_coolsBy_14 : decode cX0_coolsBy 14 = .ok (.ireturn, 1) := by decide +kernel
def w_X0_coolsBy (K : LK) (a0 a1 a2 : Int) (X : XT) (Q : Int → XT → Prop) : Prop :=
  w_X0_askField  a0 a1 a2 X (fun (X2 : XT) => w_X0_toldBy K  16 3 X2 (fun (v7 : Int) (X8 : XT) => Q v7 X8))
set_option maxRecDepth 20000 in
theorem so_X0_coolsBy {n : Nat} {h : Nat → sE} {X : XT} {K : LK} {hk : Nat → sE} (hK : LKok K n hk) {a0 a1 a2 : Int} {Q : Int → XT → Prop} (hn : 115 ≤ n) (hp : Pic X h) (hf9 : Fr hk h) (w : w_X0_coolsBy K  a0 a1 a2 X Q) : Sp m_X0_coolsBy 3 0 0 [.ref 44, .int (iI a0), .int (iI a1), .int (iI a2)] n h (pIw n h Q) := by
  unfold w_X0_coolsBy at w
  refine Sp.ofV (by decide +kernel) (Nat.le_of_ble_eq_true rfl) ?_
  have hf : Fr h h := fun _ _ => rfl
  refine v_aload_n dX0_coolsBy_0 rfl ?_
  refine v_iload_n dX0_coolsBy_1 rfl ?_
  refine v_iload_n dX0_coolsBy_2 rfl ?_
  refine v_iload_n dX0_coolsBy_3 rfl ?_
  refine v_callVVw dX0_coolsBy_4 ml_X0_22 (so_X0_askField hn hp  w) ((hp 44 (by decide)).trans (ent_44 _)) rfl (s_lt hn rfl) rfl rfl (Nat.le_of_ble_eq_true rfl) (Nat.le_of_ble_eq_true rfl) (Nat.zero_le _) (Nat.zero_le _) (fun X2 h3 hp5 hf4 w => ?_)
  have hf6 := Fr.trans hf hf4
  refine v_aload_n dX0_coolsBy_7 rfl ?_
  refine v_bipushI dX0_coolsBy_8 rfl ?_
  refine v_iconstI dX0_coolsBy_10 ?_
  refine v_callVIw dX0_coolsBy_11 ml_X0_28 (so_X0_toldBy hK hn hp5 (Fr.trans hf9 hf6) w) ((hp5 44 (by decide)).trans (ent_44 _)) rfl (s_lt hn rfl) rfl rfl (Nat.le_of_ble_eq_true rfl) (Nat.le_of_ble_eq_true rfl) (Nat.zero_le _) (Nat.zero_le _) (fun v7 X8 h9 hp11 hf10 w => ?_)
  have hf12 := Fr.trans hf6 hf10
  exact v_iret dX0_coolsBy_14 rfl (Nat.zero_le _) (Nat.zero_le _) ⟨rfl, hf12, _, _, rfl, hp11, w⟩
theorem dX11_asks_0 : decode cX11_asks 0 = .ok (.iload_n 1, 1) := by decide +kernel
theorem dX11_asks_1 : decode cX11_asks 1 = .ok (.iconst 0, 1) := by decide +kernel
theorem dX11_asks_2 : decode cX11_asks 2 = .ok (.bipush 63, 2) := by decide +kernel
theorem dX11_asks_4 : decode cX11_asks 4 = .ok (.invokestatic 115, 3) := by decide +kernel
theorem dX11_asks_7 : decode cX11_asks 7 = .ok (.ifCond .eq 19, 3) := by decide +kernel
theorem dX11_asks_10 : decode cX11_asks 10 = .ok (.iload_n 2, 1) := by decide +kernel
theorem dX11_asks_11 : decode cX11_asks 11 = .ok (.invokestatic 185, 3) := by decide +kernel
theorem dX11_asks_14 : decode cX11_asks 14 = .ok (.ifCond .eq 12, 3) := by decide +kernel
theorem dX11_asks_17 : decode cX11_asks 17 = .ok (.iload_n 3, 1) := by decide +kernel
theorem dX11_asks_18 : decode cX11_asks 18 = .ok (.iconst 0, 1) := by decide +kernel
theorem dX11_asks_19 : decode cX11_asks 19 = .ok (.iconst 3, 1) := by decide +kernel
theorem dX11_asks_20 : decode cX11_asks 20 = .ok (.invokestatic 115, 3) := by decide +kernel
theorem dX11_asks_23 : decode cX11_asks 23 = .ok (.ifCond .ne 5, 3) := by decide +kernel
theorem dX11_asks_26 : decode cX11_asks 26 = .ok (.iconst (-1), 1) := by decide +kernel
theorem dX11_asks_27 : decode cX11_asks 27 = .ok (.ireturn, 1) := by decide +kernel
theorem dX11_asks_28 : decode cX11_asks 28 = .ok (.iload_n 3, 1) := by decide +kernel
theorem dX11_asks_29 : decode cX11_asks 29 = .ok (.iconst 3, 1) := by decide +kernel
theorem dX11_asks_30 : decode cX11_asks 30 = .ok (.if_icmp .ne 13, 3) := by decide +kernel
theorem dX11_asks_33 : decode cX11_asks 33 = .ok (.aload_n 0, 1) := by decide +kernel
theorem dX11_asks_34 : decode cX11_asks 34 = .ok (.getfield 43, 3) := by decide +kernel
theorem dX11_asks_37 : decode cX11_asks 37 = .ok (.iload_n 1, 1) := by decide +kernel
theorem dX11_asks_38 : decode cX11_asks 38 = .ok (.iload_n 2, 1) := by decide +kernel
theorem dX11_asks_39 : decode cX11_asks 39 = .ok (.invokevirtual 242, 3) := by decide +kernel
theorem dX11_asks_42 : decode cX11_asks 42 = .ok (.ireturn, 1) := by decide +kernel
theorem dX11_asks_43 : decode cX11_asks 43 = .ok (.aload_n 0, 1) := by decide +kernel
theorem dX11_asks_44 : decode cX11_asks 44 = .ok (.getfield 52, 3) := by decide +kernel
theorem dX11_asks_47 : decode cX11_asks 47 = .ok (.invokevirtual 245, 3) := by decide +kernel
theorem dX11_asks_50 : decode cX11_asks 50 = .ok (.aload_n 0, 1) := by decide +kernel
theorem dX11_asks_51 : decode cX11_asks 51 = .ok (.getfield 52, 3) := by decide +kernel
theorem dX11_asks_54 : decode cX11_asks 54 = .ok (.iload_n 1, 1) := by decide +kernel
theorem dX11_asks_55 : decode cX11_asks 55 = .ok (.iload_n 2, 1) := by decide +kernel
theorem dX11_asks_56 : decode cX11_asks 56 = .ok (.invokevirtual 248, 3) := by decide +kernel
theorem dX11_asks_59 : decode cX11_asks 59 = .ok (.istore 4, 2) := by decide +kernel
theorem dX11_asks_61 : decode cX11_asks 61 = .ok (.iload_n 3, 1) := by decide +kernel
theorem dX11_asks_62 : decode cX11_asks 62 = .ok (.ifCond .ne 6, 3) := by decide +kernel
theorem dX11_asks_65 : decode cX11_asks 65 = .ok (.iload 4, 2) := by decide +kernel
theorem dX11_asks_67 : decode cX11_asks 67 = .ok (.ireturn, 1) := by decide +kernel
theorem dX11_asks_68 : decode cX11_asks 68 = .ok (.iload_n 3, 1) := by decide +kernel
theorem dX11_asks_69 : decode cX11_asks 69 = .ok (.iconst 1, 1) := by decide +kernel
theorem dX11_asks_70 : decode cX11_asks 70 = .ok (.if_icmp .ne 17, 3) := by decide +kernel
theorem dX11_asks_73 : decode cX11_asks 73 = .ok (.aload_n 0, 1) := by decide +kernel
theorem dX11_asks_74 : decode cX11_asks 74 = .ok (.getfield 43, 3) := by decide +kernel
theorem dX11_asks_77 : decode cX11_asks 77 = .ok (.iload_n 1, 1) := by decide +kernel
theorem dX11_asks_78 : decode cX11_asks 78 = .ok (.iload_n 2, 1) := by decide +kernel
theorem dX11_asks_79 : decode cX11_asks 79 = .ok (.iload 4, 2) := by decide +kernel
theorem dX11_asks_81 : decode cX11_asks 81 = .ok (.invokevirtual 251, 3) := by decide +kernel
theorem dX11_asks_84 : decode cX11_asks 84 = .ok (.goto 14, 3) := by decide +kernel
theorem dX11_asks_87 : decode cX11_asks 87 = .ok (.aload_n 0, 1) := by decide +kernel
theorem dX11_asks_88 : decode cX11_asks 88 = .ok (.getfield 43, 3) := by decide +kernel
theorem dX11_asks_91 : decode cX11_asks 91 = .ok (.iload_n 1, 1) := by decide +kernel
theorem dX11_asks_92 : decode cX11_asks 92 = .ok (.iload_n 2, 1) := by decide +kernel
theorem dX11_asks_93 : decode cX11_asks 93 = .ok (.iload 4, 2) := by decide +kernel
theorem dX11_asks_95 : decode cX11_asks 95 = .ok (.invokevirtual 254, 3) := by decide +kernel
theorem dX11_asks_98 : decode cX11_asks 98 = .ok (.ireturn, 1) := by decide +kernel
def w_X11_asks (K : LK) (a0 a1 a2 : Int) (X : XT) (Q : Int → XT → Prop) : Prop :=
  R32 a0 ∧ (¬ (0 ≤ a0 ∧ a0 ≤ 63) → Q (-1) X) ∧ ((0 ≤ a0 ∧ a0 ≤ 63) → R32 a1 ∧ (¬ (0 ≤ a1 ∧ a1 ≤ 11) → Q (-1) X) ∧ ((0 ≤ a1 ∧ a1 ≤ 11) → R32 a2 ∧ ((0 ≤ a2 ∧ a2 ≤ 3) → (¬ a2 = 3 → w_X8_look K 50 51  X (fun (X9 : XT) => w_X8_shadeOf 50 51 a0 a1 X9 (fun (v14 : Int) => (¬ a2 = 0 → (¬ a2 = 1 → w_X0_coolsBy K  a0 a1 v14 X9 (fun (v22 : Int) (X23 : XT) => Q v22 X23)) ∧ (a2 = 1 → w_X0_heatsBy K  a0 a1 v14 X9 (fun (v28 : Int) (X29 : XT) => Q v28 X29))) ∧ (a2 = 0 → Q v14 X9)))) ∧ (a2 = 3 → w_X0_worthOf K  a0 a1 X (fun (v34 : Int) (X35 : XT) => Q v34 X35))) ∧ (¬ (0 ≤ a2 ∧ a2 ≤ 3) → Q (-1) X)))
set_option maxRecDepth 20000 in
theorem so_X11_asks {n : Nat} {h : Nat → sE} {X : XT} {K : LK} {hk : Nat → sE} (hK : LKok K n hk) {a0 a1 a2 : Int} {Q : Int → XT → Prop} (hn : 115 ≤ n) (hp : Pic X h) (hf9 : Fr hk h) (w : w_X11_asks K  a0 a1 a2 X Q) : Sp m_X11_asks 6 0 0 [.ref 0, .int (iI a0), .int (iI a1), .int (iI a2)] n h (pIw n h Q) := by
  unfold w_X11_asks at w
  refine Sp.ofV (by decide +kernel) (Nat.le_of_ble_eq_true rfl) ?_
  have hf : Fr h h := fun _ _ => rfl
  refine v_iload_n dX11_asks_0 rfl ?_
  refine v_iconstI dX11_asks_1 ?_
  refine v_bipushI dX11_asks_2 rfl ?_
  obtain ⟨q1, w⟩ := w
  refine v_callSp dX11_asks_4 ml_X11_115 (sp_X11_within (a := a0) (b := 0) (c := 63) q1 (by decide) (by decide)) rfl rfl (Nat.le_of_ble_eq_true rfl) (Nat.le_of_ble_eq_true rfl) (Nat.zero_le _) (Nat.zero_le _) ?_
  refine v_ifeqB (tgt := 26) dX11_asks_7 (by decide) (fun c2 => ?_) (fun c2 => ?_)
  · replace w := w.1 c2
    refine v_iconstI dX11_asks_26 ?_
    exact v_iret dX11_asks_27 rfl (Nat.zero_le _) (Nat.zero_le _) ⟨rfl, hf, _, _, rfl, hp, w⟩
  · replace w := w.2 c2
    refine v_iload_n dX11_asks_10 rfl ?_
    obtain ⟨q3, w⟩ := w
    refine v_callSp dX11_asks_11 ml_X11_185 (sp_X11_isHour (a := a1) q3) rfl rfl (Nat.le_of_ble_eq_true rfl) (Nat.le_of_ble_eq_true rfl) (Nat.zero_le _) (Nat.zero_le _) ?_
    refine v_ifeqB (tgt := 26) dX11_asks_14 (by decide) (fun c4 => ?_) (fun c4 => ?_)
    · replace w := w.1 c4
      refine v_iconstI dX11_asks_26 ?_
      exact v_iret dX11_asks_27 rfl (Nat.zero_le _) (Nat.zero_le _) ⟨rfl, hf, _, _, rfl, hp, w⟩
    · replace w := w.2 c4
      refine v_iload_n dX11_asks_17 rfl ?_
      refine v_iconstI dX11_asks_18 ?_
      refine v_iconstI dX11_asks_19 ?_
      obtain ⟨q5, w⟩ := w
      refine v_callSp dX11_asks_20 ml_X11_115 (sp_X11_within (a := a2) (b := 0) (c := 3) q5 (by decide) (by decide)) rfl rfl (Nat.le_of_ble_eq_true rfl) (Nat.le_of_ble_eq_true rfl) (Nat.zero_le _) (Nat.zero_le _) ?_
      refine v_ifneB (tgt := 28) dX11_asks_23 (by decide) (fun c6 => ?_) (fun c6 => ?_)
      · replace w := w.1 c6
        refine v_iload_n dX11_asks_28 rfl ?_
        refine v_iconstI dX11_asks_29 ?_
        refine v_icmp_neI (tgt := 43) dX11_asks_30 (by decide) q5.1 q5.2 (by decide) (by decide) (fun c7 => ?_) (fun c7 => ?_)
        · replace w := w.1 c7
          refine v_aload_n dX11_asks_43 rfl ?_
          refine v_get dX11_asks_44 fl_X11_52 ((hp 0 (by decide)).trans (ent_0 _)) rfl (s_lt hn rfl) ?_
          refine v_callVVw dX11_asks_47 ml_X11_245 (so_X8_look_49 hK hn hp (Fr.trans hf9 hf) w) ((hp 49 (by decide)).trans (ent_49 _)) rfl (s_lt hn rfl) rfl rfl (Nat.le_of_ble_eq_true rfl) (Nat.le_of_ble_eq_true rfl) (Nat.zero_le _) (Nat.zero_le _) (fun X9 h10 hp12 hf11 w => ?_)
          have hf13 := Fr.trans hf hf11
          refine v_aload_n dX11_asks_50 rfl ?_
          refine v_get dX11_asks_51 fl_X11_52 ((hp12 0 (by decide)).trans (ent_0 _)) rfl (s_lt hn rfl) ?_
          refine v_iload_n dX11_asks_54 rfl ?_
          refine v_iload_n dX11_asks_55 rfl ?_
          refine v_callVIr dX11_asks_56 ml_X11_248 (so_X8_shadeOf_49 hn hp12  w) ((hp12 49 (by decide)).trans (ent_49 _)) rfl (s_lt hn rfl) rfl rfl (Nat.le_of_ble_eq_true rfl) (Nat.le_of_ble_eq_true rfl) (Nat.zero_le _) (Nat.zero_le _) (fun v14 w => ?_)
          refine v_istore dX11_asks_59 (Nat.le_of_ble_eq_true rfl) ?_
          refine v_iload_n dX11_asks_61 rfl ?_
          refine v_if_neI (tgt := 68) dX11_asks_62 (by decide) q5.1 q5.2 (fun c20 => ?_) (fun c20 => ?_)
          · replace w := w.1 c20
            refine v_iload_n dX11_asks_68 rfl ?_
            refine v_iconstI dX11_asks_69 ?_
            refine v_icmp_neI (tgt := 87) dX11_asks_70 (by decide) q5.1 q5.2 (by decide) (by decide) (fun c21 => ?_) (fun c21 => ?_)
            · replace w := w.1 c21
              refine v_aload_n dX11_asks_87 rfl ?_
              refine v_get dX11_asks_88 fl_X11_43 ((hp12 0 (by decide)).trans (ent_0 _)) rfl (s_lt hn rfl) ?_
              refine v_iload_n dX11_asks_91 rfl ?_
              refine v_iload_n dX11_asks_92 rfl ?_
              refine v_iload dX11_asks_93 rfl ?_
              refine v_callVIw dX11_asks_95 ml_X11_254 (so_X0_coolsBy hK hn hp12 (Fr.trans hf9 hf13) w) ((hp12 44 (by decide)).trans (ent_44 _)) rfl (s_lt hn rfl) rfl rfl (Nat.le_of_ble_eq_true rfl) (Nat.le_of_ble_eq_true rfl) (Nat.zero_le _) (Nat.zero_le _) (fun v22 X23 h24 hp26 hf25 w => ?_)
              have hf27 := Fr.trans hf13 hf25
              exact v_iret dX11_asks_98 rfl (Nat.zero_le _) (Nat.zero_le _) ⟨rfl, hf27, _, _, rfl, hp26, w⟩
            · replace w := w.2 c21
              refine v_aload_n dX11_asks_73 rfl ?_
              refine v_get dX11_asks_74 fl_X11_43 ((hp12 0 (by decide)).trans (ent_0 _)) rfl (s_lt hn rfl) ?_
              refine v_iload_n dX11_asks_77 rfl ?_
              refine v_iload_n dX11_asks_78 rfl ?_
              refine v_iload dX11_asks_79 rfl ?_
              refine v_callVIw dX11_asks_81 ml_X11_251 (so_X0_heatsBy hK hn hp12 (Fr.trans hf9 hf13) w) ((hp12 44 (by decide)).trans (ent_44 _)) rfl (s_lt hn rfl) rfl rfl (Nat.le_of_ble_eq_true rfl) (Nat.le_of_ble_eq_true rfl) (Nat.zero_le _) (Nat.zero_le _) (fun v28 X29 h30 hp32 hf31 w => ?_)
              have hf33 := Fr.trans hf13 hf31
              refine v_goto (tgt := 98) dX11_asks_84 (by decide) ?_
              exact v_iret dX11_asks_98 rfl (Nat.zero_le _) (Nat.zero_le _) ⟨rfl, hf33, _, _, rfl, hp32, w⟩
          · replace w := w.2 c20
            refine v_iload dX11_asks_65 rfl ?_
            exact v_iret dX11_asks_67 rfl (Nat.zero_le _) (Nat.zero_le _) ⟨rfl, hf13, _, _, rfl, hp12, w⟩
        · replace w := w.2 c7
          refine v_aload_n dX11_asks_33 rfl ?_
          refine v_get dX11_asks_34 fl_X11_43 ((hp 0 (by decide)).trans (ent_0 _)) rfl (s_lt hn rfl) ?_
          refine v_iload_n dX11_asks_37 rfl ?_
          refine v_iload_n dX11_asks_38 rfl ?_
          refine v_callVIw dX11_asks_39 ml_X11_242 (so_X0_worthOf hK hn hp (Fr.trans hf9 hf) w) ((hp 44 (by decide)).trans (ent_44 _)) rfl (s_lt hn rfl) rfl rfl (Nat.le_of_ble_eq_true rfl) (Nat.le_of_ble_eq_true rfl) (Nat.zero_le _) (Nat.zero_le _) (fun v34 X35 h36 hp38 hf37 w => ?_)
          have hf39 := Fr.trans hf hf37
          exact v_iret dX11_asks_42 rfl (Nat.zero_le _) (Nat.zero_le _) ⟨rfl, hf39, _, _, rfl, hp38, w⟩
      · replace w := w.2 c6
        refine v_iconstI dX11_asks_26 ?_
        exact v_iret dX11_asks_27 rfl (Nat.zero_le _) (Nat.zero_le _) ⟨rfl, hf, _, _, rfl, hp, w⟩
theorem dX11_at_0 : decode cX11_at 0 = .ok (.aload_n 0, 1) := by decide +kernel
theorem dX11_at_1 : decode cX11_at 1 = .ok (.getfield 12, 3) := by decide +kernel
theorem dX11_at_4 : decode cX11_at 4 = .ok (.iload_n 1, 1) := by decide +kernel
theorem dX11_at_5 : decode cX11_at 5 = .ok (.invokevirtual 257, 3) := by decide +kernel
theorem dX11_at_8 : decode cX11_at 8 = .ok (.ifCond .eq 19, 3) := by decide +kernel
theorem dX11_at_11 : decode cX11_at 11 = .ok (.iload_n 2, 1) := by decide +kernel
theorem dX11_at_12 : decode cX11_at 12 = .ok (.invokestatic 185, 3) := by decide +kernel
theorem dX11_at_15 : decode cX11_at 15 = .ok (.ifCond .eq 12, 3) := by decide +kernel
theorem dX11_at_18 : decode cX11_at 18 = .ok (.iload_n 3, 1) := by decide +kernel
theorem dX11_at_19 : decode cX11_at 19 = .ok (.iconst 0, 1) := by decide +kernel
theorem dX11_at_20 : decode cX11_at 20 = .ok (.iconst 2, 1) := by decide +kernel
theorem dX11_at_21 : decode cX11_at 21 = .ok (.invokestatic 115, 3) := by decide +kernel
theorem dX11_at_24 : decode cX11_at 24 = .ok (.ifCond .ne 7, 3) := by decide +kernel
theorem dX11_at_27 : decode cX11_at 27 = .ok (.sipush (-1000), 3) := by decide +kernel
theorem dX11_at_30 : decode cX11_at 30 = .ok (.ireturn, 1) := by decide +kernel
theorem dX11_at_31 : decode cX11_at 31 = .ok (.aload_n 0, 1) := by decide +kernel
theorem dX11_at_32 : decode cX11_at 32 = .ok (.getfield 52, 3) := by decide +kernel
theorem dX11_at_35 : decode cX11_at 35 = .ok (.invokevirtual 245, 3) := by decide +kernel
theorem dX11_at_38 : decode cX11_at 38 = .ok (.aload_n 0, 1) := by decide +kernel
theorem dX11_at_39 : decode cX11_at 39 = .ok (.getfield 52, 3) := by decide +kernel
theorem dX11_at_42 : decode cX11_at 42 = .ok (.iload_n 1, 1) := by decide +kernel
theorem dX11_at_43 : decode cX11_at 43 = .ok (.iload_n 2, 1) := by decide +kernel
theorem dX11_at_44 : decode cX11_at 44 = .ok (.invokevirtual 260, 3) := by decide +kernel
theorem dX11_at_47 : decode cX11_at 47 = .ok (.istore 4, 2) := by decide +kernel
theorem dX11_at_49 : decode cX11_at 49 = .ok (.iload 4, 2) := by decide +kernel
theorem dX11_at_51 : decode cX11_at 51 = .ok (.sipush 576, 3) := by decide +kernel
theorem dX11_at_54 : decode cX11_at 54 = .ok (.if_icmp .ne 7, 3) := by decide +kernel
theorem dX11_at_57 : decode cX11_at 57 = .ok (.sipush (-1000), 3) := by decide +kernel
theorem dX11_at_60 : decode cX11_at 60 = .ok (.ireturn, 1) := by decide +kernel
theorem dX11_at_61 : decode cX11_at 61 = .ok (.iload_n 3, 1) := by decide +kernel
theorem dX11_at_62 : decode cX11_at 62 = .ok (.iconst 2, 1) := by decide +kernel
theorem dX11_at_63 : decode cX11_at 63 = .ok (.if_icmp .ne 15, 3) := by decide +kernel
theorem dX11_at_66 : decode cX11_at 66 = .ok (.aload_n 0, 1) := by decide +kernel
theorem dX11_at_67 : decode cX11_at 67 = .ok (.getfield 43, 3) := by decide +kernel
theorem dX11_at_70 : decode cX11_at 70 = .ok (.iload_n 1, 1) := by decide +kernel
theorem dX11_at_71 : decode cX11_at 71 = .ok (.iload_n 2, 1) := by decide +kernel
theorem dX11_at_72 : decode cX11_at 72 = .ok (.iload 4, 2) := by decide +kernel
theorem dX11_at_74 : decode cX11_at 74 = .ok (.invokevirtual 263, 3) := by decide +kernel
theorem dX11_at_77 : decode cX11_at 77 = .ok (.ireturn, 1) := by decide +kernel
theorem dX11_at_78 : decode cX11_at 78 = .ok (.iload_n 3, 1) := by decide +kernel
theorem dX11_at_79 : decode cX11_at 79 = .ok (.ifCond .ne 11, 3) := by decide +kernel
theorem dX11_at_82 : decode cX11_at 82 = .ok (.iload 4, 2) := by decide +kernel
theorem dX11_at_84 : decode cX11_at 84 = .ok (.invokestatic 266, 3) := by decide +kernel
theorem dX11_at_87 : decode cX11_at 87 = .ok (.goto 8, 3) := by decide +kernel
theorem dX11_at_90 : decode cX11_at 90 = .ok (.iload 4, 2) := by decide +kernel
theorem dX11_at_92 : decode cX11_at 92 = .ok (.invokestatic 269, 3) := by decide +kernel
theorem dX11_at_95 : decode cX11_at 95 = .ok (.ireturn, 1) := by decide +kernel
def w_X11_at (K : LK) (a0 a1 a2 : Int) (X : XT) (Q : Int → XT → Prop) : Prop :=
  R32 a0 ∧ R32 (X 1 9) ∧ (¬ (0 ≤ a0 ∧ a0 < X 1 9) → Q (-1000) X) ∧ ((0 ≤ a0 ∧ a0 < X 1 9) → R32 a1 ∧ (¬ (0 ≤ a1 ∧ a1 ≤ 11) → Q (-1000) X) ∧ ((0 ≤ a1 ∧ a1 ≤ 11) → R32 a2 ∧ ((0 ≤ a2 ∧ a2 ≤ 2) → w_X8_look K 50 51  X (fun (X9 : XT) => w_X8_spotOf 50 51 a0 a1 X9 (fun (v14 : Int) => R32 v14 ∧ (¬ v14 = 576 → (¬ a2 = 2 → (¬ a2 = 0 → (0 ≤ v14 ∧ v14 ≤ 2147483647) ∧ Q (v14 / 24 - 8) X9) ∧ (a2 = 0 → (0 ≤ v14 ∧ v14 ≤ 2147483647) ∧ Q (v14 % 24 - 8) X9)) ∧ (a2 = 2 → w_X0_hindrance K  a0 a1 v14 X9 (fun (v26 : Int) (X27 : XT) => Q v26 X27))) ∧ (v14 = 576 → Q (-1000) X9)))) ∧ (¬ (0 ≤ a2 ∧ a2 ≤ 2) → Q (-1000) X)))
set_option maxRecDepth 20000 in
theorem so_X11_at {n : Nat} {h : Nat → sE} {X : XT} {K : LK} {hk : Nat → sE} (hK : LKok K n hk) {a0 a1 a2 : Int} {Q : Int → XT → Prop} (hn : 115 ≤ n) (hp : Pic X h) (hf9 : Fr hk h) (w : w_X11_at K  a0 a1 a2 X Q) : Sp m_X11_at 6 0 0 [.ref 0, .int (iI a0), .int (iI a1), .int (iI a2)] n h (pIw n h Q) := by
  unfold w_X11_at at w
  refine Sp.ofV (by decide +kernel) (Nat.le_of_ble_eq_true rfl) ?_
  have hf : Fr h h := fun _ _ => rfl
  refine v_aload_n dX11_at_0 rfl ?_
  refine v_get dX11_at_1 fl_X11_12 ((hp 0 (by decide)).trans (ent_0 _)) rfl (s_lt hn rfl) ?_
  refine v_iload_n dX11_at_4 rfl ?_
  obtain ⟨q1, q2, w⟩ := w
  refine v_callVp dX11_at_5 ml_X11_257 (sq_X3_isCloud (a := a0) (g1 := X 1) hn (hp 1 (by decide)) q1 q2) ((hp 1 (by decide)).trans (ent_1 _)) rfl (s_lt hn rfl) rfl rfl (Nat.le_of_ble_eq_true rfl) (Nat.le_of_ble_eq_true rfl) (Nat.zero_le _) (Nat.zero_le _) ?_
  refine v_ifeqB (tgt := 27) dX11_at_8 (by decide) (fun c3 => ?_) (fun c3 => ?_)
  · replace w := w.1 c3
    refine v_sipushI dX11_at_27 rfl ?_
    exact v_iret dX11_at_30 rfl (Nat.zero_le _) (Nat.zero_le _) ⟨rfl, hf, _, _, rfl, hp, w⟩
  · replace w := w.2 c3
    refine v_iload_n dX11_at_11 rfl ?_
    obtain ⟨q4, w⟩ := w
    refine v_callSp dX11_at_12 ml_X11_185 (sp_X11_isHour (a := a1) q4) rfl rfl (Nat.le_of_ble_eq_true rfl) (Nat.le_of_ble_eq_true rfl) (Nat.zero_le _) (Nat.zero_le _) ?_
    refine v_ifeqB (tgt := 27) dX11_at_15 (by decide) (fun c5 => ?_) (fun c5 => ?_)
    · replace w := w.1 c5
      refine v_sipushI dX11_at_27 rfl ?_
      exact v_iret dX11_at_30 rfl (Nat.zero_le _) (Nat.zero_le _) ⟨rfl, hf, _, _, rfl, hp, w⟩
    · replace w := w.2 c5
      refine v_iload_n dX11_at_18 rfl ?_
      refine v_iconstI dX11_at_19 ?_
      refine v_iconstI dX11_at_20 ?_
      obtain ⟨q6, w⟩ := w
      refine v_callSp dX11_at_21 ml_X11_115 (sp_X11_within (a := a2) (b := 0) (c := 2) q6 (by decide) (by decide)) rfl rfl (Nat.le_of_ble_eq_true rfl) (Nat.le_of_ble_eq_true rfl) (Nat.zero_le _) (Nat.zero_le _) ?_
      refine v_ifneB (tgt := 31) dX11_at_24 (by decide) (fun c7 => ?_) (fun c7 => ?_)
      · replace w := w.1 c7
        refine v_aload_n dX11_at_31 rfl ?_
        refine v_get dX11_at_32 fl_X11_52 ((hp 0 (by decide)).trans (ent_0 _)) rfl (s_lt hn rfl) ?_
        refine v_callVVw dX11_at_35 ml_X11_245 (so_X8_look_49 hK hn hp (Fr.trans hf9 hf) w) ((hp 49 (by decide)).trans (ent_49 _)) rfl (s_lt hn rfl) rfl rfl (Nat.le_of_ble_eq_true rfl) (Nat.le_of_ble_eq_true rfl) (Nat.zero_le _) (Nat.zero_le _) (fun X9 h10 hp12 hf11 w => ?_)
        have hf13 := Fr.trans hf hf11
        refine v_aload_n dX11_at_38 rfl ?_
        refine v_get dX11_at_39 fl_X11_52 ((hp12 0 (by decide)).trans (ent_0 _)) rfl (s_lt hn rfl) ?_
        refine v_iload_n dX11_at_42 rfl ?_
        refine v_iload_n dX11_at_43 rfl ?_
        refine v_callVIr dX11_at_44 ml_X11_260 (so_X8_spotOf_49 hn hp12  w) ((hp12 49 (by decide)).trans (ent_49 _)) rfl (s_lt hn rfl) rfl rfl (Nat.le_of_ble_eq_true rfl) (Nat.le_of_ble_eq_true rfl) (Nat.zero_le _) (Nat.zero_le _) (fun v14 w => ?_)
        refine v_istore dX11_at_47 (Nat.le_of_ble_eq_true rfl) ?_
        refine v_iload dX11_at_49 rfl ?_
        refine v_sipushI dX11_at_51 rfl ?_
        obtain ⟨q20, w⟩ := w
        refine v_icmp_neI (tgt := 61) dX11_at_54 (by decide) q20.1 q20.2 (by decide) (by decide) (fun c21 => ?_) (fun c21 => ?_)
        · replace w := w.1 c21
          refine v_iload_n dX11_at_61 rfl ?_
          refine v_iconstI dX11_at_62 ?_
          refine v_icmp_neI (tgt := 78) dX11_at_63 (by decide) q6.1 q6.2 (by decide) (by decide) (fun c22 => ?_) (fun c22 => ?_)
          · replace w := w.1 c22
            refine v_iload_n dX11_at_78 rfl ?_
            refine v_if_neI (tgt := 90) dX11_at_79 (by decide) q6.1 q6.2 (fun c23 => ?_) (fun c23 => ?_)
            · replace w := w.1 c23
              refine v_iload dX11_at_90 rfl ?_
              obtain ⟨q24, w⟩ := w
              refine v_callSp dX11_at_92 ml_X11_269 (sp_X8_yOf (a := v14) q24) rfl rfl (Nat.le_of_ble_eq_true rfl) (Nat.le_of_ble_eq_true rfl) (Nat.zero_le _) (Nat.zero_le _) ?_
              exact v_iret dX11_at_95 rfl (Nat.zero_le _) (Nat.zero_le _) ⟨rfl, hf13, _, _, rfl, hp12, w⟩
            · replace w := w.2 c23
              refine v_iload dX11_at_82 rfl ?_
              obtain ⟨q25, w⟩ := w
              refine v_callSp dX11_at_84 ml_X11_266 (sp_X8_xOf (a := v14) q25) rfl rfl (Nat.le_of_ble_eq_true rfl) (Nat.le_of_ble_eq_true rfl) (Nat.zero_le _) (Nat.zero_le _) ?_
              refine v_goto (tgt := 95) dX11_at_87 (by decide) ?_
              exact v_iret dX11_at_95 rfl (Nat.zero_le _) (Nat.zero_le _) ⟨rfl, hf13, _, _, rfl, hp12, w⟩
          · replace w := w.2 c22
            refine v_aload_n dX11_at_66 rfl ?_
            refine v_get dX11_at_67 fl_X11_43 ((hp12 0 (by decide)).trans (ent_0 _)) rfl (s_lt hn rfl) ?_
            refine v_iload_n dX11_at_70 rfl ?_
            refine v_iload_n dX11_at_71 rfl ?_
            refine v_iload dX11_at_72 rfl ?_
            refine v_callVIw dX11_at_74 ml_X11_263 (so_X0_hindrance hK hn hp12 (Fr.trans hf9 hf13) w) ((hp12 44 (by decide)).trans (ent_44 _)) rfl (s_lt hn rfl) rfl rfl (Nat.le_of_ble_eq_true rfl) (Nat.le_of_ble_eq_true rfl) (Nat.zero_le _) (Nat.zero_le _) (fun v26 X27 h28 hp30 hf29 w => ?_)
            have hf31 := Fr.trans hf13 hf29
            exact v_iret dX11_at_77 rfl (Nat.zero_le _) (Nat.zero_le _) ⟨rfl, hf31, _, _, rfl, hp30, w⟩
        · replace w := w.2 c21
          refine v_sipushI dX11_at_57 rfl ?_
          exact v_iret dX11_at_60 rfl (Nat.zero_le _) (Nat.zero_le _) ⟨rfl, hf13, _, _, rfl, hp12, w⟩
      · replace w := w.2 c7
        refine v_sipushI dX11_at_27 rfl ?_
        exact v_iret dX11_at_30 rfl (Nat.zero_le _) (Nat.zero_le _) ⟨rfl, hf, _, _, rfl, hp, w⟩
theorem dX11_dark_0 : decode cX11_dark 0 = .ok (.iload_n 1, 1) := by decide +kernel
theorem dX11_dark_1 : decode cX11_dark 1 = .ok (.invokestatic 185, 3) := by decide +kernel
theorem dX11_dark_4 : decode cX11_dark 4 = .ok (.ifCond .ne 5, 3) := by decide +kernel
theorem dX11_dark_7 : decode cX11_dark 7 = .ok (.iconst (-1), 1) := by decide +kernel
theorem dX11_dark_8 : decode cX11_dark 8 = .ok (.ireturn, 1) := by decide +kernel
theorem dX11_dark_9 : decode cX11_dark 9 = .ok (.aload_n 0, 1) := by decide +kernel
theorem dX11_dark_10 : decode cX11_dark 10 = .ok (.getfield 52, 3) := by decide +kernel
theorem dX11_dark_13 : decode cX11_dark 13 = .ok (.invokevirtual 245, 3) := by decide +kernel
theorem dX11_dark_16 : decode cX11_dark 16 = .ok (.iconst 0, 1) := by decide +kernel
theorem dX11_dark_17 : decode cX11_dark 17 = .ok (.istore_n 2, 1) := by decide +kernel
theorem dX11_dark_18 : decode cX11_dark 18 = .ok (.iconst 0, 1) := by decide +kernel
theorem dX11_dark_19 : decode cX11_dark 19 = .ok (.istore_n 3, 1) := by decide +kernel
theorem dX11_dark_20 : decode cX11_dark 20 = .ok (.iload_n 3, 1) := by decide +kernel
theorem dX11_dark_21 : decode cX11_dark 21 = .ok (.bipush 64, 2) := by decide +kernel
theorem dX11_dark_23 : decode cX11_dark 23 = .ok (.if_icmp .ge 24, 3) := by decide +kernel
theorem dX11_dark_26 : decode cX11_dark 26 = .ok (.aload_n 0, 1) := by decide +kernel
theorem dX11_dark_27 : decode cX11_dark 27 = .ok (.getfield 52, 3) := by decide +kernel
theorem dX11_dark_30 : decode cX11_dark 30 = .ok (.iload_n 3, 1) := by decide +kernel
theorem dX11_dark_31 : decode cX11_dark 31 = .ok (.iload_n 1, 1) := by decide +kernel
theorem dX11_dark_32 : decode cX11_dark 32 = .ok (.invokevirtual 248, 3) := by decide +kernel
theorem dX11_dark_35 : decode cX11_dark 35 = .ok (.ifCond .le 6, 3) := by decide +kernel
theorem dX11_dark_38 : decode cX11_dark 38 = .ok (.iinc 2 1, 3) := by decide +kernel
theorem dX11_dark_41 : decode cX11_dark 41 = .ok (.iinc 3 1, 3) := by decide +kernel
theorem dX11_dark_44 : decode cX11_dark 44 = .ok (.goto (-24), 3) := by decide +kernel
theorem dX11_dark_47 : decode cX11_dark 47 = .ok (.iload_n 2, 1) := by decide +kernel
theorem dX11_dark_48 : decode cX11_dark 48 = .ok (.ireturn, 1) := by decide +kernel
def w_X11_dark (K : LK) (a0 : Int) (X : XT) (Q : Int → XT → Prop) : Prop :=
  R32 a0 ∧ ((0 ≤ a0 ∧ a0 ≤ 11) → w_X8_look K 50 51  X (fun (X4 : XT) => ∃ (I11 : Int → Int → Prop) (m12 : Int → Int → Nat), I11 0 0 ∧ ∀ (x9 : Int) (x10 : Int), I11 x9 x10 → R32 x10 ∧ (64 ≤ x10 → Q x9 X4) ∧ (¬ 64 ≤ x10 → w_X8_shadeOf 50 51 x10 a0 X4 (fun (v22 : Int) => R32 v22 ∧ (v22 ≤ 0 → I11 x9 (x10 + 1) ∧ m12 x9 (x10 + 1) < m12 x9 x10) ∧ (¬ v22 ≤ 0 → I11 (x9 + 1) (x10 + 1) ∧ m12 (x9 + 1) (x10 + 1) < m12 x9 x10))))) ∧ (¬ (0 ≤ a0 ∧ a0 ≤ 11) → Q (-1) X)
set_option maxRecDepth 20000 in
theorem so_X11_dark {n : Nat} {h : Nat → sE} {X : XT} {K : LK} {hk : Nat → sE} (hK : LKok K n hk) {a0 : Int} {Q : Int → XT → Prop} (hn : 115 ≤ n) (hp : Pic X h) (hf9 : Fr hk h) (w : w_X11_dark K  a0 X Q) : Sp m_X11_dark 6 0 0 [.ref 0, .int (iI a0)] n h (pIw n h Q) := by
  unfold w_X11_dark at w
  refine Sp.ofV (by decide +kernel) (Nat.le_of_ble_eq_true rfl) ?_
  have hf : Fr h h := fun _ _ => rfl
  refine v_iload_n dX11_dark_0 rfl ?_
  obtain ⟨q1, w⟩ := w
  refine v_callSp dX11_dark_1 ml_X11_185 (sp_X11_isHour (a := a0) q1) rfl rfl (Nat.le_of_ble_eq_true rfl) (Nat.le_of_ble_eq_true rfl) (Nat.zero_le _) (Nat.zero_le _) ?_
  refine v_ifneB (tgt := 9) dX11_dark_4 (by decide) (fun c2 => ?_) (fun c2 => ?_)
  · replace w := w.1 c2
    refine v_aload_n dX11_dark_9 rfl ?_
    refine v_get dX11_dark_10 fl_X11_52 ((hp 0 (by decide)).trans (ent_0 _)) rfl (s_lt hn rfl) ?_
    refine v_callVVw dX11_dark_13 ml_X11_245 (so_X8_look_49 hK hn hp (Fr.trans hf9 hf) w) ((hp 49 (by decide)).trans (ent_49 _)) rfl (s_lt hn rfl) rfl rfl (Nat.le_of_ble_eq_true rfl) (Nat.le_of_ble_eq_true rfl) (Nat.zero_le _) (Nat.zero_le _) (fun X4 h5 hp7 hf6 w => ?_)
    have hf8 := Fr.trans hf hf6
    refine v_iconstI dX11_dark_16 ?_
    refine v_istore_n dX11_dark_17 (Nat.le_of_ble_eq_true rfl) ?_
    refine v_iconstI dX11_dark_18 ?_
    refine v_istore_n dX11_dark_19 (Nat.le_of_ble_eq_true rfl) ?_
    refine v_pick [2, 3, 1, 0] rfl ?_
    obtain ⟨I11, m12, wi15, wl14⟩ := w
    have hL16 : ∀ (N19 : Nat) (x9 : Int) (x10 : Int), m12 x9 x10 < N19 → I11 x9 x10 → V (m_X11_dark, 6, 0, 0, n, pIw n h Q, s_G0) 0 0 n h5 20 [(0, .ref 0), (1, .int (iI a0)), (2, .int (iI x9)), (3, .int (iI x10))] [] := by
      intro N19
      induction N19 with
      | zero => intro x9 x10  hm17; exact absurd hm17 (Nat.not_lt_zero _)
      | succ N19 ih13 =>
        intro x9 x10  hm17 hI18
        have w := wl14 x9 x10 hI18
        refine v_iload_n dX11_dark_20 rfl ?_
        refine v_bipushI dX11_dark_21 rfl ?_
        obtain ⟨q20, w⟩ := w
        refine v_icmp_geI (tgt := 47) dX11_dark_23 (by decide) q20.1 q20.2 (by decide) (by decide) (fun c21 => ?_) (fun c21 => ?_)
        · replace w := w.1 c21
          refine v_iload_n dX11_dark_47 rfl ?_
          exact v_iret dX11_dark_48 rfl (Nat.zero_le _) (Nat.zero_le _) ⟨rfl, hf8, _, _, rfl, hp7, w⟩
        · replace w := w.2 c21
          refine v_aload_n dX11_dark_26 rfl ?_
          refine v_get dX11_dark_27 fl_X11_52 ((hp7 0 (by decide)).trans (ent_0 _)) rfl (s_lt hn rfl) ?_
          refine v_iload_n dX11_dark_30 rfl ?_
          refine v_iload_n dX11_dark_31 rfl ?_
          refine v_callVIr dX11_dark_32 ml_X11_248 (so_X8_shadeOf_49 hn hp7  w) ((hp7 49 (by decide)).trans (ent_49 _)) rfl (s_lt hn rfl) rfl rfl (Nat.le_of_ble_eq_true rfl) (Nat.le_of_ble_eq_true rfl) (Nat.zero_le _) (Nat.zero_le _) (fun v22 w => ?_)
          obtain ⟨q28, w⟩ := w
          refine v_if_leI (tgt := 41) dX11_dark_35 (by decide) q28.1 q28.2 (fun c29 => ?_) (fun c29 => ?_)
          · replace w := w.1 c29
            refine v_iincI dX11_dark_41 rfl (Nat.le_of_ble_eq_true rfl) ?_
            refine v_goto (tgt := 20) dX11_dark_44 (by decide) ?_
            refine v_pick [1, 2, 3, 0] rfl ?_
            exact ih13 _ _ (Nat.lt_of_lt_of_le w.2 (Nat.le_of_lt_succ hm17)) w.1
          · replace w := w.2 c29
            refine v_iincI dX11_dark_38 rfl (Nat.le_of_ble_eq_true rfl) ?_
            refine v_iincI dX11_dark_41 rfl (Nat.le_of_ble_eq_true rfl) ?_
            refine v_goto (tgt := 20) dX11_dark_44 (by decide) ?_
            refine v_pick [2, 3, 1, 0] rfl ?_
            exact ih13 _ _ (Nat.lt_of_lt_of_le w.2 (Nat.le_of_lt_succ hm17)) w.1
    exact hL16 _ _ _ (Nat.lt_succ_self _) wi15
  · replace w := w.2 c2
    refine v_iconstI dX11_dark_7 ?_
    exact v_iret dX11_dark_8 rfl (Nat.zero_le _) (Nat.zero_le _) ⟨rfl, hf, _, _, rfl, hp, w⟩
theorem dX9_begin_0 : decode cX9_begin 0 = .ok (.iconst 0, 1) := by decide +kernel
theorem dX9_begin_1 : decode cX9_begin 1 = .ok (.istore_n 1, 1) := by decide +kernel
theorem dX9_begin_2 : decode cX9_begin 2 = .ok (.iload_n 1, 1) := by decide +kernel
theorem dX9_begin_3 : decode cX9_begin 3 = .ok (.aload_n 0, 1) := by decide +kernel
theorem dX9_begin_4 : decode cX9_begin 4 = .ok (.getfield 13, 3) := by decide +kernel
theorem dX9_begin_7 : decode cX9_begin 7 = .ok (.arraylength, 1) := by decide +kernel
theorem dX9_begin_8 : decode cX9_begin 8 = .ok (.if_icmp .ge 17, 3) := by decide +kernel
theorem dX9_begin_11 : decode cX9_begin 11 = .ok (.aload_n 0, 1) := by decide +kernel
theorem dX9_begin_12 : decode cX9_begin 12 = .ok (.getfield 13, 3) := by decide +kernel
theorem dX9_begin_15 : decode cX9_begin 15 = .ok (.iload_n 1, 1) := by decide +kernel
theorem dX9_begin_16 : decode cX9_begin 16 = .ok (.ldc 45, 2) := by decide +kernel
theorem dX9_begin_18 : decode cX9_begin 18 = .ok (.iastore, 1) := by decide +kernel
theorem dX9_begin_19 : decode cX9_begin 19 = .ok (.iinc 1 1, 3) := by decide +kernel
theorem dX9_begin_22 : decode cX9_begin 22 = .ok (.goto (-20), 3) := by decide +kernel
theorem dX9_begin_25 : decode cX9_begin 25 = .ok (.return_, 1) := by decide +kernel
def w_X9_begin (X : XT) (Q : XT → Prop) : Prop :=
  ∃ (I3 : Int → XT → Prop) (m4 : Int → XT → Nat), I3 0 X ∧ ∀ (x1 : Int) (X2 : XT), I3 x1 X2 → R32 x1 ∧ (4608 ≤ x1 → Q X2) ∧ (¬ 4608 ≤ x1 → (0 ≤ x1 ∧ x1 < 4608) ∧ I3 (x1 + 1) (x_st X2 53 x1 (-2147483648)) ∧ m4 (x1 + 1) (x_st X2 53 x1 (-2147483648)) < m4 x1 X2)
set_option maxRecDepth 20000 in
theorem so_X9_begin {n : Nat} {h : Nat → sE} {X : XT} {Q : XT → Prop} (hn : 115 ≤ n) (hp : Pic X h) (w : w_X9_begin   X Q) : Sp m_X9_begin 0 0 0 [.ref 52] n h (pVw n h Q) := by
  unfold w_X9_begin at w
  refine Sp.ofV (by decide +kernel) (Nat.le_of_ble_eq_true rfl) ?_
  have hf : Fr h h := fun _ _ => rfl
  refine v_iconstI dX9_begin_0 ?_
  refine v_istore_n dX9_begin_1 (Nat.le_of_ble_eq_true rfl) ?_
  refine v_pick [1, 0] rfl ?_
  obtain ⟨I3, m4, wi7, wl6⟩ := w
  have hL8 : ∀ (N11 : Nat) (x1 : Int) (X2 : XT) (h12 : Nat → sE), m4 x1 X2 < N11 → I3 x1 X2 → Pic X2 h12 → Fr h h12 → V (m_X9_begin, 0, 0, 0, n, pVw n h Q, s_G0) 0 0 n h12 2 [(0, .ref 52), (1, .int (iI x1))] [] := by
    intro N11
    induction N11 with
    | zero => intro x1 X2 h12 hm9; exact absurd hm9 (Nat.not_lt_zero _)
    | succ N11 ih5 =>
      intro x1 X2 h12 hm9 hI10 hp13 hf14
      have w := wl6 x1 X2 hI10
      refine v_iload_n dX9_begin_2 rfl ?_
      refine v_aload_n dX9_begin_3 rfl ?_
      refine v_get dX9_begin_4 fl_X9_13 ((hp13 52 (by decide)).trans (ent_52 _)) rfl (s_lt hn rfl) ?_
      refine v_alen_aI dX9_begin_7 ((hp13 53 (by decide)).trans (ent_53 _)) (s_lt hn rfl) ?_
      obtain ⟨q15, w⟩ := w
      refine v_icmp_geI (tgt := 25) dX9_begin_8 (by decide) q15.1 q15.2 (by decide) (by decide) (fun c16 => ?_) (fun c16 => ?_)
      · replace w := w.1 c16
        exact v_vret dX9_begin_25 rfl (Nat.zero_le _) (Nat.zero_le _) ⟨rfl, hf14, _, rfl, hp13, w⟩
      · replace w := w.2 c16
        refine v_aload_n dX9_begin_11 rfl ?_
        refine v_get dX9_begin_12 fl_X9_13 ((hp13 52 (by decide)).trans (ent_52 _)) rfl (s_lt hn rfl) ?_
        refine v_iload_n dX9_begin_15 rfl ?_
        refine v_ldcI (-2147483648) dX9_begin_16 k_X9_45 rfl ?_
        obtain ⟨q17, w⟩ := w
        refine v_iastI dX9_begin_18 ((hp13 53 (by decide)).trans (ent_53 _)) (s_lt hn rfl) q17.1 q17.2 (ix_le q17.2 (by decide)) (fun h18 E19 F20 => ?_)
        have hp21 := pic_st hp13 (show h18 53 = ent 53 (uI _ x1 (-2147483648)) from E19) F20
        have hf22 := Fr.up (c := 53) hf14 F20 rfl
        refine v_iincI dX9_begin_19 rfl (Nat.le_of_ble_eq_true rfl) ?_
        refine v_goto (tgt := 2) dX9_begin_22 (by decide) ?_
        refine v_pick [1, 0] rfl ?_
        exact ih5 _ _ _ (Nat.lt_of_lt_of_le w.2 (Nat.le_of_lt_succ hm9)) w.1 hp21 hf22
  exact hL8 _ _ _ _ (Nat.lt_succ_self _) wi7 hp hf
theorem dX9_changeOf_0 : decode cX9_changeOf 0 = .ok (.aload_n 1, 1) := by decide +kernel
theorem dX9_changeOf_1 : decode cX9_changeOf 1 = .ok (.iload_n 2, 1) := by decide +kernel
theorem dX9_changeOf_2 : decode cX9_changeOf 2 = .ok (.iload_n 3, 1) := by decide +kernel
theorem dX9_changeOf_3 : decode cX9_changeOf 3 = .ok (.invokevirtual 61, 3) := by decide +kernel
theorem dX9_changeOf_6 : decode cX9_changeOf 6 = .ok (.istore 4, 2) := by decide +kernel
theorem dX9_changeOf_8 : decode cX9_changeOf 8 = .ok (.iload_n 3, 1) := by decide +kernel
theorem dX9_changeOf_9 : decode cX9_changeOf 9 = .ok (.bipush 64, 2) := by decide +kernel
theorem dX9_changeOf_11 : decode cX9_changeOf 11 = .ok (.imul, 1) := by decide +kernel
theorem dX9_changeOf_12 : decode cX9_changeOf 12 = .ok (.iload_n 2, 1) := by decide +kernel
theorem dX9_changeOf_13 : decode cX9_changeOf 13 = .ok (.iadd, 1) := by decide +kernel
theorem dX9_changeOf_14 : decode cX9_changeOf 14 = .ok (.bipush 6, 2) := by decide +kernel
theorem dX9_changeOf_16 : decode cX9_changeOf 16 = .ok (.imul, 1) := by decide +kernel
theorem dX9_changeOf_17 : decode cX9_changeOf 17 = .ok (.iload 4, 2) := by decide +kernel
theorem dX9_changeOf_19 : decode cX9_changeOf 19 = .ok (.iadd, 1) := by decide +kernel
theorem dX9_changeOf_20 : decode cX9_changeOf 20 = .ok (.istore 5, 2) := by decide +kernel
theorem dX9_changeOf_22 : decode cX9_changeOf 22 = .ok (.iload 5, 2) := by decide +kernel
theorem dX9_changeOf_24 : decode cX9_changeOf 24 = .ok (.ifCond .lt 13, 3) := by decide +kernel
theorem dX9_changeOf_27 : decode cX9_changeOf 27 = .ok (.iload 5, 2) := by decide +kernel
theorem dX9_changeOf_29 : decode cX9_changeOf 29 = .ok (.aload_n 0, 1) := by decide +kernel
theorem dX9_changeOf_30 : decode cX9_changeOf 30 = .ok (.getfield 13, 3) := by decide +kernel
theorem dX9_changeOf_33 : decode cX9_changeOf 33 = .ok (.arraylength, 1) := by decide +kernel
theorem dX9_changeOf_34 : decode cX9_changeOf 34 = .ok (.if_icmp .lt 5, 3) := by decide +kernel
theorem dX9_changeOf_37 : decode cX9_changeOf 37 = .ok (.iconst 0, 1) := by decide +kernel
theorem dX9_changeOf_38 : decode cX9_changeOf 38 = .ok (.ireturn, 1) := by decide +kernel
theorem dX9_changeOf_39 : decode cX9_changeOf 39 = .ok (.aload_n 0, 1) := by decide +kernel
theorem dX9_changeOf_40 : decode cX9_changeOf 40 = .ok (.getfield 13, 3) := by decide +kernel
theorem dX9_changeOf_43 : decode cX9_changeOf 43 = .ok (.iload 5, 2) := by decide +kernel
theorem dX9_changeOf_45 : decode cX9_changeOf 45 = .ok (.iaload, 1) := by decide +kernel
theorem dX9_changeOf_46 : decode cX9_changeOf 46 = .ok (.ldc 45, 2) := by decide +kernel
theorem dX9_changeOf_48 : decode cX9_changeOf 48 = .ok (.if_icmp .ne 45, 3) := by decide +kernel
theorem dX9_changeOf_51 : decode cX9_changeOf 51 = .ok (.iload 4, 2) := by decide +kernel
theorem dX9_changeOf_53 : decode cX9_changeOf 53 = .ok (.ifCond .ne 17, 3) := by decide +kernel
theorem dX9_changeOf_56 : decode cX9_changeOf 56 = .ok (.aload_n 0, 1) := by decide +kernel
theorem dX9_changeOf_57 : decode cX9_changeOf 57 = .ok (.getfield 32, 3) := by decide +kernel
theorem dX9_changeOf_60 : decode cX9_changeOf 60 = .ok (.iload_n 2, 1) := by decide +kernel
theorem dX9_changeOf_61 : decode cX9_changeOf 61 = .ok (.iload_n 3, 1) := by decide +kernel
theorem dX9_changeOf_62 : decode cX9_changeOf 62 = .ok (.iload 4, 2) := by decide +kernel
theorem dX9_changeOf_64 : decode cX9_changeOf 64 = .ok (.invokevirtual 64, 3) := by decide +kernel
theorem dX9_changeOf_67 : decode cX9_changeOf 67 = .ok (.goto 15, 3) := by decide +kernel
theorem dX9_changeOf_70 : decode cX9_changeOf 70 = .ok (.aload_n 0, 1) := by decide +kernel
theorem dX9_changeOf_71 : decode cX9_changeOf 71 = .ok (.getfield 32, 3) := by decide +kernel
theorem dX9_changeOf_74 : decode cX9_changeOf 74 = .ok (.iload_n 2, 1) := by decide +kernel
theorem dX9_changeOf_75 : decode cX9_changeOf 75 = .ok (.iload_n 3, 1) := by decide +kernel
theorem dX9_changeOf_76 : decode cX9_changeOf 76 = .ok (.iload 4, 2) := by decide +kernel
theorem dX9_changeOf_78 : decode cX9_changeOf 78 = .ok (.invokevirtual 70, 3) := by decide +kernel
theorem dX9_changeOf_81 : decode cX9_changeOf 81 = .ok (.ineg, 1) := by decide +kernel
theorem dX9_changeOf_82 : decode cX9_changeOf 82 = .ok (.istore 6, 2) := by decide +kernel
theorem dX9_changeOf_84 : decode cX9_changeOf 84 = .ok (.aload_n 0, 1) := by decide +kernel
theorem dX9_changeOf_85 : decode cX9_changeOf 85 = .ok (.getfield 13, 3) := by decide +kernel
theorem dX9_changeOf_88 : decode cX9_changeOf 88 = .ok (.iload 5, 2) := by decide +kernel
theorem dX9_changeOf_90 : decode cX9_changeOf 90 = .ok (.iload 6, 2) := by decide +kernel
theorem dX9_changeOf_92 : decode cX9_changeOf 92 = .ok (.iastore, 1) := by decide +kernel
theorem dX9_changeOf_93 : decode cX9_changeOf 93 = .ok (.aload_n 0, 1) := by decide +kernel
theorem dX9_changeOf_94 : decode cX9_changeOf 94 = .ok (.getfield 13, 3) := by decide +kernel
theorem dX9_changeOf_97 : decode cX9_changeOf 97 = .ok (.iload 5, 2) := by decide +kernel
theorem dX9_changeOf_99 : decode cX9_changeOf 99 = .ok (.iaload, 1) := by decide +kernel
theorem dX9_changeOf_100 : decode cX9_changeOf 100 = .ok (.ireturn, 1) := by decide +kernel
def w_X9_changeOf (K : LK) (ta sb : Nat) (a1 a2 : Int) (X : XT) (Q : Int → XT → Prop) : Prop :=
  w_X8_shadeOf ta sb a1 a2 X (fun (v1 : Int) => R32 ((((a2 * 64) + a1) * 6) + v1) ∧ (((((a2 * 64) + a1) * 6) + v1) < 0 → Q 0 X) ∧ (¬ ((((a2 * 64) + a1) * 6) + v1) < 0 → (((((a2 * 64) + a1) * 6) + v1) < 4608 → (0 ≤ ((((a2 * 64) + a1) * 6) + v1) ∧ ((((a2 * 64) + a1) * 6) + v1) < 4608) ∧ R32 (X 53 ((((a2 * 64) + a1) * 6) + v1)) ∧ (¬ (X 53 ((((a2 * 64) + a1) * 6) + v1)) = (-2147483648) → Q (X 53 ((((a2 * 64) + a1) * 6) + v1)) X) ∧ ((X 53 ((((a2 * 64) + a1) * 6) + v1)) = (-2147483648) → ∀ J15 : Int → XT → Prop, (∀ (v13 : Int) (X14 : XT), (Q ((x_st X14 53 ((((a2 * 64) + a1) * 6) + v1) v13) 53 ((((a2 * 64) + a1) * 6) + v1)) (x_st X14 53 ((((a2 * 64) + a1) * 6) + v1) v13)) → J15 v13 X14) → R32 v1 ∧ (¬ v1 = 0 → w_X0_coolsBy K  a1 a2 v1 X (fun (v26 : Int) (X27 : XT) => J15 (-v26) X27)) ∧ (v1 = 0 → w_X0_heatsBy K  a1 a2 v1 X (fun (v32 : Int) (X33 : XT) => J15 v32 X33)))) ∧ (¬ ((((a2 * 64) + a1) * 6) + v1) < 4608 → Q 0 X)))
set_option maxRecDepth 20000 in
theorem so_X9_changeOf_49 {n : Nat} {h : Nat → sE} {X : XT} {K : LK} {hk : Nat → sE} (hK : LKok K n hk) {a1 a2 : Int} {Q : Int → XT → Prop} (hn : 115 ≤ n) (hp : Pic X h) (hf9 : Fr hk h) (w : w_X9_changeOf K 50 51 a1 a2 X Q) : Sp m_X9_changeOf 5 0 0 [.ref 52, .ref 49, .int (iI a1), .int (iI a2)] n h (pIw n h Q) := by
  unfold w_X9_changeOf at w
  refine Sp.ofV (by decide +kernel) (Nat.le_of_ble_eq_true rfl) ?_
  have hf : Fr h h := fun _ _ => rfl
  refine v_aload_n dX9_changeOf_0 rfl ?_
  refine v_iload_n dX9_changeOf_1 rfl ?_
  refine v_iload_n dX9_changeOf_2 rfl ?_
  refine v_callVIr dX9_changeOf_3 ml_X9_61 (so_X8_shadeOf_49 hn hp  w) ((hp 49 (by decide)).trans (ent_49 _)) rfl (s_lt hn rfl) rfl rfl (Nat.le_of_ble_eq_true rfl) (Nat.le_of_ble_eq_true rfl) (Nat.zero_le _) (Nat.zero_le _) (fun v1 w => ?_)
  refine v_istore dX9_changeOf_6 (Nat.le_of_ble_eq_true rfl) ?_
  refine v_iload_n dX9_changeOf_8 rfl ?_
  refine v_bipushI dX9_changeOf_9 rfl ?_
  refine v_imulI dX9_changeOf_11 ?_
  refine v_iload_n dX9_changeOf_12 rfl ?_
  refine v_iaddI dX9_changeOf_13 ?_
  refine v_bipushI dX9_changeOf_14 rfl ?_
  refine v_imulI dX9_changeOf_16 ?_
  refine v_iload dX9_changeOf_17 rfl ?_
  refine v_iaddI dX9_changeOf_19 ?_
  refine v_istore dX9_changeOf_20 (Nat.le_of_ble_eq_true rfl) ?_
  refine v_iload dX9_changeOf_22 rfl ?_
  obtain ⟨q7, w⟩ := w
  refine v_if_ltI (tgt := 37) dX9_changeOf_24 (by decide) q7.1 q7.2 (fun c8 => ?_) (fun c8 => ?_)
  · replace w := w.1 c8
    refine v_iconstI dX9_changeOf_37 ?_
    exact v_iret dX9_changeOf_38 rfl (Nat.zero_le _) (Nat.zero_le _) ⟨rfl, hf, _, _, rfl, hp, w⟩
  · replace w := w.2 c8
    refine v_iload dX9_changeOf_27 rfl ?_
    refine v_aload_n dX9_changeOf_29 rfl ?_
    refine v_get dX9_changeOf_30 fl_X9_13 ((hp 52 (by decide)).trans (ent_52 _)) rfl (s_lt hn rfl) ?_
    refine v_alen_aI dX9_changeOf_33 ((hp 53 (by decide)).trans (ent_53 _)) (s_lt hn rfl) ?_
    refine v_icmp_ltI (tgt := 39) dX9_changeOf_34 (by decide) q7.1 q7.2 (by decide) (by decide) (fun c9 => ?_) (fun c9 => ?_)
    · replace w := w.1 c9
      refine v_aload_n dX9_changeOf_39 rfl ?_
      refine v_get dX9_changeOf_40 fl_X9_13 ((hp 52 (by decide)).trans (ent_52 _)) rfl (s_lt hn rfl) ?_
      refine v_iload dX9_changeOf_43 rfl ?_
      obtain ⟨q10, w⟩ := w
      refine v_ialdI dX9_changeOf_45 ((hp 53 (by decide)).trans (ent_53 _)) (s_lt hn rfl) q10.1 q10.2 (ix_le q10.2 (by decide)) ?_
      refine v_ldcI (-2147483648) dX9_changeOf_46 k_X9_45 rfl ?_
      obtain ⟨q11, w⟩ := w
      refine v_icmp_neI (tgt := 93) dX9_changeOf_48 (by decide) q11.1 q11.2 (by decide) (by decide) (fun c12 => ?_) (fun c12 => ?_)
      · replace w := w.1 c12
        refine v_aload_n dX9_changeOf_93 rfl ?_
        refine v_get dX9_changeOf_94 fl_X9_13 ((hp 52 (by decide)).trans (ent_52 _)) rfl (s_lt hn rfl) ?_
        refine v_iload dX9_changeOf_97 rfl ?_
        refine v_ialdI dX9_changeOf_99 ((hp 53 (by decide)).trans (ent_53 _)) (s_lt hn rfl) q10.1 q10.2 (ix_le q10.2 (by decide)) ?_
        exact v_iret dX9_changeOf_100 rfl (Nat.zero_le _) (Nat.zero_le _) ⟨rfl, hf, _, _, rfl, hp, w⟩
      · replace w := w.2 c12
        refine v_iload dX9_changeOf_51 rfl ?_
        replace w := w (fun (v13 : Int) (X14 : XT) => ∀ h18 : Nat → sE, Pic X14 h18 → Fr h h18 → V (m_X9_changeOf, 5, 0, 0, n, pIw n h Q, s_G0) 0 0 n h18 82 [(0, .ref 52), (5, .int (iI ((((a2 * 64) + a1) * 6) + v1)))] [.int (iI v13)]) (by
          intro v13 X14 w h18 hp16 hf17
          refine v_istore dX9_changeOf_82 (Nat.le_of_ble_eq_true rfl) ?_
          refine v_aload_n dX9_changeOf_84 rfl ?_
          refine v_get dX9_changeOf_85 fl_X9_13 ((hp16 52 (by decide)).trans (ent_52 _)) rfl (s_lt hn rfl) ?_
          refine v_iload dX9_changeOf_88 rfl ?_
          refine v_iload dX9_changeOf_90 rfl ?_
          refine v_iastI dX9_changeOf_92 ((hp16 53 (by decide)).trans (ent_53 _)) (s_lt hn rfl) q10.1 q10.2 (ix_le q10.2 (by decide)) (fun h19 E20 F21 => ?_)
          have hp22 := pic_st hp16 (show h19 53 = ent 53 (uI _ ((((a2 * 64) + a1) * 6) + v1) v13) from E20) F21
          have hf23 := Fr.up (c := 53) hf17 F21 rfl
          refine v_aload_n dX9_changeOf_93 rfl ?_
          refine v_get dX9_changeOf_94 fl_X9_13 ((hp22 52 (by decide)).trans (ent_52 _)) rfl (s_lt hn rfl) ?_
          refine v_iload dX9_changeOf_97 rfl ?_
          refine v_ialdI dX9_changeOf_99 ((hp22 53 (by decide)).trans (ent_53 _)) (s_lt hn rfl) q10.1 q10.2 (ix_le q10.2 (by decide)) ?_
          exact v_iret dX9_changeOf_100 rfl (Nat.zero_le _) (Nat.zero_le _) ⟨rfl, hf23, _, _, rfl, hp22, w⟩
        )
        obtain ⟨q24, w⟩ := w
        refine v_if_neI (tgt := 70) dX9_changeOf_53 (by decide) q24.1 q24.2 (fun c25 => ?_) (fun c25 => ?_)
        · replace w := w.1 c25
          refine v_aload_n dX9_changeOf_70 rfl ?_
          refine v_get dX9_changeOf_71 fl_X9_32 ((hp 52 (by decide)).trans (ent_52 _)) rfl (s_lt hn rfl) ?_
          refine v_iload_n dX9_changeOf_74 rfl ?_
          refine v_iload_n dX9_changeOf_75 rfl ?_
          refine v_iload dX9_changeOf_76 rfl ?_
          refine v_callVIw dX9_changeOf_78 ml_X9_70 (so_X0_coolsBy hK hn hp (Fr.trans hf9 hf) w) ((hp 44 (by decide)).trans (ent_44 _)) rfl (s_lt hn rfl) rfl rfl (Nat.le_of_ble_eq_true rfl) (Nat.le_of_ble_eq_true rfl) (Nat.zero_le _) (Nat.zero_le _) (fun v26 X27 h28 hp30 hf29 w => ?_)
          have hf31 := Fr.trans hf hf29
          refine v_inegI dX9_changeOf_81 ?_
          refine v_pick [2, 0] rfl ?_
          exact w _ hp30 hf31
        · replace w := w.2 c25
          refine v_aload_n dX9_changeOf_56 rfl ?_
          refine v_get dX9_changeOf_57 fl_X9_32 ((hp 52 (by decide)).trans (ent_52 _)) rfl (s_lt hn rfl) ?_
          refine v_iload_n dX9_changeOf_60 rfl ?_
          refine v_iload_n dX9_changeOf_61 rfl ?_
          refine v_iload dX9_changeOf_62 rfl ?_
          refine v_callVIw dX9_changeOf_64 ml_X9_64 (so_X0_heatsBy hK hn hp (Fr.trans hf9 hf) w) ((hp 44 (by decide)).trans (ent_44 _)) rfl (s_lt hn rfl) rfl rfl (Nat.le_of_ble_eq_true rfl) (Nat.le_of_ble_eq_true rfl) (Nat.zero_le _) (Nat.zero_le _) (fun v32 X33 h34 hp36 hf35 w => ?_)
          have hf37 := Fr.trans hf hf35
          refine v_goto (tgt := 82) dX9_changeOf_67 (by decide) ?_
          refine v_pick [2, 0] rfl ?_
          exact w _ hp36 hf37
    · replace w := w.2 c9
      refine v_iconstI dX9_changeOf_37 ?_
      exact v_iret dX9_changeOf_38 rfl (Nat.zero_le _) (Nat.zero_le _) ⟨rfl, hf, _, _, rfl, hp, w⟩
theorem dX9_heatOf_0 : decode cX9_heatOf 0 = .ok (.aload_n 0, 1) := by decide +kernel
theorem dX9_heatOf_1 : decode cX9_heatOf 1 = .ok (.getfield 28, 3) := by decide +kernel
theorem dX9_heatOf_4 : decode cX9_heatOf 4 = .ok (.iload_n 2, 1) := by decide +kernel
theorem dX9_heatOf_5 : decode cX9_heatOf 5 = .ok (.iconst 0, 1) := by decide +kernel
theorem dX9_heatOf_6 : decode cX9_heatOf 6 = .ok (.invokevirtual 46, 3) := by decide +kernel
theorem dX9_heatOf_9 : decode cX9_heatOf 9 = .ok (.istore 4, 2) := by decide +kernel
theorem dX9_heatOf_11 : decode cX9_heatOf 11 = .ok (.iconst 0, 1) := by decide +kernel
theorem dX9_heatOf_12 : decode cX9_heatOf 12 = .ok (.istore 5, 2) := by decide +kernel
theorem dX9_heatOf_14 : decode cX9_heatOf 14 = .ok (.iload 5, 2) := by decide +kernel
theorem dX9_heatOf_16 : decode cX9_heatOf 16 = .ok (.bipush 12, 2) := by decide +kernel
theorem dX9_heatOf_18 : decode cX9_heatOf 18 = .ok (.if_icmp .ge 32, 3) := by decide +kernel
theorem dX9_heatOf_21 : decode cX9_heatOf 21 = .ok (.iload 5, 2) := by decide +kernel
theorem dX9_heatOf_23 : decode cX9_heatOf 23 = .ok (.iload_n 3, 1) := by decide +kernel
theorem dX9_heatOf_24 : decode cX9_heatOf 24 = .ok (.if_icmp .ge 26, 3) := by decide +kernel
theorem dX9_heatOf_27 : decode cX9_heatOf 27 = .ok (.iconst 0, 1) := by decide +kernel
theorem dX9_heatOf_28 : decode cX9_heatOf 28 = .ok (.iload 4, 2) := by decide +kernel
theorem dX9_heatOf_30 : decode cX9_heatOf 30 = .ok (.aload_n 0, 1) := by decide +kernel
theorem dX9_heatOf_31 : decode cX9_heatOf 31 = .ok (.aload_n 1, 1) := by decide +kernel
theorem dX9_heatOf_32 : decode cX9_heatOf 32 = .ok (.iload_n 2, 1) := by decide +kernel
theorem dX9_heatOf_33 : decode cX9_heatOf 33 = .ok (.iload 5, 2) := by decide +kernel
theorem dX9_heatOf_35 : decode cX9_heatOf 35 = .ok (.invokevirtual 52, 3) := by decide +kernel
theorem dX9_heatOf_38 : decode cX9_heatOf 38 = .ok (.iadd, 1) := by decide +kernel
theorem dX9_heatOf_39 : decode cX9_heatOf 39 = .ok (.invokestatic 56, 3) := by decide +kernel
theorem dX9_heatOf_42 : decode cX9_heatOf 42 = .ok (.istore 4, 2) := by decide +kernel
theorem dX9_heatOf_44 : decode cX9_heatOf 44 = .ok (.iinc 5 1, 3) := by decide +kernel
theorem dX9_heatOf_47 : decode cX9_heatOf 47 = .ok (.goto (-33), 3) := by decide +kernel
theorem dX9_heatOf_50 : decode cX9_heatOf 50 = .ok (.iload 4, 2) := by decide +kernel
theorem dX9_heatOf_52 : decode cX9_heatOf 52 = .ok (.ireturn, 1) := by decide +kernel
def w_X9_heatOf (K : LK) (ta sb : Nat) (a1 a2 : Int) (X : XT) (Q : Int → XT → Prop) : Prop :=
  (0 ≤ a1 ∧ a1 ≤ 63) ∧ ∃ (I5 : Int → Int → XT → Prop) (m6 : Int → Int → XT → Nat), I5 (X 2 (0 * 64 + a1)) 0 X ∧ ∀ (x2 : Int) (x3 : Int) (X4 : XT), I5 x2 x3 X4 → R32 x3 ∧ (12 ≤ x3 → Q x2 X4) ∧ (¬ 12 ≤ x3 → R32 a2 ∧ (a2 ≤ x3 → Q x2 X4) ∧ (¬ a2 ≤ x3 → w_X9_changeOf K ta sb a1 x3 X4 (fun (v21 : Int) (X22 : XT) => R32 (x2 + v21) ∧ I5 (max 0 (x2 + v21)) (x3 + 1) X22 ∧ m6 (max 0 (x2 + v21)) (x3 + 1) X22 < m6 x2 x3 X4)))
set_option maxRecDepth 20000 in
theorem so_X9_heatOf_49 {n : Nat} {h : Nat → sE} {X : XT} {K : LK} {hk : Nat → sE} (hK : LKok K n hk) {a1 a2 : Int} {Q : Int → XT → Prop} (hn : 115 ≤ n) (hp : Pic X h) (hf9 : Fr hk h) (w : w_X9_heatOf K 50 51 a1 a2 X Q) : Sp m_X9_heatOf 6 0 0 [.ref 52, .ref 49, .int (iI a1), .int (iI a2)] n h (pIw n h Q) := by
  unfold w_X9_heatOf at w
  refine Sp.ofV (by decide +kernel) (Nat.le_of_ble_eq_true rfl) ?_
  have hf : Fr h h := fun _ _ => rfl
  refine v_aload_n dX9_heatOf_0 rfl ?_
  refine v_get dX9_heatOf_1 fl_X9_28 ((hp 52 (by decide)).trans (ent_52 _)) rfl (s_lt hn rfl) ?_
  refine v_iload_n dX9_heatOf_4 rfl ?_
  refine v_iconstI dX9_heatOf_5 ?_
  obtain ⟨q1, w⟩ := w
  refine v_callVp dX9_heatOf_6 ml_X9_46 (sv_X3_fieldFact (a := a1) (b := 0) (g1 := X 1) (g2 := X 2) hn (hp 1 (by decide)) (hp 2 (by decide)) q1 (by decide)) ((hp 1 (by decide)).trans (ent_1 _)) rfl (s_lt hn rfl) rfl rfl (Nat.le_of_ble_eq_true rfl) (Nat.le_of_ble_eq_true rfl) (Nat.zero_le _) (Nat.zero_le _) ?_
  refine v_istore dX9_heatOf_9 (Nat.le_of_ble_eq_true rfl) ?_
  refine v_iconstI dX9_heatOf_11 ?_
  refine v_istore dX9_heatOf_12 (Nat.le_of_ble_eq_true rfl) ?_
  refine v_pick [2, 3, 4, 5, 1, 0] rfl ?_
  obtain ⟨I5, m6, wi9, wl8⟩ := w
  have hL10 : ∀ (N13 : Nat) (x2 : Int) (x3 : Int) (X4 : XT) (h14 : Nat → sE), m6 x2 x3 X4 < N13 → I5 x2 x3 X4 → Pic X4 h14 → Fr h h14 → V (m_X9_heatOf, 6, 0, 0, n, pIw n h Q, s_G0) 0 0 n h14 14 [(0, .ref 52), (1, .ref 49), (2, .int (iI a1)), (3, .int (iI a2)), (4, .int (iI x2)), (5, .int (iI x3))] [] := by
    intro N13
    induction N13 with
    | zero => intro x2 x3 X4 h14 hm11; exact absurd hm11 (Nat.not_lt_zero _)
    | succ N13 ih7 =>
      intro x2 x3 X4 h14 hm11 hI12 hp15 hf16
      have w := wl8 x2 x3 X4 hI12
      refine v_iload dX9_heatOf_14 rfl ?_
      refine v_bipushI dX9_heatOf_16 rfl ?_
      obtain ⟨q17, w⟩ := w
      refine v_icmp_geI (tgt := 50) dX9_heatOf_18 (by decide) q17.1 q17.2 (by decide) (by decide) (fun c18 => ?_) (fun c18 => ?_)
      · replace w := w.1 c18
        refine v_iload dX9_heatOf_50 rfl ?_
        exact v_iret dX9_heatOf_52 rfl (Nat.zero_le _) (Nat.zero_le _) ⟨rfl, hf16, _, _, rfl, hp15, w⟩
      · replace w := w.2 c18
        refine v_iload dX9_heatOf_21 rfl ?_
        refine v_iload_n dX9_heatOf_23 rfl ?_
        obtain ⟨q19, w⟩ := w
        refine v_icmp_geI (tgt := 50) dX9_heatOf_24 (by decide) q17.1 q17.2 q19.1 q19.2 (fun c20 => ?_) (fun c20 => ?_)
        · replace w := w.1 c20
          refine v_iload dX9_heatOf_50 rfl ?_
          exact v_iret dX9_heatOf_52 rfl (Nat.zero_le _) (Nat.zero_le _) ⟨rfl, hf16, _, _, rfl, hp15, w⟩
        · replace w := w.2 c20
          refine v_iconstI dX9_heatOf_27 ?_
          refine v_iload dX9_heatOf_28 rfl ?_
          refine v_aload_n dX9_heatOf_30 rfl ?_
          refine v_aload_n dX9_heatOf_31 rfl ?_
          refine v_iload_n dX9_heatOf_32 rfl ?_
          refine v_iload dX9_heatOf_33 rfl ?_
          refine v_callVIw dX9_heatOf_35 ml_X9_52 (so_X9_changeOf_49 hK hn hp15 (Fr.trans hf9 hf16) w) ((hp15 52 (by decide)).trans (ent_52 _)) rfl (s_lt hn rfl) rfl rfl (Nat.le_of_ble_eq_true rfl) (Nat.le_of_ble_eq_true rfl) (Nat.zero_le _) (Nat.zero_le _) (fun v21 X22 h23 hp25 hf24 w => ?_)
          have hf26 := Fr.trans hf16 hf24
          refine v_iaddI dX9_heatOf_38 ?_
          obtain ⟨q27, w⟩ := w
          refine v_maxI dX9_heatOf_39 ml_X9_56 (Nat.le_of_ble_eq_true rfl) (Nat.le_of_ble_eq_true rfl) (Nat.zero_le _) (Nat.zero_le _) (by decide) (by decide) q27.1 q27.2 ?_
          refine v_istore dX9_heatOf_42 (Nat.le_of_ble_eq_true rfl) ?_
          refine v_iincI dX9_heatOf_44 rfl (Nat.le_of_ble_eq_true rfl) ?_
          refine v_goto (tgt := 14) dX9_heatOf_47 (by decide) ?_
          refine v_pick [2, 3, 4, 5, 1, 0] rfl ?_
          exact ih7 _ _ _ _ (Nat.lt_of_lt_of_le w.2 (Nat.le_of_lt_succ hm11)) w.1 hp25 hf26
  exact hL10 _ _ _ _ _ (Nat.lt_succ_self _) wi9 hp hf
theorem dX11_heat_0 : decode cX11_heat 0 = .ok (.iload_n 1, 1) := by decide +kernel
theorem dX11_heat_1 : decode cX11_heat 1 = .ok (.iconst 0, 1) := by decide +kernel
theorem dX11_heat_2 : decode cX11_heat 2 = .ok (.bipush 63, 2) := by decide +kernel
theorem dX11_heat_4 : decode cX11_heat 4 = .ok (.invokestatic 115, 3) := by decide +kernel
theorem dX11_heat_7 : decode cX11_heat 7 = .ok (.ifCond .eq 13, 3) := by decide +kernel
theorem dX11_heat_10 : decode cX11_heat 10 = .ok (.iload_n 2, 1) := by decide +kernel
theorem dX11_heat_11 : decode cX11_heat 11 = .ok (.iconst 0, 1) := by decide +kernel
theorem dX11_heat_12 : decode cX11_heat 12 = .ok (.bipush 12, 2) := by decide +kernel
theorem dX11_heat_14 : decode cX11_heat 14 = .ok (.invokestatic 115, 3) := by decide +kernel
theorem dX11_heat_17 : decode cX11_heat 17 = .ok (.ifCond .ne 5, 3) := by decide +kernel
theorem dX11_heat_20 : decode cX11_heat 20 = .ok (.iconst (-1), 1) := by decide +kernel
theorem dX11_heat_21 : decode cX11_heat 21 = .ok (.ireturn, 1) := by decide +kernel
theorem dX11_heat_22 : decode cX11_heat 22 = .ok (.aload_n 0, 1) := by decide +kernel
theorem dX11_heat_23 : decode cX11_heat 23 = .ok (.getfield 52, 3) := by decide +kernel
theorem dX11_heat_26 : decode cX11_heat 26 = .ok (.invokevirtual 245, 3) := by decide +kernel
theorem dX11_heat_29 : decode cX11_heat 29 = .ok (.aload_n 0, 1) := by decide +kernel
theorem dX11_heat_30 : decode cX11_heat 30 = .ok (.getfield 59, 3) := by decide +kernel
theorem dX11_heat_33 : decode cX11_heat 33 = .ok (.invokevirtual 272, 3) := by decide +kernel
theorem dX11_heat_36 : decode cX11_heat 36 = .ok (.aload_n 0, 1) := by decide +kernel
theorem dX11_heat_37 : decode cX11_heat 37 = .ok (.getfield 59, 3) := by decide +kernel
theorem dX11_heat_40 : decode cX11_heat 40 = .ok (.aload_n 0, 1) := by decide +kernel
theorem dX11_heat_41 : decode cX11_heat 41 = .ok (.getfield 52, 3) := by decide +kernel
theorem dX11_heat_44 : decode cX11_heat 44 = .ok (.iload_n 1, 1) := by decide +kernel
theorem dX11_heat_45 : decode cX11_heat 45 = .ok (.iload_n 2, 1) := by decide +kernel
theorem dX11_heat_46 : decode cX11_heat 46 = .ok (.invokevirtual 275, 3) := by decide +kernel
theorem dX11_heat_49 : decode cX11_heat 49 = .ok (.ireturn, 1) := by decide +kernel
def w_X11_heat (K : LK) (a0 a1 : Int) (X : XT) (Q : Int → XT → Prop) : Prop :=
  R32 a0 ∧ (¬ (0 ≤ a0 ∧ a0 ≤ 63) → Q (-1) X) ∧ ((0 ≤ a0 ∧ a0 ≤ 63) → R32 a1 ∧ ((0 ≤ a1 ∧ a1 ≤ 12) → w_X8_look K 50 51  X (fun (X6 : XT) => w_X9_begin   X6 (fun (X12 : XT) => w_X9_heatOf K 50 51 a0 a1 X12 (fun (v17 : Int) (X18 : XT) => Q v17 X18)))) ∧ (¬ (0 ≤ a1 ∧ a1 ≤ 12) → Q (-1) X))
set_option maxRecDepth 20000 in
theorem so_X11_heat {n : Nat} {h : Nat → sE} {X : XT} {K : LK} {hk : Nat → sE} (hK : LKok K n hk) {a0 a1 : Int} {Q : Int → XT → Prop} (hn : 115 ≤ n) (hp : Pic X h) (hf9 : Fr hk h) (w : w_X11_heat K  a0 a1 X Q) : Sp m_X11_heat 7 0 0 [.ref 0, .int (iI a0), .int (iI a1)] n h (pIw n h Q) := by
  unfold w_X11_heat at w
  refine Sp.ofV (by decide +kernel) (Nat.le_of_ble_eq_true rfl) ?_
  have hf : Fr h h := fun _ _ => rfl
  refine v_iload_n dX11_heat_0 rfl ?_
  refine v_iconstI dX11_heat_1 ?_
  refine v_bipushI dX11_heat_2 rfl ?_
  obtain ⟨q1, w⟩ := w
  refine v_callSp dX11_heat_4 ml_X11_115 (sp_X11_within (a := a0) (b := 0) (c := 63) q1 (by decide) (by decide)) rfl rfl (Nat.le_of_ble_eq_true rfl) (Nat.le_of_ble_eq_true rfl) (Nat.zero_le _) (Nat.zero_le _) ?_
  refine v_ifeqB (tgt := 20) dX11_heat_7 (by decide) (fun c2 => ?_) (fun c2 => ?_)
  · replace w := w.1 c2
    refine v_iconstI dX11_heat_20 ?_
    exact v_iret dX11_heat_21 rfl (Nat.zero_le _) (Nat.zero_le _) ⟨rfl, hf, _, _, rfl, hp, w⟩
  · replace w := w.2 c2
    refine v_iload_n dX11_heat_10 rfl ?_
    refine v_iconstI dX11_heat_11 ?_
    refine v_bipushI dX11_heat_12 rfl ?_
    obtain ⟨q3, w⟩ := w
    refine v_callSp dX11_heat_14 ml_X11_115 (sp_X11_within (a := a1) (b := 0) (c := 12) q3 (by decide) (by decide)) rfl rfl (Nat.le_of_ble_eq_true rfl) (Nat.le_of_ble_eq_true rfl) (Nat.zero_le _) (Nat.zero_le _) ?_
    refine v_ifneB (tgt := 22) dX11_heat_17 (by decide) (fun c4 => ?_) (fun c4 => ?_)
    · replace w := w.1 c4
      refine v_aload_n dX11_heat_22 rfl ?_
      refine v_get dX11_heat_23 fl_X11_52 ((hp 0 (by decide)).trans (ent_0 _)) rfl (s_lt hn rfl) ?_
      refine v_callVVw dX11_heat_26 ml_X11_245 (so_X8_look_49 hK hn hp (Fr.trans hf9 hf) w) ((hp 49 (by decide)).trans (ent_49 _)) rfl (s_lt hn rfl) rfl rfl (Nat.le_of_ble_eq_true rfl) (Nat.le_of_ble_eq_true rfl) (Nat.zero_le _) (Nat.zero_le _) (fun X6 h7 hp9 hf8 w => ?_)
      have hf10 := Fr.trans hf hf8
      refine v_aload_n dX11_heat_29 rfl ?_
      refine v_get dX11_heat_30 fl_X11_59 ((hp9 0 (by decide)).trans (ent_0 _)) rfl (s_lt hn rfl) ?_
      refine v_callVVw dX11_heat_33 ml_X11_272 (so_X9_begin hn hp9  w) ((hp9 52 (by decide)).trans (ent_52 _)) rfl (s_lt hn rfl) rfl rfl (Nat.le_of_ble_eq_true rfl) (Nat.le_of_ble_eq_true rfl) (Nat.zero_le _) (Nat.zero_le _) (fun X12 h13 hp15 hf14 w => ?_)
      have hf16 := Fr.trans hf10 hf14
      refine v_aload_n dX11_heat_36 rfl ?_
      refine v_get dX11_heat_37 fl_X11_59 ((hp15 0 (by decide)).trans (ent_0 _)) rfl (s_lt hn rfl) ?_
      refine v_aload_n dX11_heat_40 rfl ?_
      refine v_get dX11_heat_41 fl_X11_52 ((hp15 0 (by decide)).trans (ent_0 _)) rfl (s_lt hn rfl) ?_
      refine v_iload_n dX11_heat_44 rfl ?_
      refine v_iload_n dX11_heat_45 rfl ?_
      refine v_callVIw dX11_heat_46 ml_X11_275 (so_X9_heatOf_49 hK hn hp15 (Fr.trans hf9 hf16) w) ((hp15 52 (by decide)).trans (ent_52 _)) rfl (s_lt hn rfl) rfl rfl (Nat.le_of_ble_eq_true rfl) (Nat.le_of_ble_eq_true rfl) (Nat.zero_le _) (Nat.zero_le _) (fun v17 X18 h19 hp21 hf20 w => ?_)
      have hf22 := Fr.trans hf16 hf20
      exact v_iret dX11_heat_49 rfl (Nat.zero_le _) (Nat.zero_le _) ⟨rfl, hf22, _, _, rfl, hp21, w⟩
    · replace w := w.2 c4
      refine v_iconstI dX11_heat_20 ?_
      exact v_iret dX11_heat_21 rfl (Nat.zero_le _) (Nat.zero_le _) ⟨rfl, hf, _, _, rfl, hp, w⟩
theorem dX9_isScorched_0 : decode cX9_isScorched 0 = .ok (.aload_n 0, 1) := by decide +kernel
theorem dX9_isScorched_1 : decode cX9_isScorched 1 = .ok (.getfield 28, 3) := by decide +kernel
theorem dX9_isScorched_4 : decode cX9_isScorched 4 = .ok (.iload_n 2, 1) := by decide +kernel
theorem dX9_isScorched_5 : decode cX9_isScorched 5 = .ok (.iconst 1, 1) := by decide +kernel
theorem dX9_isScorched_6 : decode cX9_isScorched 6 = .ok (.invokevirtual 46, 3) := by decide +kernel
theorem dX9_isScorched_9 : decode cX9_isScorched 9 = .ok (.istore_n 3, 1) := by decide +kernel
theorem dX9_isScorched_10 : decode cX9_isScorched 10 = .ok (.aload_n 0, 1) := by decide +kernel
theorem dX9_isScorched_11 : decode cX9_isScorched 11 = .ok (.getfield 28, 3) := by decide +kernel
theorem dX9_isScorched_14 : decode cX9_isScorched 14 = .ok (.iload_n 2, 1) := by decide +kernel
theorem dX9_isScorched_15 : decode cX9_isScorched 15 = .ok (.iconst 0, 1) := by decide +kernel
theorem dX9_isScorched_16 : decode cX9_isScorched 16 = .ok (.invokevirtual 46, 3) := by decide +kernel
theorem dX9_isScorched_19 : decode cX9_isScorched 19 = .ok (.istore 4, 2) := by decide +kernel
theorem dX9_isScorched_21 : decode cX9_isScorched 21 = .ok (.iconst 0, 1) := by decide +kernel
theorem dX9_isScorched_22 : decode cX9_isScorched 22 = .ok (.istore 5, 2) := by decide +kernel
theorem dX9_isScorched_24 : decode cX9_isScorched 24 = .ok (.iload 5, 2) := by decide +kernel
theorem dX9_isScorched_26 : decode cX9_isScorched 26 = .ok (.bipush 12, 2) := by decide +kernel
theorem dX9_isScorched_28 : decode cX9_isScorched 28 = .ok (.if_icmp .ge 32, 3) := by decide +kernel
theorem dX9_isScorched_31 : decode cX9_isScorched 31 = .ok (.iload 4, 2) := by decide +kernel
theorem dX9_isScorched_33 : decode cX9_isScorched 33 = .ok (.iload_n 3, 1) := by decide +kernel
theorem dX9_isScorched_34 : decode cX9_isScorched 34 = .ok (.if_icmp .gt 26, 3) := by decide +kernel
theorem dX9_isScorched_37 : decode cX9_isScorched 37 = .ok (.iconst 0, 1) := by decide +kernel
theorem dX9_isScorched_38 : decode cX9_isScorched 38 = .ok (.iload 4, 2) := by decide +kernel
theorem dX9_isScorched_40 : decode cX9_isScorched 40 = .ok (.aload_n 0, 1) := by decide +kernel
theorem dX9_isScorched_41 : decode cX9_isScorched 41 = .ok (.aload_n 1, 1) := by decide +kernel
theorem dX9_isScorched_42 : decode cX9_isScorched 42 = .ok (.iload_n 2, 1) := by decide +kernel
theorem dX9_isScorched_43 : decode cX9_isScorched 43 = .ok (.iload 5, 2) := by decide +kernel
theorem dX9_isScorched_45 : decode cX9_isScorched 45 = .ok (.invokevirtual 52, 3) := by decide +kernel
theorem dX9_isScorched_48 : decode cX9_isScorched 48 = .ok (.iadd, 1) := by decide +kernel
theorem dX9_isScorched_49 : decode cX9_isScorched 49 = .ok (.invokestatic 56, 3) := by decide +kernel
theorem dX9_isScorched_52 : decode cX9_isScorched 52 = .ok (.istore 4, 2) := by decide +kernel
theorem dX9_isScorched_54 : decode cX9_isScorched 54 = .ok (.iinc 5 1, 3) := by decide +kernel
theorem dX9_isScorched_57 : decode cX9_isScorched 57 = .ok (.goto (-33), 3) := by decide +kernel
theorem dX9_isScorched_60 : decode cX9_isScorched 60 = .ok (.iload 4, 2) := by decide +kernel
theorem dX9_isScorched_62 : decode cX9_isScorched 62 = .ok (.iload_n 3, 1) := by decide +kernel
theorem dX9_isScorched_63 : decode cX9_isScorched 63 = .ok (.if_icmp .le 7, 3) := by decide +kernel
theorem dX9_isScorched_66 : decode cX9_isScorched 66 = .ok (.iconst 1, 1) := by decide +kernel
theorem dX9_isScorched_67 : decode cX9_isScorched 67 = .ok (.goto 4, 3) := by decide +kernel
theorem dX9_isScorched_70 : decode cX9_isScorched 70 = .ok (.iconst 0, 1) := by decide +kernel
theorem dX9_isScorched_71 : decode cX9_isScorched 71 = .ok (.ireturn, 1) := by decide +kernel
def w_X9_isScorched (K : LK) (ta sb : Nat) (a1 : Int) (X : XT) (Q : Int → XT → Prop) : Prop :=
  (0 ≤ a1 ∧ a1 ≤ 63) ∧ ∃ (I5 : Int → Int → XT → Prop) (m6 : Int → Int → XT → Nat), I5 (X 2 (0 * 64 + a1)) 0 X ∧ ∀ (x2 : Int) (x3 : Int) (X4 : XT), I5 x2 x3 X4 → ∀ J17 : Prop, ((R32 x2 ∧ R32 (X 2 (1 * 64 + a1)) ∧ (x2 ≤ (X 2 (1 * 64 + a1)) → Q 0 X4) ∧ (¬ x2 ≤ (X 2 (1 * 64 + a1)) → Q 1 X4)) → J17) → R32 x3 ∧ (12 ≤ x3 → J17 ) ∧ (¬ 12 ≤ x3 → R32 x2 ∧ R32 (X 2 (1 * 64 + a1)) ∧ ((X 2 (1 * 64 + a1)) < x2 → J17 ) ∧ (¬ (X 2 (1 * 64 + a1)) < x2 → w_X9_changeOf K ta sb a1 x3 X4 (fun (v26 : Int) (X27 : XT) => R32 (x2 + v26) ∧ I5 (max 0 (x2 + v26)) (x3 + 1) X27 ∧ m6 (max 0 (x2 + v26)) (x3 + 1) X27 < m6 x2 x3 X4)))
set_option maxRecDepth 20000 in
theorem so_X9_isScorched_49 {n : Nat} {h : Nat → sE} {X : XT} {K : LK} {hk : Nat → sE} (hK : LKok K n hk) {a1 : Int} {Q : Int → XT → Prop} (hn : 115 ≤ n) (hp : Pic X h) (hf9 : Fr hk h) (w : w_X9_isScorched K 50 51 a1 X Q) : Sp m_X9_isScorched 6 0 0 [.ref 52, .ref 49, .int (iI a1)] n h (pIw n h Q) := by
  unfold w_X9_isScorched at w
  refine Sp.ofV (by decide +kernel) (Nat.le_of_ble_eq_true rfl) ?_
  have hf : Fr h h := fun _ _ => rfl
  refine v_aload_n dX9_isScorched_0 rfl ?_
  refine v_get dX9_isScorched_1 fl_X9_28 ((hp 52 (by decide)).trans (ent_52 _)) rfl (s_lt hn rfl) ?_
  refine v_iload_n dX9_isScorched_4 rfl ?_
  refine v_iconstI dX9_isScorched_5 ?_
  obtain ⟨q1, w⟩ := w
  refine v_callVp dX9_isScorched_6 ml_X9_46 (sv_X3_fieldFact (a := a1) (b := 1) (g1 := X 1) (g2 := X 2) hn (hp 1 (by decide)) (hp 2 (by decide)) q1 (by decide)) ((hp 1 (by decide)).trans (ent_1 _)) rfl (s_lt hn rfl) rfl rfl (Nat.le_of_ble_eq_true rfl) (Nat.le_of_ble_eq_true rfl) (Nat.zero_le _) (Nat.zero_le _) ?_
  refine v_istore_n dX9_isScorched_9 (Nat.le_of_ble_eq_true rfl) ?_
  refine v_aload_n dX9_isScorched_10 rfl ?_
  refine v_get dX9_isScorched_11 fl_X9_28 ((hp 52 (by decide)).trans (ent_52 _)) rfl (s_lt hn rfl) ?_
  refine v_iload_n dX9_isScorched_14 rfl ?_
  refine v_iconstI dX9_isScorched_15 ?_
  refine v_callVp dX9_isScorched_16 ml_X9_46 (sv_X3_fieldFact (a := a1) (b := 0) (g1 := X 1) (g2 := X 2) hn (hp 1 (by decide)) (hp 2 (by decide)) q1 (by decide)) ((hp 1 (by decide)).trans (ent_1 _)) rfl (s_lt hn rfl) rfl rfl (Nat.le_of_ble_eq_true rfl) (Nat.le_of_ble_eq_true rfl) (Nat.zero_le _) (Nat.zero_le _) ?_
  refine v_istore dX9_isScorched_19 (Nat.le_of_ble_eq_true rfl) ?_
  refine v_iconstI dX9_isScorched_21 ?_
  refine v_istore dX9_isScorched_22 (Nat.le_of_ble_eq_true rfl) ?_
  refine v_pick [3, 4, 5, 2, 1, 0] rfl ?_
  obtain ⟨I5, m6, wi9, wl8⟩ := w
  have hL10 : ∀ (N13 : Nat) (x2 : Int) (x3 : Int) (X4 : XT) (h14 : Nat → sE), m6 x2 x3 X4 < N13 → I5 x2 x3 X4 → Pic X4 h14 → Fr h h14 → V (m_X9_isScorched, 6, 0, 0, n, pIw n h Q, s_G0) 0 0 n h14 24 [(0, .ref 52), (1, .ref 49), (2, .int (iI a1)), (3, .int (iI (X 2 (1 * 64 + a1)))), (4, .int (iI x2)), (5, .int (iI x3))] [] := by
    intro N13
    induction N13 with
    | zero => intro x2 x3 X4 h14 hm11; exact absurd hm11 (Nat.not_lt_zero _)
    | succ N13 ih7 =>
      intro x2 x3 X4 h14 hm11 hI12 hp15 hf16
      have w := wl8 x2 x3 X4 hI12
      refine v_iload dX9_isScorched_24 rfl ?_
      refine v_bipushI dX9_isScorched_26 rfl ?_
      replace w := w (V (m_X9_isScorched, 6, 0, 0, n, pIw n h Q, s_G0) 0 0 n h14 60 [(3, .int (iI (X 2 (1 * 64 + a1)))), (4, .int (iI x2))] []) (by
        intro  w
        refine v_iload dX9_isScorched_60 rfl ?_
        refine v_iload_n dX9_isScorched_62 rfl ?_
        obtain ⟨q18, q19, w⟩ := w
        refine v_icmp_leI (tgt := 70) dX9_isScorched_63 (by decide) q18.1 q18.2 q19.1 q19.2 (fun c20 => ?_) (fun c20 => ?_)
        · replace w := w.1 c20
          refine v_iconstI dX9_isScorched_70 ?_
          exact v_z0 dX9_isScorched_71 rfl (Nat.zero_le _) (Nat.zero_le _) ⟨rfl, hf16, _, _, rfl, hp15, w⟩
        · replace w := w.2 c20
          refine v_iconstI dX9_isScorched_66 ?_
          refine v_goto (tgt := 71) dX9_isScorched_67 (by decide) ?_
          exact v_z1 dX9_isScorched_71 rfl (Nat.zero_le _) (Nat.zero_le _) ⟨rfl, hf16, _, _, rfl, hp15, w⟩
      )
      obtain ⟨q21, w⟩ := w
      refine v_icmp_geI (tgt := 60) dX9_isScorched_28 (by decide) q21.1 q21.2 (by decide) (by decide) (fun c22 => ?_) (fun c22 => ?_)
      · replace w := w.1 c22
        refine v_pick [3, 4] rfl ?_
        exact w
      · replace w := w.2 c22
        refine v_iload dX9_isScorched_31 rfl ?_
        refine v_iload_n dX9_isScorched_33 rfl ?_
        obtain ⟨q23, q24, w⟩ := w
        refine v_icmp_gtI (tgt := 60) dX9_isScorched_34 (by decide) q23.1 q23.2 q24.1 q24.2 (fun c25 => ?_) (fun c25 => ?_)
        · replace w := w.1 c25
          refine v_pick [3, 4] rfl ?_
          exact w
        · replace w := w.2 c25
          refine v_iconstI dX9_isScorched_37 ?_
          refine v_iload dX9_isScorched_38 rfl ?_
          refine v_aload_n dX9_isScorched_40 rfl ?_
          refine v_aload_n dX9_isScorched_41 rfl ?_
          refine v_iload_n dX9_isScorched_42 rfl ?_
          refine v_iload dX9_isScorched_43 rfl ?_
          refine v_callVIw dX9_isScorched_45 ml_X9_52 (so_X9_changeOf_49 hK hn hp15 (Fr.trans hf9 hf16) w) ((hp15 52 (by decide)).trans (ent_52 _)) rfl (s_lt hn rfl) rfl rfl (Nat.le_of_ble_eq_true rfl) (Nat.le_of_ble_eq_true rfl) (Nat.zero_le _) (Nat.zero_le _) (fun v26 X27 h28 hp30 hf29 w => ?_)
          have hf31 := Fr.trans hf16 hf29
          refine v_iaddI dX9_isScorched_48 ?_
          obtain ⟨q32, w⟩ := w
          refine v_maxI dX9_isScorched_49 ml_X9_56 (Nat.le_of_ble_eq_true rfl) (Nat.le_of_ble_eq_true rfl) (Nat.zero_le _) (Nat.zero_le _) (by decide) (by decide) q32.1 q32.2 ?_
          refine v_istore dX9_isScorched_52 (Nat.le_of_ble_eq_true rfl) ?_
          refine v_iincI dX9_isScorched_54 rfl (Nat.le_of_ble_eq_true rfl) ?_
          refine v_goto (tgt := 24) dX9_isScorched_57 (by decide) ?_
          refine v_pick [2, 3, 4, 5, 1, 0] rfl ?_
          exact ih7 _ _ _ _ (Nat.lt_of_lt_of_le w.2 (Nat.le_of_lt_succ hm11)) w.1 hp30 hf31
  exact hL10 _ _ _ _ _ (Nat.lt_succ_self _) wi9 hp hf
theorem dX11_scorched_0 : decode cX11_scorched 0 = .ok (.iload_n 1, 1) := by decide +kernel
theorem dX11_scorched_1 : decode cX11_scorched 1 = .ok (.iconst (-1), 1) := by decide +kernel
theorem dX11_scorched_2 : decode cX11_scorched 2 = .ok (.if_icmp .ge 5, 3) := by decide +kernel
theorem dX11_scorched_5 : decode cX11_scorched 5 = .ok (.iconst (-1), 1) := by decide +kernel
theorem dX11_scorched_6 : decode cX11_scorched 6 = .ok (.ireturn, 1) := by decide +kernel
theorem dX11_scorched_7 : decode cX11_scorched 7 = .ok (.aload_n 0, 1) := by decide +kernel
theorem dX11_scorched_8 : decode cX11_scorched 8 = .ok (.getfield 52, 3) := by decide +kernel
theorem dX11_scorched_11 : decode cX11_scorched 11 = .ok (.invokevirtual 245, 3) := by decide +kernel
theorem dX11_scorched_14 : decode cX11_scorched 14 = .ok (.aload_n 0, 1) := by decide +kernel
theorem dX11_scorched_15 : decode cX11_scorched 15 = .ok (.getfield 59, 3) := by decide +kernel
theorem dX11_scorched_18 : decode cX11_scorched 18 = .ok (.invokevirtual 272, 3) := by decide +kernel
theorem dX11_scorched_21 : decode cX11_scorched 21 = .ok (.iconst 0, 1) := by decide +kernel
theorem dX11_scorched_22 : decode cX11_scorched 22 = .ok (.istore_n 2, 1) := by decide +kernel
theorem dX11_scorched_23 : decode cX11_scorched 23 = .ok (.iconst 0, 1) := by decide +kernel
theorem dX11_scorched_24 : decode cX11_scorched 24 = .ok (.istore_n 3, 1) := by decide +kernel
theorem dX11_scorched_25 : decode cX11_scorched 25 = .ok (.iload_n 3, 1) := by decide +kernel
theorem dX11_scorched_26 : decode cX11_scorched 26 = .ok (.bipush 64, 2) := by decide +kernel
theorem dX11_scorched_28 : decode cX11_scorched 28 = .ok (.if_icmp .ge 34, 3) := by decide +kernel
theorem dX11_scorched_31 : decode cX11_scorched 31 = .ok (.aload_n 0, 1) := by decide +kernel
theorem dX11_scorched_32 : decode cX11_scorched 32 = .ok (.getfield 59, 3) := by decide +kernel
theorem dX11_scorched_35 : decode cX11_scorched 35 = .ok (.aload_n 0, 1) := by decide +kernel
theorem dX11_scorched_36 : decode cX11_scorched 36 = .ok (.getfield 52, 3) := by decide +kernel
theorem dX11_scorched_39 : decode cX11_scorched 39 = .ok (.iload_n 3, 1) := by decide +kernel
theorem dX11_scorched_40 : decode cX11_scorched 40 = .ok (.invokevirtual 279, 3) := by decide +kernel
theorem dX11_scorched_43 : decode cX11_scorched 43 = .ok (.ifCond .eq 13, 3) := by decide +kernel
theorem dX11_scorched_46 : decode cX11_scorched 46 = .ok (.iload_n 2, 1) := by decide +kernel
theorem dX11_scorched_47 : decode cX11_scorched 47 = .ok (.iload_n 1, 1) := by decide +kernel
theorem dX11_scorched_48 : decode cX11_scorched 48 = .ok (.if_icmp .ne 5, 3) := by decide +kernel
theorem dX11_scorched_51 : decode cX11_scorched 51 = .ok (.iload_n 3, 1) := by decide +kernel
theorem dX11_scorched_52 : decode cX11_scorched 52 = .ok (.ireturn, 1) := by decide +kernel
theorem dX11_scorched_53 : decode cX11_scorched 53 = .ok (.iinc 2 1, 3) := by decide +kernel
theorem dX11_scorched_56 : decode cX11_scorched 56 = .ok (.iinc 3 1, 3) := by decide +kernel
theorem dX11_scorched_59 : decode cX11_scorched 59 = .ok (.goto (-34), 3) := by decide +kernel
theorem dX11_scorched_62 : decode cX11_scorched 62 = .ok (.iload_n 1, 1) := by decide +kernel
theorem dX11_scorched_63 : decode cX11_scorched 63 = .ok (.iconst (-1), 1) := by decide +kernel
theorem dX11_scorched_64 : decode cX11_scorched 64 = .ok (.if_icmp .ne 7, 3) := by decide +kernel
theorem dX11_scorched_67 : decode cX11_scorched 67 = .ok (.iload_n 2, 1) := by decide +kernel
theorem dX11_scorched_68 : decode cX11_scorched 68 = .ok (.goto 4, 3) := by decide +kernel
theorem dX11_scorched_71 : decode cX11_scorched 71 = .ok (.iconst (-1), 1) := by decide +kernel
theorem dX11_scorched_72 : decode cX11_scorched 72 = .ok (.ireturn, 1) := by decide +kernel
def w_X11_scorched (K : LK) (a0 : Int) (X : XT) (Q : Int → XT → Prop) : Prop :=
  R32 a0 ∧ ((-1) ≤ a0 → w_X8_look K 50 51  X (fun (X4 : XT) => w_X9_begin   X4 (fun (X10 : XT) => ∃ (I18 : Int → Int → XT → Prop) (m19 : Int → Int → XT → Nat), I18 0 0 X10 ∧ ∀ (x15 : Int) (x16 : Int) (X17 : XT), I18 x15 x16 X17 → R32 x16 ∧ (64 ≤ x16 → (¬ a0 = (-1) → Q (-1) X17) ∧ (a0 = (-1) → Q x15 X17)) ∧ (¬ 64 ≤ x16 → w_X9_isScorched K 50 51 x16 X17 (fun (v33 : Int) (X34 : XT) => R32 v33 ∧ (v33 = 0 → I18 x15 (x16 + 1) X34 ∧ m19 x15 (x16 + 1) X34 < m19 x15 x16 X17) ∧ (¬ v33 = 0 → R32 x15 ∧ (¬ x15 = a0 → I18 (x15 + 1) (x16 + 1) X34 ∧ m19 (x15 + 1) (x16 + 1) X34 < m19 x15 x16 X17) ∧ (x15 = a0 → Q x16 X34))))))) ∧ (¬ (-1) ≤ a0 → Q (-1) X)
set_option maxRecDepth 20000 in
theorem so_X11_scorched {n : Nat} {h : Nat → sE} {X : XT} {K : LK} {hk : Nat → sE} (hK : LKok K n hk) {a0 : Int} {Q : Int → XT → Prop} (hn : 115 ≤ n) (hp : Pic X h) (hf9 : Fr hk h) (w : w_X11_scorched K  a0 X Q) : Sp m_X11_scorched 7 0 0 [.ref 0, .int (iI a0)] n h (pIw n h Q) := by
  unfold w_X11_scorched at w
  refine Sp.ofV (by decide +kernel) (Nat.le_of_ble_eq_true rfl) ?_
  have hf : Fr h h := fun _ _ => rfl
  refine v_iload_n dX11_scorched_0 rfl ?_
  refine v_iconstI dX11_scorched_1 ?_
  obtain ⟨q1, w⟩ := w
  refine v_icmp_geI (tgt := 7) dX11_scorched_2 (by decide) q1.1 q1.2 (by decide) (by decide) (fun c2 => ?_) (fun c2 => ?_)
  · replace w := w.1 c2
    refine v_aload_n dX11_scorched_7 rfl ?_
    refine v_get dX11_scorched_8 fl_X11_52 ((hp 0 (by decide)).trans (ent_0 _)) rfl (s_lt hn rfl) ?_
    refine v_callVVw dX11_scorched_11 ml_X11_245 (so_X8_look_49 hK hn hp (Fr.trans hf9 hf) w) ((hp 49 (by decide)).trans (ent_49 _)) rfl (s_lt hn rfl) rfl rfl (Nat.le_of_ble_eq_true rfl) (Nat.le_of_ble_eq_true rfl) (Nat.zero_le _) (Nat.zero_le _) (fun X4 h5 hp7 hf6 w => ?_)
    have hf8 := Fr.trans hf hf6
    refine v_aload_n dX11_scorched_14 rfl ?_
    refine v_get dX11_scorched_15 fl_X11_59 ((hp7 0 (by decide)).trans (ent_0 _)) rfl (s_lt hn rfl) ?_
    refine v_callVVw dX11_scorched_18 ml_X11_272 (so_X9_begin hn hp7  w) ((hp7 52 (by decide)).trans (ent_52 _)) rfl (s_lt hn rfl) rfl rfl (Nat.le_of_ble_eq_true rfl) (Nat.le_of_ble_eq_true rfl) (Nat.zero_le _) (Nat.zero_le _) (fun X10 h11 hp13 hf12 w => ?_)
    have hf14 := Fr.trans hf8 hf12
    refine v_iconstI dX11_scorched_21 ?_
    refine v_istore_n dX11_scorched_22 (Nat.le_of_ble_eq_true rfl) ?_
    refine v_iconstI dX11_scorched_23 ?_
    refine v_istore_n dX11_scorched_24 (Nat.le_of_ble_eq_true rfl) ?_
    refine v_pick [2, 3, 1, 0] rfl ?_
    obtain ⟨I18, m19, wi22, wl21⟩ := w
    have hL23 : ∀ (N26 : Nat) (x15 : Int) (x16 : Int) (X17 : XT) (h27 : Nat → sE), m19 x15 x16 X17 < N26 → I18 x15 x16 X17 → Pic X17 h27 → Fr h h27 → V (m_X11_scorched, 7, 0, 0, n, pIw n h Q, s_G0) 0 0 n h27 25 [(0, .ref 0), (1, .int (iI a0)), (2, .int (iI x15)), (3, .int (iI x16))] [] := by
      intro N26
      induction N26 with
      | zero => intro x15 x16 X17 h27 hm24; exact absurd hm24 (Nat.not_lt_zero _)
      | succ N26 ih20 =>
        intro x15 x16 X17 h27 hm24 hI25 hp28 hf29
        have w := wl21 x15 x16 X17 hI25
        refine v_iload_n dX11_scorched_25 rfl ?_
        refine v_bipushI dX11_scorched_26 rfl ?_
        obtain ⟨q30, w⟩ := w
        refine v_icmp_geI (tgt := 62) dX11_scorched_28 (by decide) q30.1 q30.2 (by decide) (by decide) (fun c31 => ?_) (fun c31 => ?_)
        · replace w := w.1 c31
          refine v_iload_n dX11_scorched_62 rfl ?_
          refine v_iconstI dX11_scorched_63 ?_
          refine v_icmp_neI (tgt := 71) dX11_scorched_64 (by decide) q1.1 q1.2 (by decide) (by decide) (fun c32 => ?_) (fun c32 => ?_)
          · replace w := w.1 c32
            refine v_iconstI dX11_scorched_71 ?_
            exact v_iret dX11_scorched_72 rfl (Nat.zero_le _) (Nat.zero_le _) ⟨rfl, hf29, _, _, rfl, hp28, w⟩
          · replace w := w.2 c32
            refine v_iload_n dX11_scorched_67 rfl ?_
            refine v_goto (tgt := 72) dX11_scorched_68 (by decide) ?_
            exact v_iret dX11_scorched_72 rfl (Nat.zero_le _) (Nat.zero_le _) ⟨rfl, hf29, _, _, rfl, hp28, w⟩
        · replace w := w.2 c31
          refine v_aload_n dX11_scorched_31 rfl ?_
          refine v_get dX11_scorched_32 fl_X11_59 ((hp28 0 (by decide)).trans (ent_0 _)) rfl (s_lt hn rfl) ?_
          refine v_aload_n dX11_scorched_35 rfl ?_
          refine v_get dX11_scorched_36 fl_X11_52 ((hp28 0 (by decide)).trans (ent_0 _)) rfl (s_lt hn rfl) ?_
          refine v_iload_n dX11_scorched_39 rfl ?_
          refine v_callVIw dX11_scorched_40 ml_X11_279 (so_X9_isScorched_49 hK hn hp28 (Fr.trans hf9 hf29) w) ((hp28 52 (by decide)).trans (ent_52 _)) rfl (s_lt hn rfl) rfl rfl (Nat.le_of_ble_eq_true rfl) (Nat.le_of_ble_eq_true rfl) (Nat.zero_le _) (Nat.zero_le _) (fun v33 X34 h35 hp37 hf36 w => ?_)
          have hf38 := Fr.trans hf29 hf36
          obtain ⟨q39, w⟩ := w
          refine v_if_eqI (tgt := 56) dX11_scorched_43 (by decide) q39.1 q39.2 (fun c40 => ?_) (fun c40 => ?_)
          · replace w := w.1 c40
            refine v_iincI dX11_scorched_56 rfl (Nat.le_of_ble_eq_true rfl) ?_
            refine v_goto (tgt := 25) dX11_scorched_59 (by decide) ?_
            refine v_pick [1, 2, 3, 0] rfl ?_
            exact ih20 _ _ _ _ (Nat.lt_of_lt_of_le w.2 (Nat.le_of_lt_succ hm24)) w.1 hp37 hf38
          · replace w := w.2 c40
            refine v_iload_n dX11_scorched_46 rfl ?_
            refine v_iload_n dX11_scorched_47 rfl ?_
            obtain ⟨q41, w⟩ := w
            refine v_icmp_neI (tgt := 53) dX11_scorched_48 (by decide) q41.1 q41.2 q1.1 q1.2 (fun c42 => ?_) (fun c42 => ?_)
            · replace w := w.1 c42
              refine v_iincI dX11_scorched_53 rfl (Nat.le_of_ble_eq_true rfl) ?_
              refine v_iincI dX11_scorched_56 rfl (Nat.le_of_ble_eq_true rfl) ?_
              refine v_goto (tgt := 25) dX11_scorched_59 (by decide) ?_
              refine v_pick [2, 3, 1, 0] rfl ?_
              exact ih20 _ _ _ _ (Nat.lt_of_lt_of_le w.2 (Nat.le_of_lt_succ hm24)) w.1 hp37 hf38
            · replace w := w.2 c42
              refine v_iload_n dX11_scorched_51 rfl ?_
              exact v_iret dX11_scorched_52 rfl (Nat.zero_le _) (Nat.zero_le _) ⟨rfl, hf38, _, _, rfl, hp37, w⟩
    exact hL23 _ _ _ _ _ (Nat.lt_succ_self _) wi22 hp13 hf14
  · replace w := w.2 c2
    refine v_iconstI dX11_scorched_5 ?_
    exact v_iret dX11_scorched_6 rfl (Nat.zero_le _) (Nat.zero_le _) ⟨rfl, hf, _, _, rfl, hp, w⟩
theorem dX8_breakOf_0 : decode cX8_breakOf 0 = .ok (.aload_n 0, 1) := by decide +kernel
theorem dX8_breakOf_1 : decode cX8_breakOf 1 = .ok (.getfield 18, 3) := by decide +kernel
theorem dX8_breakOf_4 : decode cX8_breakOf 4 = .ok (.iload_n 1, 1) := by decide +kernel
theorem dX8_breakOf_5 : decode cX8_breakOf 5 = .ok (.iconst 0, 1) := by decide +kernel
theorem dX8_breakOf_6 : decode cX8_breakOf 6 = .ok (.invokevirtual 107, 3) := by decide +kernel
theorem dX8_breakOf_9 : decode cX8_breakOf 9 = .ok (.istore_n 2, 1) := by decide +kernel
theorem dX8_breakOf_10 : decode cX8_breakOf 10 = .ok (.aload_n 0, 1) := by decide +kernel
theorem dX8_breakOf_11 : decode cX8_breakOf 11 = .ok (.getfield 18, 3) := by decide +kernel
theorem dX8_breakOf_14 : decode cX8_breakOf 14 = .ok (.iload_n 1, 1) := by decide +kernel
theorem dX8_breakOf_15 : decode cX8_breakOf 15 = .ok (.iconst 3, 1) := by decide +kernel
theorem dX8_breakOf_16 : decode cX8_breakOf 16 = .ok (.invokevirtual 107, 3) := by decide +kernel
theorem dX8_breakOf_19 : decode cX8_breakOf 19 = .ok (.iconst 1, 1) := by decide +kernel
theorem dX8_breakOf_20 : decode cX8_breakOf 20 = .ok (.if_icmp .ne 7, 3) := by decide +kernel
theorem dX8_breakOf_23 : decode cX8_breakOf 23 = .ok (.iconst 1, 1) := by decide +kernel
theorem dX8_breakOf_24 : decode cX8_breakOf 24 = .ok (.goto 4, 3) := by decide +kernel
theorem dX8_breakOf_27 : decode cX8_breakOf 27 = .ok (.iconst 0, 1) := by decide +kernel
theorem dX8_breakOf_28 : decode cX8_breakOf 28 = .ok (.istore_n 3, 1) := by decide +kernel
theorem dX8_breakOf_29 : decode cX8_breakOf 29 = .ok (.aload_n 0, 1) := by decide +kernel
theorem dX8_breakOf_30 : decode cX8_breakOf 30 = .ok (.getfield 18, 3) := by decide +kernel
theorem dX8_breakOf_33 : decode cX8_breakOf 33 = .ok (.iload_n 1, 1) := by decide +kernel
theorem dX8_breakOf_34 : decode cX8_breakOf 34 = .ok (.iconst 2, 1) := by decide +kernel
theorem dX8_breakOf_35 : decode cX8_breakOf 35 = .ok (.invokevirtual 107, 3) := by decide +kernel
theorem dX8_breakOf_38 : decode cX8_breakOf 38 = .ok (.istore 4, 2) := by decide +kernel
theorem dX8_breakOf_40 : decode cX8_breakOf 40 = .ok (.aload_n 0, 1) := by decide +kernel
theorem dX8_breakOf_41 : decode cX8_breakOf 41 = .ok (.getfield 18, 3) := by decide +kernel
theorem dX8_breakOf_44 : decode cX8_breakOf 44 = .ok (.iload_n 1, 1) := by decide +kernel
theorem dX8_breakOf_45 : decode cX8_breakOf 45 = .ok (.iconst 1, 1) := by decide +kernel
theorem dX8_breakOf_46 : decode cX8_breakOf 46 = .ok (.invokevirtual 107, 3) := by decide +kernel
theorem dX8_breakOf_49 : decode cX8_breakOf 49 = .ok (.istore 5, 2) := by decide +kernel
theorem dX8_breakOf_51 : decode cX8_breakOf 51 = .ok (.iload 5, 2) := by decide +kernel
theorem dX8_breakOf_53 : decode cX8_breakOf 53 = .ok (.iload 4, 2) := by decide +kernel
theorem dX8_breakOf_55 : decode cX8_breakOf 55 = .ok (.if_icmp .gt 31, 3) := by decide +kernel
theorem dX8_breakOf_58 : decode cX8_breakOf 58 = .ok (.aload_n 0, 1) := by decide +kernel
theorem dX8_breakOf_59 : decode cX8_breakOf 59 = .ok (.iload_n 2, 1) := by decide +kernel
theorem dX8_breakOf_60 : decode cX8_breakOf 60 = .ok (.iload 5, 2) := by decide +kernel
theorem dX8_breakOf_62 : decode cX8_breakOf 62 = .ok (.invokevirtual 110, 3) := by decide +kernel
theorem dX8_breakOf_65 : decode cX8_breakOf 65 = .ok (.ifCond .le 7, 3) := by decide +kernel
theorem dX8_breakOf_68 : decode cX8_breakOf 68 = .ok (.iconst 1, 1) := by decide +kernel
theorem dX8_breakOf_69 : decode cX8_breakOf 69 = .ok (.goto 4, 3) := by decide +kernel
theorem dX8_breakOf_72 : decode cX8_breakOf 72 = .ok (.iconst 0, 1) := by decide +kernel
theorem dX8_breakOf_73 : decode cX8_breakOf 73 = .ok (.iload_n 3, 1) := by decide +kernel
theorem dX8_breakOf_74 : decode cX8_breakOf 74 = .ok (.if_icmp .eq 6, 3) := by decide +kernel
theorem dX8_breakOf_77 : decode cX8_breakOf 77 = .ok (.iload 5, 2) := by decide +kernel
theorem dX8_breakOf_79 : decode cX8_breakOf 79 = .ok (.ireturn, 1) := by decide +kernel
theorem dX8_breakOf_80 : decode cX8_breakOf 80 = .ok (.iinc 5 1, 3) := by decide +kernel
theorem dX8_breakOf_83 : decode cX8_breakOf 83 = .ok (.goto (-32), 3) := by decide +kernel
theorem dX8_breakOf_86 : decode cX8_breakOf 86 = .ok (.iconst (-1), 1) := by decide +kernel
theorem dX8_breakOf_87 : decode cX8_breakOf 87 = .ok (.ireturn, 1) := by decide +kernel
def w_X8_breakOf (ta sb : Nat) (a0 : Int) (X : XT) (Q : Int → Prop) : Prop :=
  (0 ≤ a0 ∧ a0 ≤ 7) ∧ ∀ J3 : Int → Prop, (∀ (v2 : Int), (∃ (I5 : Int → Prop) (m6 : Int → Nat), I5 (X 7 (a0 * 5 + 1)) ∧ ∀ (x4 : Int), I5 x4 → R32 x4 ∧ R32 (X 7 (a0 * 5 + 2)) ∧ ((X 7 (a0 * 5 + 2)) < x4 → Q (-1)) ∧ (¬ (X 7 (a0 * 5 + 2)) < x4 → w_X8_shadeOf ta sb (X 7 (a0 * 5 + 0)) x4 X (fun (v17 : Int) => ∀ J24 : Int → Prop, (∀ (v23 : Int), (R32 v23 ∧ R32 v2 ∧ (v23 = v2 → I5 (x4 + 1) ∧ m6 (x4 + 1) < m6 x4) ∧ (¬ v23 = v2 → Q x4)) → J24 v23) → R32 v17 ∧ (v17 ≤ 0 → J24 0) ∧ (¬ v17 ≤ 0 → J24 1)))) → J3 v2) → R32 (X 7 (a0 * 5 + 3)) ∧ (¬ (X 7 (a0 * 5 + 3)) = 1 → J3 0) ∧ ((X 7 (a0 * 5 + 3)) = 1 → J3 1)
set_option maxRecDepth 20000 in
theorem so_X8_breakOf_49 {n : Nat} {h : Nat → sE} {X : XT} {a0 : Int} {Q : Int → Prop} (hn : 115 ≤ n) (hp : Pic X h) (w : w_X8_breakOf 50 51 a0 X Q) : Sp m_X8_breakOf 5 0 0 [.ref 49, .int (iI a0)] n h (pIr n h Q) := by
  unfold w_X8_breakOf at w
  refine Sp.ofV (by decide +kernel) (Nat.le_of_ble_eq_true rfl) ?_
  have hf : Fr h h := fun _ _ => rfl
  refine v_aload_n dX8_breakOf_0 rfl ?_
  refine v_get dX8_breakOf_1 fl_X8_18 ((hp 49 (by decide)).trans (ent_49 _)) rfl (s_lt hn rfl) ?_
  refine v_iload_n dX8_breakOf_4 rfl ?_
  refine v_iconstI dX8_breakOf_5 ?_
  obtain ⟨q1, w⟩ := w
  refine v_callVp dX8_breakOf_6 ml_X8_107 (sv_X3_contractFact (a := a0) (b := 0) (g1 := X 1) (g7 := X 7) hn (hp 1 (by decide)) (hp 7 (by decide)) q1 (by decide)) ((hp 1 (by decide)).trans (ent_1 _)) rfl (s_lt hn rfl) rfl rfl (Nat.le_of_ble_eq_true rfl) (Nat.le_of_ble_eq_true rfl) (Nat.zero_le _) (Nat.zero_le _) ?_
  refine v_istore_n dX8_breakOf_9 (Nat.le_of_ble_eq_true rfl) ?_
  refine v_aload_n dX8_breakOf_10 rfl ?_
  refine v_get dX8_breakOf_11 fl_X8_18 ((hp 49 (by decide)).trans (ent_49 _)) rfl (s_lt hn rfl) ?_
  refine v_iload_n dX8_breakOf_14 rfl ?_
  refine v_iconstI dX8_breakOf_15 ?_
  refine v_callVp dX8_breakOf_16 ml_X8_107 (sv_X3_contractFact (a := a0) (b := 3) (g1 := X 1) (g7 := X 7) hn (hp 1 (by decide)) (hp 7 (by decide)) q1 (by decide)) ((hp 1 (by decide)).trans (ent_1 _)) rfl (s_lt hn rfl) rfl rfl (Nat.le_of_ble_eq_true rfl) (Nat.le_of_ble_eq_true rfl) (Nat.zero_le _) (Nat.zero_le _) ?_
  refine v_iconstI dX8_breakOf_19 ?_
  replace w := w (fun (v2 : Int) => V (m_X8_breakOf, 5, 0, 0, n, pIr n h Q, s_G0) 0 0 n h 28 [(0, .ref 49), (1, .int (iI a0)), (2, .int (iI (X 7 (a0 * 5 + 0))))] [.int (iI v2)]) (by
    intro v2 w
    refine v_istore_n dX8_breakOf_28 (Nat.le_of_ble_eq_true rfl) ?_
    refine v_aload_n dX8_breakOf_29 rfl ?_
    refine v_get dX8_breakOf_30 fl_X8_18 ((hp 49 (by decide)).trans (ent_49 _)) rfl (s_lt hn rfl) ?_
    refine v_iload_n dX8_breakOf_33 rfl ?_
    refine v_iconstI dX8_breakOf_34 ?_
    refine v_callVp dX8_breakOf_35 ml_X8_107 (sv_X3_contractFact (a := a0) (b := 2) (g1 := X 1) (g7 := X 7) hn (hp 1 (by decide)) (hp 7 (by decide)) q1 (by decide)) ((hp 1 (by decide)).trans (ent_1 _)) rfl (s_lt hn rfl) rfl rfl (Nat.le_of_ble_eq_true rfl) (Nat.le_of_ble_eq_true rfl) (Nat.zero_le _) (Nat.zero_le _) ?_
    refine v_istore dX8_breakOf_38 (Nat.le_of_ble_eq_true rfl) ?_
    refine v_aload_n dX8_breakOf_40 rfl ?_
    refine v_get dX8_breakOf_41 fl_X8_18 ((hp 49 (by decide)).trans (ent_49 _)) rfl (s_lt hn rfl) ?_
    refine v_iload_n dX8_breakOf_44 rfl ?_
    refine v_iconstI dX8_breakOf_45 ?_
    refine v_callVp dX8_breakOf_46 ml_X8_107 (sv_X3_contractFact (a := a0) (b := 1) (g1 := X 1) (g7 := X 7) hn (hp 1 (by decide)) (hp 7 (by decide)) q1 (by decide)) ((hp 1 (by decide)).trans (ent_1 _)) rfl (s_lt hn rfl) rfl rfl (Nat.le_of_ble_eq_true rfl) (Nat.le_of_ble_eq_true rfl) (Nat.zero_le _) (Nat.zero_le _) ?_
    refine v_istore dX8_breakOf_49 (Nat.le_of_ble_eq_true rfl) ?_
    refine v_pick [3, 5, 2, 1, 0] rfl ?_
    obtain ⟨I5, m6, wi9, wl8⟩ := w
    have hL10 : ∀ (N13 : Nat) (x4 : Int), m6 x4 < N13 → I5 x4 → V (m_X8_breakOf, 5, 0, 0, n, pIr n h Q, s_G0) 0 0 n h 51 [(0, .ref 49), (2, .int (iI (X 7 (a0 * 5 + 0)))), (3, .int (iI v2)), (4, .int (iI (X 7 (a0 * 5 + 2)))), (5, .int (iI x4))] [] := by
      intro N13
      induction N13 with
      | zero => intro x4  hm11; exact absurd hm11 (Nat.not_lt_zero _)
      | succ N13 ih7 =>
        intro x4  hm11 hI12
        have w := wl8 x4 hI12
        refine v_iload dX8_breakOf_51 rfl ?_
        refine v_iload dX8_breakOf_53 rfl ?_
        obtain ⟨q14, q15, w⟩ := w
        refine v_icmp_gtI (tgt := 86) dX8_breakOf_55 (by decide) q14.1 q14.2 q15.1 q15.2 (fun c16 => ?_) (fun c16 => ?_)
        · replace w := w.1 c16
          refine v_iconstI dX8_breakOf_86 ?_
          exact v_iret dX8_breakOf_87 rfl (Nat.zero_le _) (Nat.zero_le _) ⟨rfl, rfl, _, rfl, w⟩
        · replace w := w.2 c16
          refine v_aload_n dX8_breakOf_58 rfl ?_
          refine v_iload_n dX8_breakOf_59 rfl ?_
          refine v_iload dX8_breakOf_60 rfl ?_
          refine v_callVIr dX8_breakOf_62 ml_X8_110 (so_X8_shadeOf_49 hn hp  w) ((hp 49 (by decide)).trans (ent_49 _)) rfl (s_lt hn rfl) rfl rfl (Nat.le_of_ble_eq_true rfl) (Nat.le_of_ble_eq_true rfl) (Nat.zero_le _) (Nat.zero_le _) (fun v17 w => ?_)
          replace w := w (fun (v23 : Int) => V (m_X8_breakOf, 5, 0, 0, n, pIr n h Q, s_G0) 0 0 n h 73 [(0, .ref 49), (2, .int (iI (X 7 (a0 * 5 + 0)))), (3, .int (iI v2)), (4, .int (iI (X 7 (a0 * 5 + 2)))), (5, .int (iI x4))] [.int (iI v23)]) (by
            intro v23 w
            refine v_iload_n dX8_breakOf_73 rfl ?_
            obtain ⟨q25, q26, w⟩ := w
            refine v_icmp_eqI (tgt := 80) dX8_breakOf_74 (by decide) q25.1 q25.2 q26.1 q26.2 (fun c27 => ?_) (fun c27 => ?_)
            · replace w := w.1 c27
              refine v_iincI dX8_breakOf_80 rfl (Nat.le_of_ble_eq_true rfl) ?_
              refine v_goto (tgt := 51) dX8_breakOf_83 (by decide) ?_
              refine v_pick [1, 2, 3, 4, 0] rfl ?_
              exact ih7 _ (Nat.lt_of_lt_of_le w.2 (Nat.le_of_lt_succ hm11)) w.1
            · replace w := w.2 c27
              refine v_iload dX8_breakOf_77 rfl ?_
              exact v_iret dX8_breakOf_79 rfl (Nat.zero_le _) (Nat.zero_le _) ⟨rfl, rfl, _, rfl, w⟩
          )
          obtain ⟨q28, w⟩ := w
          refine v_if_leI (tgt := 72) dX8_breakOf_65 (by decide) q28.1 q28.2 (fun c29 => ?_) (fun c29 => ?_)
          · replace w := w.1 c29
            refine v_iconstI dX8_breakOf_72 ?_
            exact w
          · replace w := w.2 c29
            refine v_iconstI dX8_breakOf_68 ?_
            refine v_goto (tgt := 73) dX8_breakOf_69 (by decide) ?_
            exact w
    exact hL10 _ _ (Nat.lt_succ_self _) wi9
  )
  obtain ⟨q30, w⟩ := w
  refine v_icmp_neI (tgt := 27) dX8_breakOf_20 (by decide) q30.1 q30.2 (by decide) (by decide) (fun c31 => ?_) (fun c31 => ?_)
  · replace w := w.1 c31
    refine v_iconstI dX8_breakOf_27 ?_
    refine v_pick [1, 2, 0] rfl ?_
    exact w
  · replace w := w.2 c31
    refine v_iconstI dX8_breakOf_23 ?_
    refine v_goto (tgt := 28) dX8_breakOf_24 (by decide) ?_
    refine v_pick [1, 2, 0] rfl ?_
    exact w
theorem dX11_broken_0 : decode cX11_broken 0 = .ok (.iload_n 1, 1) := by decide +kernel
theorem dX11_broken_1 : decode cX11_broken 1 = .ok (.iconst 0, 1) := by decide +kernel
theorem dX11_broken_2 : decode cX11_broken 2 = .ok (.aload_n 0, 1) := by decide +kernel
theorem dX11_broken_3 : decode cX11_broken 3 = .ok (.getfield 12, 3) := by decide +kernel
theorem dX11_broken_6 : decode cX11_broken 6 = .ok (.getfield 173, 3) := by decide +kernel
theorem dX11_broken_9 : decode cX11_broken 9 = .ok (.iconst 1, 1) := by decide +kernel
theorem dX11_broken_10 : decode cX11_broken 10 = .ok (.isub, 1) := by decide +kernel
theorem dX11_broken_11 : decode cX11_broken 11 = .ok (.invokestatic 115, 3) := by decide +kernel
theorem dX11_broken_14 : decode cX11_broken 14 = .ok (.ifCond .ne 5, 3) := by decide +kernel
theorem dX11_broken_17 : decode cX11_broken 17 = .ok (.iconst (-1), 1) := by decide +kernel
theorem dX11_broken_18 : decode cX11_broken 18 = .ok (.ireturn, 1) := by decide +kernel
theorem dX11_broken_19 : decode cX11_broken 19 = .ok (.aload_n 0, 1) := by decide +kernel
theorem dX11_broken_20 : decode cX11_broken 20 = .ok (.getfield 52, 3) := by decide +kernel
theorem dX11_broken_23 : decode cX11_broken 23 = .ok (.invokevirtual 245, 3) := by decide +kernel
theorem dX11_broken_26 : decode cX11_broken 26 = .ok (.aload_n 0, 1) := by decide +kernel
theorem dX11_broken_27 : decode cX11_broken 27 = .ok (.getfield 52, 3) := by decide +kernel
theorem dX11_broken_30 : decode cX11_broken 30 = .ok (.iload_n 1, 1) := by decide +kernel
theorem dX11_broken_31 : decode cX11_broken 31 = .ok (.invokevirtual 283, 3) := by decide +kernel
theorem dX11_broken_34 : decode cX11_broken 34 = .ok (.ireturn, 1) := by decide +kernel
def w_X11_broken (K : LK) (a0 : Int) (X : XT) (Q : Int → XT → Prop) : Prop :=
  R32 a0 ∧ R32 ((X 1 11) - 1) ∧ ((0 ≤ a0 ∧ a0 ≤ ((X 1 11) - 1)) → w_X8_look K 50 51  X (fun (X5 : XT) => w_X8_breakOf 50 51 a0 X5 (fun (v10 : Int) => Q v10 X5))) ∧ (¬ (0 ≤ a0 ∧ a0 ≤ ((X 1 11) - 1)) → Q (-1) X)
set_option maxRecDepth 20000 in
theorem so_X11_broken {n : Nat} {h : Nat → sE} {X : XT} {K : LK} {hk : Nat → sE} (hK : LKok K n hk) {a0 : Int} {Q : Int → XT → Prop} (hn : 115 ≤ n) (hp : Pic X h) (hf9 : Fr hk h) (w : w_X11_broken K  a0 X Q) : Sp m_X11_broken 6 0 0 [.ref 0, .int (iI a0)] n h (pIw n h Q) := by
  unfold w_X11_broken at w
  refine Sp.ofV (by decide +kernel) (Nat.le_of_ble_eq_true rfl) ?_
  have hf : Fr h h := fun _ _ => rfl
  refine v_iload_n dX11_broken_0 rfl ?_
  refine v_iconstI dX11_broken_1 ?_
  refine v_aload_n dX11_broken_2 rfl ?_
  refine v_get dX11_broken_3 fl_X11_12 ((hp 0 (by decide)).trans (ent_0 _)) rfl (s_lt hn rfl) ?_
  refine v_get dX11_broken_6 fl_X11_173 ((hp 1 (by decide)).trans (ent_1 _)) rfl (s_lt hn rfl) ?_
  refine v_iconstI dX11_broken_9 ?_
  refine v_isubI dX11_broken_10 ?_
  obtain ⟨q1, q2, w⟩ := w
  refine v_callSp dX11_broken_11 ml_X11_115 (sp_X11_within (a := a0) (b := 0) (c := ((X 1 11) - 1)) q1 (by decide) q2) rfl rfl (Nat.le_of_ble_eq_true rfl) (Nat.le_of_ble_eq_true rfl) (Nat.zero_le _) (Nat.zero_le _) ?_
  refine v_ifneB (tgt := 19) dX11_broken_14 (by decide) (fun c3 => ?_) (fun c3 => ?_)
  · replace w := w.1 c3
    refine v_aload_n dX11_broken_19 rfl ?_
    refine v_get dX11_broken_20 fl_X11_52 ((hp 0 (by decide)).trans (ent_0 _)) rfl (s_lt hn rfl) ?_
    refine v_callVVw dX11_broken_23 ml_X11_245 (so_X8_look_49 hK hn hp (Fr.trans hf9 hf) w) ((hp 49 (by decide)).trans (ent_49 _)) rfl (s_lt hn rfl) rfl rfl (Nat.le_of_ble_eq_true rfl) (Nat.le_of_ble_eq_true rfl) (Nat.zero_le _) (Nat.zero_le _) (fun X5 h6 hp8 hf7 w => ?_)
    have hf9 := Fr.trans hf hf7
    refine v_aload_n dX11_broken_26 rfl ?_
    refine v_get dX11_broken_27 fl_X11_52 ((hp8 0 (by decide)).trans (ent_0 _)) rfl (s_lt hn rfl) ?_
    refine v_iload_n dX11_broken_30 rfl ?_
    refine v_callVIr dX11_broken_31 ml_X11_283 (so_X8_breakOf_49 hn hp8  w) ((hp8 49 (by decide)).trans (ent_49 _)) rfl (s_lt hn rfl) rfl rfl (Nat.le_of_ble_eq_true rfl) (Nat.le_of_ble_eq_true rfl) (Nat.zero_le _) (Nat.zero_le _) (fun v10 w => ?_)
    exact v_iret dX11_broken_34 rfl (Nat.zero_le _) (Nat.zero_le _) ⟨rfl, hf9, _, _, rfl, hp8, w⟩
  · replace w := w.2 c3
    refine v_iconstI dX11_broken_17 ?_
    exact v_iret dX11_broken_18 rfl (Nat.zero_le _) (Nat.zero_le _) ⟨rfl, hf, _, _, rfl, hp, w⟩
theorem dX11_judge_0 : decode cX11_judge 0 = .ok (.iload_n 1, 1) := by decide +kernel
theorem dX11_judge_1 : decode cX11_judge 1 = .ok (.iconst 0, 1) := by decide +kernel
theorem dX11_judge_2 : decode cX11_judge 2 = .ok (.iconst 1, 1) := by decide +kernel
theorem dX11_judge_3 : decode cX11_judge 3 = .ok (.invokestatic 115, 3) := by decide +kernel
theorem dX11_judge_6 : decode cX11_judge 6 = .ok (.ifCond .ne 5, 3) := by decide +kernel
theorem dX11_judge_9 : decode cX11_judge 9 = .ok (.iconst (-1), 1) := by decide +kernel
theorem dX11_judge_10 : decode cX11_judge 10 = .ok (.ireturn, 1) := by decide +kernel
theorem dX11_judge_11 : decode cX11_judge 11 = .ok (.aload_n 0, 1) := by decide +kernel
theorem dX11_judge_12 : decode cX11_judge 12 = .ok (.getfield 52, 3) := by decide +kernel
theorem dX11_judge_15 : decode cX11_judge 15 = .ok (.invokevirtual 245, 3) := by decide +kernel
theorem dX11_judge_18 : decode cX11_judge 18 = .ok (.iconst (-1), 1) := by decide +kernel
theorem dX11_judge_19 : decode cX11_judge 19 = .ok (.istore_n 2, 1) := by decide +kernel
theorem dX11_judge_20 : decode cX11_judge 20 = .ok (.bipush 12, 2) := by decide +kernel
theorem dX11_judge_22 : decode cX11_judge 22 = .ok (.istore_n 3, 1) := by decide +kernel
theorem dX11_judge_23 : decode cX11_judge 23 = .ok (.iconst 0, 1) := by decide +kernel
theorem dX11_judge_24 : decode cX11_judge 24 = .ok (.istore 4, 2) := by decide +kernel
theorem dX11_judge_26 : decode cX11_judge 26 = .ok (.iconst 0, 1) := by decide +kernel
theorem dX11_judge_27 : decode cX11_judge 27 = .ok (.istore 5, 2) := by decide +kernel
theorem dX11_judge_29 : decode cX11_judge 29 = .ok (.iload 5, 2) := by decide +kernel
theorem dX11_judge_31 : decode cX11_judge 31 = .ok (.aload_n 0, 1) := by decide +kernel
theorem dX11_judge_32 : decode cX11_judge 32 = .ok (.getfield 12, 3) := by decide +kernel
theorem dX11_judge_35 : decode cX11_judge 35 = .ok (.getfield 173, 3) := by decide +kernel
theorem dX11_judge_38 : decode cX11_judge 38 = .ok (.if_icmp .ge 56, 3) := by decide +kernel
theorem dX11_judge_41 : decode cX11_judge 41 = .ok (.aload_n 0, 1) := by decide +kernel
theorem dX11_judge_42 : decode cX11_judge 42 = .ok (.getfield 52, 3) := by decide +kernel
theorem dX11_judge_45 : decode cX11_judge 45 = .ok (.iload 5, 2) := by decide +kernel
theorem dX11_judge_47 : decode cX11_judge 47 = .ok (.invokevirtual 283, 3) := by decide +kernel
theorem dX11_judge_50 : decode cX11_judge 50 = .ok (.istore 6, 2) := by decide +kernel
theorem dX11_judge_52 : decode cX11_judge 52 = .ok (.iload 6, 2) := by decide +kernel
theorem dX11_judge_54 : decode cX11_judge 54 = .ok (.iconst (-1), 1) := by decide +kernel
theorem dX11_judge_55 : decode cX11_judge 55 = .ok (.if_icmp .ne 21, 3) := by decide +kernel
theorem dX11_judge_58 : decode cX11_judge 58 = .ok (.iload 4, 2) := by decide +kernel
theorem dX11_judge_60 : decode cX11_judge 60 = .ok (.aload_n 0, 1) := by decide +kernel
theorem dX11_judge_61 : decode cX11_judge 61 = .ok (.getfield 12, 3) := by decide +kernel
theorem dX11_judge_64 : decode cX11_judge 64 = .ok (.iload 5, 2) := by decide +kernel
theorem dX11_judge_66 : decode cX11_judge 66 = .ok (.iconst 4, 1) := by decide +kernel
theorem dX11_judge_67 : decode cX11_judge 67 = .ok (.invokevirtual 286, 3) := by decide +kernel
theorem dX11_judge_70 : decode cX11_judge 70 = .ok (.iadd, 1) := by decide +kernel
theorem dX11_judge_71 : decode cX11_judge 71 = .ok (.istore 4, 2) := by decide +kernel
theorem dX11_judge_73 : decode cX11_judge 73 = .ok (.goto 15, 3) := by decide +kernel
theorem dX11_judge_76 : decode cX11_judge 76 = .ok (.iload 6, 2) := by decide +kernel
theorem dX11_judge_78 : decode cX11_judge 78 = .ok (.iload_n 3, 1) := by decide +kernel
theorem dX11_judge_79 : decode cX11_judge 79 = .ok (.if_icmp .ge 9, 3) := by decide +kernel
theorem dX11_judge_82 : decode cX11_judge 82 = .ok (.iload 6, 2) := by decide +kernel
theorem dX11_judge_84 : decode cX11_judge 84 = .ok (.istore_n 3, 1) := by decide +kernel
theorem dX11_judge_85 : decode cX11_judge 85 = .ok (.iload 5, 2) := by decide +kernel
theorem dX11_judge_87 : decode cX11_judge 87 = .ok (.istore_n 2, 1) := by decide +kernel
theorem dX11_judge_88 : decode cX11_judge 88 = .ok (.iinc 5 1, 3) := by decide +kernel
theorem dX11_judge_91 : decode cX11_judge 91 = .ok (.goto (-62), 3) := by decide +kernel
theorem dX11_judge_94 : decode cX11_judge 94 = .ok (.iload_n 1, 1) := by decide +kernel
theorem dX11_judge_95 : decode cX11_judge 95 = .ok (.ifCond .ne 7, 3) := by decide +kernel
theorem dX11_judge_98 : decode cX11_judge 98 = .ok (.iload_n 2, 1) := by decide +kernel
theorem dX11_judge_99 : decode cX11_judge 99 = .ok (.goto 5, 3) := by decide +kernel
theorem dX11_judge_102 : decode cX11_judge 102 = .ok (.iload 4, 2) := by decide +kernel
theorem dX11_judge_104 : decode cX11_judge 104 = .ok (.ireturn, 1) := by decide +kernel
def w_X11_judge (K : LK) (a0 : Int) (X : XT) (Q : Int → XT → Prop) : Prop :=
  R32 a0 ∧ ((0 ≤ a0 ∧ a0 ≤ 1) → w_X8_look K 50 51  X (fun (X4 : XT) => ∃ (I13 : Int → Int → Int → Int → Prop) (m14 : Int → Int → Int → Int → Nat), I13 (-1) 12 0 0 ∧ ∀ (x9 : Int) (x10 : Int) (x11 : Int) (x12 : Int), I13 x9 x10 x11 x12 → R32 x12 ∧ R32 (X4 1 11) ∧ ((X4 1 11) ≤ x12 → (¬ a0 = 0 → Q x11 X4) ∧ (a0 = 0 → Q x9 X4)) ∧ (¬ (X4 1 11) ≤ x12 → w_X8_breakOf 50 51 x12 X4 (fun (v26 : Int) => R32 v26 ∧ (¬ v26 = (-1) → R32 x10 ∧ (x10 ≤ v26 → I13 x9 x10 x11 (x12 + 1) ∧ m14 x9 x10 x11 (x12 + 1) < m14 x9 x10 x11 x12) ∧ (¬ x10 ≤ v26 → I13 x12 v26 x11 (x12 + 1) ∧ m14 x12 v26 x11 (x12 + 1) < m14 x9 x10 x11 x12)) ∧ (v26 = (-1) → (0 ≤ x12 ∧ x12 ≤ 7) ∧ I13 x9 x10 (x11 + (X4 7 (x12 * 5 + 4))) (x12 + 1) ∧ m14 x9 x10 (x11 + (X4 7 (x12 * 5 + 4))) (x12 + 1) < m14 x9 x10 x11 x12))))) ∧ (¬ (0 ≤ a0 ∧ a0 ≤ 1) → Q (-1) X)
set_option maxRecDepth 20000 in
theorem so_X11_judge {n : Nat} {h : Nat → sE} {X : XT} {K : LK} {hk : Nat → sE} (hK : LKok K n hk) {a0 : Int} {Q : Int → XT → Prop} (hn : 115 ≤ n) (hp : Pic X h) (hf9 : Fr hk h) (w : w_X11_judge K  a0 X Q) : Sp m_X11_judge 6 0 0 [.ref 0, .int (iI a0)] n h (pIw n h Q) := by
  unfold w_X11_judge at w
  refine Sp.ofV (by decide +kernel) (Nat.le_of_ble_eq_true rfl) ?_
  have hf : Fr h h := fun _ _ => rfl
  refine v_iload_n dX11_judge_0 rfl ?_
  refine v_iconstI dX11_judge_1 ?_
  refine v_iconstI dX11_judge_2 ?_
  obtain ⟨q1, w⟩ := w
  refine v_callSp dX11_judge_3 ml_X11_115 (sp_X11_within (a := a0) (b := 0) (c := 1) q1 (by decide) (by decide)) rfl rfl (Nat.le_of_ble_eq_true rfl) (Nat.le_of_ble_eq_true rfl) (Nat.zero_le _) (Nat.zero_le _) ?_
  refine v_ifneB (tgt := 11) dX11_judge_6 (by decide) (fun c2 => ?_) (fun c2 => ?_)
  · replace w := w.1 c2
    refine v_aload_n dX11_judge_11 rfl ?_
    refine v_get dX11_judge_12 fl_X11_52 ((hp 0 (by decide)).trans (ent_0 _)) rfl (s_lt hn rfl) ?_
    refine v_callVVw dX11_judge_15 ml_X11_245 (so_X8_look_49 hK hn hp (Fr.trans hf9 hf) w) ((hp 49 (by decide)).trans (ent_49 _)) rfl (s_lt hn rfl) rfl rfl (Nat.le_of_ble_eq_true rfl) (Nat.le_of_ble_eq_true rfl) (Nat.zero_le _) (Nat.zero_le _) (fun X4 h5 hp7 hf6 w => ?_)
    have hf8 := Fr.trans hf hf6
    refine v_iconstI dX11_judge_18 ?_
    refine v_istore_n dX11_judge_19 (Nat.le_of_ble_eq_true rfl) ?_
    refine v_bipushI dX11_judge_20 rfl ?_
    refine v_istore_n dX11_judge_22 (Nat.le_of_ble_eq_true rfl) ?_
    refine v_iconstI dX11_judge_23 ?_
    refine v_istore dX11_judge_24 (Nat.le_of_ble_eq_true rfl) ?_
    refine v_iconstI dX11_judge_26 ?_
    refine v_istore dX11_judge_27 (Nat.le_of_ble_eq_true rfl) ?_
    refine v_pick [4, 5, 3, 2, 1, 0] rfl ?_
    obtain ⟨I13, m14, wi17, wl16⟩ := w
    have hL18 : ∀ (N21 : Nat) (x9 : Int) (x10 : Int) (x11 : Int) (x12 : Int), m14 x9 x10 x11 x12 < N21 → I13 x9 x10 x11 x12 → V (m_X11_judge, 6, 0, 0, n, pIw n h Q, s_G0) 0 0 n h5 29 [(0, .ref 0), (1, .int (iI a0)), (2, .int (iI x9)), (3, .int (iI x10)), (4, .int (iI x11)), (5, .int (iI x12))] [] := by
      intro N21
      induction N21 with
      | zero => intro x9 x10 x11 x12  hm19; exact absurd hm19 (Nat.not_lt_zero _)
      | succ N21 ih15 =>
        intro x9 x10 x11 x12  hm19 hI20
        have w := wl16 x9 x10 x11 x12 hI20
        refine v_iload dX11_judge_29 rfl ?_
        refine v_aload_n dX11_judge_31 rfl ?_
        refine v_get dX11_judge_32 fl_X11_12 ((hp7 0 (by decide)).trans (ent_0 _)) rfl (s_lt hn rfl) ?_
        refine v_get dX11_judge_35 fl_X11_173 ((hp7 1 (by decide)).trans (ent_1 _)) rfl (s_lt hn rfl) ?_
        obtain ⟨q22, q23, w⟩ := w
        refine v_icmp_geI (tgt := 94) dX11_judge_38 (by decide) q22.1 q22.2 q23.1 q23.2 (fun c24 => ?_) (fun c24 => ?_)
        · replace w := w.1 c24
          refine v_iload_n dX11_judge_94 rfl ?_
          refine v_if_neI (tgt := 102) dX11_judge_95 (by decide) q1.1 q1.2 (fun c25 => ?_) (fun c25 => ?_)
          · replace w := w.1 c25
            refine v_iload dX11_judge_102 rfl ?_
            exact v_iret dX11_judge_104 rfl (Nat.zero_le _) (Nat.zero_le _) ⟨rfl, hf8, _, _, rfl, hp7, w⟩
          · replace w := w.2 c25
            refine v_iload_n dX11_judge_98 rfl ?_
            refine v_goto (tgt := 104) dX11_judge_99 (by decide) ?_
            exact v_iret dX11_judge_104 rfl (Nat.zero_le _) (Nat.zero_le _) ⟨rfl, hf8, _, _, rfl, hp7, w⟩
        · replace w := w.2 c24
          refine v_aload_n dX11_judge_41 rfl ?_
          refine v_get dX11_judge_42 fl_X11_52 ((hp7 0 (by decide)).trans (ent_0 _)) rfl (s_lt hn rfl) ?_
          refine v_iload dX11_judge_45 rfl ?_
          refine v_callVIr dX11_judge_47 ml_X11_283 (so_X8_breakOf_49 hn hp7  w) ((hp7 49 (by decide)).trans (ent_49 _)) rfl (s_lt hn rfl) rfl rfl (Nat.le_of_ble_eq_true rfl) (Nat.le_of_ble_eq_true rfl) (Nat.zero_le _) (Nat.zero_le _) (fun v26 w => ?_)
          refine v_istore dX11_judge_50 (Nat.le_of_ble_eq_true rfl) ?_
          refine v_iload dX11_judge_52 rfl ?_
          refine v_iconstI dX11_judge_54 ?_
          obtain ⟨q32, w⟩ := w
          refine v_icmp_neI (tgt := 76) dX11_judge_55 (by decide) q32.1 q32.2 (by decide) (by decide) (fun c33 => ?_) (fun c33 => ?_)
          · replace w := w.1 c33
            refine v_iload dX11_judge_76 rfl ?_
            refine v_iload_n dX11_judge_78 rfl ?_
            obtain ⟨q34, w⟩ := w
            refine v_icmp_geI (tgt := 88) dX11_judge_79 (by decide) q32.1 q32.2 q34.1 q34.2 (fun c35 => ?_) (fun c35 => ?_)
            · replace w := w.1 c35
              refine v_iincI dX11_judge_88 rfl (Nat.le_of_ble_eq_true rfl) ?_
              refine v_goto (tgt := 29) dX11_judge_91 (by decide) ?_
              refine v_pick [2, 3, 4, 5, 6, 0] rfl ?_
              exact ih15 _ _ _ _ (Nat.lt_of_lt_of_le w.2 (Nat.le_of_lt_succ hm19)) w.1
            · replace w := w.2 c35
              refine v_iload dX11_judge_82 rfl ?_
              refine v_istore_n dX11_judge_84 (Nat.le_of_ble_eq_true rfl) ?_
              refine v_iload dX11_judge_85 rfl ?_
              refine v_istore_n dX11_judge_87 (Nat.le_of_ble_eq_true rfl) ?_
              refine v_iincI dX11_judge_88 rfl (Nat.le_of_ble_eq_true rfl) ?_
              refine v_goto (tgt := 29) dX11_judge_91 (by decide) ?_
              refine v_pick [4, 5, 1, 2, 6, 0] rfl ?_
              exact ih15 _ _ _ _ (Nat.lt_of_lt_of_le w.2 (Nat.le_of_lt_succ hm19)) w.1
          · replace w := w.2 c33
            refine v_iload dX11_judge_58 rfl ?_
            refine v_aload_n dX11_judge_60 rfl ?_
            refine v_get dX11_judge_61 fl_X11_12 ((hp7 0 (by decide)).trans (ent_0 _)) rfl (s_lt hn rfl) ?_
            refine v_iload dX11_judge_64 rfl ?_
            refine v_iconstI dX11_judge_66 ?_
            obtain ⟨q36, w⟩ := w
            refine v_callVp dX11_judge_67 ml_X11_286 (sv_X3_contractFact (a := x12) (b := 4) (g1 := X4 1) (g7 := X4 7) hn (hp7 1 (by decide)) (hp7 7 (by decide)) q36 (by decide)) ((hp7 1 (by decide)).trans (ent_1 _)) rfl (s_lt hn rfl) rfl rfl (Nat.le_of_ble_eq_true rfl) (Nat.le_of_ble_eq_true rfl) (Nat.zero_le _) (Nat.zero_le _) ?_
            refine v_iaddI dX11_judge_70 ?_
            refine v_istore dX11_judge_71 (Nat.le_of_ble_eq_true rfl) ?_
            refine v_goto (tgt := 88) dX11_judge_73 (by decide) ?_
            refine v_iincI dX11_judge_88 rfl (Nat.le_of_ble_eq_true rfl) ?_
            refine v_goto (tgt := 29) dX11_judge_91 (by decide) ?_
            refine v_pick [3, 4, 5, 6, 1, 0] rfl ?_
            exact ih15 _ _ _ _ (Nat.lt_of_lt_of_le w.2 (Nat.le_of_lt_succ hm19)) w.1
    exact hL18 _ _ _ _ _ (Nat.lt_succ_self _) wi17
  · replace w := w.2 c2
    refine v_iconstI dX11_judge_9 ?_
    exact v_iret dX11_judge_10 rfl (Nat.zero_le _) (Nat.zero_le _) ⟨rfl, hf, _, _, rfl, hp, w⟩
theorem dX11_isOver_0 : decode cX11_isOver 0 = .ok (.aload_n 0, 1) := by decide +kernel
theorem dX11_isOver_1 : decode cX11_isOver 1 = .ok (.getfield 12, 3) := by decide +kernel
theorem dX11_isOver_4 : decode cX11_isOver 4 = .ok (.iload_n 1, 1) := by decide +kernel
theorem dX11_isOver_5 : decode cX11_isOver 5 = .ok (.invokevirtual 257, 3) := by decide +kernel
theorem dX11_isOver_8 : decode cX11_isOver 8 = .ok (.ifCond .eq 17, 3) := by decide +kernel
theorem dX11_isOver_11 : decode cX11_isOver 11 = .ok (.iload_n 2, 1) := by decide +kernel
theorem dX11_isOver_12 : decode cX11_isOver 12 = .ok (.iconst 0, 1) := by decide +kernel
theorem dX11_isOver_13 : decode cX11_isOver 13 = .ok (.bipush 63, 2) := by decide +kernel
theorem dX11_isOver_15 : decode cX11_isOver 15 = .ok (.invokestatic 115, 3) := by decide +kernel
theorem dX11_isOver_18 : decode cX11_isOver 18 = .ok (.ifCond .eq 7, 3) := by decide +kernel
theorem dX11_isOver_21 : decode cX11_isOver 21 = .ok (.iconst 1, 1) := by decide +kernel
theorem dX11_isOver_22 : decode cX11_isOver 22 = .ok (.goto 4, 3) := by decide +kernel
theorem dX11_isOver_25 : decode cX11_isOver 25 = .ok (.iconst 0, 1) := by decide +kernel
theorem dX11_isOver_26 : decode cX11_isOver 26 = .ok (.ireturn, 1) := by decide +kernel
def w_X11_isOver (a0 a1 : Int) (X : XT) (Q : Int → Prop) : Prop :=
  R32 a0 ∧ R32 (X 1 9) ∧ (¬ (0 ≤ a0 ∧ a0 < X 1 9) → Q 0) ∧ ((0 ≤ a0 ∧ a0 < X 1 9) → R32 a1 ∧ (¬ (0 ≤ a1 ∧ a1 ≤ 63) → Q 0) ∧ ((0 ≤ a1 ∧ a1 ≤ 63) → Q 1))
set_option maxRecDepth 20000 in
theorem so_X11_isOver {n : Nat} {h : Nat → sE} {X : XT} {a0 a1 : Int} {Q : Int → Prop} (hn : 115 ≤ n) (hp : Pic X h) (w : w_X11_isOver  a0 a1 X Q) : Sp m_X11_isOver 1 0 0 [.ref 0, .int (iI a0), .int (iI a1)] n h (pIr n h Q) := by
  unfold w_X11_isOver at w
  refine Sp.ofV (by decide +kernel) (Nat.le_of_ble_eq_true rfl) ?_
  have hf : Fr h h := fun _ _ => rfl
  refine v_aload_n dX11_isOver_0 rfl ?_
  refine v_get dX11_isOver_1 fl_X11_12 ((hp 0 (by decide)).trans (ent_0 _)) rfl (s_lt hn rfl) ?_
  refine v_iload_n dX11_isOver_4 rfl ?_
  obtain ⟨q1, q2, w⟩ := w
  refine v_callVp dX11_isOver_5 ml_X11_257 (sq_X3_isCloud (a := a0) (g1 := X 1) hn (hp 1 (by decide)) q1 q2) ((hp 1 (by decide)).trans (ent_1 _)) rfl (s_lt hn rfl) rfl rfl (Nat.le_of_ble_eq_true rfl) (Nat.le_of_ble_eq_true rfl) (Nat.zero_le _) (Nat.zero_le _) ?_
  refine v_ifeqB (tgt := 25) dX11_isOver_8 (by decide) (fun c3 => ?_) (fun c3 => ?_)
  · replace w := w.1 c3
    refine v_iconstI dX11_isOver_25 ?_
    exact v_z0 dX11_isOver_26 rfl (Nat.zero_le _) (Nat.zero_le _) ⟨rfl, rfl, _, rfl, w⟩
  · replace w := w.2 c3
    refine v_iload_n dX11_isOver_11 rfl ?_
    refine v_iconstI dX11_isOver_12 ?_
    refine v_bipushI dX11_isOver_13 rfl ?_
    obtain ⟨q4, w⟩ := w
    refine v_callSp dX11_isOver_15 ml_X11_115 (sp_X11_within (a := a1) (b := 0) (c := 63) q4 (by decide) (by decide)) rfl rfl (Nat.le_of_ble_eq_true rfl) (Nat.le_of_ble_eq_true rfl) (Nat.zero_le _) (Nat.zero_le _) ?_
    refine v_ifeqB (tgt := 25) dX11_isOver_18 (by decide) (fun c5 => ?_) (fun c5 => ?_)
    · replace w := w.1 c5
      refine v_iconstI dX11_isOver_25 ?_
      exact v_z0 dX11_isOver_26 rfl (Nat.zero_le _) (Nat.zero_le _) ⟨rfl, rfl, _, rfl, w⟩
    · replace w := w.2 c5
      refine v_iconstI dX11_isOver_21 ?_
      refine v_goto (tgt := 26) dX11_isOver_22 (by decide) ?_
      exact v_z1 dX11_isOver_26 rfl (Nat.zero_le _) (Nat.zero_le _) ⟨rfl, rfl, _, rfl, w⟩
theorem dX2_take_0 : decode cX2_take 0 = .ok (.aload_n 0, 1) := by decide +kernel
theorem dX2_take_1 : decode cX2_take 1 = .ok (.iload_n 1, 1) := by decide +kernel
theorem dX2_take_2 : decode cX2_take 2 = .ok (.putfield 15, 3) := by decide +kernel
theorem dX2_take_5 : decode cX2_take 5 = .ok (.aload_n 0, 1) := by decide +kernel
theorem dX2_take_6 : decode cX2_take 6 = .ok (.aload_n 0, 1) := by decide +kernel
theorem dX2_take_7 : decode cX2_take 7 = .ok (.getfield 25, 3) := by decide +kernel
theorem dX2_take_10 : decode cX2_take 10 = .ok (.iload_n 1, 1) := by decide +kernel
theorem dX2_take_11 : decode cX2_take 11 = .ok (.invokevirtual 33, 3) := by decide +kernel
theorem dX2_take_14 : decode cX2_take 14 = .ok (.putfield 19, 3) := by decide +kernel
theorem dX2_take_17 : decode cX2_take 17 = .ok (.aload_n 0, 1) := by decide +kernel
theorem dX2_take_18 : decode cX2_take 18 = .ok (.aload_n 0, 1) := by decide +kernel
theorem dX2_take_19 : decode cX2_take 19 = .ok (.getfield 25, 3) := by decide +kernel
theorem dX2_take_22 : decode cX2_take 22 = .ok (.iload_n 1, 1) := by decide +kernel
theorem dX2_take_23 : decode cX2_take 23 = .ok (.invokevirtual 39, 3) := by decide +kernel
theorem dX2_take_26 : decode cX2_take 26 = .ok (.putfield 22, 3) := by decide +kernel
theorem dX2_take_29 : decode cX2_take 29 = .ok (.return_, 1) := by decide +kernel
def w_X2_take (a0 : Int) (X : XT) (Q : XT → Prop) : Prop :=
  w_X3_windXOf  a0 (x_st X 58 3 a0) (fun (v6 : Int) => w_X3_windYOf  a0 (x_st (x_st X 58 3 a0) 58 4 v6) (fun (v17 : Int) => Q (x_st (x_st (x_st X 58 3 a0) 58 4 v6) 58 5 v17)))
set_option maxRecDepth 20000 in
theorem so_X2_take {n : Nat} {h : Nat → sE} {X : XT} {a0 : Int} {Q : XT → Prop} (hn : 115 ≤ n) (hp : Pic X h) (w : w_X2_take  a0 X Q) : Sp m_X2_take 3 0 0 [.ref 58, .int (iI a0)] n h (pVw n h Q) := by
  unfold w_X2_take at w
  refine Sp.ofV (by decide +kernel) (Nat.le_of_ble_eq_true rfl) ?_
  have hf : Fr h h := fun _ _ => rfl
  refine v_aload_n dX2_take_0 rfl ?_
  refine v_iload_n dX2_take_1 rfl ?_
  refine v_put dX2_take_2 fl_X2_15 ((hp 58 (by decide)).trans (ent_58 _)) (s_lt hn rfl) (Nat.le_of_ble_eq_true rfl) (fun _ => ⟨rfl, rfl⟩) trivial (fun h1 E2 F3 => ?_)
  have hp4 := pic_st hp (show h1 58 = ent 58 (uI _ 3 a0) from E2) F3
  have hf5 := Fr.up (c := 58) hf F3 rfl
  refine v_aload_n dX2_take_5 rfl ?_
  refine v_aload_n dX2_take_6 rfl ?_
  refine v_get dX2_take_7 fl_X2_25 ((hp4 58 (by decide)).trans (ent_58 _)) rfl (s_lt hn rfl) ?_
  refine v_iload_n dX2_take_10 rfl ?_
  refine v_callVIr dX2_take_11 ml_X2_33 (so_X3_windXOf hn hp4  w) ((hp4 1 (by decide)).trans (ent_1 _)) rfl (s_lt hn rfl) rfl rfl (Nat.le_of_ble_eq_true rfl) (Nat.le_of_ble_eq_true rfl) (Nat.zero_le _) (Nat.zero_le _) (fun v6 w => ?_)
  refine v_put dX2_take_14 fl_X2_19 ((hp4 58 (by decide)).trans (ent_58 _)) (s_lt hn rfl) (Nat.le_of_ble_eq_true rfl) (fun _ => ⟨rfl, rfl⟩) trivial (fun h12 E13 F14 => ?_)
  have hp15 := pic_st hp4 (show h12 58 = ent 58 (uI _ 4 v6) from E13) F14
  have hf16 := Fr.up (c := 58) hf5 F14 rfl
  refine v_aload_n dX2_take_17 rfl ?_
  refine v_aload_n dX2_take_18 rfl ?_
  refine v_get dX2_take_19 fl_X2_25 ((hp15 58 (by decide)).trans (ent_58 _)) rfl (s_lt hn rfl) ?_
  refine v_iload_n dX2_take_22 rfl ?_
  refine v_callVIr dX2_take_23 ml_X2_39 (so_X3_windYOf hn hp15  w) ((hp15 1 (by decide)).trans (ent_1 _)) rfl (s_lt hn rfl) rfl rfl (Nat.le_of_ble_eq_true rfl) (Nat.le_of_ble_eq_true rfl) (Nat.zero_le _) (Nat.zero_le _) (fun v17 w => ?_)
  refine v_put dX2_take_26 fl_X2_22 ((hp15 58 (by decide)).trans (ent_58 _)) (s_lt hn rfl) (Nat.le_of_ble_eq_true rfl) (fun _ => ⟨rfl, rfl⟩) trivial (fun h23 E24 F25 => ?_)
  have hp26 := pic_st hp15 (show h23 58 = ent 58 (uI _ 5 v17) from E24) F25
  have hf27 := Fr.up (c := 58) hf16 F25 rfl
  exact v_vret dX2_take_29 rfl (Nat.zero_le _) (Nat.zero_le _) ⟨rfl, hf27, _, rfl, hp26, w⟩
theorem dX2_slotOf_0 : decode cX2_slotOf 0 = .ok (.iload_n 0, 1) := by decide +kernel
theorem dX2_slotOf_1 : decode cX2_slotOf 1 = .ok (.sipush 577, 3) := by decide +kernel
theorem dX2_slotOf_4 : decode cX2_slotOf 4 = .ok (.imul, 1) := by decide +kernel
theorem dX2_slotOf_5 : decode cX2_slotOf 5 = .ok (.iload_n 1, 1) := by decide +kernel
theorem dX2_slotOf_6 : decode cX2_slotOf 6 = .ok (.iadd, 1) := by decide +kernel
theorem dX2_slotOf_7 : decode cX2_slotOf 7 = .ok (.ireturn, 1) := by decide +kernel
def w_X2_slotOf (a0 a1 : Int) (X : XT) (Q : Int → Prop) : Prop :=
  Q ((a0 * 577) + a1)
set_option maxRecDepth 20000 in
theorem so_X2_slotOf {n : Nat} {h : Nat → sE} {X : XT} {a0 a1 : Int} {Q : Int → Prop} (hn : 115 ≤ n) (hp : Pic X h) (w : w_X2_slotOf  a0 a1 X Q) : Sp m_X2_slotOf 0 0 0 [.int (iI a0), .int (iI a1)] n h (pIr n h Q) := by
  unfold w_X2_slotOf at w
  refine Sp.ofV (by decide +kernel) (Nat.le_of_ble_eq_true rfl) ?_
  have hf : Fr h h := fun _ _ => rfl
  refine v_iload_n dX2_slotOf_0 rfl ?_
  refine v_sipushI dX2_slotOf_1 rfl ?_
  refine v_imulI dX2_slotOf_4 ?_
  refine v_iload_n dX2_slotOf_5 rfl ?_
  refine v_iaddI dX2_slotOf_6 ?_
  exact v_iret dX2_slotOf_7 rfl (Nat.zero_le _) (Nat.zero_le _) ⟨rfl, rfl, _, rfl, w⟩
theorem dX2_reach_0 : decode cX2_reach 0 = .ok (.iload_n 1, 1) := by decide +kernel
theorem dX2_reach_1 : decode cX2_reach 1 = .ok (.iload_n 2, 1) := by decide +kernel
theorem dX2_reach_2 : decode cX2_reach 2 = .ok (.invokestatic 42, 3) := by decide +kernel
theorem dX2_reach_5 : decode cX2_reach 5 = .ok (.istore_n 3, 1) := by decide +kernel
theorem dX2_reach_6 : decode cX2_reach 6 = .ok (.iload_n 3, 1) := by decide +kernel
theorem dX2_reach_7 : decode cX2_reach 7 = .ok (.ifCond .lt 55, 3) := by decide +kernel
theorem dX2_reach_10 : decode cX2_reach 10 = .ok (.iload_n 3, 1) := by decide +kernel
theorem dX2_reach_11 : decode cX2_reach 11 = .ok (.aload_n 0, 1) := by decide +kernel
theorem dX2_reach_12 : decode cX2_reach 12 = .ok (.getfield 9, 3) := by decide +kernel
theorem dX2_reach_15 : decode cX2_reach 15 = .ok (.arraylength, 1) := by decide +kernel
theorem dX2_reach_16 : decode cX2_reach 16 = .ok (.if_icmp .ge 46, 3) := by decide +kernel
theorem dX2_reach_19 : decode cX2_reach 19 = .ok (.aload_n 0, 1) := by decide +kernel
theorem dX2_reach_20 : decode cX2_reach 20 = .ok (.getfield 9, 3) := by decide +kernel
theorem dX2_reach_23 : decode cX2_reach 23 = .ok (.iload_n 3, 1) := by decide +kernel
theorem dX2_reach_24 : decode cX2_reach 24 = .ok (.iaload, 1) := by decide +kernel
theorem dX2_reach_25 : decode cX2_reach 25 = .ok (.ifCond .ne 37, 3) := by decide +kernel
theorem dX2_reach_28 : decode cX2_reach 28 = .ok (.aload_n 0, 1) := by decide +kernel
theorem dX2_reach_29 : decode cX2_reach 29 = .ok (.getfield 9, 3) := by decide +kernel
theorem dX2_reach_32 : decode cX2_reach 32 = .ok (.iload_n 3, 1) := by decide +kernel
theorem dX2_reach_33 : decode cX2_reach 33 = .ok (.iload_n 2, 1) := by decide +kernel
theorem dX2_reach_34 : decode cX2_reach 34 = .ok (.sipush 576, 3) := by decide +kernel
theorem dX2_reach_37 : decode cX2_reach 37 = .ok (.if_icmp .eq 23, 3) := by decide +kernel
theorem dX2_reach_40 : decode cX2_reach 40 = .ok (.aload_n 0, 1) := by decide +kernel
theorem dX2_reach_41 : decode cX2_reach 41 = .ok (.getfield 29, 3) := by decide +kernel
theorem dX2_reach_44 : decode cX2_reach 44 = .ok (.aload_n 0, 1) := by decide +kernel
theorem dX2_reach_45 : decode cX2_reach 45 = .ok (.getfield 15, 3) := by decide +kernel
theorem dX2_reach_48 : decode cX2_reach 48 = .ok (.iload_n 1, 1) := by decide +kernel
theorem dX2_reach_49 : decode cX2_reach 49 = .ok (.iload_n 2, 1) := by decide +kernel
theorem dX2_reach_50 : decode cX2_reach 50 = .ok (.invokevirtual 65, 3) := by decide +kernel
theorem dX2_reach_53 : decode cX2_reach 53 = .ok (.ifCond .ne 7, 3) := by decide +kernel
theorem dX2_reach_56 : decode cX2_reach 56 = .ok (.iconst 1, 1) := by decide +kernel
theorem dX2_reach_57 : decode cX2_reach 57 = .ok (.goto 4, 3) := by decide +kernel
theorem dX2_reach_60 : decode cX2_reach 60 = .ok (.iconst 2, 1) := by decide +kernel
theorem dX2_reach_61 : decode cX2_reach 61 = .ok (.iastore, 1) := by decide +kernel
theorem dX2_reach_62 : decode cX2_reach 62 = .ok (.return_, 1) := by decide +kernel
def w_X2_reach (K : LK) (a0 a1 : Int) (X : XT) (Q : XT → Prop) : Prop :=
  w_X2_slotOf  a0 a1 X (fun (v1 : Int) => R32 v1 ∧ (v1 < 0 → Q X) ∧ (¬ v1 < 0 → (6924 ≤ v1 → Q X) ∧ (¬ 6924 ≤ v1 → (0 ≤ v1 ∧ v1 < 6924) ∧ R32 (X 59 v1) ∧ (¬ (X 59 v1) = 0 → Q X) ∧ ((X 59 v1) = 0 → R32 a1 ∧ (a1 = 576 → Q (x_st X 59 v1 2)) ∧ (¬ a1 = 576 → w_X0_hindrance K  (X 58 3) a0 a1 X (fun (v20 : Int) (X21 : XT) => R32 v20 ∧ (¬ v20 = 0 → Q (x_st X21 59 v1 2)) ∧ (v20 = 0 → Q (x_st X21 59 v1 1))))))))
set_option maxRecDepth 20000 in
theorem so_X2_reach {n : Nat} {h : Nat → sE} {X : XT} {K : LK} {hk : Nat → sE} (hK : LKok K n hk) {a0 a1 : Int} {Q : XT → Prop} (hn : 115 ≤ n) (hp : Pic X h) (hf9 : Fr hk h) (w : w_X2_reach K  a0 a1 X Q) : Sp m_X2_reach 4 0 0 [.ref 58, .int (iI a0), .int (iI a1)] n h (pVw n h Q) := by
  unfold w_X2_reach at w
  refine Sp.ofV (by decide +kernel) (Nat.le_of_ble_eq_true rfl) ?_
  have hf : Fr h h := fun _ _ => rfl
  refine v_iload_n dX2_reach_0 rfl ?_
  refine v_iload_n dX2_reach_1 rfl ?_
  refine v_callSIr dX2_reach_2 ml_X2_42 (so_X2_slotOf hn hp  w) rfl rfl (Nat.le_of_ble_eq_true rfl) (Nat.le_of_ble_eq_true rfl) (Nat.zero_le _) (Nat.zero_le _) (fun v1 w => ?_)
  refine v_istore_n dX2_reach_5 (Nat.le_of_ble_eq_true rfl) ?_
  refine v_iload_n dX2_reach_6 rfl ?_
  obtain ⟨q7, w⟩ := w
  refine v_if_ltI (tgt := 62) dX2_reach_7 (by decide) q7.1 q7.2 (fun c8 => ?_) (fun c8 => ?_)
  · replace w := w.1 c8
    exact v_vret dX2_reach_62 rfl (Nat.zero_le _) (Nat.zero_le _) ⟨rfl, hf, _, rfl, hp, w⟩
  · replace w := w.2 c8
    refine v_iload_n dX2_reach_10 rfl ?_
    refine v_aload_n dX2_reach_11 rfl ?_
    refine v_get dX2_reach_12 fl_X2_9 ((hp 58 (by decide)).trans (ent_58 _)) rfl (s_lt hn rfl) ?_
    refine v_alen_aI dX2_reach_15 ((hp 59 (by decide)).trans (ent_59 _)) (s_lt hn rfl) ?_
    refine v_icmp_geI (tgt := 62) dX2_reach_16 (by decide) q7.1 q7.2 (by decide) (by decide) (fun c9 => ?_) (fun c9 => ?_)
    · replace w := w.1 c9
      exact v_vret dX2_reach_62 rfl (Nat.zero_le _) (Nat.zero_le _) ⟨rfl, hf, _, rfl, hp, w⟩
    · replace w := w.2 c9
      refine v_aload_n dX2_reach_19 rfl ?_
      refine v_get dX2_reach_20 fl_X2_9 ((hp 58 (by decide)).trans (ent_58 _)) rfl (s_lt hn rfl) ?_
      refine v_iload_n dX2_reach_23 rfl ?_
      obtain ⟨q10, w⟩ := w
      refine v_ialdI dX2_reach_24 ((hp 59 (by decide)).trans (ent_59 _)) (s_lt hn rfl) q10.1 q10.2 (ix_le q10.2 (by decide)) ?_
      obtain ⟨q11, w⟩ := w
      refine v_if_neI (tgt := 62) dX2_reach_25 (by decide) q11.1 q11.2 (fun c12 => ?_) (fun c12 => ?_)
      · replace w := w.1 c12
        exact v_vret dX2_reach_62 rfl (Nat.zero_le _) (Nat.zero_le _) ⟨rfl, hf, _, rfl, hp, w⟩
      · replace w := w.2 c12
        refine v_aload_n dX2_reach_28 rfl ?_
        refine v_get dX2_reach_29 fl_X2_9 ((hp 58 (by decide)).trans (ent_58 _)) rfl (s_lt hn rfl) ?_
        refine v_iload_n dX2_reach_32 rfl ?_
        refine v_iload_n dX2_reach_33 rfl ?_
        refine v_sipushI dX2_reach_34 rfl ?_
        obtain ⟨q13, w⟩ := w
        refine v_icmp_eqI (tgt := 60) dX2_reach_37 (by decide) q13.1 q13.2 (by decide) (by decide) (fun c14 => ?_) (fun c14 => ?_)
        · replace w := w.1 c14
          refine v_iconstI dX2_reach_60 ?_
          refine v_iastI dX2_reach_61 ((hp 59 (by decide)).trans (ent_59 _)) (s_lt hn rfl) q10.1 q10.2 (ix_le q10.2 (by decide)) (fun h15 E16 F17 => ?_)
          have hp18 := pic_st hp (show h15 59 = ent 59 (uI _ v1 2) from E16) F17
          have hf19 := Fr.up (c := 59) hf F17 rfl
          exact v_vret dX2_reach_62 rfl (Nat.zero_le _) (Nat.zero_le _) ⟨rfl, hf19, _, rfl, hp18, w⟩
        · replace w := w.2 c14
          refine v_aload_n dX2_reach_40 rfl ?_
          refine v_get dX2_reach_41 fl_X2_29 ((hp 58 (by decide)).trans (ent_58 _)) rfl (s_lt hn rfl) ?_
          refine v_aload_n dX2_reach_44 rfl ?_
          refine v_get dX2_reach_45 fl_X2_15 ((hp 58 (by decide)).trans (ent_58 _)) rfl (s_lt hn rfl) ?_
          refine v_iload_n dX2_reach_48 rfl ?_
          refine v_iload_n dX2_reach_49 rfl ?_
          refine v_callVIw dX2_reach_50 ml_X2_65 (so_X0_hindrance hK hn hp (Fr.trans hf9 hf) w) ((hp 44 (by decide)).trans (ent_44 _)) rfl (s_lt hn rfl) rfl rfl (Nat.le_of_ble_eq_true rfl) (Nat.le_of_ble_eq_true rfl) (Nat.zero_le _) (Nat.zero_le _) (fun v20 X21 h22 hp24 hf23 w => ?_)
          have hf25 := Fr.trans hf hf23
          obtain ⟨q26, w⟩ := w
          refine v_if_neI (tgt := 60) dX2_reach_53 (by decide) q26.1 q26.2 (fun c27 => ?_) (fun c27 => ?_)
          · replace w := w.1 c27
            refine v_iconstI dX2_reach_60 ?_
            refine v_iastI dX2_reach_61 ((hp24 59 (by decide)).trans (ent_59 _)) (s_lt hn rfl) q10.1 q10.2 (ix_le q10.2 (by decide)) (fun h28 E29 F30 => ?_)
            have hp31 := pic_st hp24 (show h28 59 = ent 59 (uI _ v1 2) from E29) F30
            have hf32 := Fr.up (c := 59) hf25 F30 rfl
            exact v_vret dX2_reach_62 rfl (Nat.zero_le _) (Nat.zero_le _) ⟨rfl, hf32, _, rfl, hp31, w⟩
          · replace w := w.2 c27
            refine v_iconstI dX2_reach_56 ?_
            refine v_goto (tgt := 61) dX2_reach_57 (by decide) ?_
            refine v_iastI dX2_reach_61 ((hp24 59 (by decide)).trans (ent_59 _)) (s_lt hn rfl) q10.1 q10.2 (ix_le q10.2 (by decide)) (fun h33 E34 F35 => ?_)
            have hp36 := pic_st hp24 (show h33 59 = ent 59 (uI _ v1 1) from E34) F35
            have hf37 := Fr.up (c := 59) hf25 F35 rfl
            exact v_vret dX2_reach_62 rfl (Nat.zero_le _) (Nat.zero_le _) ⟨rfl, hf37, _, rfl, hp36, w⟩
theorem dX2_markOf_0 : decode cX2_markOf 0 = .ok (.iload_n 1, 1) := by decide +kernel
theorem dX2_markOf_1 : decode cX2_markOf 1 = .ok (.iload_n 2, 1) := by decide +kernel
theorem dX2_markOf_2 : decode cX2_markOf 2 = .ok (.invokestatic 42, 3) := by decide +kernel
theorem dX2_markOf_5 : decode cX2_markOf 5 = .ok (.istore_n 3, 1) := by decide +kernel
theorem dX2_markOf_6 : decode cX2_markOf 6 = .ok (.iload_n 3, 1) := by decide +kernel
theorem dX2_markOf_7 : decode cX2_markOf 7 = .ok (.ifCond .lt 21, 3) := by decide +kernel
theorem dX2_markOf_10 : decode cX2_markOf 10 = .ok (.iload_n 3, 1) := by decide +kernel
theorem dX2_markOf_11 : decode cX2_markOf 11 = .ok (.aload_n 0, 1) := by decide +kernel
theorem dX2_markOf_12 : decode cX2_markOf 12 = .ok (.getfield 9, 3) := by decide +kernel
theorem dX2_markOf_15 : decode cX2_markOf 15 = .ok (.arraylength, 1) := by decide +kernel
theorem dX2_markOf_16 : decode cX2_markOf 16 = .ok (.if_icmp .ge 12, 3) := by decide +kernel
theorem dX2_markOf_19 : decode cX2_markOf 19 = .ok (.aload_n 0, 1) := by decide +kernel
theorem dX2_markOf_20 : decode cX2_markOf 20 = .ok (.getfield 9, 3) := by decide +kernel
theorem dX2_markOf_23 : decode cX2_markOf 23 = .ok (.iload_n 3, 1) := by decide +kernel
theorem dX2_markOf_24 : decode cX2_markOf 24 = .ok (.iaload, 1) := by decide +kernel
theorem dX2_markOf_25 : decode cX2_markOf 25 = .ok (.goto 4, 3) := by decide +kernel
theorem dX2_markOf_28 : decode cX2_markOf 28 = .ok (.iconst 0, 1) := by decide +kernel
theorem dX2_markOf_29 : decode cX2_markOf 29 = .ok (.ireturn, 1) := by decide +kernel
def w_X2_markOf (a0 a1 : Int) (X : XT) (Q : Int → Prop) : Prop :=
  w_X2_slotOf  a0 a1 X (fun (v1 : Int) => R32 v1 ∧ (v1 < 0 → Q 0) ∧ (¬ v1 < 0 → (6924 ≤ v1 → Q 0) ∧ (¬ 6924 ≤ v1 → (0 ≤ v1 ∧ v1 < 6924) ∧ Q (X 59 v1))))
set_option maxRecDepth 20000 in
theorem so_X2_markOf {n : Nat} {h : Nat → sE} {X : XT} {a0 a1 : Int} {Q : Int → Prop} (hn : 115 ≤ n) (hp : Pic X h) (w : w_X2_markOf  a0 a1 X Q) : Sp m_X2_markOf 1 0 0 [.ref 58, .int (iI a0), .int (iI a1)] n h (pIr n h Q) := by
  unfold w_X2_markOf at w
  refine Sp.ofV (by decide +kernel) (Nat.le_of_ble_eq_true rfl) ?_
  have hf : Fr h h := fun _ _ => rfl
  refine v_iload_n dX2_markOf_0 rfl ?_
  refine v_iload_n dX2_markOf_1 rfl ?_
  refine v_callSIr dX2_markOf_2 ml_X2_42 (so_X2_slotOf hn hp  w) rfl rfl (Nat.le_of_ble_eq_true rfl) (Nat.le_of_ble_eq_true rfl) (Nat.zero_le _) (Nat.zero_le _) (fun v1 w => ?_)
  refine v_istore_n dX2_markOf_5 (Nat.le_of_ble_eq_true rfl) ?_
  refine v_iload_n dX2_markOf_6 rfl ?_
  obtain ⟨q7, w⟩ := w
  refine v_if_ltI (tgt := 28) dX2_markOf_7 (by decide) q7.1 q7.2 (fun c8 => ?_) (fun c8 => ?_)
  · replace w := w.1 c8
    refine v_iconstI dX2_markOf_28 ?_
    exact v_iret dX2_markOf_29 rfl (Nat.zero_le _) (Nat.zero_le _) ⟨rfl, rfl, _, rfl, w⟩
  · replace w := w.2 c8
    refine v_iload_n dX2_markOf_10 rfl ?_
    refine v_aload_n dX2_markOf_11 rfl ?_
    refine v_get dX2_markOf_12 fl_X2_9 ((hp 58 (by decide)).trans (ent_58 _)) rfl (s_lt hn rfl) ?_
    refine v_alen_aI dX2_markOf_15 ((hp 59 (by decide)).trans (ent_59 _)) (s_lt hn rfl) ?_
    refine v_icmp_geI (tgt := 28) dX2_markOf_16 (by decide) q7.1 q7.2 (by decide) (by decide) (fun c9 => ?_) (fun c9 => ?_)
    · replace w := w.1 c9
      refine v_iconstI dX2_markOf_28 ?_
      exact v_iret dX2_markOf_29 rfl (Nat.zero_le _) (Nat.zero_le _) ⟨rfl, rfl, _, rfl, w⟩
    · replace w := w.2 c9
      refine v_aload_n dX2_markOf_19 rfl ?_
      refine v_get dX2_markOf_20 fl_X2_9 ((hp 58 (by decide)).trans (ent_58 _)) rfl (s_lt hn rfl) ?_
      refine v_iload_n dX2_markOf_23 rfl ?_
      obtain ⟨q10, w⟩ := w
      refine v_ialdI dX2_markOf_24 ((hp 59 (by decide)).trans (ent_59 _)) (s_lt hn rfl) q10.1 q10.2 (ix_le q10.2 (by decide)) ?_
      refine v_goto (tgt := 29) dX2_markOf_25 (by decide) ?_
      exact v_iret dX2_markOf_29 rfl (Nat.zero_le _) (Nat.zero_le _) ⟨rfl, rfl, _, rfl, w⟩
theorem dX2_isReached_0 : decode cX2_isReached 0 = .ok (.aload_n 0, 1) := by decide +kernel
theorem dX2_isReached_1 : decode cX2_isReached 1 = .ok (.iload_n 1, 1) := by decide +kernel
theorem dX2_isReached_2 : decode cX2_isReached 2 = .ok (.iload_n 2, 1) := by decide +kernel
theorem dX2_isReached_3 : decode cX2_isReached 3 = .ok (.invokevirtual 46, 3) := by decide +kernel
theorem dX2_isReached_6 : decode cX2_isReached 6 = .ok (.ifCond .eq 7, 3) := by decide +kernel
theorem dX2_isReached_9 : decode cX2_isReached 9 = .ok (.iconst 1, 1) := by decide +kernel
theorem dX2_isReached_10 : decode cX2_isReached 10 = .ok (.goto 4, 3) := by decide +kernel
theorem dX2_isReached_13 : decode cX2_isReached 13 = .ok (.iconst 0, 1) := by decide +kernel
theorem dX2_isReached_14 : decode cX2_isReached 14 = .ok (.ireturn, 1) := by decide +kernel
def w_X2_isReached (a0 a1 : Int) (X : XT) (Q : Int → Prop) : Prop :=
  w_X2_markOf  a0 a1 X (fun (v1 : Int) => R32 v1 ∧ (v1 = 0 → Q 0) ∧ (¬ v1 = 0 → Q 1))
set_option maxRecDepth 20000 in
theorem so_X2_isReached {n : Nat} {h : Nat → sE} {X : XT} {a0 a1 : Int} {Q : Int → Prop} (hn : 115 ≤ n) (hp : Pic X h) (w : w_X2_isReached  a0 a1 X Q) : Sp m_X2_isReached 2 0 0 [.ref 58, .int (iI a0), .int (iI a1)] n h (pIr n h Q) := by
  unfold w_X2_isReached at w
  refine Sp.ofV (by decide +kernel) (Nat.le_of_ble_eq_true rfl) ?_
  have hf : Fr h h := fun _ _ => rfl
  refine v_aload_n dX2_isReached_0 rfl ?_
  refine v_iload_n dX2_isReached_1 rfl ?_
  refine v_iload_n dX2_isReached_2 rfl ?_
  refine v_callVIr dX2_isReached_3 ml_X2_46 (so_X2_markOf hn hp  w) ((hp 58 (by decide)).trans (ent_58 _)) rfl (s_lt hn rfl) rfl rfl (Nat.le_of_ble_eq_true rfl) (Nat.le_of_ble_eq_true rfl) (Nat.zero_le _) (Nat.zero_le _) (fun v1 w => ?_)
  obtain ⟨q7, w⟩ := w
  refine v_if_eqI (tgt := 13) dX2_isReached_6 (by decide) q7.1 q7.2 (fun c8 => ?_) (fun c8 => ?_)
  · replace w := w.1 c8
    refine v_iconstI dX2_isReached_13 ?_
    exact v_z0 dX2_isReached_14 rfl (Nat.zero_le _) (Nat.zero_le _) ⟨rfl, rfl, _, rfl, w⟩
  · replace w := w.2 c8
    refine v_iconstI dX2_isReached_9 ?_
    refine v_goto (tgt := 14) dX2_isReached_10 (by decide) ?_
    exact v_z1 dX2_isReached_14 rfl (Nat.zero_le _) (Nat.zero_le _) ⟨rfl, rfl, _, rfl, w⟩
theorem dX2_onward_0 : decode cX2_onward 0 = .ok (.iload 5, 2) := by decide +kernel
theorem dX2_onward_2 : decode cX2_onward 2 = .ok (.ifCond .eq 11, 3) := by decide +kernel
theorem dX2_onward_5 : decode cX2_onward 5 = .ok (.aload_n 0, 1) := by decide +kernel
theorem dX2_onward_6 : decode cX2_onward 6 = .ok (.getfield 22, 3) := by decide +kernel
theorem dX2_onward_9 : decode cX2_onward 9 = .ok (.ineg, 1) := by decide +kernel
theorem dX2_onward_10 : decode cX2_onward 10 = .ok (.goto 7, 3) := by decide +kernel
theorem dX2_onward_13 : decode cX2_onward 13 = .ok (.aload_n 0, 1) := by decide +kernel
theorem dX2_onward_14 : decode cX2_onward 14 = .ok (.getfield 19, 3) := by decide +kernel
theorem dX2_onward_17 : decode cX2_onward 17 = .ok (.istore 6, 2) := by decide +kernel
theorem dX2_onward_19 : decode cX2_onward 19 = .ok (.iload 5, 2) := by decide +kernel
theorem dX2_onward_21 : decode cX2_onward 21 = .ok (.ifCond .eq 10, 3) := by decide +kernel
theorem dX2_onward_24 : decode cX2_onward 24 = .ok (.aload_n 0, 1) := by decide +kernel
theorem dX2_onward_25 : decode cX2_onward 25 = .ok (.getfield 19, 3) := by decide +kernel
theorem dX2_onward_28 : decode cX2_onward 28 = .ok (.goto 7, 3) := by decide +kernel
theorem dX2_onward_31 : decode cX2_onward 31 = .ok (.aload_n 0, 1) := by decide +kernel
theorem dX2_onward_32 : decode cX2_onward 32 = .ok (.getfield 22, 3) := by decide +kernel
theorem dX2_onward_35 : decode cX2_onward 35 = .ok (.istore 7, 2) := by decide +kernel
theorem dX2_onward_37 : decode cX2_onward 37 = .ok (.aload_n 0, 1) := by decide +kernel
theorem dX2_onward_38 : decode cX2_onward 38 = .ok (.iload_n 1, 1) := by decide +kernel
theorem dX2_onward_39 : decode cX2_onward 39 = .ok (.iload_n 2, 1) := by decide +kernel
theorem dX2_onward_40 : decode cX2_onward 40 = .ok (.invokevirtual 46, 3) := by decide +kernel
theorem dX2_onward_43 : decode cX2_onward 43 = .ok (.iconst 1, 1) := by decide +kernel
theorem dX2_onward_44 : decode cX2_onward 44 = .ok (.if_icmp .ne 33, 3) := by decide +kernel
theorem dX2_onward_47 : decode cX2_onward 47 = .ok (.iload 6, 2) := by decide +kernel
theorem dX2_onward_49 : decode cX2_onward 49 = .ok (.iload_n 3, 1) := by decide +kernel
theorem dX2_onward_50 : decode cX2_onward 50 = .ok (.invokestatic 71, 3) := by decide +kernel
theorem dX2_onward_53 : decode cX2_onward 53 = .ok (.iload 4, 2) := by decide +kernel
theorem dX2_onward_55 : decode cX2_onward 55 = .ok (.invokestatic 71, 3) := by decide +kernel
theorem dX2_onward_58 : decode cX2_onward 58 = .ok (.iadd, 1) := by decide +kernel
theorem dX2_onward_59 : decode cX2_onward 59 = .ok (.iadd, 1) := by decide +kernel
theorem dX2_onward_60 : decode cX2_onward 60 = .ok (.istore 6, 2) := by decide +kernel
theorem dX2_onward_62 : decode cX2_onward 62 = .ok (.iload 7, 2) := by decide +kernel
theorem dX2_onward_64 : decode cX2_onward 64 = .ok (.iload_n 3, 1) := by decide +kernel
theorem dX2_onward_65 : decode cX2_onward 65 = .ok (.invokestatic 76, 3) := by decide +kernel
theorem dX2_onward_68 : decode cX2_onward 68 = .ok (.iload 4, 2) := by decide +kernel
theorem dX2_onward_70 : decode cX2_onward 70 = .ok (.invokestatic 76, 3) := by decide +kernel
theorem dX2_onward_73 : decode cX2_onward 73 = .ok (.iadd, 1) := by decide +kernel
theorem dX2_onward_74 : decode cX2_onward 74 = .ok (.iadd, 1) := by decide +kernel
theorem dX2_onward_75 : decode cX2_onward 75 = .ok (.istore 7, 2) := by decide +kernel
theorem dX2_onward_77 : decode cX2_onward 77 = .ok (.iload_n 2, 1) := by decide +kernel
theorem dX2_onward_78 : decode cX2_onward 78 = .ok (.iload 6, 2) := by decide +kernel
theorem dX2_onward_80 : decode cX2_onward 80 = .ok (.iload 7, 2) := by decide +kernel
theorem dX2_onward_82 : decode cX2_onward 82 = .ok (.invokestatic 79, 3) := by decide +kernel
theorem dX2_onward_85 : decode cX2_onward 85 = .ok (.ireturn, 1) := by decide +kernel
def w_X2_onward (a0 a1 a2 a3 a4 : Int) (X : XT) (Q : Int → Prop) : Prop :=
  ∀ J2 : Int → Prop, (∀ (v1 : Int), (∀ J4 : Int → Prop, (∀ (v3 : Int), (w_X2_markOf  a0 a1 X (fun (v5 : Int) => R32 v5 ∧ (¬ v5 = 1 → (0 ≤ a1 ∧ a1 ≤ 576) ∧ (-3 ≤ v1 ∧ v1 ≤ 3) ∧ (-3 ≤ v3 ∧ v3 ≤ 3) ∧ Q (mvF a1 v1 v3)) ∧ (v5 = 1 → R32 a2 ∧ R32 a3 ∧ (0 ≤ a1 ∧ a1 ≤ 576) ∧ (-3 ≤ (v1 + ((sxF a2) + (sxF a3))) ∧ (v1 + ((sxF a2) + (sxF a3))) ≤ 3) ∧ (-3 ≤ (v3 + ((syF a2) + (syF a3))) ∧ (v3 + ((syF a2) + (syF a3))) ≤ 3) ∧ Q (mvF a1 (v1 + ((sxF a2) + (sxF a3))) (v3 + ((syF a2) + (syF a3))))))) → J4 v3) → R32 a4 ∧ (a4 = 0 → J4 (X 58 5)) ∧ (¬ a4 = 0 → J4 (X 58 4))) → J2 v1) → R32 a4 ∧ (a4 = 0 → J2 (X 58 4)) ∧ (¬ a4 = 0 → J2 (-(X 58 5)))
set_option maxRecDepth 20000 in
theorem so_X2_onward {n : Nat} {h : Nat → sE} {X : XT} {a0 a1 a2 a3 a4 : Int} {Q : Int → Prop} (hn : 115 ≤ n) (hp : Pic X h) (w : w_X2_onward  a0 a1 a2 a3 a4 X Q) : Sp m_X2_onward 2 0 0 [.ref 58, .int (iI a0), .int (iI a1), .int (iI a2), .int (iI a3), .int (iI a4)] n h (pIr n h Q) := by
  unfold w_X2_onward at w
  refine Sp.ofV (by decide +kernel) (Nat.le_of_ble_eq_true rfl) ?_
  have hf : Fr h h := fun _ _ => rfl
  refine v_iload dX2_onward_0 rfl ?_
  replace w := w (fun (v1 : Int) => V (m_X2_onward, 2, 0, 0, n, pIr n h Q, s_G0) 0 0 n h 17 [(0, .ref 58), (1, .int (iI a0)), (2, .int (iI a1)), (3, .int (iI a2)), (4, .int (iI a3)), (5, .int (iI a4))] [.int (iI v1)]) (by
    intro v1 w
    refine v_istore dX2_onward_17 (Nat.le_of_ble_eq_true rfl) ?_
    refine v_iload dX2_onward_19 rfl ?_
    replace w := w (fun (v3 : Int) => V (m_X2_onward, 2, 0, 0, n, pIr n h Q, s_G0) 0 0 n h 35 [(0, .ref 58), (1, .int (iI a0)), (2, .int (iI a1)), (3, .int (iI a2)), (4, .int (iI a3)), (6, .int (iI v1))] [.int (iI v3)]) (by
      intro v3 w
      refine v_istore dX2_onward_35 (Nat.le_of_ble_eq_true rfl) ?_
      refine v_aload_n dX2_onward_37 rfl ?_
      refine v_iload_n dX2_onward_38 rfl ?_
      refine v_iload_n dX2_onward_39 rfl ?_
      refine v_callVIr dX2_onward_40 ml_X2_46 (so_X2_markOf hn hp  w) ((hp 58 (by decide)).trans (ent_58 _)) rfl (s_lt hn rfl) rfl rfl (Nat.le_of_ble_eq_true rfl) (Nat.le_of_ble_eq_true rfl) (Nat.zero_le _) (Nat.zero_le _) (fun v5 w => ?_)
      refine v_iconstI dX2_onward_43 ?_
      obtain ⟨q11, w⟩ := w
      refine v_icmp_neI (tgt := 77) dX2_onward_44 (by decide) q11.1 q11.2 (by decide) (by decide) (fun c12 => ?_) (fun c12 => ?_)
      · replace w := w.1 c12
        refine v_iload_n dX2_onward_77 rfl ?_
        refine v_iload dX2_onward_78 rfl ?_
        refine v_iload dX2_onward_80 rfl ?_
        obtain ⟨q13, q14, q15, w⟩ := w
        refine v_callSp dX2_onward_82 ml_X2_79 (sp_X8_movedBy (a := a1) (x := v1) (y := v3) q13 q14 q15) rfl rfl (Nat.le_of_ble_eq_true rfl) (Nat.le_of_ble_eq_true rfl) (Nat.zero_le _) (Nat.zero_le _) ?_
        exact v_iret dX2_onward_85 rfl (Nat.zero_le _) (Nat.zero_le _) ⟨rfl, rfl, _, rfl, w⟩
      · replace w := w.2 c12
        refine v_iload dX2_onward_47 rfl ?_
        refine v_iload_n dX2_onward_49 rfl ?_
        obtain ⟨q16, w⟩ := w
        refine v_callSp dX2_onward_50 ml_X2_71 (sp_X8_stepX (a := a2) q16) rfl rfl (Nat.le_of_ble_eq_true rfl) (Nat.le_of_ble_eq_true rfl) (Nat.zero_le _) (Nat.zero_le _) ?_
        refine v_iload dX2_onward_53 rfl ?_
        obtain ⟨q17, w⟩ := w
        refine v_callSp dX2_onward_55 ml_X2_71 (sp_X8_stepX (a := a3) q17) rfl rfl (Nat.le_of_ble_eq_true rfl) (Nat.le_of_ble_eq_true rfl) (Nat.zero_le _) (Nat.zero_le _) ?_
        refine v_iaddI dX2_onward_58 ?_
        refine v_iaddI dX2_onward_59 ?_
        refine v_istore dX2_onward_60 (Nat.le_of_ble_eq_true rfl) ?_
        refine v_iload dX2_onward_62 rfl ?_
        refine v_iload_n dX2_onward_64 rfl ?_
        refine v_callSp dX2_onward_65 ml_X2_76 (sp_X8_stepY (a := a2) q16) rfl rfl (Nat.le_of_ble_eq_true rfl) (Nat.le_of_ble_eq_true rfl) (Nat.zero_le _) (Nat.zero_le _) ?_
        refine v_iload dX2_onward_68 rfl ?_
        refine v_callSp dX2_onward_70 ml_X2_76 (sp_X8_stepY (a := a3) q17) rfl rfl (Nat.le_of_ble_eq_true rfl) (Nat.le_of_ble_eq_true rfl) (Nat.zero_le _) (Nat.zero_le _) ?_
        refine v_iaddI dX2_onward_73 ?_
        refine v_iaddI dX2_onward_74 ?_
        refine v_istore dX2_onward_75 (Nat.le_of_ble_eq_true rfl) ?_
        refine v_iload_n dX2_onward_77 rfl ?_
        refine v_iload dX2_onward_78 rfl ?_
        refine v_iload dX2_onward_80 rfl ?_
        obtain ⟨q18, q19, q20, w⟩ := w
        refine v_callSp dX2_onward_82 ml_X2_79 (sp_X8_movedBy (a := a1) (x := (v1 + ((sxF a2) + (sxF a3)))) (y := (v3 + ((syF a2) + (syF a3)))) q18 q19 q20) rfl rfl (Nat.le_of_ble_eq_true rfl) (Nat.le_of_ble_eq_true rfl) (Nat.zero_le _) (Nat.zero_le _) ?_
        exact v_iret dX2_onward_85 rfl (Nat.zero_le _) (Nat.zero_le _) ⟨rfl, rfl, _, rfl, w⟩
    )
    obtain ⟨q21, w⟩ := w
    refine v_if_eqI (tgt := 31) dX2_onward_21 (by decide) q21.1 q21.2 (fun c22 => ?_) (fun c22 => ?_)
    · replace w := w.1 c22
      refine v_aload_n dX2_onward_31 rfl ?_
      refine v_get dX2_onward_32 fl_X2_22 ((hp 58 (by decide)).trans (ent_58 _)) rfl (s_lt hn rfl) ?_
      refine v_pick [1, 2, 3, 4, 5, 0] rfl ?_
      exact w
    · replace w := w.2 c22
      refine v_aload_n dX2_onward_24 rfl ?_
      refine v_get dX2_onward_25 fl_X2_19 ((hp 58 (by decide)).trans (ent_58 _)) rfl (s_lt hn rfl) ?_
      refine v_goto (tgt := 35) dX2_onward_28 (by decide) ?_
      refine v_pick [1, 2, 3, 4, 5, 0] rfl ?_
      exact w
  )
  obtain ⟨q23, w⟩ := w
  refine v_if_eqI (tgt := 13) dX2_onward_2 (by decide) q23.1 q23.2 (fun c24 => ?_) (fun c24 => ?_)
  · replace w := w.1 c24
    refine v_aload_n dX2_onward_13 rfl ?_
    refine v_get dX2_onward_14 fl_X2_19 ((hp 58 (by decide)).trans (ent_58 _)) rfl (s_lt hn rfl) ?_
    exact w
  · replace w := w.2 c24
    refine v_aload_n dX2_onward_5 rfl ?_
    refine v_get dX2_onward_6 fl_X2_22 ((hp 58 (by decide)).trans (ent_58 _)) rfl (s_lt hn rfl) ?_
    refine v_inegI dX2_onward_9 ?_
    refine v_goto (tgt := 17) dX2_onward_10 (by decide) ?_
    exact w
theorem dX2_spread_0 : decode cX2_spread 0 = .ok (.iconst 0, 1) := by decide +kernel
theorem dX2_spread_1 : decode cX2_spread 1 = .ok (.istore 6, 2) := by decide +kernel
theorem dX2_spread_3 : decode cX2_spread 3 = .ok (.iload 6, 2) := by decide +kernel
theorem dX2_spread_5 : decode cX2_spread 5 = .ok (.aload_n 0, 1) := by decide +kernel
theorem dX2_spread_6 : decode cX2_spread 6 = .ok (.getfield 9, 3) := by decide +kernel
theorem dX2_spread_9 : decode cX2_spread 9 = .ok (.arraylength, 1) := by decide +kernel
theorem dX2_spread_10 : decode cX2_spread 10 = .ok (.if_icmp .ge 17, 3) := by decide +kernel
theorem dX2_spread_13 : decode cX2_spread 13 = .ok (.aload_n 0, 1) := by decide +kernel
theorem dX2_spread_14 : decode cX2_spread 14 = .ok (.getfield 9, 3) := by decide +kernel
theorem dX2_spread_17 : decode cX2_spread 17 = .ok (.iload 6, 2) := by decide +kernel
theorem dX2_spread_19 : decode cX2_spread 19 = .ok (.iconst 0, 1) := by decide +kernel
theorem dX2_spread_20 : decode cX2_spread 20 = .ok (.iastore, 1) := by decide +kernel
theorem dX2_spread_21 : decode cX2_spread 21 = .ok (.iinc 6 1, 3) := by decide +kernel
theorem dX2_spread_24 : decode cX2_spread 24 = .ok (.goto (-21), 3) := by decide +kernel
theorem dX2_spread_27 : decode cX2_spread 27 = .ok (.aload_n 0, 1) := by decide +kernel
theorem dX2_spread_28 : decode cX2_spread 28 = .ok (.iload_n 1, 1) := by decide +kernel
theorem dX2_spread_29 : decode cX2_spread 29 = .ok (.iload_n 2, 1) := by decide +kernel
theorem dX2_spread_30 : decode cX2_spread 30 = .ok (.invokevirtual 53, 3) := by decide +kernel
theorem dX2_spread_33 : decode cX2_spread 33 = .ok (.iconst 5, 1) := by decide +kernel
theorem dX2_spread_34 : decode cX2_spread 34 = .ok (.iload 4, 2) := by decide +kernel
theorem dX2_spread_36 : decode cX2_spread 36 = .ok (.iconst 1, 1) := by decide +kernel
theorem dX2_spread_37 : decode cX2_spread 37 = .ok (.if_icmp .le 7, 3) := by decide +kernel
theorem dX2_spread_40 : decode cX2_spread 40 = .ok (.iconst 5, 1) := by decide +kernel
theorem dX2_spread_41 : decode cX2_spread 41 = .ok (.goto 4, 3) := by decide +kernel
theorem dX2_spread_44 : decode cX2_spread 44 = .ok (.iconst 1, 1) := by decide +kernel
theorem dX2_spread_45 : decode cX2_spread 45 = .ok (.imul, 1) := by decide +kernel
theorem dX2_spread_46 : decode cX2_spread 46 = .ok (.istore 6, 2) := by decide +kernel
theorem dX2_spread_48 : decode cX2_spread 48 = .ok (.iload_n 1, 1) := by decide +kernel
theorem dX2_spread_49 : decode cX2_spread 49 = .ok (.istore 7, 2) := by decide +kernel
theorem dX2_spread_51 : decode cX2_spread 51 = .ok (.iload 7, 2) := by decide +kernel
theorem dX2_spread_53 : decode cX2_spread 53 = .ok (.iload_n 3, 1) := by decide +kernel
theorem dX2_spread_54 : decode cX2_spread 54 = .ok (.if_icmp .ge 130, 3) := by decide +kernel
theorem dX2_spread_57 : decode cX2_spread 57 = .ok (.iconst 0, 1) := by decide +kernel
theorem dX2_spread_58 : decode cX2_spread 58 = .ok (.istore 8, 2) := by decide +kernel
theorem dX2_spread_60 : decode cX2_spread 60 = .ok (.iload 8, 2) := by decide +kernel
theorem dX2_spread_62 : decode cX2_spread 62 = .ok (.sipush 577, 3) := by decide +kernel
theorem dX2_spread_65 : decode cX2_spread 65 = .ok (.if_icmp .ge 113, 3) := by decide +kernel
theorem dX2_spread_68 : decode cX2_spread 68 = .ok (.aload_n 0, 1) := by decide +kernel
theorem dX2_spread_69 : decode cX2_spread 69 = .ok (.iload 7, 2) := by decide +kernel
theorem dX2_spread_71 : decode cX2_spread 71 = .ok (.iload 8, 2) := by decide +kernel
theorem dX2_spread_73 : decode cX2_spread 73 = .ok (.invokevirtual 57, 3) := by decide +kernel
theorem dX2_spread_76 : decode cX2_spread 76 = .ok (.ifCond .eq 8, 3) := by decide +kernel
theorem dX2_spread_79 : decode cX2_spread 79 = .ok (.iload 6, 2) := by decide +kernel
theorem dX2_spread_81 : decode cX2_spread 81 = .ok (.goto 4, 3) := by decide +kernel
theorem dX2_spread_84 : decode cX2_spread 84 = .ok (.iconst 0, 1) := by decide +kernel
theorem dX2_spread_85 : decode cX2_spread 85 = .ok (.istore 9, 2) := by decide +kernel
theorem dX2_spread_87 : decode cX2_spread 87 = .ok (.iconst 0, 1) := by decide +kernel
theorem dX2_spread_88 : decode cX2_spread 88 = .ok (.istore 10, 2) := by decide +kernel
theorem dX2_spread_90 : decode cX2_spread 90 = .ok (.iload 10, 2) := by decide +kernel
theorem dX2_spread_92 : decode cX2_spread 92 = .ok (.iload 9, 2) := by decide +kernel
theorem dX2_spread_94 : decode cX2_spread 94 = .ok (.if_icmp .ge 78, 3) := by decide +kernel
theorem dX2_spread_97 : decode cX2_spread 97 = .ok (.iload 10, 2) := by decide +kernel
theorem dX2_spread_99 : decode cX2_spread 99 = .ok (.iconst 5, 1) := by decide +kernel
theorem dX2_spread_100 : decode cX2_spread 100 = .ok (.irem, 1) := by decide +kernel
theorem dX2_spread_101 : decode cX2_spread 101 = .ok (.istore 11, 2) := by decide +kernel
theorem dX2_spread_103 : decode cX2_spread 103 = .ok (.iload 4, 2) := by decide +kernel
theorem dX2_spread_105 : decode cX2_spread 105 = .ok (.iconst 1, 1) := by decide +kernel
theorem dX2_spread_106 : decode cX2_spread 106 = .ok (.if_icmp .le 10, 3) := by decide +kernel
theorem dX2_spread_109 : decode cX2_spread 109 = .ok (.iload 10, 2) := by decide +kernel
theorem dX2_spread_111 : decode cX2_spread 111 = .ok (.iconst 5, 1) := by decide +kernel
theorem dX2_spread_112 : decode cX2_spread 112 = .ok (.idiv, 1) := by decide +kernel
theorem dX2_spread_113 : decode cX2_spread 113 = .ok (.goto 4, 3) := by decide +kernel
theorem dX2_spread_116 : decode cX2_spread 116 = .ok (.iconst 4, 1) := by decide +kernel
theorem dX2_spread_117 : decode cX2_spread 117 = .ok (.istore 12, 2) := by decide +kernel
theorem dX2_spread_119 : decode cX2_spread 119 = .ok (.aload_n 0, 1) := by decide +kernel
theorem dX2_spread_120 : decode cX2_spread 120 = .ok (.iload 7, 2) := by decide +kernel
theorem dX2_spread_122 : decode cX2_spread 122 = .ok (.iconst 1, 1) := by decide +kernel
theorem dX2_spread_123 : decode cX2_spread 123 = .ok (.iadd, 1) := by decide +kernel
theorem dX2_spread_124 : decode cX2_spread 124 = .ok (.aload_n 0, 1) := by decide +kernel
theorem dX2_spread_125 : decode cX2_spread 125 = .ok (.iload 7, 2) := by decide +kernel
theorem dX2_spread_127 : decode cX2_spread 127 = .ok (.iload 8, 2) := by decide +kernel
theorem dX2_spread_129 : decode cX2_spread 129 = .ok (.iload 11, 2) := by decide +kernel
theorem dX2_spread_131 : decode cX2_spread 131 = .ok (.iload 12, 2) := by decide +kernel
theorem dX2_spread_133 : decode cX2_spread 133 = .ok (.iconst 0, 1) := by decide +kernel
theorem dX2_spread_134 : decode cX2_spread 134 = .ok (.invokevirtual 61, 3) := by decide +kernel
theorem dX2_spread_137 : decode cX2_spread 137 = .ok (.invokevirtual 53, 3) := by decide +kernel
theorem dX2_spread_140 : decode cX2_spread 140 = .ok (.iload 5, 2) := by decide +kernel
theorem dX2_spread_142 : decode cX2_spread 142 = .ok (.ifCond .eq 24, 3) := by decide +kernel
theorem dX2_spread_145 : decode cX2_spread 145 = .ok (.aload_n 0, 1) := by decide +kernel
theorem dX2_spread_146 : decode cX2_spread 146 = .ok (.iload 7, 2) := by decide +kernel
theorem dX2_spread_148 : decode cX2_spread 148 = .ok (.iconst 1, 1) := by decide +kernel
theorem dX2_spread_149 : decode cX2_spread 149 = .ok (.iadd, 1) := by decide +kernel
theorem dX2_spread_150 : decode cX2_spread 150 = .ok (.aload_n 0, 1) := by decide +kernel
theorem dX2_spread_151 : decode cX2_spread 151 = .ok (.iload 7, 2) := by decide +kernel
theorem dX2_spread_153 : decode cX2_spread 153 = .ok (.iload 8, 2) := by decide +kernel
theorem dX2_spread_155 : decode cX2_spread 155 = .ok (.iload 11, 2) := by decide +kernel
theorem dX2_spread_157 : decode cX2_spread 157 = .ok (.iload 12, 2) := by decide +kernel
theorem dX2_spread_159 : decode cX2_spread 159 = .ok (.iconst 1, 1) := by decide +kernel
theorem dX2_spread_160 : decode cX2_spread 160 = .ok (.invokevirtual 61, 3) := by decide +kernel
theorem dX2_spread_163 : decode cX2_spread 163 = .ok (.invokevirtual 53, 3) := by decide +kernel
theorem dX2_spread_166 : decode cX2_spread 166 = .ok (.iinc 10 1, 3) := by decide +kernel
theorem dX2_spread_169 : decode cX2_spread 169 = .ok (.goto (-79), 3) := by decide +kernel
theorem dX2_spread_172 : decode cX2_spread 172 = .ok (.iinc 8 1, 3) := by decide +kernel
theorem dX2_spread_175 : decode cX2_spread 175 = .ok (.goto (-115), 3) := by decide +kernel
theorem dX2_spread_178 : decode cX2_spread 178 = .ok (.iinc 7 1, 3) := by decide +kernel
theorem dX2_spread_181 : decode cX2_spread 181 = .ok (.goto (-130), 3) := by decide +kernel
theorem dX2_spread_184 : decode cX2_spread 184 = .ok (.return_, 1) := by decide +kernel
def w_X2_spread (K : LK) (a0 a1 a2 a3 a4 : Int) (X : XT) (Q : XT → Prop) : Prop :=
  ∃ (I3 : Int → XT → Prop) (m4 : Int → XT → Nat), I3 0 X ∧ ∀ (x1 : Int) (X2 : XT), I3 x1 X2 → R32 x1 ∧ (6924 ≤ x1 → w_X2_reach K  a0 a1 X2 (fun (X18 : XT) => ∀ J24 : Int → Prop, (∀ (v23 : Int), (∃ (I27 : Int → XT → Prop) (m28 : Int → XT → Nat), I27 a0 X18 ∧ ∀ (x25 : Int) (X26 : XT), I27 x25 X26 → R32 x25 ∧ R32 a2 ∧ (a2 ≤ x25 → Q X26) ∧ (¬ a2 ≤ x25 → ∃ (I44 : Int → XT → Prop) (m45 : Int → XT → Nat), I44 0 X26 ∧ ∀ (x42 : Int) (X43 : XT), I44 x42 X43 → R32 x42 ∧ (577 ≤ x42 → I27 (x25 + 1) X43 ∧ m28 (x25 + 1) X43 < m28 x25 X26) ∧ (¬ 577 ≤ x42 → w_X2_isReached  x25 x42 X43 (fun (v58 : Int) => ∀ J65 : Int → Prop, (∀ (v64 : Int), (∃ (I68 : Int → XT → Prop) (m69 : Int → XT → Nat), I68 0 X43 ∧ ∀ (x66 : Int) (X67 : XT), I68 x66 X67 → R32 x66 ∧ R32 v64 ∧ (v64 ≤ x66 → I44 (x42 + 1) X67 ∧ m45 (x42 + 1) X67 < m45 x42 X43) ∧ (¬ v64 ≤ x66 → (0 ≤ x66) ∧ ∀ J85 : Int → Prop, (∀ (v84 : Int), (w_X2_onward  x25 x42 (x66 % 5) v84 0 X67 (fun (v86 : Int) => w_X2_reach K  (x25 + 1) v86 X67 (fun (X93 : XT) => R32 a4 ∧ (a4 = 0 → I68 (x66 + 1) X93 ∧ m69 (x66 + 1) X93 < m69 x66 X67) ∧ (¬ a4 = 0 → w_X2_onward  x25 x42 (x66 % 5) v84 1 X93 (fun (v100 : Int) => w_X2_reach K  (x25 + 1) v100 X93 (fun (X107 : XT) => I68 (x66 + 1) X107 ∧ m69 (x66 + 1) X107 < m69 x66 X67)))))) → J85 v84) → R32 a3 ∧ (a3 ≤ 1 → J85 4) ∧ (¬ a3 ≤ 1 → J85 (x66 / 5)))) → J65 v64) → R32 v58 ∧ (v58 = 0 → J65 0) ∧ (¬ v58 = 0 → J65 (5 * v23)))))) → J24 v23) → R32 a3 ∧ (a3 ≤ 1 → J24 1) ∧ (¬ a3 ≤ 1 → J24 5))) ∧ (¬ 6924 ≤ x1 → (0 ≤ x1 ∧ x1 < 6924) ∧ I3 (x1 + 1) (x_st X2 59 x1 0) ∧ m4 (x1 + 1) (x_st X2 59 x1 0) < m4 x1 X2)
set_option maxRecDepth 20000 in
theorem so_X2_spread {n : Nat} {h : Nat → sE} {X : XT} {K : LK} {hk : Nat → sE} (hK : LKok K n hk) {a0 a1 a2 a3 a4 : Int} {Q : XT → Prop} (hn : 115 ≤ n) (hp : Pic X h) (hf9 : Fr hk h) (w : w_X2_spread K  a0 a1 a2 a3 a4 X Q) : Sp m_X2_spread 5 0 0 [.ref 58, .int (iI a0), .int (iI a1), .int (iI a2), .int (iI a3), .int (iI a4)] n h (pVw n h Q) := by
  unfold w_X2_spread at w
  refine Sp.ofV (by decide +kernel) (Nat.le_of_ble_eq_true rfl) ?_
  have hf : Fr h h := fun _ _ => rfl
  refine v_iconstI dX2_spread_0 ?_
  refine v_istore dX2_spread_1 (Nat.le_of_ble_eq_true rfl) ?_
  refine v_pick [1, 2, 3, 4, 5, 6, 0] rfl ?_
  obtain ⟨I3, m4, wi7, wl6⟩ := w
  have hL8 : ∀ (N11 : Nat) (x1 : Int) (X2 : XT) (h12 : Nat → sE), m4 x1 X2 < N11 → I3 x1 X2 → Pic X2 h12 → Fr h h12 → V (m_X2_spread, 5, 0, 0, n, pVw n h Q, s_G0) 0 0 n h12 3 [(0, .ref 58), (1, .int (iI a0)), (2, .int (iI a1)), (3, .int (iI a2)), (4, .int (iI a3)), (5, .int (iI a4)), (6, .int (iI x1))] [] := by
    intro N11
    induction N11 with
    | zero => intro x1 X2 h12 hm9; exact absurd hm9 (Nat.not_lt_zero _)
    | succ N11 ih5 =>
      intro x1 X2 h12 hm9 hI10 hp13 hf14
      have w := wl6 x1 X2 hI10
      refine v_iload dX2_spread_3 rfl ?_
      refine v_aload_n dX2_spread_5 rfl ?_
      refine v_get dX2_spread_6 fl_X2_9 ((hp13 58 (by decide)).trans (ent_58 _)) rfl (s_lt hn rfl) ?_
      refine v_alen_aI dX2_spread_9 ((hp13 59 (by decide)).trans (ent_59 _)) (s_lt hn rfl) ?_
      obtain ⟨q15, w⟩ := w
      refine v_icmp_geI (tgt := 27) dX2_spread_10 (by decide) q15.1 q15.2 (by decide) (by decide) (fun c16 => ?_) (fun c16 => ?_)
      · replace w := w.1 c16
        refine v_aload_n dX2_spread_27 rfl ?_
        refine v_iload_n dX2_spread_28 rfl ?_
        refine v_iload_n dX2_spread_29 rfl ?_
        refine v_callVVw dX2_spread_30 ml_X2_53 (so_X2_reach hK hn hp13 (Fr.trans hf9 hf14) w) ((hp13 58 (by decide)).trans (ent_58 _)) rfl (s_lt hn rfl) rfl rfl (Nat.le_of_ble_eq_true rfl) (Nat.le_of_ble_eq_true rfl) (Nat.zero_le _) (Nat.zero_le _) (fun X18 h19 hp21 hf20 w => ?_)
        have hf22 := Fr.trans hf14 hf20
        refine v_iconstI dX2_spread_33 ?_
        refine v_iload dX2_spread_34 rfl ?_
        refine v_iconstI dX2_spread_36 ?_
        replace w := w (fun (v23 : Int) => V (m_X2_spread, 5, 0, 0, n, pVw n h Q, s_G0) 0 0 n h19 45 [(0, .ref 58), (1, .int (iI a0)), (3, .int (iI a2)), (4, .int (iI a3)), (5, .int (iI a4))] [.int (iI v23), .int (iI 5)]) (by
          intro v23 w
          refine v_imulI dX2_spread_45 ?_
          refine v_istore dX2_spread_46 (Nat.le_of_ble_eq_true rfl) ?_
          refine v_iload_n dX2_spread_48 rfl ?_
          refine v_istore dX2_spread_49 (Nat.le_of_ble_eq_true rfl) ?_
          refine v_pick [2, 4, 5, 6, 1, 0] rfl ?_
          obtain ⟨I27, m28, wi31, wl30⟩ := w
          have hL32 : ∀ (N35 : Nat) (x25 : Int) (X26 : XT) (h36 : Nat → sE), m28 x25 X26 < N35 → I27 x25 X26 → Pic X26 h36 → Fr h h36 → V (m_X2_spread, 5, 0, 0, n, pVw n h Q, s_G0) 0 0 n h36 51 [(0, .ref 58), (3, .int (iI a2)), (4, .int (iI a3)), (5, .int (iI a4)), (6, .int (iI (5 * v23))), (7, .int (iI x25))] [] := by
            intro N35
            induction N35 with
            | zero => intro x25 X26 h36 hm33; exact absurd hm33 (Nat.not_lt_zero _)
            | succ N35 ih29 =>
              intro x25 X26 h36 hm33 hI34 hp37 hf38
              have w := wl30 x25 X26 hI34
              refine v_iload dX2_spread_51 rfl ?_
              refine v_iload_n dX2_spread_53 rfl ?_
              obtain ⟨q39, q40, w⟩ := w
              refine v_icmp_geI (tgt := 184) dX2_spread_54 (by decide) q39.1 q39.2 q40.1 q40.2 (fun c41 => ?_) (fun c41 => ?_)
              · replace w := w.1 c41
                exact v_vret dX2_spread_184 rfl (Nat.zero_le _) (Nat.zero_le _) ⟨rfl, hf38, _, rfl, hp37, w⟩
              · replace w := w.2 c41
                refine v_iconstI dX2_spread_57 ?_
                refine v_istore dX2_spread_58 (Nat.le_of_ble_eq_true rfl) ?_
                refine v_pick [1, 2, 3, 4, 5, 6, 0] rfl ?_
                obtain ⟨I44, m45, wi48, wl47⟩ := w
                have hL49 : ∀ (N52 : Nat) (x42 : Int) (X43 : XT) (h53 : Nat → sE), m45 x42 X43 < N52 → I44 x42 X43 → Pic X43 h53 → Fr h h53 → V (m_X2_spread, 5, 0, 0, n, pVw n h Q, s_G0) 0 0 n h53 60 [(0, .ref 58), (3, .int (iI a2)), (4, .int (iI a3)), (5, .int (iI a4)), (6, .int (iI (5 * v23))), (7, .int (iI x25)), (8, .int (iI x42))] [] := by
                  intro N52
                  induction N52 with
                  | zero => intro x42 X43 h53 hm50; exact absurd hm50 (Nat.not_lt_zero _)
                  | succ N52 ih46 =>
                    intro x42 X43 h53 hm50 hI51 hp54 hf55
                    have w := wl47 x42 X43 hI51
                    refine v_iload dX2_spread_60 rfl ?_
                    refine v_sipushI dX2_spread_62 rfl ?_
                    obtain ⟨q56, w⟩ := w
                    refine v_icmp_geI (tgt := 178) dX2_spread_65 (by decide) q56.1 q56.2 (by decide) (by decide) (fun c57 => ?_) (fun c57 => ?_)
                    · replace w := w.1 c57
                      refine v_iincI dX2_spread_178 rfl (Nat.le_of_ble_eq_true rfl) ?_
                      refine v_goto (tgt := 51) dX2_spread_181 (by decide) ?_
                      refine v_pick [1, 2, 3, 4, 5, 0] rfl ?_
                      exact ih29 _ _ _ (Nat.lt_of_lt_of_le w.2 (Nat.le_of_lt_succ hm33)) w.1 hp54 hf55
                    · replace w := w.2 c57
                      refine v_aload_n dX2_spread_68 rfl ?_
                      refine v_iload dX2_spread_69 rfl ?_
                      refine v_iload dX2_spread_71 rfl ?_
                      refine v_callVIr dX2_spread_73 ml_X2_57 (so_X2_isReached hn hp54  w) ((hp54 58 (by decide)).trans (ent_58 _)) rfl (s_lt hn rfl) rfl rfl (Nat.le_of_ble_eq_true rfl) (Nat.le_of_ble_eq_true rfl) (Nat.zero_le _) (Nat.zero_le _) (fun v58 w => ?_)
                      replace w := w (fun (v64 : Int) => V (m_X2_spread, 5, 0, 0, n, pVw n h Q, s_G0) 0 0 n h53 85 [(0, .ref 58), (3, .int (iI a2)), (4, .int (iI a3)), (5, .int (iI a4)), (6, .int (iI (5 * v23))), (7, .int (iI x25)), (8, .int (iI x42))] [.int (iI v64)]) (by
                        intro v64 w
                        refine v_istore dX2_spread_85 (Nat.le_of_ble_eq_true rfl) ?_
                        refine v_iconstI dX2_spread_87 ?_
                        refine v_istore dX2_spread_88 (Nat.le_of_ble_eq_true rfl) ?_
                        refine v_pick [2, 3, 4, 5, 6, 7, 8, 1, 0] rfl ?_
                        obtain ⟨I68, m69, wi72, wl71⟩ := w
                        have hL73 : ∀ (N76 : Nat) (x66 : Int) (X67 : XT) (h77 : Nat → sE), m69 x66 X67 < N76 → I68 x66 X67 → Pic X67 h77 → Fr h h77 → V (m_X2_spread, 5, 0, 0, n, pVw n h Q, s_G0) 0 0 n h77 90 [(0, .ref 58), (3, .int (iI a2)), (4, .int (iI a3)), (5, .int (iI a4)), (6, .int (iI (5 * v23))), (7, .int (iI x25)), (8, .int (iI x42)), (9, .int (iI v64)), (10, .int (iI x66))] [] := by
                          intro N76
                          induction N76 with
                          | zero => intro x66 X67 h77 hm74; exact absurd hm74 (Nat.not_lt_zero _)
                          | succ N76 ih70 =>
                            intro x66 X67 h77 hm74 hI75 hp78 hf79
                            have w := wl71 x66 X67 hI75
                            refine v_iload dX2_spread_90 rfl ?_
                            refine v_iload dX2_spread_92 rfl ?_
                            obtain ⟨q80, q81, w⟩ := w
                            refine v_icmp_geI (tgt := 172) dX2_spread_94 (by decide) q80.1 q80.2 q81.1 q81.2 (fun c82 => ?_) (fun c82 => ?_)
                            · replace w := w.1 c82
                              refine v_iincI dX2_spread_172 rfl (Nat.le_of_ble_eq_true rfl) ?_
                              refine v_goto (tgt := 60) dX2_spread_175 (by decide) ?_
                              refine v_pick [1, 2, 3, 4, 5, 6, 0] rfl ?_
                              exact ih46 _ _ _ (Nat.lt_of_lt_of_le w.2 (Nat.le_of_lt_succ hm50)) w.1 hp78 hf79
                            · replace w := w.2 c82
                              refine v_iload dX2_spread_97 rfl ?_
                              refine v_iconstI dX2_spread_99 ?_
                              obtain ⟨q83, w⟩ := w
                              refine v_iremI dX2_spread_100 q83 q80.2 (by decide) (by decide) ?_
                              refine v_istore dX2_spread_101 (Nat.le_of_ble_eq_true rfl) ?_
                              refine v_iload dX2_spread_103 rfl ?_
                              refine v_iconstI dX2_spread_105 ?_
                              replace w := w (fun (v84 : Int) => V (m_X2_spread, 5, 0, 0, n, pVw n h Q, s_G0) 0 0 n h77 117 [(0, .ref 58), (3, .int (iI a2)), (4, .int (iI a3)), (5, .int (iI a4)), (6, .int (iI (5 * v23))), (7, .int (iI x25)), (8, .int (iI x42)), (9, .int (iI v64)), (10, .int (iI x66)), (11, .int (iI (x66 % 5)))] [.int (iI v84)]) (by
                                intro v84 w
                                refine v_istore dX2_spread_117 (Nat.le_of_ble_eq_true rfl) ?_
                                refine v_aload_n dX2_spread_119 rfl ?_
                                refine v_iload dX2_spread_120 rfl ?_
                                refine v_iconstI dX2_spread_122 ?_
                                refine v_iaddI dX2_spread_123 ?_
                                refine v_aload_n dX2_spread_124 rfl ?_
                                refine v_iload dX2_spread_125 rfl ?_
                                refine v_iload dX2_spread_127 rfl ?_
                                refine v_iload dX2_spread_129 rfl ?_
                                refine v_iload dX2_spread_131 rfl ?_
                                refine v_iconstI dX2_spread_133 ?_
                                refine v_callVIr dX2_spread_134 ml_X2_61 (so_X2_onward hn hp78  w) ((hp78 58 (by decide)).trans (ent_58 _)) rfl (s_lt hn rfl) rfl rfl (Nat.le_of_ble_eq_true rfl) (Nat.le_of_ble_eq_true rfl) (Nat.zero_le _) (Nat.zero_le _) (fun v86 w => ?_)
                                refine v_callVVw dX2_spread_137 ml_X2_53 (so_X2_reach hK hn hp78 (Fr.trans hf9 hf79) w) ((hp78 58 (by decide)).trans (ent_58 _)) rfl (s_lt hn rfl) rfl rfl (Nat.le_of_ble_eq_true rfl) (Nat.le_of_ble_eq_true rfl) (Nat.zero_le _) (Nat.zero_le _) (fun X93 h94 hp96 hf95 w => ?_)
                                have hf97 := Fr.trans hf79 hf95
                                refine v_iload dX2_spread_140 rfl ?_
                                obtain ⟨q98, w⟩ := w
                                refine v_if_eqI (tgt := 166) dX2_spread_142 (by decide) q98.1 q98.2 (fun c99 => ?_) (fun c99 => ?_)
                                · replace w := w.1 c99
                                  refine v_iincI dX2_spread_166 rfl (Nat.le_of_ble_eq_true rfl) ?_
                                  refine v_goto (tgt := 90) dX2_spread_169 (by decide) ?_
                                  refine v_pick [2, 3, 4, 5, 6, 7, 8, 9, 0] rfl ?_
                                  exact ih70 _ _ _ (Nat.lt_of_lt_of_le w.2 (Nat.le_of_lt_succ hm74)) w.1 hp96 hf97
                                · replace w := w.2 c99
                                  refine v_aload_n dX2_spread_145 rfl ?_
                                  refine v_iload dX2_spread_146 rfl ?_
                                  refine v_iconstI dX2_spread_148 ?_
                                  refine v_iaddI dX2_spread_149 ?_
                                  refine v_aload_n dX2_spread_150 rfl ?_
                                  refine v_iload dX2_spread_151 rfl ?_
                                  refine v_iload dX2_spread_153 rfl ?_
                                  refine v_iload dX2_spread_155 rfl ?_
                                  refine v_iload dX2_spread_157 rfl ?_
                                  refine v_iconstI dX2_spread_159 ?_
                                  refine v_callVIr dX2_spread_160 ml_X2_61 (so_X2_onward hn hp96  w) ((hp96 58 (by decide)).trans (ent_58 _)) rfl (s_lt hn rfl) rfl rfl (Nat.le_of_ble_eq_true rfl) (Nat.le_of_ble_eq_true rfl) (Nat.zero_le _) (Nat.zero_le _) (fun v100 w => ?_)
                                  refine v_callVVw dX2_spread_163 ml_X2_53 (so_X2_reach hK hn hp96 (Fr.trans hf9 hf97) w) ((hp96 58 (by decide)).trans (ent_58 _)) rfl (s_lt hn rfl) rfl rfl (Nat.le_of_ble_eq_true rfl) (Nat.le_of_ble_eq_true rfl) (Nat.zero_le _) (Nat.zero_le _) (fun X107 h108 hp110 hf109 w => ?_)
                                  have hf111 := Fr.trans hf97 hf109
                                  refine v_iincI dX2_spread_166 rfl (Nat.le_of_ble_eq_true rfl) ?_
                                  refine v_goto (tgt := 90) dX2_spread_169 (by decide) ?_
                                  refine v_pick [2, 3, 4, 5, 6, 7, 8, 9, 0] rfl ?_
                                  exact ih70 _ _ _ (Nat.lt_of_lt_of_le w.2 (Nat.le_of_lt_succ hm74)) w.1 hp110 hf111
                              )
                              obtain ⟨q112, w⟩ := w
                              refine v_icmp_leI (tgt := 116) dX2_spread_106 (by decide) q112.1 q112.2 (by decide) (by decide) (fun c113 => ?_) (fun c113 => ?_)
                              · replace w := w.1 c113
                                refine v_iconstI dX2_spread_116 ?_
                                refine v_pick [1, 2, 3, 4, 5, 6, 7, 8, 9, 0] rfl ?_
                                exact w
                              · replace w := w.2 c113
                                refine v_iload dX2_spread_109 rfl ?_
                                refine v_iconstI dX2_spread_111 ?_
                                refine v_idivI dX2_spread_112 q83 q80.2 (by decide) (by decide) ?_
                                refine v_goto (tgt := 117) dX2_spread_113 (by decide) ?_
                                refine v_pick [1, 2, 3, 4, 5, 6, 7, 8, 9, 0] rfl ?_
                                exact w
                        exact hL73 _ _ _ _ (Nat.lt_succ_self _) wi72 hp54 hf55
                      )
                      obtain ⟨q114, w⟩ := w
                      refine v_if_eqI (tgt := 84) dX2_spread_76 (by decide) q114.1 q114.2 (fun c115 => ?_) (fun c115 => ?_)
                      · replace w := w.1 c115
                        refine v_iconstI dX2_spread_84 ?_
                        exact w
                      · replace w := w.2 c115
                        refine v_iload dX2_spread_79 rfl ?_
                        refine v_goto (tgt := 85) dX2_spread_81 (by decide) ?_
                        exact w
                exact hL49 _ _ _ _ (Nat.lt_succ_self _) wi48 hp37 hf38
          exact hL32 _ _ _ _ (Nat.lt_succ_self _) wi31 hp21 hf22
        )
        obtain ⟨q116, w⟩ := w
        refine v_icmp_leI (tgt := 44) dX2_spread_37 (by decide) q116.1 q116.2 (by decide) (by decide) (fun c117 => ?_) (fun c117 => ?_)
        · replace w := w.1 c117
          refine v_iconstI dX2_spread_44 ?_
          refine v_pick [0, 1, 3, 4, 5] rfl ?_
          exact w
        · replace w := w.2 c117
          refine v_iconstI dX2_spread_40 ?_
          refine v_goto (tgt := 45) dX2_spread_41 (by decide) ?_
          refine v_pick [0, 1, 3, 4, 5] rfl ?_
          exact w
      · replace w := w.2 c16
        refine v_aload_n dX2_spread_13 rfl ?_
        refine v_get dX2_spread_14 fl_X2_9 ((hp13 58 (by decide)).trans (ent_58 _)) rfl (s_lt hn rfl) ?_
        refine v_iload dX2_spread_17 rfl ?_
        refine v_iconstI dX2_spread_19 ?_
        obtain ⟨q118, w⟩ := w
        refine v_iastI dX2_spread_20 ((hp13 59 (by decide)).trans (ent_59 _)) (s_lt hn rfl) q118.1 q118.2 (ix_le q118.2 (by decide)) (fun h119 E120 F121 => ?_)
        have hp122 := pic_st hp13 (show h119 59 = ent 59 (uI _ x1 0) from E120) F121
        have hf123 := Fr.up (c := 59) hf14 F121 rfl
        refine v_iincI dX2_spread_21 rfl (Nat.le_of_ble_eq_true rfl) ?_
        refine v_goto (tgt := 3) dX2_spread_24 (by decide) ?_
        refine v_pick [1, 2, 3, 4, 5, 6, 0] rfl ?_
        exact ih5 _ _ _ (Nat.lt_of_lt_of_le w.2 (Nat.le_of_lt_succ hm9)) w.1 hp122 hf123
  exact hL8 _ _ _ _ (Nat.lt_succ_self _) wi7 hp hf
theorem dX2_shades_0 : decode cX2_shades 0 = .ok (.aload_n 0, 1) := by decide +kernel
theorem dX2_shades_1 : decode cX2_shades 1 = .ok (.getfield 25, 3) := by decide +kernel
theorem dX2_shades_4 : decode cX2_shades 4 = .ok (.aload_n 0, 1) := by decide +kernel
theorem dX2_shades_5 : decode cX2_shades 5 = .ok (.getfield 15, 3) := by decide +kernel
theorem dX2_shades_8 : decode cX2_shades 8 = .ok (.iload_n 1, 1) := by decide +kernel
theorem dX2_shades_9 : decode cX2_shades 9 = .ok (.iload_n 2, 1) := by decide +kernel
theorem dX2_shades_10 : decode cX2_shades 10 = .ok (.invokevirtual 49, 3) := by decide +kernel
theorem dX2_shades_13 : decode cX2_shades 13 = .ok (.ireturn, 1) := by decide +kernel
def w_X2_shades (a0 a1 : Int) (X : XT) (Q : Int → Prop) : Prop :=
  w_X3_shadowCovers  (X 58 3) a0 a1 X (fun (v1 : Int) => (v1 = 0 ∨ v1 = 1) ∧ Q v1)
set_option maxRecDepth 20000 in
theorem so_X2_shades {n : Nat} {h : Nat → sE} {X : XT} {a0 a1 : Int} {Q : Int → Prop} (hn : 115 ≤ n) (hp : Pic X h) (w : w_X2_shades  a0 a1 X Q) : Sp m_X2_shades 4 0 0 [.ref 58, .int (iI a0), .int (iI a1)] n h (pIr n h Q) := by
  unfold w_X2_shades at w
  refine Sp.ofV (by decide +kernel) (Nat.le_of_ble_eq_true rfl) ?_
  have hf : Fr h h := fun _ _ => rfl
  refine v_aload_n dX2_shades_0 rfl ?_
  refine v_get dX2_shades_1 fl_X2_25 ((hp 58 (by decide)).trans (ent_58 _)) rfl (s_lt hn rfl) ?_
  refine v_aload_n dX2_shades_4 rfl ?_
  refine v_get dX2_shades_5 fl_X2_15 ((hp 58 (by decide)).trans (ent_58 _)) rfl (s_lt hn rfl) ?_
  refine v_iload_n dX2_shades_8 rfl ?_
  refine v_iload_n dX2_shades_9 rfl ?_
  refine v_callVIr dX2_shades_10 ml_X2_49 (so_X3_shadowCovers hn hp  w) ((hp 1 (by decide)).trans (ent_1 _)) rfl (s_lt hn rfl) rfl rfl (Nat.le_of_ble_eq_true rfl) (Nat.le_of_ble_eq_true rfl) (Nat.zero_le _) (Nat.zero_le _) (fun v1 w => ?_)
  obtain ⟨q7, w⟩ := w
  exact v_zretZ dX2_shades_13 rfl q7 (Nat.zero_le _) (Nat.zero_le _) ⟨rfl, rfl, _, rfl, w⟩
theorem dX2_strike_0 : decode cX2_strike 0 = .ok (.iload_n 1, 1) := by decide +kernel
theorem dX2_strike_1 : decode cX2_strike 1 = .ok (.iload_n 2, 1) := by decide +kernel
theorem dX2_strike_2 : decode cX2_strike 2 = .ok (.invokestatic 42, 3) := by decide +kernel
theorem dX2_strike_5 : decode cX2_strike 5 = .ok (.istore_n 3, 1) := by decide +kernel
theorem dX2_strike_6 : decode cX2_strike 6 = .ok (.iload_n 3, 1) := by decide +kernel
theorem dX2_strike_7 : decode cX2_strike 7 = .ok (.ifCond .lt 19, 3) := by decide +kernel
theorem dX2_strike_10 : decode cX2_strike 10 = .ok (.iload_n 3, 1) := by decide +kernel
theorem dX2_strike_11 : decode cX2_strike 11 = .ok (.aload_n 0, 1) := by decide +kernel
theorem dX2_strike_12 : decode cX2_strike 12 = .ok (.getfield 9, 3) := by decide +kernel
theorem dX2_strike_15 : decode cX2_strike 15 = .ok (.arraylength, 1) := by decide +kernel
theorem dX2_strike_16 : decode cX2_strike 16 = .ok (.if_icmp .ge 10, 3) := by decide +kernel
theorem dX2_strike_19 : decode cX2_strike 19 = .ok (.aload_n 0, 1) := by decide +kernel
theorem dX2_strike_20 : decode cX2_strike 20 = .ok (.getfield 9, 3) := by decide +kernel
theorem dX2_strike_23 : decode cX2_strike 23 = .ok (.iload_n 3, 1) := by decide +kernel
theorem dX2_strike_24 : decode cX2_strike 24 = .ok (.iconst 0, 1) := by decide +kernel
theorem dX2_strike_25 : decode cX2_strike 25 = .ok (.iastore, 1) := by decide +kernel
theorem dX2_strike_26 : decode cX2_strike 26 = .ok (.return_, 1) := by decide +kernel
def w_X2_strike (a0 a1 : Int) (X : XT) (Q : XT → Prop) : Prop :=
  w_X2_slotOf  a0 a1 X (fun (v1 : Int) => R32 v1 ∧ (v1 < 0 → Q X) ∧ (¬ v1 < 0 → (6924 ≤ v1 → Q X) ∧ (¬ 6924 ≤ v1 → (0 ≤ v1 ∧ v1 < 6924) ∧ Q (x_st X 59 v1 0))))
set_option maxRecDepth 20000 in
theorem so_X2_strike {n : Nat} {h : Nat → sE} {X : XT} {a0 a1 : Int} {Q : XT → Prop} (hn : 115 ≤ n) (hp : Pic X h) (w : w_X2_strike  a0 a1 X Q) : Sp m_X2_strike 1 0 0 [.ref 58, .int (iI a0), .int (iI a1)] n h (pVw n h Q) := by
  unfold w_X2_strike at w
  refine Sp.ofV (by decide +kernel) (Nat.le_of_ble_eq_true rfl) ?_
  have hf : Fr h h := fun _ _ => rfl
  refine v_iload_n dX2_strike_0 rfl ?_
  refine v_iload_n dX2_strike_1 rfl ?_
  refine v_callSIr dX2_strike_2 ml_X2_42 (so_X2_slotOf hn hp  w) rfl rfl (Nat.le_of_ble_eq_true rfl) (Nat.le_of_ble_eq_true rfl) (Nat.zero_le _) (Nat.zero_le _) (fun v1 w => ?_)
  refine v_istore_n dX2_strike_5 (Nat.le_of_ble_eq_true rfl) ?_
  refine v_iload_n dX2_strike_6 rfl ?_
  obtain ⟨q7, w⟩ := w
  refine v_if_ltI (tgt := 26) dX2_strike_7 (by decide) q7.1 q7.2 (fun c8 => ?_) (fun c8 => ?_)
  · replace w := w.1 c8
    exact v_vret dX2_strike_26 rfl (Nat.zero_le _) (Nat.zero_le _) ⟨rfl, hf, _, rfl, hp, w⟩
  · replace w := w.2 c8
    refine v_iload_n dX2_strike_10 rfl ?_
    refine v_aload_n dX2_strike_11 rfl ?_
    refine v_get dX2_strike_12 fl_X2_9 ((hp 58 (by decide)).trans (ent_58 _)) rfl (s_lt hn rfl) ?_
    refine v_alen_aI dX2_strike_15 ((hp 59 (by decide)).trans (ent_59 _)) (s_lt hn rfl) ?_
    refine v_icmp_geI (tgt := 26) dX2_strike_16 (by decide) q7.1 q7.2 (by decide) (by decide) (fun c9 => ?_) (fun c9 => ?_)
    · replace w := w.1 c9
      exact v_vret dX2_strike_26 rfl (Nat.zero_le _) (Nat.zero_le _) ⟨rfl, hf, _, rfl, hp, w⟩
    · replace w := w.2 c9
      refine v_aload_n dX2_strike_19 rfl ?_
      refine v_get dX2_strike_20 fl_X2_9 ((hp 58 (by decide)).trans (ent_58 _)) rfl (s_lt hn rfl) ?_
      refine v_iload_n dX2_strike_23 rfl ?_
      refine v_iconstI dX2_strike_24 ?_
      obtain ⟨q10, w⟩ := w
      refine v_iastI dX2_strike_25 ((hp 59 (by decide)).trans (ent_59 _)) (s_lt hn rfl) q10.1 q10.2 (ix_le q10.2 (by decide)) (fun h11 E12 F13 => ?_)
      have hp14 := pic_st hp (show h11 59 = ent 59 (uI _ v1 0) from E12) F13
      have hf15 := Fr.up (c := 59) hf F13 rfl
      exact v_vret dX2_strike_26 rfl (Nat.zero_le _) (Nat.zero_le _) ⟨rfl, hf15, _, rfl, hp14, w⟩
theorem dX4_costOf_0 : decode cX4_costOf 0 = .ok (.iload_n 1, 1) := by decide +kernel
theorem dX4_costOf_1 : decode cX4_costOf 1 = .ok (.iload_n 2, 1) := by decide +kernel
theorem dX4_costOf_2 : decode cX4_costOf 2 = .ok (.invokestatic 89, 3) := by decide +kernel
theorem dX4_costOf_5 : decode cX4_costOf 5 = .ok (.istore_n 3, 1) := by decide +kernel
theorem dX4_costOf_6 : decode cX4_costOf 6 = .ok (.iload_n 3, 1) := by decide +kernel
theorem dX4_costOf_7 : decode cX4_costOf 7 = .ok (.ifCond .lt 21, 3) := by decide +kernel
theorem dX4_costOf_10 : decode cX4_costOf 10 = .ok (.iload_n 3, 1) := by decide +kernel
theorem dX4_costOf_11 : decode cX4_costOf 11 = .ok (.aload_n 0, 1) := by decide +kernel
theorem dX4_costOf_12 : decode cX4_costOf 12 = .ok (.getfield 11, 3) := by decide +kernel
theorem dX4_costOf_15 : decode cX4_costOf 15 = .ok (.arraylength, 1) := by decide +kernel
theorem dX4_costOf_16 : decode cX4_costOf 16 = .ok (.if_icmp .ge 12, 3) := by decide +kernel
theorem dX4_costOf_19 : decode cX4_costOf 19 = .ok (.aload_n 0, 1) := by decide +kernel
theorem dX4_costOf_20 : decode cX4_costOf 20 = .ok (.getfield 11, 3) := by decide +kernel
theorem dX4_costOf_23 : decode cX4_costOf 23 = .ok (.iload_n 3, 1) := by decide +kernel
theorem dX4_costOf_24 : decode cX4_costOf 24 = .ok (.iaload, 1) := by decide +kernel
theorem dX4_costOf_25 : decode cX4_costOf 25 = .ok (.goto 6, 3) := by decide +kernel
theorem dX4_costOf_28 : decode cX4_costOf 28 = .ok (.sipush 1000, 3) := by decide +kernel
theorem dX4_costOf_31 : decode cX4_costOf 31 = .ok (.ireturn, 1) := by decide +kernel
def w_X4_costOf (a0 a1 : Int) (X : XT) (Q : Int → Prop) : Prop :=
  w_X2_slotOf  a0 a1 X (fun (v1 : Int) => R32 v1 ∧ (v1 < 0 → Q 1000) ∧ (¬ v1 < 0 → (6924 ≤ v1 → Q 1000) ∧ (¬ 6924 ≤ v1 → (0 ≤ v1 ∧ v1 < 6924) ∧ Q (X 61 v1))))
set_option maxRecDepth 20000 in
theorem so_X4_costOf {n : Nat} {h : Nat → sE} {X : XT} {a0 a1 : Int} {Q : Int → Prop} (hn : 115 ≤ n) (hp : Pic X h) (w : w_X4_costOf  a0 a1 X Q) : Sp m_X4_costOf 1 0 0 [.ref 60, .int (iI a0), .int (iI a1)] n h (pIr n h Q) := by
  unfold w_X4_costOf at w
  refine Sp.ofV (by decide +kernel) (Nat.le_of_ble_eq_true rfl) ?_
  have hf : Fr h h := fun _ _ => rfl
  refine v_iload_n dX4_costOf_0 rfl ?_
  refine v_iload_n dX4_costOf_1 rfl ?_
  refine v_callSIr dX4_costOf_2 ml_X4_89 (so_X2_slotOf hn hp  w) rfl rfl (Nat.le_of_ble_eq_true rfl) (Nat.le_of_ble_eq_true rfl) (Nat.zero_le _) (Nat.zero_le _) (fun v1 w => ?_)
  refine v_istore_n dX4_costOf_5 (Nat.le_of_ble_eq_true rfl) ?_
  refine v_iload_n dX4_costOf_6 rfl ?_
  obtain ⟨q7, w⟩ := w
  refine v_if_ltI (tgt := 28) dX4_costOf_7 (by decide) q7.1 q7.2 (fun c8 => ?_) (fun c8 => ?_)
  · replace w := w.1 c8
    refine v_sipushI dX4_costOf_28 rfl ?_
    exact v_iret dX4_costOf_31 rfl (Nat.zero_le _) (Nat.zero_le _) ⟨rfl, rfl, _, rfl, w⟩
  · replace w := w.2 c8
    refine v_iload_n dX4_costOf_10 rfl ?_
    refine v_aload_n dX4_costOf_11 rfl ?_
    refine v_get dX4_costOf_12 fl_X4_11 ((hp 60 (by decide)).trans (ent_60 _)) rfl (s_lt hn rfl) ?_
    refine v_alen_aI dX4_costOf_15 ((hp 61 (by decide)).trans (ent_61 _)) (s_lt hn rfl) ?_
    refine v_icmp_geI (tgt := 28) dX4_costOf_16 (by decide) q7.1 q7.2 (by decide) (by decide) (fun c9 => ?_) (fun c9 => ?_)
    · replace w := w.1 c9
      refine v_sipushI dX4_costOf_28 rfl ?_
      exact v_iret dX4_costOf_31 rfl (Nat.zero_le _) (Nat.zero_le _) ⟨rfl, rfl, _, rfl, w⟩
    · replace w := w.2 c9
      refine v_aload_n dX4_costOf_19 rfl ?_
      refine v_get dX4_costOf_20 fl_X4_11 ((hp 60 (by decide)).trans (ent_60 _)) rfl (s_lt hn rfl) ?_
      refine v_iload_n dX4_costOf_23 rfl ?_
      obtain ⟨q10, w⟩ := w
      refine v_ialdI dX4_costOf_24 ((hp 61 (by decide)).trans (ent_61 _)) (s_lt hn rfl) q10.1 q10.2 (ix_le q10.2 (by decide)) ?_
      refine v_goto (tgt := 31) dX4_costOf_25 (by decide) ?_
      exact v_iret dX4_costOf_31 rfl (Nat.zero_le _) (Nat.zero_le _) ⟨rfl, rfl, _, rfl, w⟩
theorem dX4_costBy_0 : decode cX4_costBy 0 = .ok (.iload_n 3, 1) := by decide +kernel
theorem dX4_costBy_1 : decode cX4_costBy 1 = .ok (.iconst 4, 1) := by decide +kernel
theorem dX4_costBy_2 : decode cX4_costBy 2 = .ok (.if_icmp .ne 7, 3) := by decide +kernel
theorem dX4_costBy_5 : decode cX4_costBy 5 = .ok (.iconst 0, 1) := by decide +kernel
theorem dX4_costBy_6 : decode cX4_costBy 6 = .ok (.goto 4, 3) := by decide +kernel
theorem dX4_costBy_9 : decode cX4_costBy 9 = .ok (.iconst 1, 1) := by decide +kernel
theorem dX4_costBy_10 : decode cX4_costBy 10 = .ok (.istore 4, 2) := by decide +kernel
theorem dX4_costBy_12 : decode cX4_costBy 12 = .ok (.aload_n 0, 1) := by decide +kernel
theorem dX4_costBy_13 : decode cX4_costBy 13 = .ok (.iload_n 1, 1) := by decide +kernel
theorem dX4_costBy_14 : decode cX4_costBy 14 = .ok (.iconst 1, 1) := by decide +kernel
theorem dX4_costBy_15 : decode cX4_costBy 15 = .ok (.iadd, 1) := by decide +kernel
theorem dX4_costBy_16 : decode cX4_costBy 16 = .ok (.aload_n 0, 1) := by decide +kernel
theorem dX4_costBy_17 : decode cX4_costBy 17 = .ok (.getfield 42, 3) := by decide +kernel
theorem dX4_costBy_20 : decode cX4_costBy 20 = .ok (.iload_n 1, 1) := by decide +kernel
theorem dX4_costBy_21 : decode cX4_costBy 21 = .ok (.iload_n 2, 1) := by decide +kernel
theorem dX4_costBy_22 : decode cX4_costBy 22 = .ok (.iload_n 3, 1) := by decide +kernel
theorem dX4_costBy_23 : decode cX4_costBy 23 = .ok (.iconst 4, 1) := by decide +kernel
theorem dX4_costBy_24 : decode cX4_costBy 24 = .ok (.iconst 0, 1) := by decide +kernel
theorem dX4_costBy_25 : decode cX4_costBy 25 = .ok (.invokevirtual 107, 3) := by decide +kernel
theorem dX4_costBy_28 : decode cX4_costBy 28 = .ok (.invokevirtual 73, 3) := by decide +kernel
theorem dX4_costBy_31 : decode cX4_costBy 31 = .ok (.iload 4, 2) := by decide +kernel
theorem dX4_costBy_33 : decode cX4_costBy 33 = .ok (.iadd, 1) := by decide +kernel
theorem dX4_costBy_34 : decode cX4_costBy 34 = .ok (.ireturn, 1) := by decide +kernel
def w_X4_costBy (a0 a1 a2 : Int) (X : XT) (Q : Int → Prop) : Prop :=
  ∀ J2 : Int → Prop, (∀ (v1 : Int), (w_X2_onward  a0 a1 a2 4 0 X (fun (v3 : Int) => w_X4_costOf  (a0 + 1) v3 X (fun (v9 : Int) => Q (v9 + v1)))) → J2 v1) → R32 a2 ∧ (¬ a2 = 4 → J2 1) ∧ (a2 = 4 → J2 0)
set_option maxRecDepth 20000 in
theorem so_X4_costBy {n : Nat} {h : Nat → sE} {X : XT} {a0 a1 a2 : Int} {Q : Int → Prop} (hn : 115 ≤ n) (hp : Pic X h) (w : w_X4_costBy  a0 a1 a2 X Q) : Sp m_X4_costBy 3 0 0 [.ref 60, .int (iI a0), .int (iI a1), .int (iI a2)] n h (pIr n h Q) := by
  unfold w_X4_costBy at w
  refine Sp.ofV (by decide +kernel) (Nat.le_of_ble_eq_true rfl) ?_
  have hf : Fr h h := fun _ _ => rfl
  refine v_iload_n dX4_costBy_0 rfl ?_
  refine v_iconstI dX4_costBy_1 ?_
  replace w := w (fun (v1 : Int) => V (m_X4_costBy, 3, 0, 0, n, pIr n h Q, s_G0) 0 0 n h 10 [(0, .ref 60), (1, .int (iI a0)), (2, .int (iI a1)), (3, .int (iI a2))] [.int (iI v1)]) (by
    intro v1 w
    refine v_istore dX4_costBy_10 (Nat.le_of_ble_eq_true rfl) ?_
    refine v_aload_n dX4_costBy_12 rfl ?_
    refine v_iload_n dX4_costBy_13 rfl ?_
    refine v_iconstI dX4_costBy_14 ?_
    refine v_iaddI dX4_costBy_15 ?_
    refine v_aload_n dX4_costBy_16 rfl ?_
    refine v_get dX4_costBy_17 fl_X4_42 ((hp 60 (by decide)).trans (ent_60 _)) rfl (s_lt hn rfl) ?_
    refine v_iload_n dX4_costBy_20 rfl ?_
    refine v_iload_n dX4_costBy_21 rfl ?_
    refine v_iload_n dX4_costBy_22 rfl ?_
    refine v_iconstI dX4_costBy_23 ?_
    refine v_iconstI dX4_costBy_24 ?_
    refine v_callVIr dX4_costBy_25 ml_X4_107 (so_X2_onward hn hp  w) ((hp 58 (by decide)).trans (ent_58 _)) rfl (s_lt hn rfl) rfl rfl (Nat.le_of_ble_eq_true rfl) (Nat.le_of_ble_eq_true rfl) (Nat.zero_le _) (Nat.zero_le _) (fun v3 w => ?_)
    refine v_callVIr dX4_costBy_28 ml_X4_73 (so_X4_costOf hn hp  w) ((hp 60 (by decide)).trans (ent_60 _)) rfl (s_lt hn rfl) rfl rfl (Nat.le_of_ble_eq_true rfl) (Nat.le_of_ble_eq_true rfl) (Nat.zero_le _) (Nat.zero_le _) (fun v9 w => ?_)
    refine v_iload dX4_costBy_31 rfl ?_
    refine v_iaddI dX4_costBy_33 ?_
    exact v_iret dX4_costBy_34 rfl (Nat.zero_le _) (Nat.zero_le _) ⟨rfl, rfl, _, rfl, w⟩
  )
  obtain ⟨q15, w⟩ := w
  refine v_icmp_neI (tgt := 9) dX4_costBy_2 (by decide) q15.1 q15.2 (by decide) (by decide) (fun c16 => ?_) (fun c16 => ?_)
  · replace w := w.1 c16
    refine v_iconstI dX4_costBy_9 ?_
    exact w
  · replace w := w.2 c16
    refine v_iconstI dX4_costBy_5 ?_
    refine v_goto (tgt := 10) dX4_costBy_6 (by decide) ?_
    exact w
theorem dX4_cheapest_0 : decode cX4_cheapest 0 = .ok (.aload_n 0, 1) := by decide +kernel
theorem dX4_cheapest_1 : decode cX4_cheapest 1 = .ok (.getfield 42, 3) := by decide +kernel
theorem dX4_cheapest_4 : decode cX4_cheapest 4 = .ok (.iload_n 1, 1) := by decide +kernel
theorem dX4_cheapest_5 : decode cX4_cheapest 5 = .ok (.iload_n 2, 1) := by decide +kernel
theorem dX4_cheapest_6 : decode cX4_cheapest 6 = .ok (.invokevirtual 96, 3) := by decide +kernel
theorem dX4_cheapest_9 : decode cX4_cheapest 9 = .ok (.ifCond .ne 7, 3) := by decide +kernel
theorem dX4_cheapest_12 : decode cX4_cheapest 12 = .ok (.sipush 1000, 3) := by decide +kernel
theorem dX4_cheapest_15 : decode cX4_cheapest 15 = .ok (.ireturn, 1) := by decide +kernel
theorem dX4_cheapest_16 : decode cX4_cheapest 16 = .ok (.iload_n 1, 1) := by decide +kernel
theorem dX4_cheapest_17 : decode cX4_cheapest 17 = .ok (.iload_n 3, 1) := by decide +kernel
theorem dX4_cheapest_18 : decode cX4_cheapest 18 = .ok (.if_icmp .ne 5, 3) := by decide +kernel
theorem dX4_cheapest_21 : decode cX4_cheapest 21 = .ok (.iconst 0, 1) := by decide +kernel
theorem dX4_cheapest_22 : decode cX4_cheapest 22 = .ok (.ireturn, 1) := by decide +kernel
theorem dX4_cheapest_23 : decode cX4_cheapest 23 = .ok (.sipush 1000, 3) := by decide +kernel
theorem dX4_cheapest_26 : decode cX4_cheapest 26 = .ok (.istore 4, 2) := by decide +kernel
theorem dX4_cheapest_28 : decode cX4_cheapest 28 = .ok (.iconst 0, 1) := by decide +kernel
theorem dX4_cheapest_29 : decode cX4_cheapest 29 = .ok (.istore 5, 2) := by decide +kernel
theorem dX4_cheapest_31 : decode cX4_cheapest 31 = .ok (.iload 5, 2) := by decide +kernel
theorem dX4_cheapest_33 : decode cX4_cheapest 33 = .ok (.iconst 4, 1) := by decide +kernel
theorem dX4_cheapest_34 : decode cX4_cheapest 34 = .ok (.if_icmp .gt 24, 3) := by decide +kernel
theorem dX4_cheapest_37 : decode cX4_cheapest 37 = .ok (.iload 4, 2) := by decide +kernel
theorem dX4_cheapest_39 : decode cX4_cheapest 39 = .ok (.aload_n 0, 1) := by decide +kernel
theorem dX4_cheapest_40 : decode cX4_cheapest 40 = .ok (.iload_n 1, 1) := by decide +kernel
theorem dX4_cheapest_41 : decode cX4_cheapest 41 = .ok (.iload_n 2, 1) := by decide +kernel
theorem dX4_cheapest_42 : decode cX4_cheapest 42 = .ok (.iload 5, 2) := by decide +kernel
theorem dX4_cheapest_44 : decode cX4_cheapest 44 = .ok (.invokevirtual 99, 3) := by decide +kernel
theorem dX4_cheapest_47 : decode cX4_cheapest 47 = .ok (.invokestatic 102, 3) := by decide +kernel
theorem dX4_cheapest_50 : decode cX4_cheapest 50 = .ok (.istore 4, 2) := by decide +kernel
theorem dX4_cheapest_52 : decode cX4_cheapest 52 = .ok (.iinc 5 1, 3) := by decide +kernel
theorem dX4_cheapest_55 : decode cX4_cheapest 55 = .ok (.goto (-24), 3) := by decide +kernel
theorem dX4_cheapest_58 : decode cX4_cheapest 58 = .ok (.iload 4, 2) := by decide +kernel
theorem dX4_cheapest_60 : decode cX4_cheapest 60 = .ok (.ireturn, 1) := by decide +kernel
def w_X4_cheapest (a0 a1 a2 : Int) (X : XT) (Q : Int → Prop) : Prop :=
  w_X2_isReached  a0 a1 X (fun (v1 : Int) => R32 v1 ∧ (¬ v1 = 0 → R32 a0 ∧ R32 a2 ∧ (¬ a0 = a2 → ∃ (I14 : Int → Int → Prop) (m15 : Int → Int → Nat), I14 1000 0 ∧ ∀ (x12 : Int) (x13 : Int), I14 x12 x13 → R32 x13 ∧ (4 < x13 → Q x12) ∧ (¬ 4 < x13 → w_X4_costBy  a0 a1 x13 X (fun (v25 : Int) => R32 x12 ∧ R32 v25 ∧ I14 (min x12 v25) (x13 + 1) ∧ m15 (min x12 v25) (x13 + 1) < m15 x12 x13))) ∧ (a0 = a2 → Q 0)) ∧ (v1 = 0 → Q 1000))
set_option maxRecDepth 20000 in
theorem so_X4_cheapest {n : Nat} {h : Nat → sE} {X : XT} {a0 a1 a2 : Int} {Q : Int → Prop} (hn : 115 ≤ n) (hp : Pic X h) (w : w_X4_cheapest  a0 a1 a2 X Q) : Sp m_X4_cheapest 4 0 0 [.ref 60, .int (iI a0), .int (iI a1), .int (iI a2)] n h (pIr n h Q) := by
  unfold w_X4_cheapest at w
  refine Sp.ofV (by decide +kernel) (Nat.le_of_ble_eq_true rfl) ?_
  have hf : Fr h h := fun _ _ => rfl
  refine v_aload_n dX4_cheapest_0 rfl ?_
  refine v_get dX4_cheapest_1 fl_X4_42 ((hp 60 (by decide)).trans (ent_60 _)) rfl (s_lt hn rfl) ?_
  refine v_iload_n dX4_cheapest_4 rfl ?_
  refine v_iload_n dX4_cheapest_5 rfl ?_
  refine v_callVIr dX4_cheapest_6 ml_X4_96 (so_X2_isReached hn hp  w) ((hp 58 (by decide)).trans (ent_58 _)) rfl (s_lt hn rfl) rfl rfl (Nat.le_of_ble_eq_true rfl) (Nat.le_of_ble_eq_true rfl) (Nat.zero_le _) (Nat.zero_le _) (fun v1 w => ?_)
  obtain ⟨q7, w⟩ := w
  refine v_if_neI (tgt := 16) dX4_cheapest_9 (by decide) q7.1 q7.2 (fun c8 => ?_) (fun c8 => ?_)
  · replace w := w.1 c8
    refine v_iload_n dX4_cheapest_16 rfl ?_
    refine v_iload_n dX4_cheapest_17 rfl ?_
    obtain ⟨q9, q10, w⟩ := w
    refine v_icmp_neI (tgt := 23) dX4_cheapest_18 (by decide) q9.1 q9.2 q10.1 q10.2 (fun c11 => ?_) (fun c11 => ?_)
    · replace w := w.1 c11
      refine v_sipushI dX4_cheapest_23 rfl ?_
      refine v_istore dX4_cheapest_26 (Nat.le_of_ble_eq_true rfl) ?_
      refine v_iconstI dX4_cheapest_28 ?_
      refine v_istore dX4_cheapest_29 (Nat.le_of_ble_eq_true rfl) ?_
      refine v_pick [2, 3, 4, 1, 0] rfl ?_
      obtain ⟨I14, m15, wi18, wl17⟩ := w
      have hL19 : ∀ (N22 : Nat) (x12 : Int) (x13 : Int), m15 x12 x13 < N22 → I14 x12 x13 → V (m_X4_cheapest, 4, 0, 0, n, pIr n h Q, s_G0) 0 0 n h 31 [(0, .ref 60), (1, .int (iI a0)), (2, .int (iI a1)), (4, .int (iI x12)), (5, .int (iI x13))] [] := by
        intro N22
        induction N22 with
        | zero => intro x12 x13  hm20; exact absurd hm20 (Nat.not_lt_zero _)
        | succ N22 ih16 =>
          intro x12 x13  hm20 hI21
          have w := wl17 x12 x13 hI21
          refine v_iload dX4_cheapest_31 rfl ?_
          refine v_iconstI dX4_cheapest_33 ?_
          obtain ⟨q23, w⟩ := w
          refine v_icmp_gtI (tgt := 58) dX4_cheapest_34 (by decide) q23.1 q23.2 (by decide) (by decide) (fun c24 => ?_) (fun c24 => ?_)
          · replace w := w.1 c24
            refine v_iload dX4_cheapest_58 rfl ?_
            exact v_iret dX4_cheapest_60 rfl (Nat.zero_le _) (Nat.zero_le _) ⟨rfl, rfl, _, rfl, w⟩
          · replace w := w.2 c24
            refine v_iload dX4_cheapest_37 rfl ?_
            refine v_aload_n dX4_cheapest_39 rfl ?_
            refine v_iload_n dX4_cheapest_40 rfl ?_
            refine v_iload_n dX4_cheapest_41 rfl ?_
            refine v_iload dX4_cheapest_42 rfl ?_
            refine v_callVIr dX4_cheapest_44 ml_X4_99 (so_X4_costBy hn hp  w) ((hp 60 (by decide)).trans (ent_60 _)) rfl (s_lt hn rfl) rfl rfl (Nat.le_of_ble_eq_true rfl) (Nat.le_of_ble_eq_true rfl) (Nat.zero_le _) (Nat.zero_le _) (fun v25 w => ?_)
            obtain ⟨q31, q32, w⟩ := w
            refine v_minI dX4_cheapest_47 ml_X4_102 (Nat.le_of_ble_eq_true rfl) (Nat.le_of_ble_eq_true rfl) (Nat.zero_le _) (Nat.zero_le _) q31.1 q31.2 q32.1 q32.2 ?_
            refine v_istore dX4_cheapest_50 (Nat.le_of_ble_eq_true rfl) ?_
            refine v_iincI dX4_cheapest_52 rfl (Nat.le_of_ble_eq_true rfl) ?_
            refine v_goto (tgt := 31) dX4_cheapest_55 (by decide) ?_
            refine v_pick [2, 3, 4, 1, 0] rfl ?_
            exact ih16 _ _ (Nat.lt_of_lt_of_le w.2 (Nat.le_of_lt_succ hm20)) w.1
      exact hL19 _ _ _ (Nat.lt_succ_self _) wi18
    · replace w := w.2 c11
      refine v_iconstI dX4_cheapest_21 ?_
      exact v_iret dX4_cheapest_22 rfl (Nat.zero_le _) (Nat.zero_le _) ⟨rfl, rfl, _, rfl, w⟩
  · replace w := w.2 c8
    refine v_sipushI dX4_cheapest_12 rfl ?_
    exact v_iret dX4_cheapest_15 rfl (Nat.zero_le _) (Nat.zero_le _) ⟨rfl, rfl, _, rfl, w⟩

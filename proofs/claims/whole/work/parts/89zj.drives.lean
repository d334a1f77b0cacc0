/-! THE CLASS'S DRIVES, 1 of 1: texts over the picture, by program (tools/wp.py) -/
def w_X6_valueD (ta sb tc : Nat) (a1 : Int) (X : XT) (Q : Int → XT → Prop) : Prop := w_X6_valueOf 800 (X 39) ta sb tc a1 X Q
theorem so_X6_valueD {n : Nat} {h : Nat → sE} {X : XT} {a1 : Int} {Q : Int → XT → Prop} (hn : 115 ≤ n) (hp : Pic X h) (w : w_X6_valueD 41 42 43 a1 X Q) : Sp m_X6_valueOf 1 0 0 [.ref 40, .ref 37, .int (iI a1)] n h (pIw n h Q) := so_X6_valueOf_40 (z := 37) (zh := 38) (zb := 39) (zM := 72) (zN := 800) (zk := X 38) (zg := X 39) (zf := X 37) ⟨⟨(hp 37 (by decide)).trans (ent_37 _), (hp 38 (by decide)).trans (ent_38 _), (hp 39 (by decide)).trans (ent_39 _)⟩, by omega, by decide, by decide, by decide⟩ hn hp w
def w_X7_head (a0 a1 : Int) (X : XT) (Q : Int → Prop) : Prop :=
  R32 ((a0 * 6) + a1) ∧ (((a0 * 6) + a1) < 0 → Q (-1)) ∧ (¬ ((a0 * 6) + a1) < 0 → (72 ≤ ((a0 * 6) + a1) → Q (-1)) ∧ (¬ 72 ≤ ((a0 * 6) + a1) → (0 ≤ ((a0 * 6) + a1) ∧ ((a0 * 6) + a1) < 72) ∧ Q (X 38 ((a0 * 6) + a1))))
set_option maxRecDepth 20000 in
theorem so_X7_head {n : Nat} {h : Nat → sE} {X : XT} {a0 a1 : Int} {Q : Int → Prop} (hn : 115 ≤ n) (hp : Pic X h) (w : w_X7_head  a0 a1 X Q) : Sp m_X7_head 0 0 0 [.ref 37, .int (iI a0), .int (iI a1)] n h (pIr n h Q) := by
  unfold w_X7_head at w
  refine Sp.ofV (by decide +kernel) (Nat.le_of_ble_eq_true rfl) ?_
  have hf : Fr h h := fun _ _ => rfl
  refine v_iload_n dX7_head_0 rfl ?_
  refine v_bipushI dX7_head_1 rfl ?_
  refine v_imulI dX7_head_3 ?_
  refine v_iload_n dX7_head_4 rfl ?_
  refine v_iaddI dX7_head_5 ?_
  refine v_istore_n dX7_head_6 (Nat.le_of_ble_eq_true rfl) ?_
  refine v_iload_n dX7_head_7 rfl ?_
  obtain ⟨q1, w⟩ := w
  refine v_if_ltI (tgt := 29) dX7_head_8 (by decide) q1.1 q1.2 (fun c2 => ?_) (fun c2 => ?_)
  · replace w := w.1 c2
    refine v_iconstI dX7_head_29 ?_
    exact v_iret dX7_head_30 rfl (Nat.zero_le _) (Nat.zero_le _) ⟨rfl, rfl, _, rfl, w⟩
  · replace w := w.2 c2
    refine v_iload_n dX7_head_11 rfl ?_
    refine v_aload_n dX7_head_12 rfl ?_
    refine v_get dX7_head_13 fl_X7_17 ((hp 37 (by decide)).trans (ent_37 _)) rfl (s_lt hn rfl) ?_
    refine v_alen_aI dX7_head_16 ((hp 38 (by decide)).trans (ent_38 _)) (s_lt hn rfl) ?_
    refine v_icmp_geI (tgt := 29) dX7_head_17 (by decide) q1.1 q1.2 (by decide) (by decide) (fun c3 => ?_) (fun c3 => ?_)
    · replace w := w.1 c3
      refine v_iconstI dX7_head_29 ?_
      exact v_iret dX7_head_30 rfl (Nat.zero_le _) (Nat.zero_le _) ⟨rfl, rfl, _, rfl, w⟩
    · replace w := w.2 c3
      refine v_aload_n dX7_head_20 rfl ?_
      refine v_get dX7_head_21 fl_X7_17 ((hp 37 (by decide)).trans (ent_37 _)) rfl (s_lt hn rfl) ?_
      refine v_iload_n dX7_head_24 rfl ?_
      obtain ⟨q4, w⟩ := w
      refine v_ialdI dX7_head_25 ((hp 38 (by decide)).trans (ent_38 _)) (s_lt hn rfl) q4.1 q4.2 (ix_le q4.2 (by decide)) ?_
      refine v_goto (tgt := 30) dX7_head_26 (by decide) ?_
      exact v_iret dX7_head_30 rfl (Nat.zero_le _) (Nat.zero_le _) ⟨rfl, rfl, _, rfl, w⟩
theorem dX11_tellWords_0 : decode cX11_tellWords 0 = .ok (.aload_n 0, 1) := by decide +kernel
theorem dX11_tellWords_1 : decode cX11_tellWords 1 = .ok (.getfield 34, 3) := by decide +kernel
theorem dX11_tellWords_4 : decode cX11_tellWords 4 = .ok (.getfield 374, 3) := by decide +kernel
theorem dX11_tellWords_7 : decode cX11_tellWords 7 = .ok (.astore_n 2, 1) := by decide +kernel
theorem dX11_tellWords_8 : decode cX11_tellWords 8 = .ok (.aload_n 2, 1) := by decide +kernel
theorem dX11_tellWords_9 : decode cX11_tellWords 9 = .ok (.bipush 7, 2) := by decide +kernel
theorem dX11_tellWords_11 : decode cX11_tellWords 11 = .ok (.aload_n 0, 1) := by decide +kernel
theorem dX11_tellWords_12 : decode cX11_tellWords 12 = .ok (.getfield 12, 3) := by decide +kernel
theorem dX11_tellWords_15 : decode cX11_tellWords 15 = .ok (.getfield 182, 3) := by decide +kernel
theorem dX11_tellWords_18 : decode cX11_tellWords 18 = .ok (.iconst 0, 1) := by decide +kernel
theorem dX11_tellWords_19 : decode cX11_tellWords 19 = .ok (.iaload, 1) := by decide +kernel
theorem dX11_tellWords_20 : decode cX11_tellWords 20 = .ok (.iastore, 1) := by decide +kernel
theorem dX11_tellWords_21 : decode cX11_tellWords 21 = .ok (.aload_n 2, 1) := by decide +kernel
theorem dX11_tellWords_22 : decode cX11_tellWords 22 = .ok (.bipush 8, 2) := by decide +kernel
theorem dX11_tellWords_24 : decode cX11_tellWords 24 = .ok (.aload_n 0, 1) := by decide +kernel
theorem dX11_tellWords_25 : decode cX11_tellWords 25 = .ok (.getfield 12, 3) := by decide +kernel
theorem dX11_tellWords_28 : decode cX11_tellWords 28 = .ok (.getfield 147, 3) := by decide +kernel
theorem dX11_tellWords_31 : decode cX11_tellWords 31 = .ok (.iastore, 1) := by decide +kernel
theorem dX11_tellWords_32 : decode cX11_tellWords 32 = .ok (.aload_n 2, 1) := by decide +kernel
theorem dX11_tellWords_33 : decode cX11_tellWords 33 = .ok (.bipush 9, 2) := by decide +kernel
theorem dX11_tellWords_35 : decode cX11_tellWords 35 = .ok (.aload_n 0, 1) := by decide +kernel
theorem dX11_tellWords_36 : decode cX11_tellWords 36 = .ok (.getfield 12, 3) := by decide +kernel
theorem dX11_tellWords_39 : decode cX11_tellWords 39 = .ok (.getfield 164, 3) := by decide +kernel
theorem dX11_tellWords_42 : decode cX11_tellWords 42 = .ok (.iastore, 1) := by decide +kernel
theorem dX11_tellWords_43 : decode cX11_tellWords 43 = .ok (.aload_n 2, 1) := by decide +kernel
theorem dX11_tellWords_44 : decode cX11_tellWords 44 = .ok (.bipush 10, 2) := by decide +kernel
theorem dX11_tellWords_46 : decode cX11_tellWords 46 = .ok (.aload_n 0, 1) := by decide +kernel
theorem dX11_tellWords_47 : decode cX11_tellWords 47 = .ok (.getfield 109, 3) := by decide +kernel
theorem dX11_tellWords_50 : decode cX11_tellWords 50 = .ok (.iastore, 1) := by decide +kernel
theorem dX11_tellWords_51 : decode cX11_tellWords 51 = .ok (.aload_n 2, 1) := by decide +kernel
theorem dX11_tellWords_52 : decode cX11_tellWords 52 = .ok (.bipush 11, 2) := by decide +kernel
theorem dX11_tellWords_54 : decode cX11_tellWords 54 = .ok (.aload_n 0, 1) := by decide +kernel
theorem dX11_tellWords_55 : decode cX11_tellWords 55 = .ok (.getfield 112, 3) := by decide +kernel
theorem dX11_tellWords_58 : decode cX11_tellWords 58 = .ok (.iastore, 1) := by decide +kernel
theorem dX11_tellWords_59 : decode cX11_tellWords 59 = .ok (.aload_n 2, 1) := by decide +kernel
theorem dX11_tellWords_60 : decode cX11_tellWords 60 = .ok (.bipush 12, 2) := by decide +kernel
theorem dX11_tellWords_62 : decode cX11_tellWords 62 = .ok (.iload_n 1, 1) := by decide +kernel
theorem dX11_tellWords_63 : decode cX11_tellWords 63 = .ok (.iastore, 1) := by decide +kernel
theorem dX11_tellWords_64 : decode cX11_tellWords 64 = .ok (.return_, 1) := by decide +kernel
def w_X11_tellWords (a0 : Int) (X : XT) (Q : XT → Prop) : Prop :=
  Q (x_st (x_st (x_st (x_st (x_st (x_st X 41 7 (X 9 0)) 41 8 ((x_st X 41 7 (X 9 0)) 1 9)) 41 9 ((x_st (x_st X 41 7 (X 9 0)) 41 8 ((x_st X 41 7 (X 9 0)) 1 9)) 1 10)) 41 10 ((x_st (x_st (x_st X 41 7 (X 9 0)) 41 8 ((x_st X 41 7 (X 9 0)) 1 9)) 41 9 ((x_st (x_st X 41 7 (X 9 0)) 41 8 ((x_st X 41 7 (X 9 0)) 1 9)) 1 10)) 0 16)) 41 11 ((x_st (x_st (x_st (x_st X 41 7 (X 9 0)) 41 8 ((x_st X 41 7 (X 9 0)) 1 9)) 41 9 ((x_st (x_st X 41 7 (X 9 0)) 41 8 ((x_st X 41 7 (X 9 0)) 1 9)) 1 10)) 41 10 ((x_st (x_st (x_st X 41 7 (X 9 0)) 41 8 ((x_st X 41 7 (X 9 0)) 1 9)) 41 9 ((x_st (x_st X 41 7 (X 9 0)) 41 8 ((x_st X 41 7 (X 9 0)) 1 9)) 1 10)) 0 16)) 0 17)) 41 12 a0)
set_option maxRecDepth 20000 in
theorem so_X11_tellWords {n : Nat} {h : Nat → sE} {X : XT} {a0 : Int} {Q : XT → Prop} (hn : 115 ≤ n) (hp : Pic X h) (w : w_X11_tellWords  a0 X Q) : Sp m_X11_tellWords 0 0 0 [.ref 0, .int (iI a0)] n h (pVw n h Q) := by
  unfold w_X11_tellWords at w
  refine Sp.ofV (by decide +kernel) (Nat.le_of_ble_eq_true rfl) ?_
  have hf : Fr h h := fun _ _ => rfl
  refine v_aload_n dX11_tellWords_0 rfl ?_
  refine v_get dX11_tellWords_1 fl_X11_34 ((hp 0 (by decide)).trans (ent_0 _)) rfl (s_lt hn rfl) ?_
  refine v_get dX11_tellWords_4 fl_X11_374 ((hp 40 (by decide)).trans (ent_40 _)) rfl (s_lt hn rfl) ?_
  refine v_astore_n dX11_tellWords_7 (Nat.le_of_ble_eq_true rfl) ?_
  refine v_aload_n dX11_tellWords_8 rfl ?_
  refine v_bipushI dX11_tellWords_9 rfl ?_
  refine v_aload_n dX11_tellWords_11 rfl ?_
  refine v_get dX11_tellWords_12 fl_X11_12 ((hp 0 (by decide)).trans (ent_0 _)) rfl (s_lt hn rfl) ?_
  refine v_get dX11_tellWords_15 fl_X11_182 ((hp 1 (by decide)).trans (ent_1 _)) rfl (s_lt hn rfl) ?_
  refine v_iconstI dX11_tellWords_18 ?_
  refine v_ialdI dX11_tellWords_19 ((hp 9 (by decide)).trans (ent_9 _)) (s_lt hn rfl) (by decide) (by decide) (by decide) ?_
  refine v_iastI dX11_tellWords_20 ((hp 41 (by decide)).trans (ent_41 _)) (s_lt hn rfl) (by decide) (by decide) (by decide) (fun h1 E2 F3 => ?_)
  have hp4 := pic_st hp (show h1 41 = ent 41 (uI _ 7 (X 9 0)) from E2) F3
  have hf5 := Fr.up (c := 41) hf F3 rfl
  refine v_aload_n dX11_tellWords_21 rfl ?_
  refine v_bipushI dX11_tellWords_22 rfl ?_
  refine v_aload_n dX11_tellWords_24 rfl ?_
  refine v_get dX11_tellWords_25 fl_X11_12 ((hp4 0 (by decide)).trans (ent_0 _)) rfl (s_lt hn rfl) ?_
  refine v_get dX11_tellWords_28 fl_X11_147 ((hp4 1 (by decide)).trans (ent_1 _)) rfl (s_lt hn rfl) ?_
  refine v_iastI dX11_tellWords_31 ((hp4 41 (by decide)).trans (ent_41 _)) (s_lt hn rfl) (by decide) (by decide) (by decide) (fun h6 E7 F8 => ?_)
  have hp9 := pic_st hp4 (show h6 41 = ent 41 (uI _ 8 ((x_st X 41 7 (X 9 0)) 1 9)) from E7) F8
  have hf10 := Fr.up (c := 41) hf5 F8 rfl
  refine v_aload_n dX11_tellWords_32 rfl ?_
  refine v_bipushI dX11_tellWords_33 rfl ?_
  refine v_aload_n dX11_tellWords_35 rfl ?_
  refine v_get dX11_tellWords_36 fl_X11_12 ((hp9 0 (by decide)).trans (ent_0 _)) rfl (s_lt hn rfl) ?_
  refine v_get dX11_tellWords_39 fl_X11_164 ((hp9 1 (by decide)).trans (ent_1 _)) rfl (s_lt hn rfl) ?_
  refine v_iastI dX11_tellWords_42 ((hp9 41 (by decide)).trans (ent_41 _)) (s_lt hn rfl) (by decide) (by decide) (by decide) (fun h11 E12 F13 => ?_)
  have hp14 := pic_st hp9 (show h11 41 = ent 41 (uI _ 9 ((x_st (x_st X 41 7 (X 9 0)) 41 8 ((x_st X 41 7 (X 9 0)) 1 9)) 1 10)) from E12) F13
  have hf15 := Fr.up (c := 41) hf10 F13 rfl
  refine v_aload_n dX11_tellWords_43 rfl ?_
  refine v_bipushI dX11_tellWords_44 rfl ?_
  refine v_aload_n dX11_tellWords_46 rfl ?_
  refine v_get dX11_tellWords_47 fl_X11_109 ((hp14 0 (by decide)).trans (ent_0 _)) rfl (s_lt hn rfl) ?_
  refine v_iastI dX11_tellWords_50 ((hp14 41 (by decide)).trans (ent_41 _)) (s_lt hn rfl) (by decide) (by decide) (by decide) (fun h16 E17 F18 => ?_)
  have hp19 := pic_st hp14 (show h16 41 = ent 41 (uI _ 10 ((x_st (x_st (x_st X 41 7 (X 9 0)) 41 8 ((x_st X 41 7 (X 9 0)) 1 9)) 41 9 ((x_st (x_st X 41 7 (X 9 0)) 41 8 ((x_st X 41 7 (X 9 0)) 1 9)) 1 10)) 0 16)) from E17) F18
  have hf20 := Fr.up (c := 41) hf15 F18 rfl
  refine v_aload_n dX11_tellWords_51 rfl ?_
  refine v_bipushI dX11_tellWords_52 rfl ?_
  refine v_aload_n dX11_tellWords_54 rfl ?_
  refine v_get dX11_tellWords_55 fl_X11_112 ((hp19 0 (by decide)).trans (ent_0 _)) rfl (s_lt hn rfl) ?_
  refine v_iastI dX11_tellWords_58 ((hp19 41 (by decide)).trans (ent_41 _)) (s_lt hn rfl) (by decide) (by decide) (by decide) (fun h21 E22 F23 => ?_)
  have hp24 := pic_st hp19 (show h21 41 = ent 41 (uI _ 11 ((x_st (x_st (x_st (x_st X 41 7 (X 9 0)) 41 8 ((x_st X 41 7 (X 9 0)) 1 9)) 41 9 ((x_st (x_st X 41 7 (X 9 0)) 41 8 ((x_st X 41 7 (X 9 0)) 1 9)) 1 10)) 41 10 ((x_st (x_st (x_st X 41 7 (X 9 0)) 41 8 ((x_st X 41 7 (X 9 0)) 1 9)) 41 9 ((x_st (x_st X 41 7 (X 9 0)) 41 8 ((x_st X 41 7 (X 9 0)) 1 9)) 1 10)) 0 16)) 0 17)) from E22) F23
  have hf25 := Fr.up (c := 41) hf20 F23 rfl
  refine v_aload_n dX11_tellWords_59 rfl ?_
  refine v_bipushI dX11_tellWords_60 rfl ?_
  refine v_iload_n dX11_tellWords_62 rfl ?_
  refine v_iastI dX11_tellWords_63 ((hp24 41 (by decide)).trans (ent_41 _)) (s_lt hn rfl) (by decide) (by decide) (by decide) (fun h26 E27 F28 => ?_)
  have hp29 := pic_st hp24 (show h26 41 = ent 41 (uI _ 12 a0) from E27) F28
  have hf30 := Fr.up (c := 41) hf25 F28 rfl
  exact v_vret dX11_tellWords_64 rfl (Nat.zero_le _) (Nat.zero_le _) ⟨rfl, hf30, _, rfl, hp29, w⟩
theorem dX8_tellCorners_0 : decode cX8_tellCorners 0 = .ok (.iconst 0, 1) := by decide +kernel
theorem dX8_tellCorners_1 : decode cX8_tellCorners 1 = .ok (.istore_n 2, 1) := by decide +kernel
theorem dX8_tellCorners_2 : decode cX8_tellCorners 2 = .ok (.iload_n 2, 1) := by decide +kernel
theorem dX8_tellCorners_3 : decode cX8_tellCorners 3 = .ok (.iconst 5, 1) := by decide +kernel
theorem dX8_tellCorners_4 : decode cX8_tellCorners 4 = .ok (.if_icmp .ge 122, 3) := by decide +kernel
theorem dX8_tellCorners_7 : decode cX8_tellCorners 7 = .ok (.iconst 0, 1) := by decide +kernel
theorem dX8_tellCorners_8 : decode cX8_tellCorners 8 = .ok (.istore_n 3, 1) := by decide +kernel
theorem dX8_tellCorners_9 : decode cX8_tellCorners 9 = .ok (.iload_n 3, 1) := by decide +kernel
theorem dX8_tellCorners_10 : decode cX8_tellCorners 10 = .ok (.bipush 12, 2) := by decide +kernel
theorem dX8_tellCorners_12 : decode cX8_tellCorners 12 = .ok (.if_icmp .ge 108, 3) := by decide +kernel
theorem dX8_tellCorners_15 : decode cX8_tellCorners 15 = .ok (.aload_n 0, 1) := by decide +kernel
theorem dX8_tellCorners_16 : decode cX8_tellCorners 16 = .ok (.getfield 18, 3) := by decide +kernel
theorem dX8_tellCorners_19 : decode cX8_tellCorners 19 = .ok (.iload_n 2, 1) := by decide +kernel
theorem dX8_tellCorners_20 : decode cX8_tellCorners 20 = .ok (.invokevirtual 119, 3) := by decide +kernel
theorem dX8_tellCorners_23 : decode cX8_tellCorners 23 = .ok (.ifCond .eq 12, 3) := by decide +kernel
theorem dX8_tellCorners_26 : decode cX8_tellCorners 26 = .ok (.aload_n 0, 1) := by decide +kernel
theorem dX8_tellCorners_27 : decode cX8_tellCorners 27 = .ok (.iload_n 2, 1) := by decide +kernel
theorem dX8_tellCorners_28 : decode cX8_tellCorners 28 = .ok (.iload_n 3, 1) := by decide +kernel
theorem dX8_tellCorners_29 : decode cX8_tellCorners 29 = .ok (.invokevirtual 73, 3) := by decide +kernel
theorem dX8_tellCorners_32 : decode cX8_tellCorners 32 = .ok (.goto 6, 3) := by decide +kernel
theorem dX8_tellCorners_35 : decode cX8_tellCorners 35 = .ok (.sipush 576, 3) := by decide +kernel
theorem dX8_tellCorners_38 : decode cX8_tellCorners 38 = .ok (.istore 4, 2) := by decide +kernel
theorem dX8_tellCorners_40 : decode cX8_tellCorners 40 = .ok (.iconst 0, 1) := by decide +kernel
theorem dX8_tellCorners_41 : decode cX8_tellCorners 41 = .ok (.iload_n 2, 1) := by decide +kernel
theorem dX8_tellCorners_42 : decode cX8_tellCorners 42 = .ok (.iload_n 3, 1) := by decide +kernel
theorem dX8_tellCorners_43 : decode cX8_tellCorners 43 = .ok (.invokestatic 122, 3) := by decide +kernel
theorem dX8_tellCorners_46 : decode cX8_tellCorners 46 = .ok (.istore 5, 2) := by decide +kernel
theorem dX8_tellCorners_48 : decode cX8_tellCorners 48 = .ok (.iconst 1, 1) := by decide +kernel
theorem dX8_tellCorners_49 : decode cX8_tellCorners 49 = .ok (.iload_n 2, 1) := by decide +kernel
theorem dX8_tellCorners_50 : decode cX8_tellCorners 50 = .ok (.iload_n 3, 1) := by decide +kernel
theorem dX8_tellCorners_51 : decode cX8_tellCorners 51 = .ok (.invokestatic 122, 3) := by decide +kernel
theorem dX8_tellCorners_54 : decode cX8_tellCorners 54 = .ok (.istore 6, 2) := by decide +kernel
theorem dX8_tellCorners_56 : decode cX8_tellCorners 56 = .ok (.iload 5, 2) := by decide +kernel
theorem dX8_tellCorners_58 : decode cX8_tellCorners 58 = .ok (.aload_n 1, 1) := by decide +kernel
theorem dX8_tellCorners_59 : decode cX8_tellCorners 59 = .ok (.arraylength, 1) := by decide +kernel
theorem dX8_tellCorners_60 : decode cX8_tellCorners 60 = .ok (.if_icmp .ge 54, 3) := by decide +kernel
theorem dX8_tellCorners_63 : decode cX8_tellCorners 63 = .ok (.iload 6, 2) := by decide +kernel
theorem dX8_tellCorners_65 : decode cX8_tellCorners 65 = .ok (.aload_n 1, 1) := by decide +kernel
theorem dX8_tellCorners_66 : decode cX8_tellCorners 66 = .ok (.arraylength, 1) := by decide +kernel
theorem dX8_tellCorners_67 : decode cX8_tellCorners 67 = .ok (.if_icmp .ge 47, 3) := by decide +kernel
theorem dX8_tellCorners_70 : decode cX8_tellCorners 70 = .ok (.aload_n 1, 1) := by decide +kernel
theorem dX8_tellCorners_71 : decode cX8_tellCorners 71 = .ok (.iload 5, 2) := by decide +kernel
theorem dX8_tellCorners_73 : decode cX8_tellCorners 73 = .ok (.iload 4, 2) := by decide +kernel
theorem dX8_tellCorners_75 : decode cX8_tellCorners 75 = .ok (.sipush 576, 3) := by decide +kernel
theorem dX8_tellCorners_78 : decode cX8_tellCorners 78 = .ok (.if_icmp .ne 8, 3) := by decide +kernel
theorem dX8_tellCorners_81 : decode cX8_tellCorners 81 = .ok (.bipush 100, 2) := by decide +kernel
theorem dX8_tellCorners_83 : decode cX8_tellCorners 83 = .ok (.goto 8, 3) := by decide +kernel
theorem dX8_tellCorners_86 : decode cX8_tellCorners 86 = .ok (.iload 4, 2) := by decide +kernel
theorem dX8_tellCorners_88 : decode cX8_tellCorners 88 = .ok (.invokestatic 30, 3) := by decide +kernel
theorem dX8_tellCorners_91 : decode cX8_tellCorners 91 = .ok (.iastore, 1) := by decide +kernel
theorem dX8_tellCorners_92 : decode cX8_tellCorners 92 = .ok (.aload_n 1, 1) := by decide +kernel
theorem dX8_tellCorners_93 : decode cX8_tellCorners 93 = .ok (.iload 6, 2) := by decide +kernel
theorem dX8_tellCorners_95 : decode cX8_tellCorners 95 = .ok (.iload 4, 2) := by decide +kernel
theorem dX8_tellCorners_97 : decode cX8_tellCorners 97 = .ok (.sipush 576, 3) := by decide +kernel
theorem dX8_tellCorners_100 : decode cX8_tellCorners 100 = .ok (.if_icmp .ne 8, 3) := by decide +kernel
theorem dX8_tellCorners_103 : decode cX8_tellCorners 103 = .ok (.bipush 100, 2) := by decide +kernel
theorem dX8_tellCorners_105 : decode cX8_tellCorners 105 = .ok (.goto 8, 3) := by decide +kernel
theorem dX8_tellCorners_108 : decode cX8_tellCorners 108 = .ok (.iload 4, 2) := by decide +kernel
theorem dX8_tellCorners_110 : decode cX8_tellCorners 110 = .ok (.invokestatic 34, 3) := by decide +kernel
theorem dX8_tellCorners_113 : decode cX8_tellCorners 113 = .ok (.iastore, 1) := by decide +kernel
theorem dX8_tellCorners_114 : decode cX8_tellCorners 114 = .ok (.iinc 3 1, 3) := by decide +kernel
theorem dX8_tellCorners_117 : decode cX8_tellCorners 117 = .ok (.goto (-108), 3) := by decide +kernel
theorem dX8_tellCorners_120 : decode cX8_tellCorners 120 = .ok (.iinc 2 1, 3) := by decide +kernel
theorem dX8_tellCorners_123 : decode cX8_tellCorners 123 = .ok (.goto (-121), 3) := by decide +kernel
theorem dX8_tellCorners_126 : decode cX8_tellCorners 126 = .ok (.return_, 1) := by decide +kernel
def w_X8_tellCorners (ta sb : Nat) (X : XT) (Q : XT → Prop) : Prop :=
  ∃ (I3 : Int → XT → Prop) (m4 : Int → XT → Nat), I3 0 X ∧ ∀ (x1 : Int) (X2 : XT), I3 x1 X2 → R32 x1 ∧ (5 ≤ x1 → Q X2) ∧ (¬ 5 ≤ x1 → ∃ (I19 : Int → XT → Prop) (m20 : Int → XT → Nat), I19 0 X2 ∧ ∀ (x17 : Int) (X18 : XT), I19 x17 X18 → R32 x17 ∧ (12 ≤ x17 → I3 (x1 + 1) X18 ∧ m4 (x1 + 1) X18 < m4 x1 X2) ∧ (¬ 12 ≤ x17 → R32 (X18 1 9) ∧ ∀ J35 : Int → Prop, (∀ (v34 : Int), (w_X8_cornerSlot  0 x1 x17 X18 (fun (v36 : Int) => w_X8_cornerSlot  1 x1 x17 X18 (fun (v42 : Int) => R32 v36 ∧ (120 ≤ v36 → I19 (x17 + 1) X18 ∧ m20 (x17 + 1) X18 < m20 x17 X18) ∧ (¬ 120 ≤ v36 → R32 v42 ∧ (120 ≤ v42 → I19 (x17 + 1) X18 ∧ m20 (x17 + 1) X18 < m20 x17 X18) ∧ (¬ 120 ≤ v42 → ∀ J53 : Int → Prop, (∀ (v52 : Int), ((0 ≤ v36 ∧ v36 < 120) ∧ R32 v34 ∧ (¬ v34 = 576 → (0 ≤ v34 ∧ v34 ≤ 2147483647) ∧ (0 ≤ v42 ∧ v42 < 120) ∧ I19 (x17 + 1) (x_st (x_st X18 42 v36 v52) 42 v42 (v34 / 24 - 8)) ∧ m20 (x17 + 1) (x_st (x_st X18 42 v36 v52) 42 v42 (v34 / 24 - 8)) < m20 x17 X18) ∧ (v34 = 576 → (0 ≤ v42 ∧ v42 < 120) ∧ I19 (x17 + 1) (x_st (x_st X18 42 v36 v52) 42 v42 100) ∧ m20 (x17 + 1) (x_st (x_st X18 42 v36 v52) 42 v42 100) < m20 x17 X18)) → J53 v52) → R32 v34 ∧ (¬ v34 = 576 → (0 ≤ v34 ∧ v34 ≤ 2147483647) ∧ J53 (v34 % 24 - 8)) ∧ (v34 = 576 → J53 100)))))) → J35 v34) → (¬ (0 ≤ x1 ∧ x1 < X18 1 9) → J35 576) ∧ ((0 ≤ x1 ∧ x1 < X18 1 9) → w_X8_spotOf ta sb x1 x17 X18 (fun (v79 : Int) => J35 v79))))
set_option maxRecDepth 20000 in
theorem so_X8_tellCorners_49_42 {n : Nat} {h : Nat → sE} {X : XT} {Q : XT → Prop} (hn : 115 ≤ n) (hp : Pic X h) (w : w_X8_tellCorners 50 51  X Q) : Sp m_X8_tellCorners 3 0 0 [.ref 49, .ref 42] n h (pVw n h Q) := by
  unfold w_X8_tellCorners at w
  refine Sp.ofV (by decide +kernel) (Nat.le_of_ble_eq_true rfl) ?_
  have hf : Fr h h := fun _ _ => rfl
  refine v_iconstI dX8_tellCorners_0 ?_
  refine v_istore_n dX8_tellCorners_1 (Nat.le_of_ble_eq_true rfl) ?_
  refine v_pick [1, 2, 0] rfl ?_
  obtain ⟨I3, m4, wi7, wl6⟩ := w
  have hL8 : ∀ (N11 : Nat) (x1 : Int) (X2 : XT) (h12 : Nat → sE), m4 x1 X2 < N11 → I3 x1 X2 → Pic X2 h12 → Fr h h12 → V (m_X8_tellCorners, 3, 0, 0, n, pVw n h Q, s_G0) 0 0 n h12 2 [(0, .ref 49), (1, .ref 42), (2, .int (iI x1))] [] := by
    intro N11
    induction N11 with
    | zero => intro x1 X2 h12 hm9; exact absurd hm9 (Nat.not_lt_zero _)
    | succ N11 ih5 =>
      intro x1 X2 h12 hm9 hI10 hp13 hf14
      have w := wl6 x1 X2 hI10
      refine v_iload_n dX8_tellCorners_2 rfl ?_
      refine v_iconstI dX8_tellCorners_3 ?_
      obtain ⟨q15, w⟩ := w
      refine v_icmp_geI (tgt := 126) dX8_tellCorners_4 (by decide) q15.1 q15.2 (by decide) (by decide) (fun c16 => ?_) (fun c16 => ?_)
      · replace w := w.1 c16
        exact v_vret dX8_tellCorners_126 rfl (Nat.zero_le _) (Nat.zero_le _) ⟨rfl, hf14, _, rfl, hp13, w⟩
      · replace w := w.2 c16
        refine v_iconstI dX8_tellCorners_7 ?_
        refine v_istore_n dX8_tellCorners_8 (Nat.le_of_ble_eq_true rfl) ?_
        refine v_pick [1, 2, 3, 0] rfl ?_
        obtain ⟨I19, m20, wi23, wl22⟩ := w
        have hL24 : ∀ (N27 : Nat) (x17 : Int) (X18 : XT) (h28 : Nat → sE), m20 x17 X18 < N27 → I19 x17 X18 → Pic X18 h28 → Fr h h28 → V (m_X8_tellCorners, 3, 0, 0, n, pVw n h Q, s_G0) 0 0 n h28 9 [(0, .ref 49), (1, .ref 42), (2, .int (iI x1)), (3, .int (iI x17))] [] := by
          intro N27
          induction N27 with
          | zero => intro x17 X18 h28 hm25; exact absurd hm25 (Nat.not_lt_zero _)
          | succ N27 ih21 =>
            intro x17 X18 h28 hm25 hI26 hp29 hf30
            have w := wl22 x17 X18 hI26
            refine v_iload_n dX8_tellCorners_9 rfl ?_
            refine v_bipushI dX8_tellCorners_10 rfl ?_
            obtain ⟨q31, w⟩ := w
            refine v_icmp_geI (tgt := 120) dX8_tellCorners_12 (by decide) q31.1 q31.2 (by decide) (by decide) (fun c32 => ?_) (fun c32 => ?_)
            · replace w := w.1 c32
              refine v_iincI dX8_tellCorners_120 rfl (Nat.le_of_ble_eq_true rfl) ?_
              refine v_goto (tgt := 2) dX8_tellCorners_123 (by decide) ?_
              refine v_pick [1, 2, 0] rfl ?_
              exact ih5 _ _ _ (Nat.lt_of_lt_of_le w.2 (Nat.le_of_lt_succ hm9)) w.1 hp29 hf30
            · replace w := w.2 c32
              refine v_aload_n dX8_tellCorners_15 rfl ?_
              refine v_get dX8_tellCorners_16 fl_X8_18 ((hp29 49 (by decide)).trans (ent_49 _)) rfl (s_lt hn rfl) ?_
              refine v_iload_n dX8_tellCorners_19 rfl ?_
              obtain ⟨q33, w⟩ := w
              refine v_callVp dX8_tellCorners_20 ml_X8_119 (sq_X3_isCloud (a := x1) (g1 := X18 1) hn (hp29 1 (by decide)) q15 q33) ((hp29 1 (by decide)).trans (ent_1 _)) rfl (s_lt hn rfl) rfl rfl (Nat.le_of_ble_eq_true rfl) (Nat.le_of_ble_eq_true rfl) (Nat.zero_le _) (Nat.zero_le _) ?_
              replace w := w (fun (v34 : Int) => V (m_X8_tellCorners, 3, 0, 0, n, pVw n h Q, s_G0) 0 0 n h28 38 [(0, .ref 49), (1, .ref 42), (2, .int (iI x1)), (3, .int (iI x17))] [.int (iI v34)]) (by
                intro v34 w
                refine v_istore dX8_tellCorners_38 (Nat.le_of_ble_eq_true rfl) ?_
                refine v_iconstI dX8_tellCorners_40 ?_
                refine v_iload_n dX8_tellCorners_41 rfl ?_
                refine v_iload_n dX8_tellCorners_42 rfl ?_
                refine v_callSIr dX8_tellCorners_43 ml_X8_122 (so_X8_cornerSlot hn hp29  w) rfl rfl (Nat.le_of_ble_eq_true rfl) (Nat.le_of_ble_eq_true rfl) (Nat.zero_le _) (Nat.zero_le _) (fun v36 w => ?_)
                refine v_istore dX8_tellCorners_46 (Nat.le_of_ble_eq_true rfl) ?_
                refine v_iconstI dX8_tellCorners_48 ?_
                refine v_iload_n dX8_tellCorners_49 rfl ?_
                refine v_iload_n dX8_tellCorners_50 rfl ?_
                refine v_callSIr dX8_tellCorners_51 ml_X8_122 (so_X8_cornerSlot hn hp29  w) rfl rfl (Nat.le_of_ble_eq_true rfl) (Nat.le_of_ble_eq_true rfl) (Nat.zero_le _) (Nat.zero_le _) (fun v42 w => ?_)
                refine v_istore dX8_tellCorners_54 (Nat.le_of_ble_eq_true rfl) ?_
                refine v_iload dX8_tellCorners_56 rfl ?_
                refine v_aload_n dX8_tellCorners_58 rfl ?_
                refine v_alen_aI dX8_tellCorners_59 ((hp29 42 (by decide)).trans (ent_42 _)) (s_lt hn rfl) ?_
                obtain ⟨q48, w⟩ := w
                refine v_icmp_geI (tgt := 114) dX8_tellCorners_60 (by decide) q48.1 q48.2 (by decide) (by decide) (fun c49 => ?_) (fun c49 => ?_)
                · replace w := w.1 c49
                  refine v_iincI dX8_tellCorners_114 rfl (Nat.le_of_ble_eq_true rfl) ?_
                  refine v_goto (tgt := 9) dX8_tellCorners_117 (by decide) ?_
                  refine v_pick [4, 5, 6, 0] rfl ?_
                  exact ih21 _ _ _ (Nat.lt_of_lt_of_le w.2 (Nat.le_of_lt_succ hm25)) w.1 hp29 hf30
                · replace w := w.2 c49
                  refine v_iload dX8_tellCorners_63 rfl ?_
                  refine v_aload_n dX8_tellCorners_65 rfl ?_
                  refine v_alen_aI dX8_tellCorners_66 ((hp29 42 (by decide)).trans (ent_42 _)) (s_lt hn rfl) ?_
                  obtain ⟨q50, w⟩ := w
                  refine v_icmp_geI (tgt := 114) dX8_tellCorners_67 (by decide) q50.1 q50.2 (by decide) (by decide) (fun c51 => ?_) (fun c51 => ?_)
                  · replace w := w.1 c51
                    refine v_iincI dX8_tellCorners_114 rfl (Nat.le_of_ble_eq_true rfl) ?_
                    refine v_goto (tgt := 9) dX8_tellCorners_117 (by decide) ?_
                    refine v_pick [4, 5, 6, 0] rfl ?_
                    exact ih21 _ _ _ (Nat.lt_of_lt_of_le w.2 (Nat.le_of_lt_succ hm25)) w.1 hp29 hf30
                  · replace w := w.2 c51
                    refine v_aload_n dX8_tellCorners_70 rfl ?_
                    refine v_iload dX8_tellCorners_71 rfl ?_
                    refine v_iload dX8_tellCorners_73 rfl ?_
                    refine v_sipushI dX8_tellCorners_75 rfl ?_
                    replace w := w (fun (v52 : Int) => V (m_X8_tellCorners, 3, 0, 0, n, pVw n h Q, s_G0) 0 0 n h28 91 [(0, .ref 49), (1, .ref 42), (2, .int (iI x1)), (3, .int (iI x17)), (4, .int (iI v34)), (6, .int (iI v42))] [.int (iI v52), .int (iI v36), .ref 42]) (by
                      intro v52 w
                      obtain ⟨q54, w⟩ := w
                      refine v_iastI dX8_tellCorners_91 ((hp29 42 (by decide)).trans (ent_42 _)) (s_lt hn rfl) q54.1 q54.2 (ix_le q54.2 (by decide)) (fun h55 E56 F57 => ?_)
                      have hp58 := pic_st hp29 (show h55 42 = ent 42 (uI _ v36 v52) from E56) F57
                      have hf59 := Fr.up (c := 42) hf30 F57 rfl
                      refine v_aload_n dX8_tellCorners_92 rfl ?_
                      refine v_iload dX8_tellCorners_93 rfl ?_
                      refine v_iload dX8_tellCorners_95 rfl ?_
                      refine v_sipushI dX8_tellCorners_97 rfl ?_
                      obtain ⟨q60, w⟩ := w
                      refine v_icmp_neI (tgt := 108) dX8_tellCorners_100 (by decide) q60.1 q60.2 (by decide) (by decide) (fun c61 => ?_) (fun c61 => ?_)
                      · replace w := w.1 c61
                        refine v_iload dX8_tellCorners_108 rfl ?_
                        obtain ⟨q62, w⟩ := w
                        refine v_callSp dX8_tellCorners_110 ml_X8_34 (sp_X8_yOf (a := v34) q62) rfl rfl (Nat.le_of_ble_eq_true rfl) (Nat.le_of_ble_eq_true rfl) (Nat.zero_le _) (Nat.zero_le _) ?_
                        obtain ⟨q63, w⟩ := w
                        refine v_iastI dX8_tellCorners_113 ((hp58 42 (by decide)).trans (ent_42 _)) (s_lt hn rfl) q63.1 q63.2 (ix_le q63.2 (by decide)) (fun h64 E65 F66 => ?_)
                        have hp67 := pic_st hp58 (show h64 42 = ent 42 (uI _ v42 (v34 / 24 - 8)) from E65) F66
                        have hf68 := Fr.up (c := 42) hf59 F66 rfl
                        refine v_iincI dX8_tellCorners_114 rfl (Nat.le_of_ble_eq_true rfl) ?_
                        refine v_goto (tgt := 9) dX8_tellCorners_117 (by decide) ?_
                        refine v_pick [1, 2, 3, 0] rfl ?_
                        exact ih21 _ _ _ (Nat.lt_of_lt_of_le w.2 (Nat.le_of_lt_succ hm25)) w.1 hp67 hf68
                      · replace w := w.2 c61
                        refine v_bipushI dX8_tellCorners_103 rfl ?_
                        refine v_goto (tgt := 113) dX8_tellCorners_105 (by decide) ?_
                        obtain ⟨q69, w⟩ := w
                        refine v_iastI dX8_tellCorners_113 ((hp58 42 (by decide)).trans (ent_42 _)) (s_lt hn rfl) q69.1 q69.2 (ix_le q69.2 (by decide)) (fun h70 E71 F72 => ?_)
                        have hp73 := pic_st hp58 (show h70 42 = ent 42 (uI _ v42 100) from E71) F72
                        have hf74 := Fr.up (c := 42) hf59 F72 rfl
                        refine v_iincI dX8_tellCorners_114 rfl (Nat.le_of_ble_eq_true rfl) ?_
                        refine v_goto (tgt := 9) dX8_tellCorners_117 (by decide) ?_
                        refine v_pick [1, 2, 3, 0] rfl ?_
                        exact ih21 _ _ _ (Nat.lt_of_lt_of_le w.2 (Nat.le_of_lt_succ hm25)) w.1 hp73 hf74
                    )
                    obtain ⟨q75, w⟩ := w
                    refine v_icmp_neI (tgt := 86) dX8_tellCorners_78 (by decide) q75.1 q75.2 (by decide) (by decide) (fun c76 => ?_) (fun c76 => ?_)
                    · replace w := w.1 c76
                      refine v_iload dX8_tellCorners_86 rfl ?_
                      obtain ⟨q77, w⟩ := w
                      refine v_callSp dX8_tellCorners_88 ml_X8_30 (sp_X8_xOf (a := v34) q77) rfl rfl (Nat.le_of_ble_eq_true rfl) (Nat.le_of_ble_eq_true rfl) (Nat.zero_le _) (Nat.zero_le _) ?_
                      refine v_pick [3, 4, 5, 6, 2, 0] rfl ?_
                      exact w
                    · replace w := w.2 c76
                      refine v_bipushI dX8_tellCorners_81 rfl ?_
                      refine v_goto (tgt := 91) dX8_tellCorners_83 (by decide) ?_
                      refine v_pick [3, 4, 5, 6, 2, 0] rfl ?_
                      exact w
              )
              refine v_ifeqB (tgt := 35) dX8_tellCorners_23 (by decide) (fun c78 => ?_) (fun c78 => ?_)
              · replace w := w.1 c78
                refine v_sipushI dX8_tellCorners_35 rfl ?_
                exact w
              · replace w := w.2 c78
                refine v_aload_n dX8_tellCorners_26 rfl ?_
                refine v_iload_n dX8_tellCorners_27 rfl ?_
                refine v_iload_n dX8_tellCorners_28 rfl ?_
                refine v_callVIr dX8_tellCorners_29 ml_X8_73 (so_X8_spotOf_49 hn hp29  w) ((hp29 49 (by decide)).trans (ent_49 _)) rfl (s_lt hn rfl) rfl rfl (Nat.le_of_ble_eq_true rfl) (Nat.le_of_ble_eq_true rfl) (Nat.zero_le _) (Nat.zero_le _) (fun v79 w => ?_)
                refine v_goto (tgt := 38) dX8_tellCorners_32 (by decide) ?_
                exact w
        exact hL24 _ _ _ _ (Nat.lt_succ_self _) wi23 hp13 hf14
  exact hL8 _ _ _ _ (Nat.lt_succ_self _) wi7 hp hf
def w_X3_whyNoFlag (a0 a1 a2 : Int) (X : XT) (Q : Int → Prop) : Prop :=
  R32 a0 ∧ (¬ (0 ≤ a0 ∧ a0 ≤ 10) → Q (-1)) ∧ ((0 ≤ a0 ∧ a0 ≤ 10) → R32 a2 ∧ ((0 ≤ a2 ∧ a2 ≤ 3) → R32 a1 ∧ R32 (X 1 9) ∧ ((0 ≤ a1 ∧ a1 < X 1 9) → (FLC (X 1) (X 6)) ∧ (¬ (¬ fOf (X 6) a0 a1 (X 1 10).toNat = -1) → R32 (X 1 10) ∧ ((X 1 10) < 24 → Q 0) ∧ (¬ (X 1 10) < 24 → Q (-5))) ∧ ((¬ fOf (X 6) a0 a1 (X 1 10).toNat = -1) → Q (-3))) ∧ (¬ (0 ≤ a1 ∧ a1 < X 1 9) → Q (-2))) ∧ (¬ (0 ≤ a2 ∧ a2 ≤ 3) → Q (-1)))
set_option maxRecDepth 20000 in
theorem so_X3_whyNoFlag {n : Nat} {h : Nat → sE} {X : XT} {a0 a1 a2 : Int} {Q : Int → Prop} (hn : 115 ≤ n) (hp : Pic X h) (w : w_X3_whyNoFlag  a0 a1 a2 X Q) : Sp m_X3_whyNoFlag 3 0 0 [.ref 1, .int (iI a0), .int (iI a1), .int (iI a2)] n h (pIr n h Q) := by
  unfold w_X3_whyNoFlag at w
  refine Sp.ofV (by decide +kernel) (Nat.le_of_ble_eq_true rfl) ?_
  have hf : Fr h h := fun _ _ => rfl
  refine v_iload_n dX3_whyNoFlag_0 rfl ?_
  refine v_iconstI dX3_whyNoFlag_1 ?_
  refine v_bipushI dX3_whyNoFlag_2 rfl ?_
  obtain ⟨q1, w⟩ := w
  refine v_callSp dX3_whyNoFlag_4 ml_X3_67 (sp_X11_within (a := a0) (b := 0) (c := 10) q1 (by decide) (by decide)) rfl rfl (Nat.le_of_ble_eq_true rfl) (Nat.le_of_ble_eq_true rfl) (Nat.zero_le _) (Nat.zero_le _) ?_
  refine v_ifeqB (tgt := 19) dX3_whyNoFlag_7 (by decide) (fun c2 => ?_) (fun c2 => ?_)
  · replace w := w.1 c2
    refine v_iconstI dX3_whyNoFlag_19 ?_
    exact v_iret dX3_whyNoFlag_20 rfl (Nat.zero_le _) (Nat.zero_le _) ⟨rfl, rfl, _, rfl, w⟩
  · replace w := w.2 c2
    refine v_iload_n dX3_whyNoFlag_10 rfl ?_
    refine v_iconstI dX3_whyNoFlag_11 ?_
    refine v_iconstI dX3_whyNoFlag_12 ?_
    obtain ⟨q3, w⟩ := w
    refine v_callSp dX3_whyNoFlag_13 ml_X3_67 (sp_X11_within (a := a2) (b := 0) (c := 3) q3 (by decide) (by decide)) rfl rfl (Nat.le_of_ble_eq_true rfl) (Nat.le_of_ble_eq_true rfl) (Nat.zero_le _) (Nat.zero_le _) ?_
    refine v_ifneB (tgt := 21) dX3_whyNoFlag_16 (by decide) (fun c4 => ?_) (fun c4 => ?_)
    · replace w := w.1 c4
      refine v_aload_n dX3_whyNoFlag_21 rfl ?_
      refine v_iload_n dX3_whyNoFlag_22 rfl ?_
      obtain ⟨q5, q6, w⟩ := w
      refine v_callVp dX3_whyNoFlag_23 ml_X3_71 (sq_X3_isCloud (a := a1) (g1 := X 1) hn (hp 1 (by decide)) q5 q6) ((hp 1 (by decide)).trans (ent_1 _)) rfl (s_lt hn rfl) rfl rfl (Nat.le_of_ble_eq_true rfl) (Nat.le_of_ble_eq_true rfl) (Nat.zero_le _) (Nat.zero_le _) ?_
      refine v_ifneB (tgt := 32) dX3_whyNoFlag_26 (by decide) (fun c7 => ?_) (fun c7 => ?_)
      · replace w := w.1 c7
        refine v_aload_n dX3_whyNoFlag_32 rfl ?_
        refine v_iload_n dX3_whyNoFlag_33 rfl ?_
        refine v_iload_n dX3_whyNoFlag_34 rfl ?_
        obtain ⟨q8, w⟩ := w
        refine v_callVp dX3_whyNoFlag_35 ml_X3_110 (sv_X3_hasFlag (a := a0) (b := a1) (g1 := X 1) (g6 := X 6) hn (hp 1 (by decide)) (hp 6 (by decide)) q1 q5 q8) ((hp 1 (by decide)).trans (ent_1 _)) rfl (s_lt hn rfl) rfl rfl (Nat.le_of_ble_eq_true rfl) (Nat.le_of_ble_eq_true rfl) (Nat.zero_le _) (Nat.zero_le _) ?_
        refine v_ifeqB (tgt := 44) dX3_whyNoFlag_38 (by decide) (fun c9 => ?_) (fun c9 => ?_)
        · replace w := w.1 c9
          refine v_aload_n dX3_whyNoFlag_44 rfl ?_
          refine v_get dX3_whyNoFlag_45 fl_X3_46 ((hp 1 (by decide)).trans (ent_1 _)) rfl (s_lt hn rfl) ?_
          refine v_bipushI dX3_whyNoFlag_48 rfl ?_
          obtain ⟨q10, w⟩ := w
          refine v_icmp_ltI (tgt := 58) dX3_whyNoFlag_50 (by decide) q10.1 q10.2 (by decide) (by decide) (fun c11 => ?_) (fun c11 => ?_)
          · replace w := w.1 c11
            refine v_iconstI dX3_whyNoFlag_58 ?_
            exact v_iret dX3_whyNoFlag_59 rfl (Nat.zero_le _) (Nat.zero_le _) ⟨rfl, rfl, _, rfl, w⟩
          · replace w := w.2 c11
            refine v_bipushI dX3_whyNoFlag_53 rfl ?_
            refine v_goto (tgt := 59) dX3_whyNoFlag_55 (by decide) ?_
            exact v_iret dX3_whyNoFlag_59 rfl (Nat.zero_le _) (Nat.zero_le _) ⟨rfl, rfl, _, rfl, w⟩
        · replace w := w.2 c9
          refine v_bipushI dX3_whyNoFlag_41 rfl ?_
          exact v_iret dX3_whyNoFlag_43 rfl (Nat.zero_le _) (Nat.zero_le _) ⟨rfl, rfl, _, rfl, w⟩
      · replace w := w.2 c7
        refine v_bipushI dX3_whyNoFlag_29 rfl ?_
        exact v_iret dX3_whyNoFlag_31 rfl (Nat.zero_le _) (Nat.zero_le _) ⟨rfl, rfl, _, rfl, w⟩
    · replace w := w.2 c4
      refine v_iconstI dX3_whyNoFlag_19 ?_
      exact v_iret dX3_whyNoFlag_20 rfl (Nat.zero_le _) (Nat.zero_le _) ⟨rfl, rfl, _, rfl, w⟩
def w_X3_addFlag (a0 a1 a2 : Int) (X : XT) (Q : XT → Prop) : Prop :=
  R32 (X 1 10) ∧ ((X 1 10) < 24 → (0 ≤ (((X 1 10) * 3) + 0) ∧ (((X 1 10) * 3) + 0) < 72) ∧ (0 ≤ (((X 1 10) * 3) + 1) ∧ (((X 1 10) * 3) + 1) < 72) ∧ (0 ≤ (((X 1 10) * 3) + 2) ∧ (((X 1 10) * 3) + 2) < 72) ∧ Q (x_st (x_st (x_st (x_st X 6 (((X 1 10) * 3) + 0) a0) 6 (((X 1 10) * 3) + 1) a1) 6 (((X 1 10) * 3) + 2) a2) 1 10 (((x_st (x_st (x_st X 6 (((X 1 10) * 3) + 0) a0) 6 (((X 1 10) * 3) + 1) a1) 6 (((X 1 10) * 3) + 2) a2) 1 10) + 1))) ∧ (¬ (X 1 10) < 24 → Q X)
set_option maxRecDepth 20000 in
theorem so_X3_addFlag {n : Nat} {h : Nat → sE} {X : XT} {a0 a1 a2 : Int} {Q : XT → Prop} (hn : 115 ≤ n) (hp : Pic X h) (w : w_X3_addFlag  a0 a1 a2 X Q) : Sp m_X3_addFlag 0 0 0 [.ref 1, .int (iI a0), .int (iI a1), .int (iI a2)] n h (pVw n h Q) := by
  unfold w_X3_addFlag at w
  refine Sp.ofV (by decide +kernel) (Nat.le_of_ble_eq_true rfl) ?_
  have hf : Fr h h := fun _ _ => rfl
  refine v_aload_n dX3_addFlag_0 rfl ?_
  refine v_get dX3_addFlag_1 fl_X3_46 ((hp 1 (by decide)).trans (ent_1 _)) rfl (s_lt hn rfl) ?_
  refine v_bipushI dX3_addFlag_4 rfl ?_
  obtain ⟨q1, w⟩ := w
  refine v_icmp_ltI (tgt := 10) dX3_addFlag_6 (by decide) q1.1 q1.2 (by decide) (by decide) (fun c2 => ?_) (fun c2 => ?_)
  · replace w := w.1 c2
    refine v_aload_n dX3_addFlag_10 rfl ?_
    refine v_get dX3_addFlag_11 fl_X3_46 ((hp 1 (by decide)).trans (ent_1 _)) rfl (s_lt hn rfl) ?_
    refine v_iconstI dX3_addFlag_14 ?_
    refine v_imulI dX3_addFlag_15 ?_
    refine v_istore dX3_addFlag_16 (Nat.le_of_ble_eq_true rfl) ?_
    refine v_aload_n dX3_addFlag_18 rfl ?_
    refine v_get dX3_addFlag_19 fl_X3_24 ((hp 1 (by decide)).trans (ent_1 _)) rfl (s_lt hn rfl) ?_
    refine v_iload dX3_addFlag_22 rfl ?_
    refine v_iconstI dX3_addFlag_24 ?_
    refine v_iaddI dX3_addFlag_25 ?_
    refine v_iload_n dX3_addFlag_26 rfl ?_
    obtain ⟨q3, w⟩ := w
    refine v_iastI dX3_addFlag_27 ((hp 6 (by decide)).trans (ent_6 _)) (s_lt hn rfl) q3.1 q3.2 (ix_le q3.2 (by decide)) (fun h4 E5 F6 => ?_)
    have hp7 := pic_st hp (show h4 6 = ent 6 (uI _ (((X 1 10) * 3) + 0) a0) from E5) F6
    have hf8 := Fr.up (c := 6) hf F6 rfl
    refine v_aload_n dX3_addFlag_28 rfl ?_
    refine v_get dX3_addFlag_29 fl_X3_24 ((hp7 1 (by decide)).trans (ent_1 _)) rfl (s_lt hn rfl) ?_
    refine v_iload dX3_addFlag_32 rfl ?_
    refine v_iconstI dX3_addFlag_34 ?_
    refine v_iaddI dX3_addFlag_35 ?_
    refine v_iload_n dX3_addFlag_36 rfl ?_
    obtain ⟨q9, w⟩ := w
    refine v_iastI dX3_addFlag_37 ((hp7 6 (by decide)).trans (ent_6 _)) (s_lt hn rfl) q9.1 q9.2 (ix_le q9.2 (by decide)) (fun h10 E11 F12 => ?_)
    have hp13 := pic_st hp7 (show h10 6 = ent 6 (uI _ (((X 1 10) * 3) + 1) a1) from E11) F12
    have hf14 := Fr.up (c := 6) hf8 F12 rfl
    refine v_aload_n dX3_addFlag_38 rfl ?_
    refine v_get dX3_addFlag_39 fl_X3_24 ((hp13 1 (by decide)).trans (ent_1 _)) rfl (s_lt hn rfl) ?_
    refine v_iload dX3_addFlag_42 rfl ?_
    refine v_iconstI dX3_addFlag_44 ?_
    refine v_iaddI dX3_addFlag_45 ?_
    refine v_iload_n dX3_addFlag_46 rfl ?_
    obtain ⟨q15, w⟩ := w
    refine v_iastI dX3_addFlag_47 ((hp13 6 (by decide)).trans (ent_6 _)) (s_lt hn rfl) q15.1 q15.2 (ix_le q15.2 (by decide)) (fun h16 E17 F18 => ?_)
    have hp19 := pic_st hp13 (show h16 6 = ent 6 (uI _ (((X 1 10) * 3) + 2) a2) from E17) F18
    have hf20 := Fr.up (c := 6) hf14 F18 rfl
    refine v_aload_n dX3_addFlag_48 rfl ?_
    refine v_dup dX3_addFlag_49 rfl ?_
    refine v_get dX3_addFlag_50 fl_X3_46 ((hp19 1 (by decide)).trans (ent_1 _)) rfl (s_lt hn rfl) ?_
    refine v_iconstI dX3_addFlag_53 ?_
    refine v_iaddI dX3_addFlag_54 ?_
    refine v_put dX3_addFlag_55 fl_X3_46 ((hp19 1 (by decide)).trans (ent_1 _)) (s_lt hn rfl) (Nat.le_of_ble_eq_true rfl) (fun _ => ⟨rfl, rfl⟩) trivial (fun h21 E22 F23 => ?_)
    have hp24 := pic_st hp19 (show h21 1 = ent 1 (uI _ 10 (((x_st (x_st (x_st X 6 (((X 1 10) * 3) + 0) a0) 6 (((X 1 10) * 3) + 1) a1) 6 (((X 1 10) * 3) + 2) a2) 1 10) + 1)) from E22) F23
    have hf25 := Fr.up (c := 1) hf20 F23 rfl
    exact v_vret dX3_addFlag_58 rfl (Nat.zero_le _) (Nat.zero_le _) ⟨rfl, hf25, _, rfl, hp24, w⟩
  · replace w := w.2 c2
    exact v_vret dX3_addFlag_9 rfl (Nat.zero_le _) (Nat.zero_le _) ⟨rfl, hf, _, rfl, hp, w⟩
theorem dX11_runOnce_0 : decode cX11_runOnce 0 = .ok (.aload_n 0, 1) := by decide +kernel
theorem dX11_runOnce_1 : decode cX11_runOnce 1 = .ok (.getfield 34, 3) := by decide +kernel
theorem dX11_runOnce_4 : decode cX11_runOnce 4 = .ok (.aload_n 1, 1) := by decide +kernel
theorem dX11_runOnce_5 : decode cX11_runOnce 5 = .ok (.aload_n 1, 1) := by decide +kernel
theorem dX11_runOnce_6 : decode cX11_runOnce 6 = .ok (.iload_n 2, 1) := by decide +kernel
theorem dX11_runOnce_7 : decode cX11_runOnce 7 = .ok (.iconst 1, 1) := by decide +kernel
theorem dX11_runOnce_8 : decode cX11_runOnce 8 = .ok (.invokevirtual 347, 3) := by decide +kernel
theorem dX11_runOnce_11 : decode cX11_runOnce 11 = .ok (.invokevirtual 364, 3) := by decide +kernel
theorem dX11_runOnce_14 : decode cX11_runOnce 14 = .ok (.istore 4, 2) := by decide +kernel
theorem dX11_runOnce_16 : decode cX11_runOnce 16 = .ok (.aload_n 0, 1) := by decide +kernel
theorem dX11_runOnce_17 : decode cX11_runOnce 17 = .ok (.getfield 34, 3) := by decide +kernel
theorem dX11_runOnce_20 : decode cX11_runOnce 20 = .ok (.aload_n 1, 1) := by decide +kernel
theorem dX11_runOnce_21 : decode cX11_runOnce 21 = .ok (.aload_n 1, 1) := by decide +kernel
theorem dX11_runOnce_22 : decode cX11_runOnce 22 = .ok (.iload_n 2, 1) := by decide +kernel
theorem dX11_runOnce_23 : decode cX11_runOnce 23 = .ok (.iconst 2, 1) := by decide +kernel
theorem dX11_runOnce_24 : decode cX11_runOnce 24 = .ok (.invokevirtual 347, 3) := by decide +kernel
theorem dX11_runOnce_27 : decode cX11_runOnce 27 = .ok (.invokevirtual 364, 3) := by decide +kernel
theorem dX11_runOnce_30 : decode cX11_runOnce 30 = .ok (.istore 5, 2) := by decide +kernel
theorem dX11_runOnce_32 : decode cX11_runOnce 32 = .ok (.aload_n 0, 1) := by decide +kernel
theorem dX11_runOnce_33 : decode cX11_runOnce 33 = .ok (.getfield 34, 3) := by decide +kernel
theorem dX11_runOnce_36 : decode cX11_runOnce 36 = .ok (.aload_n 1, 1) := by decide +kernel
theorem dX11_runOnce_37 : decode cX11_runOnce 37 = .ok (.aload_n 1, 1) := by decide +kernel
theorem dX11_runOnce_38 : decode cX11_runOnce 38 = .ok (.iload_n 2, 1) := by decide +kernel
theorem dX11_runOnce_39 : decode cX11_runOnce 39 = .ok (.iconst 3, 1) := by decide +kernel
theorem dX11_runOnce_40 : decode cX11_runOnce 40 = .ok (.invokevirtual 347, 3) := by decide +kernel
theorem dX11_runOnce_43 : decode cX11_runOnce 43 = .ok (.invokevirtual 364, 3) := by decide +kernel
theorem dX11_runOnce_46 : decode cX11_runOnce 46 = .ok (.istore 6, 2) := by decide +kernel
theorem dX11_runOnce_48 : decode cX11_runOnce 48 = .ok (.aload_n 1, 1) := by decide +kernel
theorem dX11_runOnce_49 : decode cX11_runOnce 49 = .ok (.iload_n 2, 1) := by decide +kernel
theorem dX11_runOnce_50 : decode cX11_runOnce 50 = .ok (.iconst 4, 1) := by decide +kernel
theorem dX11_runOnce_51 : decode cX11_runOnce 51 = .ok (.invokevirtual 347, 3) := by decide +kernel
theorem dX11_runOnce_54 : decode cX11_runOnce 54 = .ok (.istore 7, 2) := by decide +kernel
theorem dX11_runOnce_56 : decode cX11_runOnce 56 = .ok (.iload 7, 2) := by decide +kernel
theorem dX11_runOnce_58 : decode cX11_runOnce 58 = .ok (.iconst (-1), 1) := by decide +kernel
theorem dX11_runOnce_59 : decode cX11_runOnce 59 = .ok (.if_icmp .ne 7, 3) := by decide +kernel
theorem dX11_runOnce_62 : decode cX11_runOnce 62 = .ok (.iconst 0, 1) := by decide +kernel
theorem dX11_runOnce_63 : decode cX11_runOnce 63 = .ok (.goto 13, 3) := by decide +kernel
theorem dX11_runOnce_66 : decode cX11_runOnce 66 = .ok (.aload_n 0, 1) := by decide +kernel
theorem dX11_runOnce_67 : decode cX11_runOnce 67 = .ok (.getfield 34, 3) := by decide +kernel
theorem dX11_runOnce_70 : decode cX11_runOnce 70 = .ok (.aload_n 1, 1) := by decide +kernel
theorem dX11_runOnce_71 : decode cX11_runOnce 71 = .ok (.iload 7, 2) := by decide +kernel
theorem dX11_runOnce_73 : decode cX11_runOnce 73 = .ok (.invokevirtual 364, 3) := by decide +kernel
theorem dX11_runOnce_76 : decode cX11_runOnce 76 = .ok (.istore 8, 2) := by decide +kernel
theorem dX11_runOnce_78 : decode cX11_runOnce 78 = .ok (.iload 4, 2) := by decide +kernel
theorem dX11_runOnce_80 : decode cX11_runOnce 80 = .ok (.ldc_w 371, 3) := by decide +kernel
theorem dX11_runOnce_83 : decode cX11_runOnce 83 = .ok (.if_icmp .eq 11, 3) := by decide +kernel
theorem dX11_runOnce_86 : decode cX11_runOnce 86 = .ok (.iload 5, 2) := by decide +kernel
theorem dX11_runOnce_88 : decode cX11_runOnce 88 = .ok (.ldc_w 371, 3) := by decide +kernel
theorem dX11_runOnce_91 : decode cX11_runOnce 91 = .ok (.if_icmp .ne 6, 3) := by decide +kernel
theorem dX11_runOnce_94 : decode cX11_runOnce 94 = .ok (.bipush (-3), 2) := by decide +kernel
theorem dX11_runOnce_96 : decode cX11_runOnce 96 = .ok (.ireturn, 1) := by decide +kernel
theorem dX11_runOnce_97 : decode cX11_runOnce 97 = .ok (.iload 6, 2) := by decide +kernel
theorem dX11_runOnce_99 : decode cX11_runOnce 99 = .ok (.ldc_w 371, 3) := by decide +kernel
theorem dX11_runOnce_102 : decode cX11_runOnce 102 = .ok (.if_icmp .eq 11, 3) := by decide +kernel
theorem dX11_runOnce_105 : decode cX11_runOnce 105 = .ok (.iload 8, 2) := by decide +kernel
theorem dX11_runOnce_107 : decode cX11_runOnce 107 = .ok (.ldc_w 371, 3) := by decide +kernel
theorem dX11_runOnce_110 : decode cX11_runOnce 110 = .ok (.if_icmp .ne 6, 3) := by decide +kernel
theorem dX11_runOnce_113 : decode cX11_runOnce 113 = .ok (.bipush (-3), 2) := by decide +kernel
theorem dX11_runOnce_115 : decode cX11_runOnce 115 = .ok (.ireturn, 1) := by decide +kernel
theorem dX11_runOnce_116 : decode cX11_runOnce 116 = .ok (.iload 6, 2) := by decide +kernel
theorem dX11_runOnce_118 : decode cX11_runOnce 118 = .ok (.i2l, 1) := by decide +kernel
theorem dX11_runOnce_119 : decode cX11_runOnce 119 = .ok (.iload 8, 2) := by decide +kernel
theorem dX11_runOnce_121 : decode cX11_runOnce 121 = .ok (.i2l, 1) := by decide +kernel
theorem dX11_runOnce_122 : decode cX11_runOnce 122 = .ok (.iload_n 3, 1) := by decide +kernel
theorem dX11_runOnce_123 : decode cX11_runOnce 123 = .ok (.i2l, 1) := by decide +kernel
theorem dX11_runOnce_124 : decode cX11_runOnce 124 = .ok (.lmul, 1) := by decide +kernel
theorem dX11_runOnce_125 : decode cX11_runOnce 125 = .ok (.ladd, 1) := by decide +kernel
theorem dX11_runOnce_126 : decode cX11_runOnce 126 = .ok (.lstore 9, 2) := by decide +kernel
theorem dX11_runOnce_128 : decode cX11_runOnce 128 = .ok (.lload 9, 2) := by decide +kernel
theorem dX11_runOnce_130 : decode cX11_runOnce 130 = .ok (.lconst 0, 1) := by decide +kernel
theorem dX11_runOnce_131 : decode cX11_runOnce 131 = .ok (.lcmp, 1) := by decide +kernel
theorem dX11_runOnce_132 : decode cX11_runOnce 132 = .ok (.ifCond .lt 12, 3) := by decide +kernel
theorem dX11_runOnce_135 : decode cX11_runOnce 135 = .ok (.lload 9, 2) := by decide +kernel
theorem dX11_runOnce_137 : decode cX11_runOnce 137 = .ok (.ldc2_w 372, 3) := by decide +kernel
theorem dX11_runOnce_140 : decode cX11_runOnce 140 = .ok (.lcmp, 1) := by decide +kernel
theorem dX11_runOnce_141 : decode cX11_runOnce 141 = .ok (.ifCond .lt 5, 3) := by decide +kernel
theorem dX11_runOnce_144 : decode cX11_runOnce 144 = .ok (.iconst (-1), 1) := by decide +kernel
theorem dX11_runOnce_145 : decode cX11_runOnce 145 = .ok (.ireturn, 1) := by decide +kernel
theorem dX11_runOnce_146 : decode cX11_runOnce 146 = .ok (.aload_n 0, 1) := by decide +kernel
theorem dX11_runOnce_147 : decode cX11_runOnce 147 = .ok (.getfield 12, 3) := by decide +kernel
theorem dX11_runOnce_150 : decode cX11_runOnce 150 = .ok (.lload 9, 2) := by decide +kernel
theorem dX11_runOnce_152 : decode cX11_runOnce 152 = .ok (.l2i, 1) := by decide +kernel
theorem dX11_runOnce_153 : decode cX11_runOnce 153 = .ok (.iload 4, 2) := by decide +kernel
theorem dX11_runOnce_155 : decode cX11_runOnce 155 = .ok (.iload 5, 2) := by decide +kernel
theorem dX11_runOnce_157 : decode cX11_runOnce 157 = .ok (.invokevirtual 157, 3) := by decide +kernel
theorem dX11_runOnce_160 : decode cX11_runOnce 160 = .ok (.istore 11, 2) := by decide +kernel
theorem dX11_runOnce_162 : decode cX11_runOnce 162 = .ok (.iload 11, 2) := by decide +kernel
theorem dX11_runOnce_164 : decode cX11_runOnce 164 = .ok (.ifCond .ne 34, 3) := by decide +kernel
theorem dX11_runOnce_167 : decode cX11_runOnce 167 = .ok (.aload_n 0, 1) := by decide +kernel
theorem dX11_runOnce_168 : decode cX11_runOnce 168 = .ok (.getfield 12, 3) := by decide +kernel
theorem dX11_runOnce_171 : decode cX11_runOnce 171 = .ok (.lload 9, 2) := by decide +kernel
theorem dX11_runOnce_173 : decode cX11_runOnce 173 = .ok (.l2i, 1) := by decide +kernel
theorem dX11_runOnce_174 : decode cX11_runOnce 174 = .ok (.iload 4, 2) := by decide +kernel
theorem dX11_runOnce_176 : decode cX11_runOnce 176 = .ok (.iload 5, 2) := by decide +kernel
theorem dX11_runOnce_178 : decode cX11_runOnce 178 = .ok (.invokevirtual 161, 3) := by decide +kernel
theorem dX11_runOnce_181 : decode cX11_runOnce 181 = .ok (.aload_n 0, 1) := by decide +kernel
theorem dX11_runOnce_182 : decode cX11_runOnce 182 = .ok (.lload 9, 2) := by decide +kernel
theorem dX11_runOnce_184 : decode cX11_runOnce 184 = .ok (.l2i, 1) := by decide +kernel
theorem dX11_runOnce_185 : decode cX11_runOnce 185 = .ok (.putfield 109, 3) := by decide +kernel
theorem dX11_runOnce_188 : decode cX11_runOnce 188 = .ok (.aload_n 0, 1) := by decide +kernel
theorem dX11_runOnce_189 : decode cX11_runOnce 189 = .ok (.dup, 1) := by decide +kernel
theorem dX11_runOnce_190 : decode cX11_runOnce 190 = .ok (.getfield 112, 3) := by decide +kernel
theorem dX11_runOnce_193 : decode cX11_runOnce 193 = .ok (.iconst 1, 1) := by decide +kernel
theorem dX11_runOnce_194 : decode cX11_runOnce 194 = .ok (.iadd, 1) := by decide +kernel
theorem dX11_runOnce_195 : decode cX11_runOnce 195 = .ok (.putfield 112, 3) := by decide +kernel
theorem dX11_runOnce_198 : decode cX11_runOnce 198 = .ok (.iload 11, 2) := by decide +kernel
theorem dX11_runOnce_200 : decode cX11_runOnce 200 = .ok (.ireturn, 1) := by decide +kernel
def w_X11_runOnce (a1 a2 : Int) (X : XT) (Q : Int → XT → Prop) : Prop :=
  w_X7_head  a1 1 X (fun (v1 : Int) => w_X6_valueD 41 42 43 v1 X (fun (v7 : Int) (X8 : XT) => w_X7_head  a1 2 X8 (fun (v13 : Int) => w_X6_valueD 41 42 43 v13 X8 (fun (v19 : Int) (X20 : XT) => w_X7_head  a1 3 X20 (fun (v25 : Int) => w_X6_valueD 41 42 43 v25 X20 (fun (v31 : Int) (X32 : XT) => w_X7_head  a1 4 X32 (fun (v37 : Int) => ∀ J45 : Int → XT → Prop, (∀ (v43 : Int) (X44 : XT), (R32 v7 ∧ (v7 = (-2147483648) → Q (-3) X44) ∧ (¬ v7 = (-2147483648) → R32 v19 ∧ (¬ v19 = (-2147483648) → R32 v31 ∧ (v31 = (-2147483648) → Q (-3) X44) ∧ (¬ v31 = (-2147483648) → R32 v43 ∧ (¬ v43 = (-2147483648) → R32 a2 ∧ R64 (v31 + (v43 * a2)) ∧ ((v31 + (v43 * a2)) < 0 → Q (-1) X44) ∧ (¬ (v31 + (v43 * a2)) < 0 → ((v31 + (v43 * a2)) < 11 → w_X3_whyNoFlag  (v31 + (v43 * a2)) v7 v19 X44 (fun (v61 : Int) => R32 v61 ∧ (¬ v61 = 0 → Q v61 X44) ∧ (v61 = 0 → w_X3_addFlag  (v31 + (v43 * a2)) v7 v19 X44 (fun (X70 : XT) => Q v61 (x_st (x_st X70 0 16 (v31 + (v43 * a2))) 0 17 (((x_st X70 0 16 (v31 + (v43 * a2))) 0 17) + 1)))))) ∧ (¬ (v31 + (v43 * a2)) < 11 → Q (-1) X44))) ∧ (v43 = (-2147483648) → Q (-3) X44))) ∧ (v19 = (-2147483648) → Q (-3) X44))) → J45 v43 X44) → R32 v37 ∧ (¬ v37 = (-1) → w_X6_valueD 41 42 43 v37 X32 (fun (v87 : Int) (X88 : XT) => J45 v87 X88)) ∧ (v37 = (-1) → J45 0 X32))))))))
set_option maxRecDepth 20000 in
theorem so_X11_runOnce_37 {n : Nat} {h : Nat → sE} {X : XT} {a1 a2 : Int} {Q : Int → XT → Prop} (hn : 115 ≤ n) (hp : Pic X h) (w : w_X11_runOnce  a1 a2 X Q) : Sp m_X11_runOnce 4 0 0 [.ref 0, .ref 37, .int (iI a1), .int (iI a2)] n h (pIw n h Q) := by
  unfold w_X11_runOnce at w
  refine Sp.ofV (by decide +kernel) (Nat.le_of_ble_eq_true rfl) ?_
  have hf : Fr h h := fun _ _ => rfl
  refine v_aload_n dX11_runOnce_0 rfl ?_
  refine v_get dX11_runOnce_1 fl_X11_34 ((hp 0 (by decide)).trans (ent_0 _)) rfl (s_lt hn rfl) ?_
  refine v_aload_n dX11_runOnce_4 rfl ?_
  refine v_aload_n dX11_runOnce_5 rfl ?_
  refine v_iload_n dX11_runOnce_6 rfl ?_
  refine v_iconstI dX11_runOnce_7 ?_
  refine v_callVIr dX11_runOnce_8 ml_X11_347 (so_X7_head hn hp  w) ((hp 37 (by decide)).trans (ent_37 _)) rfl (s_lt hn rfl) rfl rfl (Nat.le_of_ble_eq_true rfl) (Nat.le_of_ble_eq_true rfl) (Nat.zero_le _) (Nat.zero_le _) (fun v1 w => ?_)
  refine v_callVIw dX11_runOnce_11 ml_X11_364 (so_X6_valueD hn hp  w) ((hp 40 (by decide)).trans (ent_40 _)) rfl (s_lt hn rfl) rfl rfl (Nat.le_of_ble_eq_true rfl) (Nat.le_of_ble_eq_true rfl) (Nat.zero_le _) (Nat.zero_le _) (fun v7 X8 h9 hp11 hf10 w => ?_)
  have hf12 := Fr.trans hf hf10
  refine v_istore dX11_runOnce_14 (Nat.le_of_ble_eq_true rfl) ?_
  refine v_aload_n dX11_runOnce_16 rfl ?_
  refine v_get dX11_runOnce_17 fl_X11_34 ((hp11 0 (by decide)).trans (ent_0 _)) rfl (s_lt hn rfl) ?_
  refine v_aload_n dX11_runOnce_20 rfl ?_
  refine v_aload_n dX11_runOnce_21 rfl ?_
  refine v_iload_n dX11_runOnce_22 rfl ?_
  refine v_iconstI dX11_runOnce_23 ?_
  refine v_callVIr dX11_runOnce_24 ml_X11_347 (so_X7_head hn hp11  w) ((hp11 37 (by decide)).trans (ent_37 _)) rfl (s_lt hn rfl) rfl rfl (Nat.le_of_ble_eq_true rfl) (Nat.le_of_ble_eq_true rfl) (Nat.zero_le _) (Nat.zero_le _) (fun v13 w => ?_)
  refine v_callVIw dX11_runOnce_27 ml_X11_364 (so_X6_valueD hn hp11  w) ((hp11 40 (by decide)).trans (ent_40 _)) rfl (s_lt hn rfl) rfl rfl (Nat.le_of_ble_eq_true rfl) (Nat.le_of_ble_eq_true rfl) (Nat.zero_le _) (Nat.zero_le _) (fun v19 X20 h21 hp23 hf22 w => ?_)
  have hf24 := Fr.trans hf12 hf22
  refine v_istore dX11_runOnce_30 (Nat.le_of_ble_eq_true rfl) ?_
  refine v_aload_n dX11_runOnce_32 rfl ?_
  refine v_get dX11_runOnce_33 fl_X11_34 ((hp23 0 (by decide)).trans (ent_0 _)) rfl (s_lt hn rfl) ?_
  refine v_aload_n dX11_runOnce_36 rfl ?_
  refine v_aload_n dX11_runOnce_37 rfl ?_
  refine v_iload_n dX11_runOnce_38 rfl ?_
  refine v_iconstI dX11_runOnce_39 ?_
  refine v_callVIr dX11_runOnce_40 ml_X11_347 (so_X7_head hn hp23  w) ((hp23 37 (by decide)).trans (ent_37 _)) rfl (s_lt hn rfl) rfl rfl (Nat.le_of_ble_eq_true rfl) (Nat.le_of_ble_eq_true rfl) (Nat.zero_le _) (Nat.zero_le _) (fun v25 w => ?_)
  refine v_callVIw dX11_runOnce_43 ml_X11_364 (so_X6_valueD hn hp23  w) ((hp23 40 (by decide)).trans (ent_40 _)) rfl (s_lt hn rfl) rfl rfl (Nat.le_of_ble_eq_true rfl) (Nat.le_of_ble_eq_true rfl) (Nat.zero_le _) (Nat.zero_le _) (fun v31 X32 h33 hp35 hf34 w => ?_)
  have hf36 := Fr.trans hf24 hf34
  refine v_istore dX11_runOnce_46 (Nat.le_of_ble_eq_true rfl) ?_
  refine v_aload_n dX11_runOnce_48 rfl ?_
  refine v_iload_n dX11_runOnce_49 rfl ?_
  refine v_iconstI dX11_runOnce_50 ?_
  refine v_callVIr dX11_runOnce_51 ml_X11_347 (so_X7_head hn hp35  w) ((hp35 37 (by decide)).trans (ent_37 _)) rfl (s_lt hn rfl) rfl rfl (Nat.le_of_ble_eq_true rfl) (Nat.le_of_ble_eq_true rfl) (Nat.zero_le _) (Nat.zero_le _) (fun v37 w => ?_)
  refine v_istore dX11_runOnce_54 (Nat.le_of_ble_eq_true rfl) ?_
  refine v_iload dX11_runOnce_56 rfl ?_
  refine v_iconstI dX11_runOnce_58 ?_
  replace w := w (fun (v43 : Int) (X44 : XT) => ∀ h48 : Nat → sE, Pic X44 h48 → Fr h h48 → V (m_X11_runOnce, 4, 0, 0, n, pIw n h Q, s_G0) 0 0 n h48 76 [(0, .ref 0), (3, .int (iI a2)), (4, .int (iI v7)), (5, .int (iI v19)), (6, .int (iI v31))] [.int (iI v43)]) (by
    intro v43 X44 w h48 hp46 hf47
    refine v_istore dX11_runOnce_76 (Nat.le_of_ble_eq_true rfl) ?_
    refine v_iload dX11_runOnce_78 rfl ?_
    refine v_ldcwI (-2147483648) dX11_runOnce_80 k_X11_371 rfl ?_
    obtain ⟨q49, w⟩ := w
    refine v_icmp_eqI (tgt := 94) dX11_runOnce_83 (by decide) q49.1 q49.2 (by decide) (by decide) (fun c50 => ?_) (fun c50 => ?_)
    · replace w := w.1 c50
      refine v_bipushI dX11_runOnce_94 rfl ?_
      exact v_iret dX11_runOnce_96 rfl (Nat.zero_le _) (Nat.zero_le _) ⟨rfl, hf47, _, _, rfl, hp46, w⟩
    · replace w := w.2 c50
      refine v_iload dX11_runOnce_86 rfl ?_
      refine v_ldcwI (-2147483648) dX11_runOnce_88 k_X11_371 rfl ?_
      obtain ⟨q51, w⟩ := w
      refine v_icmp_neI (tgt := 97) dX11_runOnce_91 (by decide) q51.1 q51.2 (by decide) (by decide) (fun c52 => ?_) (fun c52 => ?_)
      · replace w := w.1 c52
        refine v_iload dX11_runOnce_97 rfl ?_
        refine v_ldcwI (-2147483648) dX11_runOnce_99 k_X11_371 rfl ?_
        obtain ⟨q53, w⟩ := w
        refine v_icmp_eqI (tgt := 113) dX11_runOnce_102 (by decide) q53.1 q53.2 (by decide) (by decide) (fun c54 => ?_) (fun c54 => ?_)
        · replace w := w.1 c54
          refine v_bipushI dX11_runOnce_113 rfl ?_
          exact v_iret dX11_runOnce_115 rfl (Nat.zero_le _) (Nat.zero_le _) ⟨rfl, hf47, _, _, rfl, hp46, w⟩
        · replace w := w.2 c54
          refine v_iload dX11_runOnce_105 rfl ?_
          refine v_ldcwI (-2147483648) dX11_runOnce_107 k_X11_371 rfl ?_
          obtain ⟨q55, w⟩ := w
          refine v_icmp_neI (tgt := 116) dX11_runOnce_110 (by decide) q55.1 q55.2 (by decide) (by decide) (fun c56 => ?_) (fun c56 => ?_)
          · replace w := w.1 c56
            refine v_iload dX11_runOnce_116 rfl ?_
            refine v_i2lI dX11_runOnce_118 q53.1 q53.2 ?_
            refine v_iload dX11_runOnce_119 rfl ?_
            refine v_i2lI dX11_runOnce_121 q55.1 q55.2 ?_
            refine v_iload_n dX11_runOnce_122 rfl ?_
            obtain ⟨q57, w⟩ := w
            refine v_i2lI dX11_runOnce_123 q57.1 q57.2 ?_
            refine v_lmulI dX11_runOnce_124 ?_
            refine v_laddI dX11_runOnce_125 ?_
            refine v_lstore dX11_runOnce_126 (Nat.le_of_ble_eq_true rfl) ?_
            refine v_lload dX11_runOnce_128 rfl ?_
            refine v_lconstI (w := 0) dX11_runOnce_130 rfl ?_
            obtain ⟨q58, w⟩ := w
            refine v_lcmp_ltI (tgt := 144) dX11_runOnce_131 dX11_runOnce_132 (by decide) q58.1 q58.2 (by decide) (by decide) (fun c59 => ?_) (fun c59 => ?_)
            · replace w := w.1 c59
              refine v_iconstI dX11_runOnce_144 ?_
              exact v_iret dX11_runOnce_145 rfl (Nat.zero_le _) (Nat.zero_le _) ⟨rfl, hf47, _, _, rfl, hp46, w⟩
            · replace w := w.2 c59
              refine v_lload dX11_runOnce_135 rfl ?_
              refine v_ldc2I 11 dX11_runOnce_137 k_X11_372 rfl ?_
              refine v_lcmp_ltI (tgt := 146) dX11_runOnce_140 dX11_runOnce_141 (by decide) q58.1 q58.2 (by decide) (by decide) (fun c60 => ?_) (fun c60 => ?_)
              · replace w := w.1 c60
                refine v_aload_n dX11_runOnce_146 rfl ?_
                refine v_get dX11_runOnce_147 fl_X11_12 ((hp46 0 (by decide)).trans (ent_0 _)) rfl (s_lt hn rfl) ?_
                refine v_lload dX11_runOnce_150 rfl ?_
                refine v_l2iI dX11_runOnce_152 ?_
                refine v_iload dX11_runOnce_153 rfl ?_
                refine v_iload dX11_runOnce_155 rfl ?_
                refine v_callVIr dX11_runOnce_157 ml_X11_157 (so_X3_whyNoFlag hn hp46  w) ((hp46 1 (by decide)).trans (ent_1 _)) rfl (s_lt hn rfl) rfl rfl (Nat.le_of_ble_eq_true rfl) (Nat.le_of_ble_eq_true rfl) (Nat.zero_le _) (Nat.zero_le _) (fun v61 w => ?_)
                refine v_istore dX11_runOnce_160 (Nat.le_of_ble_eq_true rfl) ?_
                refine v_iload dX11_runOnce_162 rfl ?_
                obtain ⟨q67, w⟩ := w
                refine v_if_neI (tgt := 198) dX11_runOnce_164 (by decide) q67.1 q67.2 (fun c68 => ?_) (fun c68 => ?_)
                · replace w := w.1 c68
                  refine v_iload dX11_runOnce_198 rfl ?_
                  exact v_iret dX11_runOnce_200 rfl (Nat.zero_le _) (Nat.zero_le _) ⟨rfl, hf47, _, _, rfl, hp46, w⟩
                · replace w := w.2 c68
                  refine v_aload_n dX11_runOnce_167 rfl ?_
                  refine v_get dX11_runOnce_168 fl_X11_12 ((hp46 0 (by decide)).trans (ent_0 _)) rfl (s_lt hn rfl) ?_
                  refine v_lload dX11_runOnce_171 rfl ?_
                  refine v_l2iI dX11_runOnce_173 ?_
                  refine v_iload dX11_runOnce_174 rfl ?_
                  refine v_iload dX11_runOnce_176 rfl ?_
                  refine v_callVVw dX11_runOnce_178 ml_X11_161 (so_X3_addFlag hn hp46  w) ((hp46 1 (by decide)).trans (ent_1 _)) rfl (s_lt hn rfl) rfl rfl (Nat.le_of_ble_eq_true rfl) (Nat.le_of_ble_eq_true rfl) (Nat.zero_le _) (Nat.zero_le _) (fun X70 h71 hp73 hf72 w => ?_)
                  have hf74 := Fr.trans hf47 hf72
                  refine v_aload_n dX11_runOnce_181 rfl ?_
                  refine v_lload dX11_runOnce_182 rfl ?_
                  refine v_l2iI dX11_runOnce_184 ?_
                  refine v_put dX11_runOnce_185 fl_X11_109 ((hp73 0 (by decide)).trans (ent_0 _)) (s_lt hn rfl) (Nat.le_of_ble_eq_true rfl) (fun _ => ⟨rfl, rfl⟩) trivial (fun h75 E76 F77 => ?_)
                  have hp78 := pic_st hp73 (show h75 0 = ent 0 (uI _ 16 (v31 + (v43 * a2))) from E76) F77
                  have hf79 := Fr.up (c := 0) hf74 F77 rfl
                  refine v_aload_n dX11_runOnce_188 rfl ?_
                  refine v_dup dX11_runOnce_189 rfl ?_
                  refine v_get dX11_runOnce_190 fl_X11_112 ((hp78 0 (by decide)).trans (ent_0 _)) rfl (s_lt hn rfl) ?_
                  refine v_iconstI dX11_runOnce_193 ?_
                  refine v_iaddI dX11_runOnce_194 ?_
                  refine v_put dX11_runOnce_195 fl_X11_112 ((hp78 0 (by decide)).trans (ent_0 _)) (s_lt hn rfl) (Nat.le_of_ble_eq_true rfl) (fun _ => ⟨rfl, rfl⟩) trivial (fun h80 E81 F82 => ?_)
                  have hp83 := pic_st hp78 (show h80 0 = ent 0 (uI _ 17 (((x_st X70 0 16 (v31 + (v43 * a2))) 0 17) + 1)) from E81) F82
                  have hf84 := Fr.up (c := 0) hf79 F82 rfl
                  refine v_iload dX11_runOnce_198 rfl ?_
                  exact v_iret dX11_runOnce_200 rfl (Nat.zero_le _) (Nat.zero_le _) ⟨rfl, hf84, _, _, rfl, hp83, w⟩
              · replace w := w.2 c60
                refine v_iconstI dX11_runOnce_144 ?_
                exact v_iret dX11_runOnce_145 rfl (Nat.zero_le _) (Nat.zero_le _) ⟨rfl, hf47, _, _, rfl, hp46, w⟩
          · replace w := w.2 c56
            refine v_bipushI dX11_runOnce_113 rfl ?_
            exact v_iret dX11_runOnce_115 rfl (Nat.zero_le _) (Nat.zero_le _) ⟨rfl, hf47, _, _, rfl, hp46, w⟩
      · replace w := w.2 c52
        refine v_bipushI dX11_runOnce_94 rfl ?_
        exact v_iret dX11_runOnce_96 rfl (Nat.zero_le _) (Nat.zero_le _) ⟨rfl, hf47, _, _, rfl, hp46, w⟩
  )
  obtain ⟨q85, w⟩ := w
  refine v_icmp_neI (tgt := 66) dX11_runOnce_59 (by decide) q85.1 q85.2 (by decide) (by decide) (fun c86 => ?_) (fun c86 => ?_)
  · replace w := w.1 c86
    refine v_aload_n dX11_runOnce_66 rfl ?_
    refine v_get dX11_runOnce_67 fl_X11_34 ((hp35 0 (by decide)).trans (ent_0 _)) rfl (s_lt hn rfl) ?_
    refine v_aload_n dX11_runOnce_70 rfl ?_
    refine v_iload dX11_runOnce_71 rfl ?_
    refine v_callVIw dX11_runOnce_73 ml_X11_364 (so_X6_valueD hn hp35  w) ((hp35 40 (by decide)).trans (ent_40 _)) rfl (s_lt hn rfl) rfl rfl (Nat.le_of_ble_eq_true rfl) (Nat.le_of_ble_eq_true rfl) (Nat.zero_le _) (Nat.zero_le _) (fun v87 X88 h89 hp91 hf90 w => ?_)
    have hf92 := Fr.trans hf36 hf90
    refine v_pick [4, 7, 3, 2, 1] rfl ?_
    exact w _ hp91 hf92
  · replace w := w.2 c86
    refine v_iconstI dX11_runOnce_62 ?_
    refine v_goto (tgt := 76) dX11_runOnce_63 (by decide) ?_
    refine v_pick [4, 7, 3, 2, 1] rfl ?_
    exact w _ hp35 hf36
theorem dX11_runClause_0 : decode cX11_runClause 0 = .ok (.aload_n 1, 1) := by decide +kernel
theorem dX11_runClause_1 : decode cX11_runClause 1 = .ok (.iload_n 2, 1) := by decide +kernel
theorem dX11_runClause_2 : decode cX11_runClause 2 = .ok (.iconst 0, 1) := by decide +kernel
theorem dX11_runClause_3 : decode cX11_runClause 3 = .ok (.invokevirtual 347, 3) := by decide +kernel
theorem dX11_runClause_6 : decode cX11_runClause 6 = .ok (.istore_n 3, 1) := by decide +kernel
theorem dX11_runClause_7 : decode cX11_runClause 7 = .ok (.aload_n 1, 1) := by decide +kernel
theorem dX11_runClause_8 : decode cX11_runClause 8 = .ok (.iload_n 2, 1) := by decide +kernel
theorem dX11_runClause_9 : decode cX11_runClause 9 = .ok (.iconst 5, 1) := by decide +kernel
theorem dX11_runClause_10 : decode cX11_runClause 10 = .ok (.invokevirtual 347, 3) := by decide +kernel
theorem dX11_runClause_13 : decode cX11_runClause 13 = .ok (.istore 4, 2) := by decide +kernel
theorem dX11_runClause_15 : decode cX11_runClause 15 = .ok (.iconst 0, 1) := by decide +kernel
theorem dX11_runClause_16 : decode cX11_runClause 16 = .ok (.istore 5, 2) := by decide +kernel
theorem dX11_runClause_18 : decode cX11_runClause 18 = .ok (.iconst 0, 1) := by decide +kernel
theorem dX11_runClause_19 : decode cX11_runClause 19 = .ok (.istore 6, 2) := by decide +kernel
theorem dX11_runClause_21 : decode cX11_runClause 21 = .ok (.iload 6, 2) := by decide +kernel
theorem dX11_runClause_23 : decode cX11_runClause 23 = .ok (.iload_n 3, 1) := by decide +kernel
theorem dX11_runClause_24 : decode cX11_runClause 24 = .ok (.if_icmp .ge 99, 3) := by decide +kernel
theorem dX11_runClause_27 : decode cX11_runClause 27 = .ok (.aload_n 0, 1) := by decide +kernel
theorem dX11_runClause_28 : decode cX11_runClause 28 = .ok (.iload 5, 2) := by decide +kernel
theorem dX11_runClause_30 : decode cX11_runClause 30 = .ok (.invokevirtual 350, 3) := by decide +kernel
theorem dX11_runClause_33 : decode cX11_runClause 33 = .ok (.aload_n 1, 1) := by decide +kernel
theorem dX11_runClause_34 : decode cX11_runClause 34 = .ok (.getfield 353, 3) := by decide +kernel
theorem dX11_runClause_37 : decode cX11_runClause 37 = .ok (.ifCond .eq 24, 3) := by decide +kernel
theorem dX11_runClause_40 : decode cX11_runClause 40 = .ok (.aload_n 0, 1) := by decide +kernel
theorem dX11_runClause_41 : decode cX11_runClause 41 = .ok (.getfield 52, 3) := by decide +kernel
theorem dX11_runClause_44 : decode cX11_runClause 44 = .ok (.invokevirtual 245, 3) := by decide +kernel
theorem dX11_runClause_47 : decode cX11_runClause 47 = .ok (.aload_n 0, 1) := by decide +kernel
theorem dX11_runClause_48 : decode cX11_runClause 48 = .ok (.getfield 52, 3) := by decide +kernel
theorem dX11_runClause_51 : decode cX11_runClause 51 = .ok (.aload_n 0, 1) := by decide +kernel
theorem dX11_runClause_52 : decode cX11_runClause 52 = .ok (.getfield 34, 3) := by decide +kernel
theorem dX11_runClause_55 : decode cX11_runClause 55 = .ok (.getfield 357, 3) := by decide +kernel
theorem dX11_runClause_58 : decode cX11_runClause 58 = .ok (.invokevirtual 360, 3) := by decide +kernel
theorem dX11_runClause_61 : decode cX11_runClause 61 = .ok (.iload 4, 2) := by decide +kernel
theorem dX11_runClause_63 : decode cX11_runClause 63 = .ok (.iconst (-1), 1) := by decide +kernel
theorem dX11_runClause_64 : decode cX11_runClause 64 = .ok (.if_icmp .eq 20, 3) := by decide +kernel
theorem dX11_runClause_67 : decode cX11_runClause 67 = .ok (.aload_n 0, 1) := by decide +kernel
theorem dX11_runClause_68 : decode cX11_runClause 68 = .ok (.getfield 34, 3) := by decide +kernel
theorem dX11_runClause_71 : decode cX11_runClause 71 = .ok (.aload_n 1, 1) := by decide +kernel
theorem dX11_runClause_72 : decode cX11_runClause 72 = .ok (.iload 4, 2) := by decide +kernel
theorem dX11_runClause_74 : decode cX11_runClause 74 = .ok (.invokevirtual 364, 3) := by decide +kernel
theorem dX11_runClause_77 : decode cX11_runClause 77 = .ok (.iconst 1, 1) := by decide +kernel
theorem dX11_runClause_78 : decode cX11_runClause 78 = .ok (.if_icmp .eq 6, 3) := by decide +kernel
theorem dX11_runClause_81 : decode cX11_runClause 81 = .ok (.goto 36, 3) := by decide +kernel
theorem dX11_runClause_84 : decode cX11_runClause 84 = .ok (.aload_n 0, 1) := by decide +kernel
theorem dX11_runClause_85 : decode cX11_runClause 85 = .ok (.aload_n 1, 1) := by decide +kernel
theorem dX11_runClause_86 : decode cX11_runClause 86 = .ok (.iload_n 2, 1) := by decide +kernel
theorem dX11_runClause_87 : decode cX11_runClause 87 = .ok (.iload 5, 2) := by decide +kernel
theorem dX11_runClause_89 : decode cX11_runClause 89 = .ok (.invokevirtual 367, 3) := by decide +kernel
theorem dX11_runClause_92 : decode cX11_runClause 92 = .ok (.istore 7, 2) := by decide +kernel
theorem dX11_runClause_94 : decode cX11_runClause 94 = .ok (.iload 7, 2) := by decide +kernel
theorem dX11_runClause_96 : decode cX11_runClause 96 = .ok (.ifCond .eq 18, 3) := by decide +kernel
theorem dX11_runClause_99 : decode cX11_runClause 99 = .ok (.iload 7, 2) := by decide +kernel
theorem dX11_runClause_101 : decode cX11_runClause 101 = .ok (.bipush (-5), 2) := by decide +kernel
theorem dX11_runClause_103 : decode cX11_runClause 103 = .ok (.if_icmp .ne 8, 3) := by decide +kernel
theorem dX11_runClause_106 : decode cX11_runClause 106 = .ok (.bipush (-5), 2) := by decide +kernel
theorem dX11_runClause_108 : decode cX11_runClause 108 = .ok (.goto 5, 3) := by decide +kernel
theorem dX11_runClause_111 : decode cX11_runClause 111 = .ok (.bipush (-3), 2) := by decide +kernel
theorem dX11_runClause_113 : decode cX11_runClause 113 = .ok (.ireturn, 1) := by decide +kernel
theorem dX11_runClause_114 : decode cX11_runClause 114 = .ok (.iinc 5 1, 3) := by decide +kernel
theorem dX11_runClause_117 : decode cX11_runClause 117 = .ok (.iinc 6 1, 3) := by decide +kernel
theorem dX11_runClause_120 : decode cX11_runClause 120 = .ok (.goto (-99), 3) := by decide +kernel
theorem dX11_runClause_123 : decode cX11_runClause 123 = .ok (.iconst 0, 1) := by decide +kernel
theorem dX11_runClause_124 : decode cX11_runClause 124 = .ok (.ireturn, 1) := by decide +kernel
def w_X11_runClause (K : LK) (a1 : Int) (X : XT) (Q : Int → XT → Prop) : Prop :=
  w_X7_head  a1 0 X (fun (v1 : Int) => w_X7_head  a1 5 X (fun (v7 : Int) => ∃ (I16 : Int → Int → XT → Prop) (m17 : Int → Int → XT → Nat), I16 0 0 X ∧ ∀ (x13 : Int) (x14 : Int) (X15 : XT), I16 x13 x14 X15 → R32 x14 ∧ R32 v1 ∧ (v1 ≤ x14 → Q 0 X15) ∧ (¬ v1 ≤ x14 → w_X11_tellWords  x13 X15 (fun (X32 : XT) => ∀ J38 : XT → Prop, (∀  (X37 : XT), (∀ J43 : XT → Prop, (∀  (X42 : XT), (w_X11_runOnce  a1 x13 X42 (fun (v47 : Int) (X48 : XT) => R32 v47 ∧ (v47 = 0 → I16 (x13 + 1) (x14 + 1) X48 ∧ m17 (x13 + 1) (x14 + 1) X48 < m17 x13 x14 X15) ∧ (¬ v47 = 0 → (¬ v47 = (-5) → Q (-3) X48) ∧ (v47 = (-5) → Q (-5) X48)))) → J43  X42) → R32 v7 ∧ (v7 = (-1) → J43  X37) ∧ (¬ v7 = (-1) → w_X6_valueD 41 42 43 v7 X37 (fun (v58 : Int) (X59 : XT) => R32 v58 ∧ (v58 = 1 → J43  X59) ∧ (¬ v58 = 1 → I16 x13 (x14 + 1) X59 ∧ m17 x13 (x14 + 1) X59 < m17 x13 x14 X15)))) → J38  X37) → R32 (X32 37 4) ∧ ((X32 37 4) = 0 → J38  X32) ∧ (¬ (X32 37 4) = 0 → w_X8_look K 50 51  X32 (fun (X69 : XT) => w_X8_tellCorners 50 51  X69 (fun (X75 : XT) => J38  X75)))))))
set_option maxRecDepth 20000 in
theorem so_X11_runClause_37 {n : Nat} {h : Nat → sE} {X : XT} {K : LK} {hk : Nat → sE} (hK : LKok K n hk) {a1 : Int} {Q : Int → XT → Prop} (hn : 115 ≤ n) (hp : Pic X h) (hfK : Fr hk h) (w : w_X11_runClause K  a1 X Q) : Sp m_X11_runClause 6 0 0 [.ref 0, .ref 37, .int (iI a1)] n h (pIw n h Q) := by
  unfold w_X11_runClause at w
  refine Sp.ofV (by decide +kernel) (Nat.le_of_ble_eq_true rfl) ?_
  have hf : Fr h h := fun _ _ => rfl
  refine v_aload_n dX11_runClause_0 rfl ?_
  refine v_iload_n dX11_runClause_1 rfl ?_
  refine v_iconstI dX11_runClause_2 ?_
  refine v_callVIr dX11_runClause_3 ml_X11_347 (so_X7_head hn hp  w) ((hp 37 (by decide)).trans (ent_37 _)) rfl (s_lt hn rfl) rfl rfl (Nat.le_of_ble_eq_true rfl) (Nat.le_of_ble_eq_true rfl) (Nat.zero_le _) (Nat.zero_le _) (fun v1 w => ?_)
  refine v_istore_n dX11_runClause_6 (Nat.le_of_ble_eq_true rfl) ?_
  refine v_aload_n dX11_runClause_7 rfl ?_
  refine v_iload_n dX11_runClause_8 rfl ?_
  refine v_iconstI dX11_runClause_9 ?_
  refine v_callVIr dX11_runClause_10 ml_X11_347 (so_X7_head hn hp  w) ((hp 37 (by decide)).trans (ent_37 _)) rfl (s_lt hn rfl) rfl rfl (Nat.le_of_ble_eq_true rfl) (Nat.le_of_ble_eq_true rfl) (Nat.zero_le _) (Nat.zero_le _) (fun v7 w => ?_)
  refine v_istore dX11_runClause_13 (Nat.le_of_ble_eq_true rfl) ?_
  refine v_iconstI dX11_runClause_15 ?_
  refine v_istore dX11_runClause_16 (Nat.le_of_ble_eq_true rfl) ?_
  refine v_iconstI dX11_runClause_18 ?_
  refine v_istore dX11_runClause_19 (Nat.le_of_ble_eq_true rfl) ?_
  refine v_pick [4, 5, 6, 3, 2, 1, 0] rfl ?_
  obtain ⟨I16, m17, wi20, wl19⟩ := w
  have hL21 : ∀ (N24 : Nat) (x13 : Int) (x14 : Int) (X15 : XT) (h25 : Nat → sE), m17 x13 x14 X15 < N24 → I16 x13 x14 X15 → Pic X15 h25 → Fr h h25 → V (m_X11_runClause, 6, 0, 0, n, pIw n h Q, s_G0) 0 0 n h25 21 [(0, .ref 0), (1, .ref 37), (2, .int (iI a1)), (3, .int (iI v1)), (4, .int (iI v7)), (5, .int (iI x13)), (6, .int (iI x14))] [] := by
    intro N24
    induction N24 with
    | zero => intro x13 x14 X15 h25 hm22; exact absurd hm22 (Nat.not_lt_zero _)
    | succ N24 ih18 =>
      intro x13 x14 X15 h25 hm22 hI23 hp26 hf27
      have w := wl19 x13 x14 X15 hI23
      refine v_iload dX11_runClause_21 rfl ?_
      refine v_iload_n dX11_runClause_23 rfl ?_
      obtain ⟨q28, q29, w⟩ := w
      refine v_icmp_geI (tgt := 123) dX11_runClause_24 (by decide) q28.1 q28.2 q29.1 q29.2 (fun c30 => ?_) (fun c30 => ?_)
      · replace w := w.1 c30
        refine v_iconstI dX11_runClause_123 ?_
        exact v_iret dX11_runClause_124 rfl (Nat.zero_le _) (Nat.zero_le _) ⟨rfl, hf27, _, _, rfl, hp26, w⟩
      · replace w := w.2 c30
        refine v_aload_n dX11_runClause_27 rfl ?_
        refine v_iload dX11_runClause_28 rfl ?_
        refine v_callVVw dX11_runClause_30 ml_X11_350 (so_X11_tellWords hn hp26  w) ((hp26 0 (by decide)).trans (ent_0 _)) rfl (s_lt hn rfl) rfl rfl (Nat.le_of_ble_eq_true rfl) (Nat.le_of_ble_eq_true rfl) (Nat.zero_le _) (Nat.zero_le _) (fun X32 h33 hp35 hf34 w => ?_)
        have hf36 := Fr.trans hf27 hf34
        refine v_aload_n dX11_runClause_33 rfl ?_
        refine v_get dX11_runClause_34 fl_X11_353 ((hp35 37 (by decide)).trans (ent_37 _)) rfl (s_lt hn rfl) ?_
        replace w := w (fun  (X37 : XT) => ∀ h41 : Nat → sE, Pic X37 h41 → Fr h h41 → V (m_X11_runClause, 6, 0, 0, n, pIw n h Q, s_G0) 0 0 n h41 61 [(0, .ref 0), (1, .ref 37), (2, .int (iI a1)), (3, .int (iI v1)), (4, .int (iI v7)), (5, .int (iI x13)), (6, .int (iI x14))] []) (by
          intro  X37 w h41 hp39 hf40
          refine v_iload dX11_runClause_61 rfl ?_
          refine v_iconstI dX11_runClause_63 ?_
          replace w := w (fun  (X42 : XT) => ∀ h46 : Nat → sE, Pic X42 h46 → Fr h h46 → V (m_X11_runClause, 6, 0, 0, n, pIw n h Q, s_G0) 0 0 n h46 84 [(0, .ref 0), (1, .ref 37), (2, .int (iI a1)), (3, .int (iI v1)), (4, .int (iI v7)), (5, .int (iI x13)), (6, .int (iI x14))] []) (by
            intro  X42 w h46 hp44 hf45
            refine v_aload_n dX11_runClause_84 rfl ?_
            refine v_aload_n dX11_runClause_85 rfl ?_
            refine v_iload_n dX11_runClause_86 rfl ?_
            refine v_iload dX11_runClause_87 rfl ?_
            refine v_callVIw dX11_runClause_89 ml_X11_367 (so_X11_runOnce_37 hn hp44  w) ((hp44 0 (by decide)).trans (ent_0 _)) rfl (s_lt hn rfl) rfl rfl (Nat.le_of_ble_eq_true rfl) (Nat.le_of_ble_eq_true rfl) (Nat.zero_le _) (Nat.zero_le _) (fun v47 X48 h49 hp51 hf50 w => ?_)
            have hf52 := Fr.trans hf45 hf50
            refine v_istore dX11_runClause_92 (Nat.le_of_ble_eq_true rfl) ?_
            refine v_iload dX11_runClause_94 rfl ?_
            obtain ⟨q53, w⟩ := w
            refine v_if_eqI (tgt := 114) dX11_runClause_96 (by decide) q53.1 q53.2 (fun c54 => ?_) (fun c54 => ?_)
            · replace w := w.1 c54
              refine v_iincI dX11_runClause_114 rfl (Nat.le_of_ble_eq_true rfl) ?_
              refine v_iincI dX11_runClause_117 rfl (Nat.le_of_ble_eq_true rfl) ?_
              refine v_goto (tgt := 21) dX11_runClause_120 (by decide) ?_
              refine v_pick [3, 4, 5, 6, 7, 1, 0] rfl ?_
              exact ih18 _ _ _ _ (Nat.lt_of_lt_of_le w.2 (Nat.le_of_lt_succ hm22)) w.1 hp51 hf52
            · replace w := w.2 c54
              refine v_iload dX11_runClause_99 rfl ?_
              refine v_bipushI dX11_runClause_101 rfl ?_
              refine v_icmp_neI (tgt := 111) dX11_runClause_103 (by decide) q53.1 q53.2 (by decide) (by decide) (fun c55 => ?_) (fun c55 => ?_)
              · replace w := w.1 c55
                refine v_bipushI dX11_runClause_111 rfl ?_
                exact v_iret dX11_runClause_113 rfl (Nat.zero_le _) (Nat.zero_le _) ⟨rfl, hf52, _, _, rfl, hp51, w⟩
              · replace w := w.2 c55
                refine v_bipushI dX11_runClause_106 rfl ?_
                refine v_goto (tgt := 113) dX11_runClause_108 (by decide) ?_
                exact v_iret dX11_runClause_113 rfl (Nat.zero_le _) (Nat.zero_le _) ⟨rfl, hf52, _, _, rfl, hp51, w⟩
          )
          obtain ⟨q56, w⟩ := w
          refine v_icmp_eqI (tgt := 84) dX11_runClause_64 (by decide) q56.1 q56.2 (by decide) (by decide) (fun c57 => ?_) (fun c57 => ?_)
          · replace w := w.1 c57
            exact w _ hp39 hf40
          · replace w := w.2 c57
            refine v_aload_n dX11_runClause_67 rfl ?_
            refine v_get dX11_runClause_68 fl_X11_34 ((hp39 0 (by decide)).trans (ent_0 _)) rfl (s_lt hn rfl) ?_
            refine v_aload_n dX11_runClause_71 rfl ?_
            refine v_iload dX11_runClause_72 rfl ?_
            refine v_callVIw dX11_runClause_74 ml_X11_364 (so_X6_valueD hn hp39  w) ((hp39 40 (by decide)).trans (ent_40 _)) rfl (s_lt hn rfl) rfl rfl (Nat.le_of_ble_eq_true rfl) (Nat.le_of_ble_eq_true rfl) (Nat.zero_le _) (Nat.zero_le _) (fun v58 X59 h60 hp62 hf61 w => ?_)
            have hf63 := Fr.trans hf40 hf61
            refine v_iconstI dX11_runClause_77 ?_
            obtain ⟨q64, w⟩ := w
            refine v_icmp_eqI (tgt := 84) dX11_runClause_78 (by decide) q64.1 q64.2 (by decide) (by decide) (fun c65 => ?_) (fun c65 => ?_)
            · replace w := w.1 c65
              exact w _ hp62 hf63
            · replace w := w.2 c65
              refine v_goto (tgt := 117) dX11_runClause_81 (by decide) ?_
              refine v_iincI dX11_runClause_117 rfl (Nat.le_of_ble_eq_true rfl) ?_
              refine v_goto (tgt := 21) dX11_runClause_120 (by decide) ?_
              refine v_pick [1, 2, 3, 4, 5, 6, 0] rfl ?_
              exact ih18 _ _ _ _ (Nat.lt_of_lt_of_le w.2 (Nat.le_of_lt_succ hm22)) w.1 hp62 hf63
        )
        obtain ⟨q66, w⟩ := w
        refine v_if_eqI (tgt := 61) dX11_runClause_37 (by decide) q66.1 q66.2 (fun c67 => ?_) (fun c67 => ?_)
        · replace w := w.1 c67
          exact w _ hp35 hf36
        · replace w := w.2 c67
          refine v_aload_n dX11_runClause_40 rfl ?_
          refine v_get dX11_runClause_41 fl_X11_52 ((hp35 0 (by decide)).trans (ent_0 _)) rfl (s_lt hn rfl) ?_
          refine v_callVVw dX11_runClause_44 ml_X11_245 (so_X8_look_49 hK hn hp35 (Fr.trans hfK hf36) w) ((hp35 49 (by decide)).trans (ent_49 _)) rfl (s_lt hn rfl) rfl rfl (Nat.le_of_ble_eq_true rfl) (Nat.le_of_ble_eq_true rfl) (Nat.zero_le _) (Nat.zero_le _) (fun X69 h70 hp72 hf71 w => ?_)
          have hf73 := Fr.trans hf36 hf71
          refine v_aload_n dX11_runClause_47 rfl ?_
          refine v_get dX11_runClause_48 fl_X11_52 ((hp72 0 (by decide)).trans (ent_0 _)) rfl (s_lt hn rfl) ?_
          refine v_aload_n dX11_runClause_51 rfl ?_
          refine v_get dX11_runClause_52 fl_X11_34 ((hp72 0 (by decide)).trans (ent_0 _)) rfl (s_lt hn rfl) ?_
          refine v_get dX11_runClause_55 fl_X11_357 ((hp72 40 (by decide)).trans (ent_40 _)) rfl (s_lt hn rfl) ?_
          refine v_callVVw dX11_runClause_58 ml_X11_360 (so_X8_tellCorners_49_42 hn hp72  w) ((hp72 49 (by decide)).trans (ent_49 _)) rfl (s_lt hn rfl) rfl rfl (Nat.le_of_ble_eq_true rfl) (Nat.le_of_ble_eq_true rfl) (Nat.zero_le _) (Nat.zero_le _) (fun X75 h76 hp78 hf77 w => ?_)
          have hf79 := Fr.trans hf73 hf77
          exact w _ hp78 hf79
  exact hL21 _ _ _ _ _ (Nat.lt_succ_self _) wi20 hp hf
theorem dX11_drives_0 : decode cX11_drives 0 = .ok (.aload_n 0, 1) := by decide +kernel
theorem dX11_drives_1 : decode cX11_drives 1 = .ok (.iconst (-1), 1) := by decide +kernel
theorem dX11_drives_2 : decode cX11_drives 2 = .ok (.putfield 106, 3) := by decide +kernel
theorem dX11_drives_5 : decode cX11_drives 5 = .ok (.aload_n 0, 1) := by decide +kernel
theorem dX11_drives_6 : decode cX11_drives 6 = .ok (.getfield 27, 3) := by decide +kernel
theorem dX11_drives_9 : decode cX11_drives 9 = .ok (.iconst 0, 1) := by decide +kernel
theorem dX11_drives_10 : decode cX11_drives 10 = .ok (.invokevirtual 214, 3) := by decide +kernel
theorem dX11_drives_13 : decode cX11_drives 13 = .ok (.istore_n 1, 1) := by decide +kernel
theorem dX11_drives_14 : decode cX11_drives 14 = .ok (.aload_n 0, 1) := by decide +kernel
theorem dX11_drives_15 : decode cX11_drives 15 = .ok (.getfield 27, 3) := by decide +kernel
theorem dX11_drives_18 : decode cX11_drives 18 = .ok (.iconst 0, 1) := by decide +kernel
theorem dX11_drives_19 : decode cX11_drives 19 = .ok (.putfield 201, 3) := by decide +kernel
theorem dX11_drives_22 : decode cX11_drives 22 = .ok (.iload_n 1, 1) := by decide +kernel
theorem dX11_drives_23 : decode cX11_drives 23 = .ok (.ifCond .ne 10, 3) := by decide +kernel
theorem dX11_drives_26 : decode cX11_drives 26 = .ok (.aload_n 0, 1) := by decide +kernel
theorem dX11_drives_27 : decode cX11_drives 27 = .ok (.bipush (-6), 2) := by decide +kernel
theorem dX11_drives_29 : decode cX11_drives 29 = .ok (.invokevirtual 123, 3) := by decide +kernel
theorem dX11_drives_32 : decode cX11_drives 32 = .ok (.ireturn, 1) := by decide +kernel
theorem dX11_drives_33 : decode cX11_drives 33 = .ok (.aload_n 0, 1) := by decide +kernel
theorem dX11_drives_34 : decode cX11_drives 34 = .ok (.getfield 12, 3) := by decide +kernel
theorem dX11_drives_37 : decode cX11_drives 37 = .ok (.getfield 164, 3) := by decide +kernel
theorem dX11_drives_40 : decode cX11_drives 40 = .ok (.istore_n 2, 1) := by decide +kernel
theorem dX11_drives_41 : decode cX11_drives 41 = .ok (.aload_n 0, 1) := by decide +kernel
theorem dX11_drives_42 : decode cX11_drives 42 = .ok (.iconst (-1), 1) := by decide +kernel
theorem dX11_drives_43 : decode cX11_drives 43 = .ok (.putfield 109, 3) := by decide +kernel
theorem dX11_drives_46 : decode cX11_drives 46 = .ok (.aload_n 0, 1) := by decide +kernel
theorem dX11_drives_47 : decode cX11_drives 47 = .ok (.iconst 0, 1) := by decide +kernel
theorem dX11_drives_48 : decode cX11_drives 48 = .ok (.putfield 112, 3) := by decide +kernel
theorem dX11_drives_51 : decode cX11_drives 51 = .ok (.iconst 0, 1) := by decide +kernel
theorem dX11_drives_52 : decode cX11_drives 52 = .ok (.istore_n 3, 1) := by decide +kernel
theorem dX11_drives_53 : decode cX11_drives 53 = .ok (.iload_n 3, 1) := by decide +kernel
theorem dX11_drives_54 : decode cX11_drives 54 = .ok (.aload_n 0, 1) := by decide +kernel
theorem dX11_drives_55 : decode cX11_drives 55 = .ok (.getfield 27, 3) := by decide +kernel
theorem dX11_drives_58 : decode cX11_drives 58 = .ok (.getfield 218, 3) := by decide +kernel
theorem dX11_drives_61 : decode cX11_drives 61 = .ok (.getfield 232, 3) := by decide +kernel
theorem dX11_drives_64 : decode cX11_drives 64 = .ok (.if_icmp .ge 48, 3) := by decide +kernel
theorem dX11_drives_67 : decode cX11_drives 67 = .ok (.aload_n 0, 1) := by decide +kernel
theorem dX11_drives_68 : decode cX11_drives 68 = .ok (.aload_n 0, 1) := by decide +kernel
theorem dX11_drives_69 : decode cX11_drives 69 = .ok (.getfield 27, 3) := by decide +kernel
theorem dX11_drives_72 : decode cX11_drives 72 = .ok (.getfield 218, 3) := by decide +kernel
theorem dX11_drives_75 : decode cX11_drives 75 = .ok (.iload_n 3, 1) := by decide +kernel
theorem dX11_drives_76 : decode cX11_drives 76 = .ok (.invokevirtual 235, 3) := by decide +kernel
theorem dX11_drives_79 : decode cX11_drives 79 = .ok (.istore 4, 2) := by decide +kernel
theorem dX11_drives_81 : decode cX11_drives 81 = .ok (.iload 4, 2) := by decide +kernel
theorem dX11_drives_83 : decode cX11_drives 83 = .ok (.ifCond .eq 23, 3) := by decide +kernel
theorem dX11_drives_86 : decode cX11_drives 86 = .ok (.aload_n 0, 1) := by decide +kernel
theorem dX11_drives_87 : decode cX11_drives 87 = .ok (.getfield 12, 3) := by decide +kernel
theorem dX11_drives_90 : decode cX11_drives 90 = .ok (.iload_n 2, 1) := by decide +kernel
theorem dX11_drives_91 : decode cX11_drives 91 = .ok (.putfield 164, 3) := by decide +kernel
theorem dX11_drives_94 : decode cX11_drives 94 = .ok (.aload_n 0, 1) := by decide +kernel
theorem dX11_drives_95 : decode cX11_drives 95 = .ok (.iload_n 3, 1) := by decide +kernel
theorem dX11_drives_96 : decode cX11_drives 96 = .ok (.putfield 106, 3) := by decide +kernel
theorem dX11_drives_99 : decode cX11_drives 99 = .ok (.aload_n 0, 1) := by decide +kernel
theorem dX11_drives_100 : decode cX11_drives 100 = .ok (.iload 4, 2) := by decide +kernel
theorem dX11_drives_102 : decode cX11_drives 102 = .ok (.invokevirtual 123, 3) := by decide +kernel
theorem dX11_drives_105 : decode cX11_drives 105 = .ok (.ireturn, 1) := by decide +kernel
theorem dX11_drives_106 : decode cX11_drives 106 = .ok (.iinc 3 1, 3) := by decide +kernel
theorem dX11_drives_109 : decode cX11_drives 109 = .ok (.goto (-56), 3) := by decide +kernel
theorem dX11_drives_112 : decode cX11_drives 112 = .ok (.aload_n 0, 1) := by decide +kernel
theorem dX11_drives_113 : decode cX11_drives 113 = .ok (.aload_n 0, 1) := by decide +kernel
theorem dX11_drives_114 : decode cX11_drives 114 = .ok (.getfield 112, 3) := by decide +kernel
theorem dX11_drives_117 : decode cX11_drives 117 = .ok (.invokevirtual 135, 3) := by decide +kernel
theorem dX11_drives_120 : decode cX11_drives 120 = .ok (.ireturn, 1) := by decide +kernel
def w_X11_drives (K : LK) (X : XT) (Q : Int → XT → Prop) : Prop :=
  w_X5_readText  0 (x_st X 0 15 (-1)) (fun (v6 : Int) (X7 : XT) => R32 v6 ∧ (¬ v6 = 0 → ∃ (I31 : Int → XT → Prop) (m32 : Int → XT → Nat), I31 0 (x_st (x_st (x_st X7 33 4 0) 0 16 (-1)) 0 17 0) ∧ ∀ (x29 : Int) (X30 : XT), I31 x29 X30 → R32 x29 ∧ R32 (X30 37 2) ∧ ((X30 37 2) ≤ x29 → w_X11_grant  (X30 0 17) X30 (fun (v46 : Int) (X47 : XT) => Q v46 X47)) ∧ (¬ (X30 37 2) ≤ x29 → w_X11_runClause K  x29 X30 (fun (v52 : Int) (X53 : XT) => R32 v52 ∧ (v52 = 0 → I31 (x29 + 1) X53 ∧ m32 (x29 + 1) X53 < m32 x29 X30) ∧ (¬ v52 = 0 → w_X11_refuse  v52 (x_st (x_st X53 1 10 ((x_st X7 33 4 0) 1 10)) 0 15 x29) (fun (v70 : Int) (X71 : XT) => Q v70 X71))))) ∧ (v6 = 0 → w_X11_refuse  (-6) (x_st X7 33 4 0) (fun (v76 : Int) (X77 : XT) => Q v76 X77)))
set_option maxRecDepth 20000 in
theorem so_X11_drives {n : Nat} {h : Nat → sE} {X : XT} {K : LK} {hk : Nat → sE} (hK : LKok K n hk) {Q : Int → XT → Prop} (hn : 115 ≤ n) (hp : Pic X h) (hfK : Fr hk h) (w : w_X11_drives K   X Q) : Sp m_X11_drives 66 0 0 [.ref 0] n h (pIw n h Q) := by
  unfold w_X11_drives at w
  refine Sp.ofV (by decide +kernel) (Nat.le_of_ble_eq_true rfl) ?_
  have hf : Fr h h := fun _ _ => rfl
  refine v_aload_n dX11_drives_0 rfl ?_
  refine v_iconstI dX11_drives_1 ?_
  refine v_put dX11_drives_2 fl_X11_106 ((hp 0 (by decide)).trans (ent_0 _)) (s_lt hn rfl) (Nat.le_of_ble_eq_true rfl) (fun _ => ⟨rfl, rfl⟩) trivial (fun h1 E2 F3 => ?_)
  have hp4 := pic_st hp (show h1 0 = ent 0 (uI _ 15 (-1)) from E2) F3
  have hf5 := Fr.up (c := 0) hf F3 rfl
  refine v_aload_n dX11_drives_5 rfl ?_
  refine v_get dX11_drives_6 fl_X11_27 ((hp4 0 (by decide)).trans (ent_0 _)) rfl (s_lt hn rfl) ?_
  refine v_iconstI dX11_drives_9 ?_
  refine v_callVIw dX11_drives_10 ml_X11_214 (so_X5_readText hn hp4  w) ((hp4 33 (by decide)).trans (ent_33 _)) rfl (s_lt hn rfl) rfl rfl (Nat.le_of_ble_eq_true rfl) (Nat.le_of_ble_eq_true rfl) (Nat.zero_le _) (Nat.zero_le _) (fun v6 X7 h8 hp10 hf9 w => ?_)
  have hf11 := Fr.trans hf5 hf9
  refine v_istore_n dX11_drives_13 (Nat.le_of_ble_eq_true rfl) ?_
  refine v_aload_n dX11_drives_14 rfl ?_
  refine v_get dX11_drives_15 fl_X11_27 ((hp10 0 (by decide)).trans (ent_0 _)) rfl (s_lt hn rfl) ?_
  refine v_iconstI dX11_drives_18 ?_
  refine v_put dX11_drives_19 fl_X11_201 ((hp10 33 (by decide)).trans (ent_33 _)) (s_lt hn rfl) (Nat.le_of_ble_eq_true rfl) (fun _ => ⟨rfl, rfl⟩) trivial (fun h12 E13 F14 => ?_)
  have hp15 := pic_st hp10 (show h12 33 = ent 33 (uI _ 4 0) from E13) F14
  have hf16 := Fr.up (c := 33) hf11 F14 rfl
  refine v_iload_n dX11_drives_22 rfl ?_
  obtain ⟨q17, w⟩ := w
  refine v_if_neI (tgt := 33) dX11_drives_23 (by decide) q17.1 q17.2 (fun c18 => ?_) (fun c18 => ?_)
  · replace w := w.1 c18
    refine v_aload_n dX11_drives_33 rfl ?_
    refine v_get dX11_drives_34 fl_X11_12 ((hp15 0 (by decide)).trans (ent_0 _)) rfl (s_lt hn rfl) ?_
    refine v_get dX11_drives_37 fl_X11_164 ((hp15 1 (by decide)).trans (ent_1 _)) rfl (s_lt hn rfl) ?_
    refine v_istore_n dX11_drives_40 (Nat.le_of_ble_eq_true rfl) ?_
    refine v_aload_n dX11_drives_41 rfl ?_
    refine v_iconstI dX11_drives_42 ?_
    refine v_put dX11_drives_43 fl_X11_109 ((hp15 0 (by decide)).trans (ent_0 _)) (s_lt hn rfl) (Nat.le_of_ble_eq_true rfl) (fun _ => ⟨rfl, rfl⟩) trivial (fun h19 E20 F21 => ?_)
    have hp22 := pic_st hp15 (show h19 0 = ent 0 (uI _ 16 (-1)) from E20) F21
    have hf23 := Fr.up (c := 0) hf16 F21 rfl
    refine v_aload_n dX11_drives_46 rfl ?_
    refine v_iconstI dX11_drives_47 ?_
    refine v_put dX11_drives_48 fl_X11_112 ((hp22 0 (by decide)).trans (ent_0 _)) (s_lt hn rfl) (Nat.le_of_ble_eq_true rfl) (fun _ => ⟨rfl, rfl⟩) trivial (fun h24 E25 F26 => ?_)
    have hp27 := pic_st hp22 (show h24 0 = ent 0 (uI _ 17 0) from E25) F26
    have hf28 := Fr.up (c := 0) hf23 F26 rfl
    refine v_iconstI dX11_drives_51 ?_
    refine v_istore_n dX11_drives_52 (Nat.le_of_ble_eq_true rfl) ?_
    refine v_pick [3, 1, 0] rfl ?_
    obtain ⟨I31, m32, wi35, wl34⟩ := w
    have hL36 : ∀ (N39 : Nat) (x29 : Int) (X30 : XT) (h40 : Nat → sE), m32 x29 X30 < N39 → I31 x29 X30 → Pic X30 h40 → Fr h h40 → V (m_X11_drives, 66, 0, 0, n, pIw n h Q, s_G0) 0 0 n h40 53 [(0, .ref 0), (2, .int (iI ((x_st X7 33 4 0) 1 10))), (3, .int (iI x29))] [] := by
      intro N39
      induction N39 with
      | zero => intro x29 X30 h40 hm37; exact absurd hm37 (Nat.not_lt_zero _)
      | succ N39 ih33 =>
        intro x29 X30 h40 hm37 hI38 hp41 hf42
        have w := wl34 x29 X30 hI38
        refine v_iload_n dX11_drives_53 rfl ?_
        refine v_aload_n dX11_drives_54 rfl ?_
        refine v_get dX11_drives_55 fl_X11_27 ((hp41 0 (by decide)).trans (ent_0 _)) rfl (s_lt hn rfl) ?_
        refine v_get dX11_drives_58 fl_X11_218 ((hp41 33 (by decide)).trans (ent_33 _)) rfl (s_lt hn rfl) ?_
        refine v_get dX11_drives_61 fl_X11_232 ((hp41 37 (by decide)).trans (ent_37 _)) rfl (s_lt hn rfl) ?_
        obtain ⟨q43, q44, w⟩ := w
        refine v_icmp_geI (tgt := 112) dX11_drives_64 (by decide) q43.1 q43.2 q44.1 q44.2 (fun c45 => ?_) (fun c45 => ?_)
        · replace w := w.1 c45
          refine v_aload_n dX11_drives_112 rfl ?_
          refine v_aload_n dX11_drives_113 rfl ?_
          refine v_get dX11_drives_114 fl_X11_112 ((hp41 0 (by decide)).trans (ent_0 _)) rfl (s_lt hn rfl) ?_
          refine v_callVIw dX11_drives_117 ml_X11_135 (so_X11_grant hn hp41  w) ((hp41 0 (by decide)).trans (ent_0 _)) rfl (s_lt hn rfl) rfl rfl (Nat.le_of_ble_eq_true rfl) (Nat.le_of_ble_eq_true rfl) (Nat.zero_le _) (Nat.zero_le _) (fun v46 X47 h48 hp50 hf49 w => ?_)
          have hf51 := Fr.trans hf42 hf49
          exact v_iret dX11_drives_120 rfl (Nat.zero_le _) (Nat.zero_le _) ⟨rfl, hf51, _, _, rfl, hp50, w⟩
        · replace w := w.2 c45
          refine v_aload_n dX11_drives_67 rfl ?_
          refine v_aload_n dX11_drives_68 rfl ?_
          refine v_get dX11_drives_69 fl_X11_27 ((hp41 0 (by decide)).trans (ent_0 _)) rfl (s_lt hn rfl) ?_
          refine v_get dX11_drives_72 fl_X11_218 ((hp41 33 (by decide)).trans (ent_33 _)) rfl (s_lt hn rfl) ?_
          refine v_iload_n dX11_drives_75 rfl ?_
          refine v_callVIw dX11_drives_76 ml_X11_235 (so_X11_runClause_37 hK hn hp41 (Fr.trans hfK hf42) w) ((hp41 0 (by decide)).trans (ent_0 _)) rfl (s_lt hn rfl) rfl rfl (Nat.le_of_ble_eq_true rfl) (Nat.le_of_ble_eq_true rfl) (Nat.zero_le _) (Nat.zero_le _) (fun v52 X53 h54 hp56 hf55 w => ?_)
          have hf57 := Fr.trans hf42 hf55
          refine v_istore dX11_drives_79 (Nat.le_of_ble_eq_true rfl) ?_
          refine v_iload dX11_drives_81 rfl ?_
          obtain ⟨q58, w⟩ := w
          refine v_if_eqI (tgt := 106) dX11_drives_83 (by decide) q58.1 q58.2 (fun c59 => ?_) (fun c59 => ?_)
          · replace w := w.1 c59
            refine v_iincI dX11_drives_106 rfl (Nat.le_of_ble_eq_true rfl) ?_
            refine v_goto (tgt := 53) dX11_drives_109 (by decide) ?_
            refine v_pick [2, 3, 0] rfl ?_
            exact ih33 _ _ _ (Nat.lt_of_lt_of_le w.2 (Nat.le_of_lt_succ hm37)) w.1 hp56 hf57
          · replace w := w.2 c59
            refine v_aload_n dX11_drives_86 rfl ?_
            refine v_get dX11_drives_87 fl_X11_12 ((hp56 0 (by decide)).trans (ent_0 _)) rfl (s_lt hn rfl) ?_
            refine v_iload_n dX11_drives_90 rfl ?_
            refine v_put dX11_drives_91 fl_X11_164 ((hp56 1 (by decide)).trans (ent_1 _)) (s_lt hn rfl) (Nat.le_of_ble_eq_true rfl) (fun _ => ⟨rfl, rfl⟩) trivial (fun h60 E61 F62 => ?_)
            have hp63 := pic_st hp56 (show h60 1 = ent 1 (uI _ 10 ((x_st X7 33 4 0) 1 10)) from E61) F62
            have hf64 := Fr.up (c := 1) hf57 F62 rfl
            refine v_aload_n dX11_drives_94 rfl ?_
            refine v_iload_n dX11_drives_95 rfl ?_
            refine v_put dX11_drives_96 fl_X11_106 ((hp63 0 (by decide)).trans (ent_0 _)) (s_lt hn rfl) (Nat.le_of_ble_eq_true rfl) (fun _ => ⟨rfl, rfl⟩) trivial (fun h65 E66 F67 => ?_)
            have hp68 := pic_st hp63 (show h65 0 = ent 0 (uI _ 15 x29) from E66) F67
            have hf69 := Fr.up (c := 0) hf64 F67 rfl
            refine v_aload_n dX11_drives_99 rfl ?_
            refine v_iload dX11_drives_100 rfl ?_
            refine v_callVIw dX11_drives_102 ml_X11_123 (so_X11_refuse hn hp68  w) ((hp68 0 (by decide)).trans (ent_0 _)) rfl (s_lt hn rfl) rfl rfl (Nat.le_of_ble_eq_true rfl) (Nat.le_of_ble_eq_true rfl) (Nat.zero_le _) (Nat.zero_le _) (fun v70 X71 h72 hp74 hf73 w => ?_)
            have hf75 := Fr.trans hf69 hf73
            exact v_iret dX11_drives_105 rfl (Nat.zero_le _) (Nat.zero_le _) ⟨rfl, hf75, _, _, rfl, hp74, w⟩
    exact hL36 _ _ _ _ (Nat.lt_succ_self _) wi35 hp27 hf28
  · replace w := w.2 c18
    refine v_aload_n dX11_drives_26 rfl ?_
    refine v_bipushI dX11_drives_27 rfl ?_
    refine v_callVIw dX11_drives_29 ml_X11_123 (so_X11_refuse hn hp15  w) ((hp15 0 (by decide)).trans (ent_0 _)) rfl (s_lt hn rfl) rfl rfl (Nat.le_of_ble_eq_true rfl) (Nat.le_of_ble_eq_true rfl) (Nat.zero_le _) (Nat.zero_le _) (fun v76 X77 h78 hp80 hf79 w => ?_)
    have hf81 := Fr.trans hf16 hf79
    exact v_iret dX11_drives_32 rfl (Nat.zero_le _) (Nat.zero_le _) ⟨rfl, hf81, _, _, rfl, hp80, w⟩

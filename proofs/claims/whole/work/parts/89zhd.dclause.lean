/-! TEXTS: a drive's clause, as the reference keeps it -/
theorem zSm.sr {X : XT} {k L : Int} {c c1 c6 : zCD} {D : zDT} (h : zSm false X k c c1 D L) (x : zEX c1 c6) (c0 : 0 ≤ c.2.2) (L50 : L ≤ 50) : zSr c6.1 c6.2.1 (X 113) k c6.2.2 D L := by
  obtain ⟨h1, h2, h3, h4⟩ := h
  unfold zSr
  rw [h1, h2]
  exact ⟨⟨c0, h3.1, x.1⟩, L50, x.rp (Int.le_refl _) h4⟩
theorem st_drive {f : Int → Int} {n M : Int} {tk pl : Int → Int} {X X1 : XT} {i v : Int} {c : zCD} (HT : ∀ j : Int, 400 ≤ j → tk j = 29) (h : zDrR f n M tk pl false 60 X i v c X1) (z : zQS f n M pl X i v c) (i4 : i ≤ 400) : zStp f n M pl false tk 113 12 (rDr tk) X i v c X1 := by
  obtain ⟨h1, h2, h3⟩ := h
  have bv := z.2.2.2.2.2
  have bc := z.2.2.2.2.1
  have i0 := z.1.2.2.2.2.1
  refine ⟨h3, fun k => h1 (fun w => k w.2), fun k => ?_⟩
  by_cases e19 : tk i = 19
  rotate_left
  · have eh : zhd false tk i v = (false, i, v, dNo) := (if_neg (by decide)).trans (if_neg e19)
    have er : zrx false tk i v = (false, i, v, dNo) := by unfold zrx; rw [eh]; exact zmy_f rfl
    rw [er]
    exact ⟨fun _ => h1 (fun w => e19 w.1), fun y => by cases y⟩
  have eh : zhd false tk i v = ztm tk (zmy false tk 60 22 2 (zbh false tk 60 21 (zbh false tk 60 20 (zrd false tk 60 2 0 (i + 1) v)))) := (if_neg (by decide)).trans (if_pos e19)
  have er : zrx false tk i v = zmy false tk 60 24 0 (ztm tk (zmy false tk 60 22 2 (zbh false tk 60 21 (zbh false tk 60 20 (zrd false tk 60 2 0 (i + 1) v))))) := by unfold zrx; rw [eh]
  have lt := tk_lt HT (show ¬ tk i = 29 by omega)
  obtain ⟨c6, g6, gr⟩ := h2 ⟨e19, k⟩ _ _ _ _ _ _ rfl rfl rfl rfl rfl rfl
  have m1 := rd_mov (lw := false) HT 60 2 0 (i + 1) v (by omega) (by omega)
  obtain ⟨m11, m12, m13, m14⟩ := m1
  rw [er]
  unfold rDr
  generalize hd1 : zrd false tk 60 2 0 (i + 1) v = d1 at *
  have m2 := zbh_m (lw := false) HT (w := 20) (r := d1) (by decide) (by omega)
  generalize hd2 : zbh false tk 60 20 d1 = d2 at *
  have m3 := zbh_m (lw := false) HT (w := 21) (r := d2) (by decide) (by omega)
  generalize hd3 : zbh false tk 60 21 d2 = d3 at *
  have m4 := zmy_m (lw := false) HT (w := 22) (sel := 2) (r := d3) (by decide) (by omega)
  generalize hd4 : zmy false tk 60 22 2 d3 = d4 at *
  have m5 := ztm_m HT (r := d4) (by omega)
  generalize hd5 : ztm tk d4 = d5 at *
  have m6 := zmy_m (lw := false) HT (w := 24) (sel := 0) (r := d5) (by decide) (by omega)
  generalize hd6 : zmy false tk 60 24 0 d5 = d6 at *
  refine ⟨g6.2, fun t6 => ?_⟩
  obtain ⟨e16, c1, c2, c3, c4, s1, s2, s3, ⟨s4, s4'⟩, s5, s8, s9, s11, s6, s6'⟩ := gr t6
  have t5 : d5.1 = true := by
    cases h : d5.1
    · rw [← hd6, zmy_f h] at t6; cases t6
    · rfl
  have t4 : d4.1 = true := by
    cases h : d4.1
    · rw [← hd5, ztm_f h] at t5; cases t5
    · rfl
  have x34 : zEX c3 c4 := by
    by_cases u : tk d3.2.1 = 22
    · exact (s4 u).2.2.1
    · rw [(s4' u).1]; exact zEX.rf
  have x46 : zEX c4 c6 := by
    by_cases u : tk d5.2.1 = 24
    · exact (s6 u).1
    · rw [s6' u]; exact zEX.rf
  have x12 := s2.2.2.1
  have x23 := s3.2.2.1
  have x01 := s1.2.2.1
  have y1 := x01.1
  have y2 := x12.1
  have y3 := x23.1
  have y4 := x34.1
  have y6 := x46.1
  refine ⟨c6, g6.1 t6, (((x01.tr x12).tr x23).tr x34).tr x46, e16, e19, fun d1' d2' d3' d4' d5' d6' u1 u2 u3 u4 u5 u6 => ?_⟩
  subst u1
  rw [hd2] at u2; subst u2
  rw [hd3] at u3; subst u3
  rw [hd4] at u4; subst u4
  rw [hd5] at u5; subst u5
  rw [hd6] at u6; subst u6
  refine ⟨s1.sr (((x12.tr x23).tr x34).tr x46) (by omega) (by omega), s2.sr ((x23.tr x34).tr x46) (by omega) (by omega), s3.sr (x34.tr x46) (by omega) (by omega), ⟨fun u => (s4 u).sr x46 (by omega) (by omega), fun u => (s4' u).2⟩, ⟨s5, ?_⟩, s11, fun u => ?_, fun u => ?_⟩
  · rw [s5]
    split
    · rename_i u
      have et := ztm_y t4 u
      rw [hd5] at et
      split at et
      · assumption
      · rw [et] at t5; cases t5
    · decide
  · obtain ⟨a1, a2, a3⟩ := s6 u
    refine ⟨?_, a3⟩
    unfold zSr
    rw [s8, show 12 * X 77 16 + 8 + 1 = 12 * X 77 16 + 9 by omega, s9]
    exact ⟨by omega, by omega, a2⟩
  · rw [s9, s8, s6' u]; omega
theorem rd_drive {f : Int → Int} {n M : Int} {tk pl bh : Int → Int} (s : zRS f n M tk pl bh) (Y : XT) (i v : Int) (c : zCD) (Q : XT → Prop) (ho : Y 77 15 = if false = true then 0 else 1) (k88 : Y 88 = X0 88) (k89 : Y 89 = X0 89) (k90 : Y 90 = X0 90) (z : zQS f n M pl Y i v c) (n0 : 0 ≤ Y 77 16 ∧ Y 77 16 ≤ 12) (q : ∀ Y1, LFr Y Y1 → zStp f n M pl false tk 113 12 (rDr tk) Y i v c Y1 → Q Y1) : w_X12_readDrive Y Q := by
  have HT : ∀ j : Int, 400 ≤ j → tk j = 29 := fun j hj => s.1.2.2.2.2.2.1 j (by have := s.1.1; have := s.2.1; omega)
  exact m_readDrive s ho k88 k89 z n0 (fu := 60) (by decide) (fun Y1 l hh => q Y1 l (st_drive HT hh z (at_400 s z.1)))

/-! TEXTS: the class reads a drive's head, all of it -/
theorem e_driveHead {lw : Bool} {tk : Int → Int} {X : XT} {m i v : Int} {Q : Int → XT → Prop} (hm : 0 ≤ m ∧ m ≤ 11) (z : kQS lw tk X i v) (q0 : ¬ tk i = 19 → ∀ X1, kKp (X 37 3) (m * 6) (m * 6 + 5) X X1 → kQS lw tk X1 i v → Q 0 X1) (q1 : tk i = 19 → ∀ d1 d2 d3 d4 d5 : zRT, zrd lw tk 60 2 0 (i + 1) v = d1 → zbh lw tk 60 20 d1 = d2 → zbh lw tk 60 21 d2 = d3 → zmy lw tk 60 22 2 d3 = d4 → ztm tk d4 = d5 → ∀ X1, kKp (X 37 3) (m * 6) (m * 6 + 5) X X1 → kQS lw tk X1 d5.2.1 d5.2.2.1 → (d5.1 = true → i < d5.2.1 ∧ (X1 38 (m * 6) = if tk d4.2.1 = 23 then tk (d4.2.1 + 1) - 2000 else 1) ∧ kSm lw X1 (m * 6 + 1) d1.2.2.2 (d1.2.2.1 - v) ∧ kSm lw X1 (m * 6 + 2) d2.2.2.2 (d2.2.2.1 - d1.2.2.1) ∧ kSm lw X1 (m * 6 + 3) d3.2.2.2 (d3.2.2.1 - d2.2.2.1) ∧ (tk d3.2.1 = 22 → kSm lw X1 (m * 6 + 4) d4.2.2.2 (d4.2.2.1 - d3.2.2.1)) ∧ (¬ tk d3.2.1 = 22 → X1 38 (m * 6 + 4) = X 38 (m * 6 + 4))) → Q (if d5.1 = true then 1 else 0) X1) : w_X5_readDriveHead m X Q := by
  refine e_setHead (by omega) ?_
  have z0 := z.kp (j := m * 6 + 0) (w := 1)
  have k0 : kKp (X 37 3) (m * 6) (m * 6 + 5) X (x_st X 38 (m * 6 + 0) 1) := kKp.hd (by omega)
  have n0 : (x_st X 38 (m * 6 + 0) 1) 37 3 = X 37 3 := by rw [x_st_c (by decide)]
  have h0 : (x_st X 38 (m * 6 + 0) 1) 38 (m * 6) = 1 := by rw [show m * 6 + 0 = m * 6 by omega, x_st_at]
  have ho : (x_st X 38 (m * 6 + 0) 1) 38 (m * 6 + 4) = X 38 (m * 6 + 4) := x_st_ne (by omega)
  generalize x_st X 38 (m * 6 + 0) 1 = Y at *
  obtain ⟨z1, z2, z3, z4, z5, z6⟩ := id z0
  refine e_takeT z1 z2 z4.1 z4.2 (by decide) (by decide) (fun e => ⟨by decide, fun y => absurd y (by decide), fun _ => ?_⟩) (fun e => ⟨by decide, fun _ => q0 e Y k0 z0, fun y => absurd rfl y⟩)
  have q2 := q1 e
  generalize hd1 : zrd lw tk 60 2 0 (i + 1) v = d1 at *
  generalize hd2 : zbh lw tk 60 20 d1 = d2 at *
  generalize hd3 : zbh lw tk 60 21 d2 = d3 at *
  generalize hd4 : zmy lw tk 60 22 2 d3 = d4 at *
  generalize hd5 : ztm tk d4 = d5 at *
  have q3 := q2 d1 d2 d3 d4 d5 rfl hd2 hd3 hd4 hd5
  have f5 : d4.1 = false → d5 = (false, d4.2.1, d4.2.2.1, dNo) := fun h => by rw [← hd5]; exact ztm_f h
  have f4 : d3.1 = false → d5 = (false, d3.2.1, d3.2.2.1, dNo) := fun h => by
    have a : d4 = (false, d3.2.1, d3.2.2.1, dNo) := by rw [← hd4]; exact zmy_f h
    have b := f5 (by rw [a])
    rw [b, a]
  have f3 : d2.1 = false → d5 = (false, d2.2.1, d2.2.2.1, dNo) := fun h => by
    have a : d3 = (false, d2.2.1, d2.2.2.1, dNo) := by rw [← hd3]; exact zbh_f h
    have b := f4 (by rw [a])
    rw [b, a]
  have f2 : d1.1 = false → d5 = (false, d1.2.1, d1.2.2.1, dNo) := fun h => by
    have a : d2 = (false, d1.2.1, d1.2.2.1, dNo) := by rw [← hd2]; exact zbh_f h
    have b := f3 (by rw [a])
    rw [b, a]
  have fail : ∀ (Z : XT) (j u : Int), d5 = (false, j, u, dNo) → kKp (X 37 3) (m * 6) (m * 6 + 5) X Z → kQS lw tk Z j u → Q 0 Z := fun Z j u ed k zz => by
    have := q3 Z k (by rw [ed]; exact zz) (fun h => by rw [ed] at h; cases h)
    rw [ed] at this
    exact this
  have zn := z0.nx (by omega)
  have n1 : (x_st Y 33 6 (i + 1)) 37 3 = X 37 3 := by rw [x_st_c (by decide)]; exact n0
  have k1 : kKp (X 37 3) (m * 6) (m * 6 + 5) X (x_st Y 33 6 (i + 1)) := k0.tr (kKp.nx (s := X 37 3) (k := m * 6) (e := m * 6 + 5)) (by omega)
  have h1 : (x_st Y 33 6 (i + 1)) 38 (m * 6) = 1 := by rw [x_st_c (by decide)]; exact h0
  have h14 : (x_st Y 33 6 (i + 1)) 38 (m * 6 + 4) = X 38 (m * 6 + 4) := by rw [x_st_c (by decide)]; exact ho
  have sz := z6.2
  generalize x_st Y 33 6 (i + 1) = Y1 at *
  refine e_sum1 (by omega) zn (by omega) (by omega) hd1 (fun Y2 k2 zz2 t1 lt1 s1 => ?_) (fun Y2 k2 zz2 t1 => ?_)
  rotate_left
  · exact fail Y2 _ _ (f2 t1) (k1.tr k2 (by omega)) zz2
  rw [n1] at k2
  have K2 : kKp (X 37 3) (m * 6) (m * 6 + 5) X Y2 := k1.tr k2 (by omega)
  have g2 := K2.2.2.2.2.2
  refine e_behind (by omega) (by decide) zz2 t1 (fun Y3 k3 zz3 t2 lt2 s2 => ?_) (fun Y3 k3 zz3 t2 => ?_)
  rotate_left
  · rw [hd2] at zz3 t2
    exact fail Y3 _ _ (f3 t2) (K2.tr k3 (by omega)) zz3
  rw [hd2] at zz3 t2 lt2 s2
  have K3 : kKp (X 37 3) (m * 6) (m * 6 + 5) X Y3 := K2.tr k3 (by omega)
  have g3 := K3.2.2.2.2.2
  refine e_behind (by omega) (by decide) zz3 t2 (fun Y4 k4 zz4 t3 lt3 s3 => ?_) (fun Y4 k4 zz4 t3 => ?_)
  rotate_left
  · rw [hd3] at zz4 t3
    exact fail Y4 _ _ (f4 t3) (K3.tr k4 (by omega)) zz4
  rw [hd3] at zz4 t3 lt3 s3
  have K4 : kKp (X 37 3) (m * 6) (m * 6 + 5) X Y4 := K3.tr k4 (by omega)
  have g4 := K4.2.2.2.2.2
  have key : ∀ Y5, kKp (Y4 37 3) (m * 6 + 4) (m * 6 + 5) Y4 Y5 → kQS lw tk Y5 d4.2.1 d4.2.2.1 → d4.1 = true → d3.2.1 ≤ d4.2.1 → (tk d3.2.1 = 22 → kSm lw Y5 (m * 6 + 4) d4.2.2.2 (d4.2.2.1 - d3.2.2.1)) → (¬ tk d3.2.1 = 22 → Y5 38 (m * 6 + 4) = Y4 38 (m * 6 + 4)) → w_X5_take 23 Y5 (fun (v66 : Int) (X67 : XT) => R32 v66 ∧ (v66 = 0 → Q 1 X67) ∧ (¬ v66 = 0 → w_X5_readTimes m X67 (fun (v74 : Int) (X75 : XT) => R32 v74 ∧ (v74 = 0 → Q 0 X75) ∧ (¬ v74 = 0 → Q 1 X75)))) := by
    intro Y5 k5 zz5 t4 le4 s4 s4'
    have K5 : kKp (X 37 3) (m * 6) (m * 6 + 5) X Y5 := K4.tr k5 (by omega)
    have g5 := K5.2.2.2.2.2
    have hh : Y5 38 (m * 6) = 1 := by rw [k5.2.2.2.2.1 _ (by omega), k4.2.2.2.2.1 _ (by omega), k3.2.2.2.2.1 _ (by omega), k2.2.2.2.2.1 _ (by omega)]; exact h1
    refine e_timesT hm zz5 t4 hh (fun Y6 k6 zz6 s6 => ?_)
    rw [hd5] at zz6 s6 ⊢
    have g6 := k6.2.2.2.2.2
    refine q3 Y6 (K5.tr k6 (by omega)) zz6 (fun t5 => ?_)
    obtain ⟨le5, hv⟩ := s6 t5
    have c3 := k3.2.2.2.2.2
    have c4 := k4.2.2.2.2.2
    have c5 := k5.2.2.2.2.2
    refine ⟨by omega, hv, (((s1.kp k3 (Int.le_refl _) (by omega)).kp k4 (Int.le_refl _) (by omega)).kp k5 (Int.le_refl _) (by omega)).kp k6 (Int.le_refl _) (by omega), ((s2.kp k4 (Int.le_refl _) (by omega)).kp k5 (Int.le_refl _) (by omega)).kp k6 (Int.le_refl _) (by omega), (s3.kp k5 (Int.le_refl _) (by omega)).kp k6 (Int.le_refl _) (by omega), fun u => (s4 u).kp k6 (Int.le_refl _) (by omega), fun u => ?_⟩
    rw [k6.2.2.2.2.1 _ (by omega), s4' u, k4.2.2.2.2.1 _ (by omega), k3.2.2.2.2.1 _ (by omega), k2.2.2.2.2.1 _ (by omega)]; exact h14
  exact e_eachT (m := m) (by omega) zz4 t3 (J := fun Y5 => w_X5_take 23 Y5 (fun (v66 : Int) (X67 : XT) => R32 v66 ∧ (v66 = 0 → Q 1 X67) ∧ (¬ v66 = 0 → w_X5_readTimes m X67 (fun (v74 : Int) (X75 : XT) => R32 v74 ∧ (v74 = 0 → Q 0 X75) ∧ (¬ v74 = 0 → Q 1 X75))))) (B := fun Y5 => Q 0 Y5) (fun Y5 k5 zz5 t4 le4 s4 s4' => by rw [hd4] at zz5 t4 le4 s4; exact key Y5 k5 zz5 t4 le4 s4 s4') (fun Y5 k5 zz5 t4 => by rw [hd4] at zz5 t4; exact fail Y5 _ _ (f5 t4) (K4.tr k5 (by omega)) zz5)

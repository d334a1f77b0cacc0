/-! TEXTS: the reference reads a drive, all of it -/
/-- what a drive's clause is over the picture -/
def zDrR (f : Int → Int) (n M : Int) (tk pl : Int → Int) (lw : Bool) (fu : Nat) (X : XT) (i v : Int) (c : zCD) (X1 : XT) : Prop :=
  (¬ (tk i = 19 ∧ X 77 16 < 12) → zBd M pl X1 i) ∧ ((tk i = 19 ∧ X 77 16 < 12) → ∀ d1 d2 d3 d4 d5 d6 : zRT, zrd lw tk fu 2 0 (i + 1) v = d1 → zbh lw tk fu 20 d1 = d2 → zbh lw tk fu 21 d2 = d3 → zmy lw tk fu 22 2 d3 = d4 → ztm tk d4 = d5 → zmy lw tk fu 24 0 d5 = d6 → ∃ c6 : zCD, zG f n M pl X1 d6 c6 ∧ (d6.1 = true → X1 77 16 = X 77 16 + 1 ∧ ∃ c1 c2 c3 c4 : zCD, zSm lw X1 (12 * X 77 16) c c1 d1.2.2.2 (d1.2.2.1 - v) ∧ zSm lw X1 (12 * X 77 16 + 2) c1 c2 d2.2.2.2 (d2.2.2.1 - d1.2.2.1) ∧ zSm lw X1 (12 * X 77 16 + 4) c2 c3 d3.2.2.2 (d3.2.2.1 - d2.2.2.1) ∧ ((tk d3.2.1 = 22 → zSm lw X1 (12 * X 77 16 + 6) c3 c4 d4.2.2.2 (d4.2.2.1 - d3.2.2.1)) ∧ (¬ tk d3.2.1 = 22 → c4 = c3 ∧ X1 113 (12 * X 77 16 + 6) = 0 ∧ X1 113 (12 * X 77 16 + 7) = 0)) ∧ (X1 113 (12 * X 77 16 + 10) = if tk d4.2.1 = 23 then tk (d4.2.1 + 1) - 2000 else 1) ∧ X1 113 (12 * X 77 16 + 8) = c4.2.2 ∧ X1 113 (12 * X 77 16 + 9) = c6.2.2 ∧ X1 113 (12 * X 77 16 + 11) = 0 ∧ ((tk d5.2.1 = 24 → zEX c4 c6 ∧ zRP lw c6 c4.2.2 c6.2.2 d6.2.2.2 (d6.2.2.1 - d5.2.2.1) ∧ zTB d6.2.2.2) ∧ (¬ tk d5.2.1 = 24 → c6 = c4)))) ∧ ∀ j : Int, j < 12 * X 77 16 → X1 113 j = X 113 j
theorem m_readDrive {f : Int → Int} {n M : Int} {tk pl bh : Int → Int} {lw : Bool} {X : XT} {i v : Int} {c : zCD} {Q : XT → Prop} (s : zRS f n M tk pl bh) (ho : X 77 15 = if lw = true then 0 else 1) (h88 : X 88 = X0 88) (h89 : X 89 = X0 89) (z : zQS f n M pl X i v c) (n0 : 0 ≤ X 77 16 ∧ X 77 16 ≤ 12) {fu : Nat} (hfu : 28 ≤ fu) (q : ∀ X1, LFr X X1 → zDrR f n M tk pl lw fu X i v c X1 → Q X1) : w_X12_readDrive X Q := by
  have o := (at_obs s z.1).1
  have i0 := z.1.2.2.2.2.1
  have w19 : zwc 19 = 208935 := by decide +kernel
  have w20 : zwc 20 = 655 := by decide +kernel
  have w21 : zwc 21 = 52 := by decide +kernel
  have w22 : zwc 22 = 164968 := by decide +kernel
  have bad : ¬ (tk i = 19 ∧ X 77 16 < 12) → w_X12_must 0 X (fun (X10 : XT) => R32 (X10 77 14) ∧ (X10 77 14 = 0 → False) ∧ (¬ X10 77 14 = 0 → Q X10)) := fun hh => by
    refine m_mustF z.2.1 ⟨by rw [x_st_ne (by decide), x_st_at]; decide, fun w => absurd w (by rw [x_st_ne (by decide), x_st_at]; decide), fun _ => q _ ((LFr.rf.f7 (by decide)).f7 (by decide)) ⟨fun _ => ⟨by rw [x_st_ne (by decide), x_st_at], by rw [x_st_at]; exact z.1.2.2.1, z.1.2.2.2.2.2⟩, fun w => absurd w hh, fun j _ => by rw [x_st_c (by decide), x_st_c (by decide)]⟩⟩
  have bad2 : ∀ P : XT → Prop, ¬ (tk i = 19 ∧ X 77 16 < 12) → w_X12_must 0 X (fun (X10 : XT) => R32 (X10 77 14) ∧ (X10 77 14 = 0 → P X10) ∧ (¬ X10 77 14 = 0 → Q X10)) := fun P hh => by
    refine m_mustF z.2.1 ⟨by rw [x_st_ne (by decide), x_st_at]; decide, fun w => absurd w (by rw [x_st_ne (by decide), x_st_at]; decide), fun _ => q _ ((LFr.rf.f7 (by decide)).f7 (by decide)) ⟨fun _ => ⟨by rw [x_st_ne (by decide), x_st_at], by rw [x_st_at]; exact z.1.2.2.1, z.1.2.2.2.2.2⟩, fun w => absurd w hh, fun j _ => by rw [x_st_c (by decide), x_st_c (by decide)]⟩⟩
  unfold w_X12_readDrive
  rw [← w19, ← w20, ← w21, ← w22]
  refine m_isWord o (by decide) (fun e => ?_) (fun e => ?_)
  rotate_left
  · intro J hJ
    have hh : ¬ (tk i = 19 ∧ X 77 16 < 12) := fun w => e w.1
    exact ⟨by decide, fun _ => hJ 0 (bad2 _ hh), fun w => absurd rfl w⟩
  intro J hJ
  have e19 : tk i = 19 := e
  refine ⟨by decide, fun w => absurd w (by decide), fun _ => ⟨by omega, fun w => hJ 0 (bad2 _ (by omega)), fun w => hJ 1 (m_mustT s z.1 z.2.1 (by decide) (by omega) (fun X1 f1 a1 => ?_))⟩⟩
  have hc : tk i = 19 ∧ X 77 16 < 12 := ⟨e19, by omega⟩
  have zX := z.nx f1 a1
  have e14 := zX.2.1
  have e16 : X1 77 16 = X 77 16 := f1.2 16 (by decide)
  rw [e16]
  have q' : ∀ X2, LFr X X2 → _ → (∀ j : Int, j < 12 * X 77 16 → X2 113 j = X 113 j) → Q X2 := fun X2 lf a b => q X2 lf ⟨fun w => absurd hc w, fun _ => a, b⟩
  generalize hm : X 77 16 = m at *
  have lX1 : LFr X X1 := LFr.ofM (MFr.ofN f1)
  refine ⟨by rw [e14]; decide, fun _ => ⟨fun x Y => (0 ≤ x ∧ x ≤ 12) ∧ LFr X Y ∧ zQS f n M pl Y (i + 1) v c ∧ Y 77 16 = m + 1 ∧ (∀ j : Int, j < 12 * m → Y 113 j = X 113 j) ∧ ∀ j : Int, 12 * m ≤ j → j < 12 * m + x → Y 113 j = 0, fun x _ => (12 - x).toNat, ⟨by decide, lX1.f7 (by decide), zX.f16, x_st_at, fun j _ => by rw [x_st_c (by decide), f1.1 113 rfl], fun j a b => absurd a (by omega)⟩, ?_⟩, fun w => absurd e14 w⟩
  rintro x Y ⟨hx, lf, zq, y16, yo, yz⟩
  refine ⟨by omega, fun w => ?_, fun w => ⟨by omega, ⟨by omega, lf.ar (Or.inr rfl), zq.ar (Or.inr rfl), by rw [x_st_c (by decide)]; exact y16, fun j hj => by rw [x_st_ne (by omega)]; exact yo j hj, fun j a b => ?_⟩, by dsimp only; omega⟩⟩
  rotate_left
  · by_cases e : j = 12 * m + x
    · rw [e, x_st_at]
    · rw [x_st_ne e]; exact yz j a (by omega)
  have cst : ∀ {Y2 : XT}, LFr X Y2 → (Y2 77 15 = if lw = true then 0 else 1) ∧ Y2 88 = X0 88 ∧ Y2 89 = X0 89 := fun l => ⟨(l.2 15 (by decide)).trans ho, (l.1 88 rfl).trans h88, (l.1 89 rfl).trans h89⟩
  obtain ⟨p1, p2, p3⟩ := cst lf
  generalize hd1 : zrd lw tk fu 2 0 (i + 1) v = d1 at *
  refine m_sumG s p1 p2 p3 (by omega) zq (by omega) hfu hd1 (fun X39 kA yA => ?_)
  obtain ⟨c1, gA, sA⟩ := yA
  have lA := lf.tr kA.1
  obtain ⟨p1, p2, p3⟩ := cst lA
  refine m_behind s p1 p2 p3 (by omega) (by decide) gA hfu (fun X45 kB yB => ?_)
  obtain ⟨c2, gB, sB⟩ := yB
  have lB := lA.tr kB.1
  obtain ⟨p1, p2, p3⟩ := cst lB
  generalize hd2 : zbh lw tk fu ((20 : Nat) : Int) d1 = d2 at *
  refine m_behind s p1 p2 p3 (by omega) (by decide) gB hfu (fun X51 kC yC => ?_)
  obtain ⟨c3, gC, sC⟩ := yC
  have lC := lB.tr kC.1
  obtain ⟨p1, p2, p3⟩ := cst lC
  generalize hd3 : zbh lw tk fu ((21 : Nat) : Int) d2 = d3 at *
  intro J57 hJ57
  refine m_each s p1 p2 p3 (by omega) (by decide) gC hfu (fun X56 kD yD => hJ57 X56 ?_)
  obtain ⟨c4, gD, sD⟩ := yD
  have lD := lC.tr kD.1
  obtain ⟨p1, p2, p3⟩ := cst lD
  generalize hd4 : zmy lw tk fu ((22 : Nat) : Int) 2 d3 = d4 at *
  refine ⟨by omega, ?_⟩
  intro J68 hJ68
  refine m_times s gD (fun X67 kE gE sE => hJ68 X67 ?_)
  have lE := lD.tr kE.1
  generalize hd5 : ztm tk d4 = d5 at *
  refine ⟨by omega, ?_⟩
  intro J79 hJ79
  have k8 : zKp (12 * m + 8) (12 * m + 9) X67 (x_st X67 113 (12 * m + 8) (X67 77 18)) := zKp.one (by omega)
  have g8 : zG f n M pl (x_st X67 113 (12 * m + 8) (X67 77 18)) d5 c4 := ⟨fun w => (gE.1 w).ar (Or.inr rfl), fun w => (gE.2 w).ar (by decide)⟩
  have v8 : (x_st X67 113 (12 * m + 8) (X67 77 18)) 113 (12 * m + 8) = X67 77 18 := x_st_at
  have l8 := lE.tr k8.1
  obtain ⟨p1, p2, p3⟩ := cst l8
  generalize x_st X67 113 (12 * m + 8) (X67 77 18) = X8 at *
  refine m_whenT s p1 p2 p3 g8 hfu (fun X78 f6 y6 => hJ79 X78 ⟨by omega, ?_⟩)
  obtain ⟨c6, g6, s6⟩ := y6
  have k6 : zKp (12 * m + 9) (12 * m + 9) X8 X78 := zKp.of f6
  have k9 : zKp (12 * m + 9) (12 * m + 10) X78 (x_st X78 113 (12 * m + 9) (X78 77 18)) := zKp.one (by omega)
  have kZ : zKp (12 * m + 9) (12 * m + 10) X8 (x_st X78 113 (12 * m + 9) (X78 77 18)) := k6.tr k9 (by omega)
  have kY : zKp (12 * m + 8) (12 * m + 10) X67 (x_st X78 113 (12 * m + 9) (X78 77 18)) := k8.tr kZ (by omega)
  have kX : zKp (12 * m + 8) (12 * m + 11) X56 (x_st X78 113 (12 * m + 9) (X78 77 18)) := kE.tr kY (by omega)
  have kW : zKp (12 * m + 6) (12 * m + 11) X51 (x_st X78 113 (12 * m + 9) (X78 77 18)) := kD.tr kX (by omega)
  have kV : zKp (12 * m + 4) (12 * m + 11) X45 (x_st X78 113 (12 * m + 9) (X78 77 18)) := kC.tr kW (by omega)
  have kU : zKp (12 * m + 2) (12 * m + 11) X39 (x_st X78 113 (12 * m + 9) (X78 77 18)) := kB.tr kV (by omega)
  have kT : zKp (12 * m) (12 * m + 11) Y (x_st X78 113 (12 * m + 9) (X78 77 18)) := kA.tr kU (by omega)
  have g9 : zG f n M pl (x_st X78 113 (12 * m + 9) (X78 77 18)) (zmy lw tk fu 24 0 d5) c6 := ⟨fun w => (g6.1 w).ar (Or.inr rfl), fun w => (g6.2 w).ar (by decide)⟩
  refine q' _ (lf.tr kT.1) ?_ (fun j hj => (kT.2.2.2 j (by omega)).trans (yo j hj))
  intro d1' d2' d3' d4' d5' d6' e1 e2 e3 e4 e5 e6
  have hd2' : zbh lw tk fu 20 d1 = d2 := hd2
  have hd3' : zbh lw tk fu 21 d2 = d3 := hd3
  have hd4' : zmy lw tk fu 22 2 d3 = d4 := hd4
  subst e1
  rw [hd2'] at e2
  subst e2
  rw [hd3'] at e3
  subst e3
  rw [hd4'] at e4
  subst e4
  rw [hd5] at e5
  subst e5
  subst e6
  refine ⟨c6, g9, fun hh => ⟨kT.2.1.trans y16, c1, c2, c3, c4, ?_⟩⟩
  obtain ⟨t5, s6a, s6b⟩ := s6 hh
  obtain ⟨t4, sEv⟩ := sE t5
  obtain ⟨t3, sDa, sDb⟩ := sD t4
  have t2 : d2.1 = true := by
    cases h : d2.1
    · rw [← hd3'] at t3
      have : zbh lw tk fu 21 d2 = (false, d2.2.1, d2.2.2.1, dNo) := if_neg (by rw [h]; intro y; cases y.1)
      rw [this] at t3
      cases t3
    · rfl
  have t1 : d1.1 = true := by
    cases h : d1.1
    · rw [← hd2'] at t2
      have : zbh lw tk fu 20 d1 = (false, d1.2.1, d1.2.2.1, dNo) := if_neg (by rw [h]; intro y; cases y.1)
      rw [this] at t2
      cases t2
    · rfl
  refine ⟨(sA t1).kp kU (by omega), (sB t2).kp kV (by omega), (sC t3).kp kW (by omega), ⟨fun u => (sDa u).kp kX (by omega), fun u => ?_⟩, ?_, ?_, ?_, ?_, s6a, s6b⟩
  · obtain ⟨a, b⟩ := sDb u
    refine ⟨a, ?_, ?_⟩
    · rw [kX.2.2.2 _ (by omega), b, kC.2.2.2 _ (by omega), kB.2.2.2 _ (by omega), kA.2.2.2 _ (by omega)]; exact yz _ (by omega) (by omega)
    · rw [kX.2.2.2 _ (by omega), b, kC.2.2.2 _ (by omega), kB.2.2.2 _ (by omega), kA.2.2.2 _ (by omega)]; exact yz _ (by omega) (by omega)
  · rw [kY.2.2.2 _ (by omega)]; exact sEv
  · rw [kZ.2.2.2 _ (by omega), v8]; exact (gE.1 t5).2.2.2.1.2.2
  · rw [x_st_at]; exact (g6.1 hh).2.2.2.1.2.2
  · rw [kT.2.2.2 _ (by omega)]; exact yz _ (by omega) (by omega)

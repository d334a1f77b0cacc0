/-! TEXTS: the class reads a clause -/
theorem kQS.kp {lw : Bool} {tk : Int → Int} {X : XT} {i v j w : Int} (h : kQS lw tk X i v) : kQS lw tk (x_st X 38 j w) i v := by
  obtain ⟨z1, z2, z3, z4, z5, z6⟩ := h
  exact ⟨z1.kp (kKp.hd (s := 0) (k := j) (e := j + 1) (by omega)), by rw [x_st_c (by decide)]; exact z2, by rw [x_st_c (by decide)]; exact z3, z4, z5, ⟨by rw [x_st_c (by decide)]; exact z6.1.1, by rw [x_st_c (by decide)]; exact z6.1.2.1, z6.1.2.2.cg (by rw [x_st_c (by decide)]) (by rw [x_st_c (by decide)]) (x_st_c (by decide))⟩, by rw [x_st_c (by decide)]; exact z6.2⟩
theorem kQS.nx {lw : Bool} {tk : Int → Int} {X : XT} {i v : Int} (h : kQS lw tk X i v) (hk : ¬ tk i = 29) : kQS lw tk (x_st X 33 6 (i + 1)) (i + 1) v := by
  obtain ⟨z1, z2, z3, z4, z5, z6⟩ := h
  have lt := tk_lt z1.h400 hk
  exact ⟨z1.kp (kKp.nx (s := 0) (k := 0) (e := 0)), x_st_at, by rw [x_st_ne (by decide)]; exact z3, by omega, z5, ⟨by rw [x_st_c (by decide)]; exact z6.1.1, by rw [x_st_c (by decide)]; exact z6.1.2.1, z6.1.2.2.cg (by rw [x_st_c (by decide)]) (by rw [x_st_c (by decide)]) (x_st_c (by decide))⟩, by rw [x_st_c (by decide)]; omega⟩
theorem e_lawHead {lw : Bool} {tk : Int → Int} {X : XT} {m i v : Int} {Q : Int → XT → Prop} (hm : 0 ≤ m ∧ m ≤ 11) (z : kQS lw tk X i v) (q0 : ¬ (15 ≤ tk i ∧ tk i ≤ 18) → Q 0 X) (q1 : (15 ≤ tk i ∧ tk i ≤ 18) → ∀ S : zRT, (if tk i = 18 then (true, i + 1, v, dNo) else zrd lw tk 60 2 0 (i + 1) v) = S → ∀ X1, kKp (X 37 3) (m * 6) (m * 6 + 2) X X1 → kQS lw tk X1 S.2.1 S.2.2.1 → X1 38 (m * 6) = tk i → (S.1 = true → i < S.2.1 ∧ (tk i = 18 → X1 38 (m * 6 + 1) = X 38 (m * 6 + 1)) ∧ (¬ tk i = 18 → kSm lw X1 (m * 6 + 1) S.2.2.2 (S.2.2.1 - v))) → Q (if S.1 = true then 1 else 0) X1) : w_X5_readLawHead m X Q := by
  obtain ⟨z1, z2, z3, z4, z5, z6⟩ := id z
  have tr := z1.2.2.2.2.1 i
  refine e_token z1 z2 z4.1 z4.2 ⟨by omega, fun y => q0 (by omega), fun y => ⟨fun y2 => ?_, fun y2 => q0 (by omega)⟩⟩
  have hk : 15 ≤ tk i ∧ tk i ≤ 18 := by omega
  have n29 : ¬ tk i = 29 := by omega
  have zn := z.nx n29
  refine e_pass z1 z2 z4.1 n29 (e_setHead (by omega) ?_)
  have zs := zn.kp (j := m * 6 + 0) (w := tk i)
  have n3 : (x_st (x_st X 33 6 (i + 1)) 38 (m * 6 + 0) (tk i)) 37 3 = X 37 3 := by rw [x_st_c (by decide), x_st_c (by decide)]
  have k0 : kKp (X 37 3) (m * 6) (m * 6 + 2) X (x_st (x_st X 33 6 (i + 1)) 38 (m * 6 + 0) (tk i)) := (kKp.nx (s := X 37 3) (k := m * 6) (e := m * 6 + 2)).tr (kKp.hd (s := X 37 3) (k := m * 6) (e := m * 6 + 2) (by omega)) (by omega)
  have hd : (x_st (x_st X 33 6 (i + 1)) 38 (m * 6 + 0) (tk i)) 38 (m * 6) = tk i := by rw [show m * 6 + 0 = m * 6 by omega, x_st_at]
  have ho : (x_st (x_st X 33 6 (i + 1)) 38 (m * 6 + 0) (tk i)) 38 (m * 6 + 1) = X 38 (m * 6 + 1) := by rw [x_st_ne (by omega), x_st_c (by decide)]
  generalize x_st (x_st X 33 6 (i + 1)) 38 (m * 6 + 0) (tk i) = Y at *
  have q1' := q1 hk
  refine ⟨fun e => ?_, fun e => ?_⟩
  · rw [if_pos e] at q1'
    exact q1' _ rfl Y k0 zs hd (fun _ => ⟨by dsimp only; omega, fun _ => ho, fun u => absurd e u⟩)
  · rw [if_neg e] at q1'
    refine e_sumOf (by omega) zs (by omega) (by omega) rfl (fun X1 k1 zz f1 => ?_)
    have kk : kKp (X 37 3) (m * 6) (m * 6 + 2) X X1 := k0.tr k1 (by omega)
    have r1 := q1' _ rfl X1 kk zz ((k1.2.2.2.2.1 (m * 6) (by omega)).trans hd) (fun hr => ⟨by have := (f1 hr).1; omega, fun u => absurd u e, fun _ => (f1 hr).2⟩)
    cases hr : (zrd lw tk 60 2 0 (i + 1) v).1
    · rw [hr] at r1
      exact ⟨by decide, fun _ => r1, fun y => absurd (by decide) y⟩
    · rw [hr] at r1
      exact ⟨by decide, fun y => absurd y (by decide), fun _ => r1⟩
/-- the test of a clause -/
theorem e_whenT {lw : Bool} {tk : Int → Int} {X : XT} {m : Int} {r : zRT} {J : Int → XT → Prop} (hm : 0 ≤ m ∧ m ≤ 11) (z : kQS lw tk X r.2.1 r.2.2.1) (hr : r.1 = true) (q : ∀ X1, kKp (X 37 3) (m * 6 + 5) (m * 6 + 6) X X1 → kQS lw tk X1 (zmy lw tk 60 24 0 r).2.1 (zmy lw tk 60 24 0 r).2.2.1 → ((zmy lw tk 60 24 0 r).1 = true → r.2.1 ≤ (zmy lw tk 60 24 0 r).2.1 ∧ (tk r.2.1 = 24 → kSm lw X1 (m * 6 + 5) (zmy lw tk 60 24 0 r).2.2.2 ((zmy lw tk 60 24 0 r).2.2.1 - r.2.2.1)) ∧ (¬ tk r.2.1 = 24 → X1 38 (m * 6 + 5) = X 38 (m * 6 + 5))) → J (if (zmy lw tk 60 24 0 r).1 = true then 1 else 0) X1) : w_X5_take 24 X (fun (v124 : Int) (X125 : XT) => R32 v124 ∧ (v124 = 0 → J 1 X125) ∧ (¬ v124 = 0 → w_X7_setHead m 5 (X125 37 3) X125 (fun (X133 : XT) => w_parse 60 0 0 X133 (fun (v138 : Int) (X139 : XT) => w_X7_emit 0 0 X139 (fun (X145 : XT) => J v138 X145))))) := by
  obtain ⟨z1, z2, z3, z4, z5, z6⟩ := id z
  refine e_takeT z1 z2 z4.1 z4.2 (by decide) (by decide) (fun e => ⟨by decide, fun y => absurd y (by decide), fun _ => ?_⟩) (fun e => ⟨by decide, fun _ => ?_, fun y => absurd rfl y⟩)
  · have zn := z.nx (by omega)
    have n3 : (x_st X 33 6 (r.2.1 + 1)) 37 3 = X 37 3 := by rw [x_st_c (by decide)]
    have k0 : kKp (X 37 3) (m * 6 + 5) (m * 6 + 6) X (x_st X 33 6 (r.2.1 + 1)) := kKp.nx
    refine e_code (P := J) (Or.inr rfl) (by omega) zn (by omega) (by omega) (zmy_y hr e).symm (fun X1 k1 zz f1 => ?_)
    rw [n3] at k1
    exact q X1 (k0.tr k1 (by omega)) zz (fun h => ⟨by have := (f1 h).1; omega, fun _ => (f1 h).2, fun u => absurd e u⟩)
  · have ee := zmy_n (lw := lw) (fu := 60) (sel := 0) hr e
    rw [ee] at q
    exact q X kKp.rf z (fun _ => ⟨Int.le_refl _, fun u => absurd u e, fun _ => rfl⟩)

/-! TEXTS: the class reads a drive's head -/
theorem zbh_f {lw : Bool} {tk : Int → Int} {fu : Nat} {w : Int} {r : zRT} (h : r.1 = false) : zbh lw tk fu w r = (false, r.2.1, r.2.2.1, dNo) := if_neg (by rw [h]; intro y; cases y.1)
theorem zbh_y {lw : Bool} {tk : Int → Int} {fu : Nat} {w : Int} {r : zRT} (h : r.1 = true) (e : tk r.2.1 = w) : zbh lw tk fu w r = zrd lw tk fu 2 0 (r.2.1 + 1) r.2.2.1 := if_pos ⟨h, e⟩
theorem zbh_n {lw : Bool} {tk : Int → Int} {fu : Nat} {w : Int} {r : zRT} (e : ¬ tk r.2.1 = w) : zbh lw tk fu w r = (false, r.2.1, r.2.2.1, dNo) := if_neg (fun y => e y.2)
theorem e_sum1 {lw : Bool} {tk : Int → Int} {X : XT} {m k i v : Int} {G B : XT → Prop} (h : 0 ≤ m * 6 + k ∧ m * 6 + k < 72) (z : kQS lw tk X i v) (i1 : 1 ≤ i) (sz : X 37 3 + 2 ≤ 2 * i) {r : zRT} (er : zrd lw tk 60 2 0 i v = r) (g : ∀ X1, kKp (X 37 3) (m * 6 + k) (m * 6 + k + 1) X X1 → kQS lw tk X1 r.2.1 r.2.2.1 → r.1 = true → i < r.2.1 → kSm lw X1 (m * 6 + k) r.2.2.2 (r.2.2.1 - v) → G X1) (b : ∀ X1, kKp (X 37 3) (m * 6 + k) (m * 6 + k + 1) X X1 → kQS lw tk X1 r.2.1 r.2.2.1 → r.1 = false → B X1) : w_X5_readSumOf m k X (fun (v31 : Int) (X32 : XT) => R32 v31 ∧ (¬ v31 = 0 → G X32) ∧ (v31 = 0 → B X32)) := by
  refine e_sumOf h z i1 sz er (fun X1 k1 zz f1 => ?_)
  cases hr : r.1
  · exact ⟨by decide, fun y => absurd rfl y, fun _ => b X1 k1 zz hr⟩
  · exact ⟨by decide, fun _ => g X1 k1 zz hr (f1 hr).1 (f1 hr).2, fun y => absurd y (by decide)⟩
theorem e_behind {lw : Bool} {tk : Int → Int} {X : XT} {m k w : Int} {r : zRT} {G B : XT → Prop} (h : 0 ≤ m * 6 + k ∧ m * 6 + k < 72) (hw : 0 ≤ w ∧ w ≤ 28) (z : kQS lw tk X r.2.1 r.2.2.1) (hr : r.1 = true) (g : ∀ X1, kKp (X 37 3) (m * 6 + k) (m * 6 + k + 1) X X1 → kQS lw tk X1 (zbh lw tk 60 w r).2.1 (zbh lw tk 60 w r).2.2.1 → (zbh lw tk 60 w r).1 = true → r.2.1 < (zbh lw tk 60 w r).2.1 → kSm lw X1 (m * 6 + k) (zbh lw tk 60 w r).2.2.2 ((zbh lw tk 60 w r).2.2.1 - r.2.2.1) → G X1) (b : ∀ X1, kKp (X 37 3) (m * 6 + k) (m * 6 + k + 1) X X1 → kQS lw tk X1 (zbh lw tk 60 w r).2.1 (zbh lw tk 60 w r).2.2.1 → (zbh lw tk 60 w r).1 = false → B X1) : w_X5_take w X (fun (v23 : Int) (X24 : XT) => R32 v23 ∧ (v23 = 0 → B X24) ∧ (¬ v23 = 0 → w_X5_readSumOf m k X24 (fun (v31 : Int) (X32 : XT) => R32 v31 ∧ (¬ v31 = 0 → G X32) ∧ (v31 = 0 → B X32)))) := by
  obtain ⟨z1, z2, z3, z4, z5, z6⟩ := id z
  refine e_takeT z1 z2 z4.1 z4.2 (by omega) (by omega) (fun e => ⟨by decide, fun y => absurd y (by decide), fun _ => ?_⟩) (fun e => ⟨by decide, fun _ => ?_, fun y => absurd rfl y⟩)
  · have zn := z.nx (by omega)
    have n3 : (x_st X 33 6 (r.2.1 + 1)) 37 3 = X 37 3 := by rw [x_st_c (by decide)]
    have k0 : kKp (X 37 3) (m * 6 + k) (m * 6 + k + 1) X (x_st X 33 6 (r.2.1 + 1)) := kKp.nx
    refine e_sum1 h zn (by omega) (by omega) (zbh_y hr e).symm (fun X1 k1 zz hh lt sm => ?_) (fun X1 k1 zz hh => ?_)
    · rw [n3] at k1; exact g X1 (k0.tr k1 (by omega)) zz hh (by omega) sm
    · rw [n3] at k1; exact b X1 (k0.tr k1 (by omega)) zz hh
  · have ee := zbh_n (lw := lw) (fu := 60) e
    rw [ee] at b
    exact b X kKp.rf z rfl
theorem e_eachT {lw : Bool} {tk : Int → Int} {X : XT} {m : Int} {r : zRT} {J B : XT → Prop} (h : 0 ≤ m * 6 + 4 ∧ m * 6 + 4 < 72) (z : kQS lw tk X r.2.1 r.2.2.1) (hr : r.1 = true) (g : ∀ X1, kKp (X 37 3) (m * 6 + 4) (m * 6 + 5) X X1 → kQS lw tk X1 (zmy lw tk 60 22 2 r).2.1 (zmy lw tk 60 22 2 r).2.2.1 → (zmy lw tk 60 22 2 r).1 = true → r.2.1 ≤ (zmy lw tk 60 22 2 r).2.1 → (tk r.2.1 = 22 → kSm lw X1 (m * 6 + 4) (zmy lw tk 60 22 2 r).2.2.2 ((zmy lw tk 60 22 2 r).2.2.1 - r.2.2.1)) → (¬ tk r.2.1 = 22 → X1 38 (m * 6 + 4) = X 38 (m * 6 + 4)) → J X1) (b : ∀ X1, kKp (X 37 3) (m * 6 + 4) (m * 6 + 5) X X1 → kQS lw tk X1 (zmy lw tk 60 22 2 r).2.1 (zmy lw tk 60 22 2 r).2.2.1 → (zmy lw tk 60 22 2 r).1 = false → B X1) : w_X5_take 22 X (fun (v55 : Int) (X56 : XT) => ∀ J62 : XT → Prop, (∀ (X61 : XT), J X61 → J62 X61) → R32 v55 ∧ (v55 = 0 → J62 X56) ∧ (¬ v55 = 0 → w_X5_readSumOf m 4 X56 (fun (v84 : Int) (X85 : XT) => R32 v84 ∧ (¬ v84 = 0 → J62 X85) ∧ (v84 = 0 → B X85)))) := by
  obtain ⟨z1, z2, z3, z4, z5, z6⟩ := id z
  refine e_takeT z1 z2 z4.1 z4.2 (by omega) (by omega) (fun e J62 hJ62 => ⟨by decide, fun y => absurd y (by decide), fun _ => ?_⟩) (fun e J62 hJ62 => ⟨by decide, fun _ => hJ62 _ ?_, fun y => absurd rfl y⟩)
  · have zn := z.nx (by omega)
    have n3 : (x_st X 33 6 (r.2.1 + 1)) 37 3 = X 37 3 := by rw [x_st_c (by decide)]
    have k0 : kKp (X 37 3) (m * 6 + 4) (m * 6 + 5) X (x_st X 33 6 (r.2.1 + 1)) := kKp.nx
    refine e_sum1 h zn (by omega) (by omega) (zmy_y hr e).symm (fun X1 k1 zz hh lt sm => ?_) (fun X1 k1 zz hh => ?_)
    · rw [n3] at k1; exact hJ62 _ (g X1 (k0.tr k1 (by omega)) zz hh (by omega) (fun _ => sm) (fun u => absurd e u))
    · rw [n3] at k1; exact b X1 (k0.tr k1 (by omega)) zz hh
  · have ee := zmy_n (lw := lw) (fu := 60) (sel := 2) hr e
    rw [ee] at g
    exact g X kKp.rf z rfl (Int.le_refl _) (fun u => absurd u e) (fun _ => rfl)
theorem e_timesT {lw : Bool} {tk : Int → Int} {X : XT} {m : Int} {r : zRT} {Q : Int → XT → Prop} (hm : 0 ≤ m ∧ m ≤ 11) (z : kQS lw tk X r.2.1 r.2.2.1) (hr : r.1 = true) (h0 : X 38 (m * 6) = 1) (g : ∀ X1, kKp (X 37 3) (m * 6) (m * 6 + 1) X X1 → kQS lw tk X1 (ztm tk r).2.1 (ztm tk r).2.2.1 → ((ztm tk r).1 = true → r.2.1 ≤ (ztm tk r).2.1 ∧ X1 38 (m * 6) = if tk r.2.1 = 23 then tk (r.2.1 + 1) - 2000 else 1) → Q (if (ztm tk r).1 = true then 1 else 0) X1) : w_X5_take 23 X (fun (v66 : Int) (X67 : XT) => R32 v66 ∧ (v66 = 0 → Q 1 X67) ∧ (¬ v66 = 0 → w_X5_readTimes m X67 (fun (v74 : Int) (X75 : XT) => R32 v74 ∧ (v74 = 0 → Q 0 X75) ∧ (¬ v74 = 0 → Q 1 X75)))) := by
  obtain ⟨z1, z2, z3, z4, z5, z6⟩ := id z
  refine e_takeT z1 z2 z4.1 z4.2 (by omega) (by omega) (fun e => ⟨by decide, fun y => absurd y (by decide), fun _ => ?_⟩) (fun e => ⟨by decide, fun _ => ?_, fun y => absurd rfl y⟩)
  · have zn := z.nx (by omega)
    have k0 : kKp (X 37 3) (m * 6) (m * 6 + 1) X (x_st X 33 6 (r.2.1 + 1)) := kKp.nx
    have et := ztm_y hr e
    obtain ⟨y1, y2, y3, y4, y5, y6⟩ := id zn
    have tr := y1.2.2.2.2.1 (r.2.1 + 1)
    by_cases rg : 1 ≤ tk (r.2.1 + 1) - 2000 ∧ tk (r.2.1 + 1) - 2000 ≤ 20
    · rw [if_pos rg] at et
      rw [et] at g
      refine e_token y1 y2 y4.1 y4.2 ⟨by omega, fun y => absurd y (by omega), fun _ => ⟨fun _ => e_pass y1 y2 y4.1 (by omega) (e_setHead (by omega) ⟨by decide, fun y => absurd y (by decide), fun _ => ?_⟩), fun y => absurd rg.2 y⟩⟩
      have zn2 := (zn.nx (by omega)).kp (j := m * 6 + 0) (w := tk (r.2.1 + 1) - 2000)
      rw [show r.2.1 + 1 + 1 = r.2.1 + 2 by omega] at zn2 ⊢
      refine g _ ((k0.tr (kKp.nx (s := X 37 3) (k := m * 6) (e := m * 6 + 1)) (s2 := X 37 3) (k2 := m * 6) (e2 := m * 6 + 1) (by omega)).tr (kKp.hd (s := X 37 3) (k := m * 6) (e := m * 6 + 1) (by omega)) (by omega)) zn2 (fun _ => ⟨by dsimp only; omega, ?_⟩)
      rw [if_pos e, show m * 6 + 0 = m * 6 by omega, x_st_at]
    · rw [if_neg rg] at et
      rw [et] at g
      have fail : Q 0 (x_st X 33 6 (r.2.1 + 1)) := g _ k0 zn (fun y => by cases y)
      exact e_token y1 y2 y4.1 y4.2 ⟨by omega, fun y => ⟨by decide, fun _ => fail, fun u => absurd rfl u⟩, fun y => ⟨fun y2 => absurd ⟨by omega, y2⟩ rg, fun _ => ⟨by decide, fun _ => fail, fun u => absurd rfl u⟩⟩⟩
  · have ee := ztm_n hr e
    rw [ee] at g
    exact g X kKp.rf z (fun _ => ⟨Int.le_refl _, by rw [h0, if_neg e]⟩)

/-! DRIVES: the class runs all clauses -/
theorem z_lb {tk : Int → Int} (HT : ∀ j : Int, 400 ≤ j → tk j = 29) {i v : Int} (hi : 0 ≤ i ∧ i ≤ 400) (hv : 0 ≤ v ∧ v ≤ 50) (h : (zrx false tk i v).1 = true) : zLb tk i v ∧ (0 ≤ (zrx false tk i v).2.1 ∧ (zrx false tk i v).2.1 ≤ 400) ∧ 0 ≤ (zrx false tk i v).2.2.1 ∧ (zrx false tk i v).2.2.1 ≤ 50 := by
  by_cases e19 : tk i = 19
  rotate_left
  · have eh : zhd false tk i v = (false, i, v, dNo) := (if_neg (by decide)).trans (if_neg e19)
    have er : zrx false tk i v = (false, i, v, dNo) := by unfold zrx; rw [eh]; exact zmy_f rfl
    rw [er] at h; cases h
  have lt := tk_lt HT (show ¬ tk i = 29 by omega)
  have eh : zhd false tk i v = zd5 tk i v := (if_neg (by decide)).trans (if_pos e19)
  have er : zrx false tk i v = zd6 tk i v := by unfold zrx zd6; rw [eh]
  rw [er] at h ⊢
  have m1 : zMO (i + 1) v (zd1 tk i v) := rd_mov (lw := false) HT 60 2 0 (i + 1) v (by omega) (by omega)
  obtain ⟨m11, m12, m13, m14⟩ := m1
  have m2 := zbh_m (lw := false) HT (w := 20) (r := zd1 tk i v) (by decide) (by omega)
  have m3 := zbh_m (lw := false) HT (w := 21) (r := zd2 tk i v) (by decide) m2.1
  have m4 := zmy_m (lw := false) HT (w := 22) (sel := 2) (r := zd3 tk i v) (by decide) m3.1
  have m5 := ztm_m HT (r := zd4 tk i v) m4.1.1
  have m5' : (0 ≤ (zd5 tk i v).2.1 ∧ (zd5 tk i v).2.1 ≤ 400) ∧ (zd5 tk i v).2.2.1 ≤ 50 := ⟨m5.1, Int.le_trans (Int.le_of_eq m5.2) m4.1.2⟩
  have m6 := zmy_m (lw := false) HT (w := 24) (sel := 0) (r := zd5 tk i v) (by decide) m5'
  have m2' : (zd1 tk i v).2.2.1 ≤ (zd2 tk i v).2.2.1 ∧ (zd2 tk i v).2.2.1 ≤ 50 := ⟨m2.2, m2.1.2⟩
  have m3' : (zd2 tk i v).2.2.1 ≤ (zd3 tk i v).2.2.1 ∧ (zd3 tk i v).2.2.1 ≤ 50 := ⟨m3.2, m3.1.2⟩
  have m4' : (zd3 tk i v).2.2.1 ≤ (zd4 tk i v).2.2.1 ∧ (zd4 tk i v).2.2.1 ≤ 50 := ⟨m4.2, m4.1.2⟩
  have m5'' : (zd5 tk i v).2.2.1 = (zd4 tk i v).2.2.1 := m5.2
  have m6' : (zd5 tk i v).2.2.1 ≤ (zd6 tk i v).2.2.1 ∧ (zd6 tk i v).2.2.1 ≤ 50 := ⟨m6.2, m6.1.2⟩
  have t5 : (zd5 tk i v).1 = true := by
    cases h5 : (zd5 tk i v).1
    · have e : zd6 tk i v = (false, (zd5 tk i v).2.1, (zd5 tk i v).2.2.1, dNo) := zmy_f h5
      rw [e] at h; cases h
    · rfl
  have t4 : (zd4 tk i v).1 = true := by
    cases h4 : (zd4 tk i v).1
    · have e : zd5 tk i v = (false, (zd4 tk i v).2.1, (zd4 tk i v).2.2.1, dNo) := ztm_f h4
      rw [e] at t5; cases t5
    · rfl
  have tt : 1 ≤ (zCc tk i v).1 ∧ (zCc tk i v).1 ≤ 20 := by
    show 1 ≤ (if tk (zd4 tk i v).2.1 = 23 then tk ((zd4 tk i v).2.1 + 1) - 2000 else 1) ∧ (if tk (zd4 tk i v).2.1 = 23 then tk ((zd4 tk i v).2.1 + 1) - 2000 else 1) ≤ 20
    split
    · rename_i u
      have et : zd5 tk i v = _ := ztm_y t4 u
      split at et
      · assumption
      · rw [et] at t5; cases t5
    · decide
  exact ⟨⟨e19, ⟨by omega, by omega, by omega⟩, fun _ => by omega, fun _ => by omega, tt⟩, m6.1.1, by omega, by omega⟩
theorem z_zsx {tk : Int → Int} {m : Nat} (HT : ∀ j : Int, 400 ≤ j → tk j = 29) (hz : (ztx false tk 12 0 0).1 = true) (hm : m ≤ 12) (fo : ∀ j : Nat, j + 1 < m → zfo false tk j = 1059) : ∀ j : Nat, j < m → ((0 ≤ (zsx false tk j).1 ∧ (zsx false tk j).1 ≤ 400) ∧ 0 ≤ (zsx false tk j).2 ∧ (zsx false tk j).2 ≤ 50) ∧ (ztx false tk (12 - j) (zsx false tk j).1 (zsx false tk j).2).1 = true ∧ zLb tk (zsx false tk j).1 (zsx false tk j).2 := by
  have key : ∀ (j : Nat), j < m → (ztx false tk (12 - j) (zsx false tk j).1 (zsx false tk j).2).1 = true → (zrx false tk (zsx false tk j).1 (zsx false tk j).2).1 = true ∧ (tk (zrx false tk (zsx false tk j).1 (zsx false tk j).2).2.1 = 1059 → (ztx false tk (12 - (j + 1)) ((zrx false tk (zsx false tk j).1 (zsx false tk j).2).2.1 + 1) (zrx false tk (zsx false tk j).1 (zsx false tk j).2).2.2.1).1 = true) := by
    intro j hj h
    rw [show 12 - j = (12 - (j + 1)) + 1 by omega] at h
    unfold ztx at h
    split at h
    · cases h
    rename_i c
    refine ⟨by cases e : (zrx false tk (zsx false tk j).1 (zsx false tk j).2).1; exact absurd e c; rfl, fun e => ?_⟩
    rw [if_neg (by omega), if_pos e] at h
    exact h
  intro j
  induction j with
  | zero =>
    intro hj
    have h0 : (ztx false tk (12 - 0) (zsx false tk 0).1 (zsx false tk 0).2).1 = true := hz
    have b0 : (0 ≤ (zsx false tk 0).1 ∧ (zsx false tk 0).1 ≤ 400) ∧ 0 ≤ (zsx false tk 0).2 ∧ (zsx false tk 0).2 ≤ 50 := ⟨⟨Int.le_refl 0, by show (0 : Int) ≤ 400; decide⟩, Int.le_refl 0, by show (0 : Int) ≤ 50; decide⟩
    exact ⟨b0, h0, (z_lb HT b0.1 b0.2 (key 0 hj h0).1).1⟩
  | succ j ih =>
    intro hj
    obtain ⟨b1, b2, _⟩ := ih (by omega)
    obtain ⟨k1, k2⟩ := key j (by omega) b2
    have f : tk (zrx false tk (zsx false tk j).1 (zsx false tk j).2).2.1 = 1059 := fo j hj
    obtain ⟨_, g1, g2⟩ := z_lb HT b1.1 b1.2 k1
    have lt := tk_lt HT (show ¬ tk (zrx false tk (zsx false tk j).1 (zsx false tk j).2).2.1 = 29 by omega)
    have h1 : (ztx false tk (12 - (j + 1)) (zsx false tk (j + 1)).1 (zsx false tk (j + 1)).2).1 = true := k2 f
    have bb : (0 ≤ (zsx false tk (j + 1)).1 ∧ (zsx false tk (j + 1)).1 ≤ 400) ∧ 0 ≤ (zsx false tk (j + 1)).2 ∧ (zsx false tk (j + 1)).2 ≤ 50 := ⟨⟨by show 0 ≤ (zrx false tk (zsx false tk j).1 (zsx false tk j).2).2.1 + 1; omega, by show (zrx false tk (zsx false tk j).1 (zsx false tk j).2).2.1 + 1 ≤ 400; omega⟩, g2⟩
    exact ⟨bb, h1, (z_lb HT bb.1 bb.2 (key (j + 1) hj h1).1).1⟩
/-- the clauses' meanings -/
def zCs (tk : Int → Int) (k : Nat) : zDC := zCc tk (zsx false tk k).1 (zsx false tk k).2
theorem e_dloop {K : LK} {T : TT} {A X : XT} {tk : Int → Int} {m : Nat} {S0 : zDS} {zn : Int} {Q : Int → XT → Prop} (b : CE K X (X 79) T) (hA : Fx [0, 33, 35, 36, 37, 38, 39] X A) (kA : kAll false tk m A) (hm : m ≤ 12) (lb : ∀ k : Nat, k < m → zLb tk (zsx false tk k).1 (zsx false tk k).2) (hs : zKs A X S0 A) (qg : ∀ (S : zDS) (Z : XT), zAl T (zCs tk) m 0 S0 = (0, m, S) → zKs A X S Z → Q S.2.2.1 (x_st Z 0 13 0)) (qr : ∀ (w : Int) (k : Nat) (S : zDS) (Z : XT), zAl T (zCs tk) m 0 S0 = (w, k, S) → (w = -3 ∨ w = -5) → k < m → zKs A X S Z → w_X11_refuse w (x_st (x_st Z 1 10 zn) 0 15 (k : Int)) Q) : ∃ (I31 : Int → XT → Prop) (m32 : Int → XT → Nat), I31 0 A ∧ ∀ (x29 : Int) (X30 : XT), I31 x29 X30 → R32 x29 ∧ R32 (X30 37 2) ∧ ((X30 37 2) ≤ x29 → w_X11_grant (X30 0 17) X30 (fun (v46 : Int) (X47 : XT) => Q v46 X47)) ∧ (¬ (X30 37 2) ≤ x29 → w_X11_runClause K x29 X30 (fun (v52 : Int) (X53 : XT) => R32 v52 ∧ (v52 = 0 → I31 (x29 + 1) X53 ∧ m32 (x29 + 1) X53 < m32 x29 X30) ∧ (¬ v52 = 0 → w_X11_refuse v52 (x_st (x_st X53 1 10 zn) 0 15 x29) (fun (v70 : Int) (X71 : XT) => Q v70 X71)))) := by
  refine ⟨fun x Z => ∃ (k : Nat) (S : zDS), x = (k : Int) ∧ k ≤ m ∧ zKs A X S Z ∧ zAl T (zCs tk) m 0 S0 = zAl T (zCs tk) (m - k) k S, fun x _ => ((m : Int) - x).toNat, ⟨0, S0, rfl, Nat.zero_le _, hs, rfl⟩, ?_⟩
  rintro x Z ⟨k, S, rfl, km, ks, ez⟩
  have e2 : Z 37 2 = (m : Int) := (ks.al kA).1.1
  rw [e2]
  refine ⟨by omega, by omega, fun z => ?_, fun z => ?_⟩
  · have ek : k = m := by omega
    subst ek
    rw [Nat.sub_self] at ez
    show Q (Z 0 17) (x_st Z 0 13 0)
    rw [ks.2.2.2.1.2]
    exact qg S Z ez ks
  have lt : k < m := by omega
  have es : zAl T (zCs tk) m 0 S0 = if (zRn T (zCs tk k) (zCs tk k).1.toNat (S.1, S.2.1, S.2.2.1, 0)).1 = 0 then zAl T (zCs tk) (m - (k + 1)) (k + 1) (zRn T (zCs tk k) (zCs tk k).1.toNat (S.1, S.2.1, S.2.2.1, 0)).2 else ((zRn T (zCs tk k) (zCs tk k).1.toNat (S.1, S.2.1, S.2.2.1, 0)).1, k, (zRn T (zCs tk k) (zCs tk k).1.toNat (S.1, S.2.1, S.2.2.1, 0)).2) := by
    rw [ez, show m - k = (m - (k + 1)) + 1 by omega]; rfl
  refine e_rclause b hA kA lt hm (i := (zsx false tk k).1) (v := (zsx false tk k).2) rfl (lb k lt) ks.mk0 rfl (fun Y1 hw ks1 => ?_)
  have hw : (zRn T (zCs tk k) (zCs tk k).1.toNat (S.1, S.2.1, S.2.2.1, 0)).1 = 0 ∨ (zRn T (zCs tk k) (zCs tk k).1.toNat (S.1, S.2.1, S.2.2.1, 0)).1 = -3 ∨ (zRn T (zCs tk k) (zCs tk k).1.toNat (S.1, S.2.1, S.2.2.1, 0)).1 = -5 := hw
  have ks1 : zKs A X (zRn T (zCs tk k) (zCs tk k).1.toNat (S.1, S.2.1, S.2.2.1, 0)).2 Y1 := ks1
  show R32 (zRn T (zCs tk k) (zCs tk k).1.toNat (S.1, S.2.1, S.2.2.1, 0)).1 ∧ ((zRn T (zCs tk k) (zCs tk k).1.toNat (S.1, S.2.1, S.2.2.1, 0)).1 = 0 → _) ∧ (¬ (zRn T (zCs tk k) (zCs tk k).1.toNat (S.1, S.2.1, S.2.2.1, 0)).1 = 0 → w_X11_refuse (zRn T (zCs tk k) (zCs tk k).1.toNat (S.1, S.2.1, S.2.2.1, 0)).1 _ _)
  generalize zRn T (zCs tk k) (zCs tk k).1.toNat (S.1, S.2.1, S.2.2.1, 0) = R at *
  refine ⟨by omega, fun w0 => ⟨⟨k + 1, R.2, by omega, lt, ks1, by rw [es, if_pos w0]⟩, by dsimp only; omega⟩, fun w0 => ?_⟩
  exact qr R.1 k R.2 Y1 (by rw [es, if_neg w0]) (by omega) lt ks1

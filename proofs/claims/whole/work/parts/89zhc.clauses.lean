/-! TEXTS: laws' clauses and drives' clauses, as the reference keeps them -/
def rCl (tk : Int → Int) : zCLT := fun op ar row m i v N => ∃ a b g : Int, (0 ≤ a ∧ a ≤ b ∧ b ≤ g ∧ g ≤ N) ∧ (0 ≤ v ∧ (zhd true tk i v).2.2.1 ≤ 50 ∧ (zrx true tk i v).2.2.1 ≤ 50) ∧ (15 ≤ tk i ∧ tk i ≤ 18) ∧ row (8 * m) = tk i - 15 ∧ row (8 * m + 3) = a ∧ row (8 * m + 4) = b ∧ row (8 * m + 5) = b ∧ row (8 * m + 6) = g ∧ (¬ tk i = 18 → zRR true op ar a b (zhd true tk i v).2.2.2 ((zhd true tk i v).2.2.1 - v)) ∧ (tk (zhd true tk i v).2.1 = 24 → v ≤ (zhd true tk i v).2.2.1 ∧ zRR true op ar b g (zrx true tk i v).2.2.2 ((zrx true tk i v).2.2.1 - (zhd true tk i v).2.2.1) ∧ zTB (zrx true tk i v).2.2.2) ∧ (¬ tk (zhd true tk i v).2.1 = 24 → g = b)
theorem rCl_cg {tk : Int → Int} : zCLg 8 (rCl tk) := by
  rintro op op' ar ar' row row' m i v N N' ⟨a, b, g, h1, h2, h3, h4, h5, h6, h7, h8, h9, h10, h11⟩ ho ha hr hN
  refine ⟨a, b, g, by omega, h2, h3, by rw [hr _ (by omega)]; exact h4, by rw [hr _ (by omega)]; exact h5, by rw [hr _ (by omega)]; exact h6, by rw [hr _ (by omega)]; exact h7, by rw [hr _ (by omega)]; exact h8, fun k => (h9 k).cg (fun j _ j1 => ho j (by omega)) (fun j _ j1 => ha j (by omega)), fun k => ⟨(h10 k).1, (h10 k).2.1.cg (fun j _ j1 => ho j (by omega)) (fun j _ j1 => ha j (by omega)), (h10 k).2.2⟩, h11⟩
theorem st_law {f : Int → Int} {n M : Int} {tk pl : Int → Int} {X X1 : XT} {i v : Int} {c : zCD} (h : zLwR f n M tk pl true 60 X i v c X1) (z : zQS f n M pl X i v c) : zStp f n M pl true tk 83 8 (rCl tk) X i v c X1 := by
  obtain ⟨h1, h2, h3⟩ := h
  have bv := z.2.2.2.2.2
  have bc := z.2.2.2.2.1
  refine ⟨h3, fun k => h1 (fun w => k w.2), fun k => ?_⟩
  by_cases hk : 15 ≤ tk i ∧ tk i ≤ 18
  rotate_left
  · have eh : zhd true tk i v = (false, i, v, dNo) := (if_pos rfl).trans (if_neg hk)
    have er : zrx true tk i v = (false, i, v, dNo) := by unfold zrx; rw [eh]; exact zmy_f rfl
    rw [er]
    exact ⟨fun _ => h1 (fun w => hk w.1), fun y => by cases y⟩
  obtain ⟨g1, g2⟩ := h2 ⟨hk, k⟩ _ rfl
  have eh : zhd true tk i v = (if tk i = 18 then (true, i + 1, v, dNo) else zrd true tk 60 2 0 (i + 1) v) := (if_pos rfl).trans (if_pos hk)
  have hv18 : tk i = 18 → (zhd true tk i v).2.2.1 = v := fun e => by rw [eh, if_pos e]
  rw [← eh] at g1 g2
  have er : zrx true tk i v = zmy true tk 60 24 0 (zhd true tk i v) := rfl
  unfold rCl
  generalize zhd true tk i v = S at *
  cases s1 : S.1
  · rw [er, zmy_f s1]; exact ⟨fun _ => g1 s1, fun y => by cases y⟩
  obtain ⟨c1, x1, e18, r1, n24, y24⟩ := g2 s1
  have vS : v ≤ S.2.2.1 := by
    by_cases e : tk i = 18
    · rw [hv18 e]; exact Int.le_refl _
    · have := (r1 e).1; omega
  by_cases t24 : tk S.2.1 = 24
  · have et := er.trans (zmy_y s1 t24)
    obtain ⟨u1, u2⟩ := y24 t24 _ rfl
    rw [← et] at u1 u2
    generalize zrx true tk i v = T at *
    refine ⟨u1, fun hT1 => ?_⟩
    obtain ⟨c2, zq, x2, r2, tb, e16, row⟩ := u2 hT1
    have L1 := r2.1
    have T50 := zq.2.2.2.2.2
    refine ⟨c2, zq, x1.tr x2, e16, c.2.2, c1.2.2, c2.2.2, ⟨bc.1, x1.1, x2.1, Int.le_refl _⟩, by omega, hk, row.1, row.2.2.1, row.2.2.2.1, row.2.2.2.2.1, row.2.2.2.2.2.1, fun k => x2.rp (Int.le_refl _) (r1 k), fun _ => ⟨vS, r2, tb⟩, fun u => absurd t24 u⟩
  · have et := er.trans (zmy_n s1 t24)
    obtain ⟨zq, e16, row⟩ := n24 t24
    rw [et]
    have T50 := zq.2.2.2.2.2
    refine ⟨fun y => (by cases y), fun _ => ⟨c1, zq, x1, e16, c.2.2, c1.2.2, c1.2.2, ⟨bc.1, x1.1, Int.le_refl _, Int.le_refl _⟩, ⟨bv.1, T50.2, T50.2⟩, hk, row.1, row.2.2.1, row.2.2.2.1, row.2.2.2.2.1, row.2.2.2.2.2.1, r1, fun u => absurd u t24, fun _ => rfl⟩⟩
theorem rd_law {f : Int → Int} {n M : Int} {tk pl bh : Int → Int} (s : zRS f n M tk pl bh) (Y : XT) (i v : Int) (c : zCD) (Q : XT → Prop) (ho : Y 77 15 = if true = true then 0 else 1) (k88 : Y 88 = X0 88) (k89 : Y 89 = X0 89) (k90 : Y 90 = X0 90) (z : zQS f n M pl Y i v c) (n0 : 0 ≤ Y 77 16 ∧ Y 77 16 ≤ 12) (q : ∀ Y1, LFr Y Y1 → zStp f n M pl true tk 83 8 (rCl tk) Y i v c Y1 → Q Y1) : w_X12_readLaw Y Q :=
  m_readLaw s ho k88 k89 k90 z n0 (fu := 60) (by decide) (fun Y1 l hh => q Y1 l (st_law hh z))
-- drives
def zSr (op ar row : Int → Int) (k N : Int) (D : zDT) (L : Int) : Prop := (0 ≤ row k ∧ row k ≤ row (k + 1) ∧ row (k + 1) ≤ N) ∧ L ≤ 50 ∧ zRR false op ar (row k) (row (k + 1)) D L
theorem zSr.cg {op op' ar ar' row row' : Int → Int} {k N N' L : Int} {D : zDT} (h : zSr op ar row k N D L) (ho : ∀ j : Int, j < N → op' j = op j) (ha : ∀ j : Int, j < N → ar' j = ar j) (h0 : row' k = row k) (h1 : row' (k + 1) = row (k + 1)) (hN : N ≤ N') : zSr op' ar' row' k N' D L := by
  obtain ⟨a, b, c⟩ := h
  unfold zSr
  rw [h0, h1]
  exact ⟨by omega, b, c.cg (fun j _ j1 => ho j (by omega)) (fun j _ j1 => ha j (by omega))⟩
def rDr (tk : Int → Int) : zCLT := fun op ar row m i v N => tk i = 19 ∧ ∀ d1 d2 d3 d4 d5 d6 : zRT, zrd false tk 60 2 0 (i + 1) v = d1 → zbh false tk 60 20 d1 = d2 → zbh false tk 60 21 d2 = d3 → zmy false tk 60 22 2 d3 = d4 → ztm tk d4 = d5 → zmy false tk 60 24 0 d5 = d6 → zSr op ar row (12 * m) N d1.2.2.2 (d1.2.2.1 - v) ∧ zSr op ar row (12 * m + 2) N d2.2.2.2 (d2.2.2.1 - d1.2.2.1) ∧ zSr op ar row (12 * m + 4) N d3.2.2.2 (d3.2.2.1 - d2.2.2.1) ∧ ((tk d3.2.1 = 22 → zSr op ar row (12 * m + 6) N d4.2.2.2 (d4.2.2.1 - d3.2.2.1)) ∧ (¬ tk d3.2.1 = 22 → row (12 * m + 6) = 0 ∧ row (12 * m + 7) = 0)) ∧ (row (12 * m + 10) = (if tk d4.2.1 = 23 then tk (d4.2.1 + 1) - 2000 else 1) ∧ 1 ≤ row (12 * m + 10) ∧ row (12 * m + 10) ≤ 20) ∧ row (12 * m + 11) = 0 ∧ (tk d5.2.1 = 24 → zSr op ar row (12 * m + 8) N d6.2.2.2 (d6.2.2.1 - d5.2.2.1) ∧ zTB d6.2.2.2) ∧ (¬ tk d5.2.1 = 24 → row (12 * m + 9) = row (12 * m + 8) ∧ 0 ≤ row (12 * m + 8) ∧ row (12 * m + 8) ≤ N)
theorem rDr_cg {tk : Int → Int} : zCLg 12 (rDr tk) := by
  rintro op op' ar ar' row row' m i v N N' ⟨h0, h⟩ ho ha hr hN
  refine ⟨h0, fun d1 d2 d3 d4 d5 d6 e1 e2 e3 e4 e5 e6 => ?_⟩
  obtain ⟨g1, g2, g3, ⟨g4, g5⟩, g6, g7, g8, g9⟩ := h d1 d2 d3 d4 d5 d6 e1 e2 e3 e4 e5 e6
  refine ⟨g1.cg ho ha (hr _ (by omega)) (hr _ (by omega)) hN, g2.cg ho ha (hr _ (by omega)) (hr _ (by omega)) hN, g3.cg ho ha (hr _ (by omega)) (hr _ (by omega)) hN, ⟨fun u => (g4 u).cg ho ha (hr _ (by omega)) (hr _ (by omega)) hN, fun u => ⟨(hr _ (by omega)).trans (g5 u).1, (hr _ (by omega)).trans (g5 u).2⟩⟩, by rw [hr _ (by omega)]; exact g6, (hr _ (by omega)).trans g7, fun u => ⟨(g8 u).1.cg ho ha (hr _ (by omega)) (hr _ (by omega)) hN, (g8 u).2⟩, fun u => by rw [hr _ (by omega), hr _ (by omega)]; have := g9 u; omega⟩
theorem zbh_m {lw : Bool} {tk : Int → Int} (HT : ∀ j : Int, 400 ≤ j → tk j = 29) {w : Int} {r : zRT} (hw : ¬ w = 29) (h : (0 ≤ r.2.1 ∧ r.2.1 ≤ 400) ∧ r.2.2.1 ≤ 50) : ((0 ≤ (zbh lw tk 60 w r).2.1 ∧ (zbh lw tk 60 w r).2.1 ≤ 400) ∧ (zbh lw tk 60 w r).2.2.1 ≤ 50) ∧ r.2.2.1 ≤ (zbh lw tk 60 w r).2.2.1 := by
  unfold zbh
  split
  · rename_i c
    have lt := tk_lt HT (show ¬ tk r.2.1 = 29 by omega)
    obtain ⟨m1, m2, m3, m4⟩ := rd_mov (lw := lw) HT 60 2 0 (r.2.1 + 1) r.2.2.1 (by omega) (by omega)
    omega
  · dsimp only; omega
theorem zmy_m {lw : Bool} {tk : Int → Int} (HT : ∀ j : Int, 400 ≤ j → tk j = 29) {w : Int} {sel : Nat} {r : zRT} (hw : ¬ w = 29) (h : (0 ≤ r.2.1 ∧ r.2.1 ≤ 400) ∧ r.2.2.1 ≤ 50) : ((0 ≤ (zmy lw tk 60 w sel r).2.1 ∧ (zmy lw tk 60 w sel r).2.1 ≤ 400) ∧ (zmy lw tk 60 w sel r).2.2.1 ≤ 50) ∧ r.2.2.1 ≤ (zmy lw tk 60 w sel r).2.2.1 := by
  unfold zmy
  split
  · split
    · rename_i c
      have lt := tk_lt HT (show ¬ tk r.2.1 = 29 by omega)
      obtain ⟨m1, m2, m3, m4⟩ := rd_mov (lw := lw) HT 60 sel 0 (r.2.1 + 1) r.2.2.1 (by omega) (by omega)
      omega
    · dsimp only; omega
  · dsimp only; omega
theorem ztm_m {tk : Int → Int} (HT : ∀ j : Int, 400 ≤ j → tk j = 29) {r : zRT} (h : 0 ≤ r.2.1 ∧ r.2.1 ≤ 400) : (0 ≤ (ztm tk r).2.1 ∧ (ztm tk r).2.1 ≤ 400) ∧ (ztm tk r).2.2.1 = r.2.2.1 := by
  unfold ztm
  split
  · split
    · rename_i c
      have lt := tk_lt HT (show ¬ tk r.2.1 = 29 by omega)
      split
      · rename_i c2
        have lt2 := tk_lt HT (show ¬ tk (r.2.1 + 1) = 29 by omega)
        dsimp only; omega
      · dsimp only; omega
    · exact ⟨h, rfl⟩
  · exact ⟨h, rfl⟩

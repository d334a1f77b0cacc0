/-! TEXTS: what the reference reads behind a sum -/
theorem fl_ne {l : Int} (l1 : 1 ≤ l) : ∀ (p : zPL) (c : zCD), ¬ zinn p = -1 → ¬ (zfl l c p).2 = [] := by
  intro p
  induction p with
  | nil => intro c h; exact absurd rfl h
  | cons q p ih =>
    intro c h
    have stp : zfl l c (q :: p) = if zbnd q.1 < l then (c, q :: p) else zfl l (zf1 c q) p := rfl
    have st : zinn (q :: p) = if 31 ≤ q.1 then q.1 else zinn p := rfl
    rw [stp]
    by_cases z : zbnd q.1 < l
    · rw [if_pos z]; exact List.cons_ne_nil _ _
    · rw [if_neg z]
      refine ih _ ?_
      rw [st, if_neg] at h
      · exact h
      · intro y
        rw [bnd_0 y] at z
        omega
theorem zCB.push {i : Int} {c : zCD} {p : zPL} {o a : Int} (b : zCB i c p) (ho : 20 ≤ o ∧ o ≤ 32) (ha : (o = 29 ∨ o = 30) → 0 ≤ a ∧ a < c.2.2) : zCB (i + 1) c ((o, a) :: p) := by
  obtain ⟨⟨b1, b2⟩, b3, b4⟩ := b
  have e : pend ((o, a) :: p) = (if o ≤ 28 then 1 else 0) + pend p := rfl
  refine ⟨⟨b1, ?_⟩, by rw [List.length_cons]; omega, fun x hx => ?_⟩
  · by_cases z : o ≤ 28
    · rw [if_pos z] at e; omega
    · rw [if_neg z] at e; omega
  · rcases List.mem_cons.mp hx with rfl | hx
    · exact ⟨ho, ha⟩
    · exact b4 x hx
theorem zAT.sf {f : Int → Int} {n M : Int} {pl : Int → Int} {X X1 : XT} {i : Int} (h : zAT f n M pl X i) (a : SFr X X1) : zAT f n M pl X1 i := h.go (fun g hg => a.2 g (by omega) (by omega)) (a.1 82 rfl)
theorem bnd_56 {o : Int} (h : 20 ≤ o ∧ o ≤ 24) : 5 ≤ zbnd o ∧ zbnd o ≤ 6 := by
  by_cases z : o ≤ 21
  · rw [bnd_p h.1 z]; decide
  · rw [bnd_t (by omega) h.2]; decide
/-- a bracket is closed -/
theorem m_close {f : Int → Int} {n M : Int} {tk pl bh : Int → Int} {X : XT} {l i v : Int} {c : zCD} {p : zPL} {d : Int} {Q : XT → Prop} (s : zRS f n M tk pl bh) (rl : R32 l) (l1 : 1 ≤ l) (h : zMS f n M pl X (i + 1) v c p d) (b : zMB i v c p d) (hi : ¬ zinn p = -1) (q : ∀ X1, MFr X X1 → zMS f n M pl X1 (i + 1) v (zfl l c p).1 (zfl l c p).2.tail (d - 1) → zMB (i + 1) v (zfl l c p).1 (zfl l c p).2.tail (d - 1) → Q X1) : w_X12_settle l X (fun X96 => Q (x_st (x_st X96 77 24 ((X96 77 24) - 1)) 77 25 (((x_st X96 77 24 ((X96 77 24) - 1)) 77 25) - 1))) := by
  obtain ⟨hA, hb, hv, hc, hd⟩ := h
  obtain ⟨bc, bv, bd⟩ := b
  refine m_settle rl l1 (by have := at_400 s hA; omega) hc bc (fun X1 f1 c1 b1 => ?_)
  have ne := fl_ne l1 p c hi
  generalize zfl l c p = r at *
  obtain ⟨c', p'⟩ := r
  cases p' with
  | nil => exact absurd rfl ne
  | cons y t =>
    obtain ⟨k1, k2, k3⟩ := c1
    dsimp only at k1 k2 k3 b1 q
    rw [x_st_ne (show ¬ (25 : Int) = 24 by decide), f1.2 25 (by decide) (by decide), hd, k2]
    refine q _ (((MFr.ofS f1).f7 (by decide)).f7 (by decide)) ⟨?_, ?_, ?_, ⟨⟨?_, ?_, ?_⟩, ?_, ?_⟩, ?_⟩ ⟨⟨⟨b1.1.1, ?_⟩, ?_, fun x hx => b1.2.2 x (List.mem_cons_of_mem _ hx)⟩, bv, by omega⟩
    · exact (hA.sf f1).go (fun g hg => by rw [x_st_ne (by omega), x_st_ne (by omega)]) (by rw [x_st_c (by decide), x_st_c (by decide)])
    · rw [x_st_ne (by decide), x_st_ne (by decide), f1.2 14 (by decide) (by decide)]; exact hb
    · rw [x_st_ne (by decide), x_st_ne (by decide), f1.2 21 (by decide) (by decide)]; exact hv
    · rw [x_st_c (by decide), x_st_c (by decide)]; exact k1.1
    · rw [x_st_c (by decide), x_st_c (by decide)]; exact k1.2.1
    · rw [x_st_ne (by decide), x_st_ne (by decide)]; exact k1.2.2
    · rw [x_st_ne (by decide), x_st_at, List.length_cons]; show _ = (t.length : Int); omega
    · rw [x_st_c (by decide), x_st_c (by decide), x_st_c (by decide), x_st_c (by decide)]; exact k3.2.2
    · rw [x_st_at]
    · have e : pend (y :: t) = (if y.1 ≤ 28 then 1 else 0) + pend t := rfl
      have b2 := b1.1.2
      show c'.2.2 + pend t ≤ i + 1
      by_cases z : y.1 ≤ 28
      · rw [if_pos z] at e; omega
      · rw [if_neg z] at e; omega
    · have b2 := b1.2.1
      rw [List.length_cons] at b2
      show (t.length : Int) ≤ i + 1
      omega
theorem mF3 {lw test : Bool} {tk : Int → Int} {i v : Int} {c : zCD} {p : zPL} {d : Int} : zmF lw test tk 3 i v c p d = if ¬ ordOf (tk i) = -1 then (1, false, i + 1, v, (zfl (zbnd (ordOf (tk i) + 13)) c p).1, (ordOf (tk i) + 13, 0) :: (zfl (zbnd (ordOf (tk i) + 13)) c p).2, d) else if zinn p = 32 then if tk i = 1093 then (3, false, i + 1, v, (zfl 5 c p).1, (zfl 5 c p).2.tail, d - 1) else (3, true, i, v, c, p, d) else if zinn p = -1 ∧ test = false then (4, false, i, v, c, p, d) else if zcmd p = true then (2, false, i, v, c, p, d) else if relOf (tk i) = -1 then (1, true, i, v, c, p, d) else (1, false, i + 1, v, (zfl 5 c p).1, (relOf (tk i) + 13, 0) :: (zfl 5 c p).2, d) := (if_neg (by decide)).trans ((if_neg (by decide)).trans (if_pos rfl))
theorem m_ordB {f : Int → Int} {n M : Int} {tk pl bh : Int → Int} {lw test : Bool} {X : XT} {o i v : Int} {c : zCD} {p : zPL} {d : Int} {Q : Int → XT → Prop} (s : zRS f n M tk pl bh) (h : zMS f n M pl X i v c p d) (b : zMB i v c p d) (e : ordOf (tk i) + 13 = o) (ne : ¬ ordOf (tk i) = -1) (q : ∀ t X1, zMR f n M pl X (zmF lw test tk 3 i v c p d) t X1 → Q t X1) : w_X12_binds o X (fun v111 => w_X12_settle v111 X (fun X118 => w_X12_push o 0 X118 (fun X124 => w_X12_next X124 (fun X130 => Q 1 X130)))) := by
  have r := ordOf_r ne
  have z := mF3 (lw := lw) (test := test) (tk := tk) (i := i) (v := v) (c := c) (p := p) (d := d)
  rw [if_pos ne, e] at z
  rw [z] at q
  have lt := at_lt s h.1 (ordOf_n ne)
  have hM := s.1.1
  have hn := s.2.1
  obtain ⟨hA, hb, hv, hc, hd⟩ := h
  obtain ⟨bc, bv, bd⟩ := b
  have bz := bnd_56 (o := o) (by omega)
  refine m_binds (by omega) (m_settle (by omega) (by omega) (by omega) hc bc (fun X1 f1 c1 b1 => m_pushP c1 (by have := b1.2.1; omega) (fun X2 f2 g2 c2 => at_next s ((hA.sf f1).sf f2) (ordOf_n ne) (fun X3 f3 a3 => q 1 X3 ?_))))
  refine ⟨((MFr.ofS f1).tr (MFr.ofS f2)).tr (MFr.ofN f3), fun _ => ⟨rfl, ⟨a3, ?_, ?_, c2.nx f3, ?_⟩, ⟨b1.push (by omega) (fun z => by omega), bv, by dsimp only; omega⟩⟩, fun z => by cases z⟩
  · rw [f3.2 14 (by decide), f2.2 14 (by decide) (by decide), f1.2 14 (by decide) (by decide)]; exact hb
  · rw [f3.2 21 (by decide), f2.2 21 (by decide) (by decide), f1.2 21 (by decide) (by decide)]; exact hv
  · rw [f3.2 25 (by decide), f2.2 25 (by decide) (by decide), f1.2 25 (by decide) (by decide)]; exact hd
theorem m_behindSum {f : Int → Int} {n M : Int} {tk pl bh : Int → Int} {lw test : Bool} {a0 : Int} {X : XT} {i v : Int} {c : zCD} {p : zPL} {d : Int} {Q : Int → XT → Prop} (s : zRS f n M tk pl bh) (ra : R32 a0) (ha : test = false ↔ a0 = 0) (h : zMS f n M pl X i v c p d) (b : zMB i v c p d) (q : ∀ t X1, zMR f n M pl X (zmF lw test tk 3 i v c p d) t X1 → Q t X1) : w_X12_behindSum a0 X Q := by
  have o := (at_obs s h.1).1
  have i4 := at_400 s h.1
  have plen := b.1.2.1
  have hr : ∀ q ∈ p, R32 q.1 := fun q hq => by have := (b.1.2.2 q hq).1; omega
  have rest : ordOf (tk i) = -1 → w_X12_inner X (fun (v11 : Int) => R32 v11 ∧ (¬ v11 = 32 → ∀ J19 : Prop, ((w_X12_isCompared X (fun (v20 : Int) => R32 v20 ∧ (v20 = 0 → w_X12_isSign 60 X (fun (v28 : Int) => ∀ J35 : Int → Prop, (∀ (v34 : Int), (∀ J37 : Int → Prop, (∀ (v36 : Int), (w_X12_must v36 X (fun (X39 : XT) => R32 (X39 77 14) ∧ (¬ (X39 77 14) = 0 → Q 1 X39) ∧ ((X39 77 14) = 0 → w_X12_settle 5 X39 (fun (X47 : XT) => w_X12_push v34 0 X47 (fun (X53 : XT) => Q 1 X53))))) → J37 v36) → R32 v34 ∧ (¬ v34 = 27 → J37 1) ∧ (v34 = 27 → w_X12_isSign 61 X (fun (v60 : Int) => R32 v60 ∧ (v60 = 0 → J37 0) ∧ (¬ v60 = 0 → J37 1)))) → J35 v34) → R32 v28 ∧ (v28 = 0 → w_X12_isSign 62 X (fun (v70 : Int) => R32 v70 ∧ (v70 = 0 → J35 27) ∧ (¬ v70 = 0 → J35 26))) ∧ (¬ v28 = 0 → J35 25))) ∧ (¬ v20 = 0 → Q 2 X))) → J19) → (¬ v11 = (-1) → J19 ) ∧ (v11 = (-1) → R32 a0 ∧ (¬ a0 = 0 → J19 ) ∧ (a0 = 0 → Q 4 X))) ∧ (v11 = 32 → w_X12_isSign 93 X (fun (v81 : Int) => w_X12_must v81 X (fun (X88 : XT) => R32 (X88 77 14) ∧ (¬ (X88 77 14) = 0 → Q 3 X88) ∧ ((X88 77 14) = 0 → w_X12_settle 5 X88 (fun (X96 : XT) => Q 3 (x_st (x_st X96 77 24 ((X96 77 24) - 1)) 77 25 (((x_st X96 77 24 ((X96 77 24) - 1)) 77 25) - 1))))))) ) := by
    intro ne
    have z := mF3 (lw := lw) (test := test) (tk := tk) (i := i) (v := v) (c := c) (p := p) (d := d)
    rw [if_neg (by omega)] at z
    have zr : -1 ≤ zinn p ∧ zinn p ≤ 32 := by
      have : ∀ r : zPL, (∀ q ∈ r, q.1 ≤ 32) → -1 ≤ zinn r ∧ zinn r ≤ 32 := by
        intro r
        induction r with
        | nil => intro _; exact ⟨by decide, by decide⟩
        | cons y t ih =>
          intro hh
          have st : zinn (y :: t) = if 31 ≤ y.1 then y.1 else zinn t := rfl
          rw [st]
          by_cases k : 31 ≤ y.1
          · rw [if_pos k]; exact ⟨by omega, hh y List.mem_cons_self⟩
          · rw [if_neg k]; exact ih (fun q hq => hh q (List.mem_cons_of_mem _ hq))
      exact this p (fun q hq => (b.1.2.2 q hq).1.2)
    refine m_inner h.2.2.2.1 (by omega) hr ⟨by omega, fun k => ?_, fun k => ?_⟩
    · rw [if_neg k] at z
      intro J hJ
      have jj : ¬ (zinn p = -1 ∧ test = false) → J := fun k2 => by
        rw [if_neg k2] at z
        refine hJ (m_isCompared h.2.2.2.1 (by omega) hr (fun y => ⟨by decide, fun w => absurd w (by decide), fun _ => ?_⟩) (fun y => ⟨by decide, fun _ => ?_, fun w => absurd rfl w⟩))
        · rw [if_pos y] at z
          rw [z] at q
          exact q 2 X ⟨MFr.rf, fun _ => ⟨rfl, h, b⟩, fun w => by cases w⟩
        · rw [if_neg (by rw [y]; decide)] at z
          have rel : ∀ o7, relOf (tk i) + 13 = o7 → ¬ relOf (tk i) = -1 → w_X12_must 1 X (fun (X39 : XT) => R32 (X39 77 14) ∧ (¬ (X39 77 14) = 0 → Q 1 X39) ∧ ((X39 77 14) = 0 → w_X12_settle 5 X39 (fun (X47 : XT) => w_X12_push o7 0 X47 (fun (X53 : XT) => Q 1 X53)))) := by
            intro o7 e7 n7
            have rr := relOf_r n7
            rw [if_neg n7, e7] at z
            rw [z] at q
            have lt := at_lt s h.1 (relOf_n n7)
            have hM := s.1.1
            have hn := s.2.1
            obtain ⟨hA, hb, hv, hc, hd⟩ := h
            obtain ⟨bc, bv, bd⟩ := b
            refine m_mustT s hA hb (by decide) (relOf_n n7) (fun X1 f1 a1 => ?_)
            have e14 : X1 77 14 = 0 := (f1.2 14 (by decide)).trans hb
            refine ⟨by rw [e14]; decide, fun w => absurd e14 w, fun _ => m_settle (by decide) (by decide) i4 (hc.nx f1) bc (fun X2 f2 c2 b2 => m_pushP c2 (by have := b2.2.1; omega) (fun X3 f3 g3 c3 => q 1 X3 ?_))⟩
            refine ⟨((MFr.ofN f1).tr (MFr.ofS f2)).tr (MFr.ofS f3), fun _ => ⟨rfl, ⟨(a1.sf f2).sf f3, ?_, ?_, c3, ?_⟩, ⟨b2.push (by omega) (fun z => by omega), bv, by dsimp only; omega⟩⟩, fun z => by cases z⟩
            · rw [f3.2 14 (by decide) (by decide), f2.2 14 (by decide) (by decide)]; exact e14
            · rw [f3.2 21 (by decide) (by decide), f2.2 21 (by decide) (by decide), f1.2 21 (by decide)]; exact hv
            · rw [f3.2 25 (by decide) (by decide), f2.2 25 (by decide) (by decide), f1.2 25 (by decide)]; exact hd
          refine m_isSign o (by decide) (fun e => ?_) (fun e => ?_)
          · intro J35 hJ35
            have r0 : relOf (tk i) = 12 := by rw [e]; decide
            exact ⟨by decide, fun w => absurd w (by decide), fun _ => hJ35 25 (fun J37 hJ37 => ⟨by decide, fun _ => hJ37 1 (rel 25 (by rw [r0]; decide) (by rw [r0]; decide)), fun w => absurd w (by decide)⟩)⟩
          · intro J35 hJ35
            refine ⟨by decide, fun _ => m_isSign o (by decide) (fun e2 => ⟨by decide, fun w => absurd w (by decide), fun _ => hJ35 26 (fun J37 hJ37 => ?_)⟩) (fun e2 => ⟨by decide, fun _ => hJ35 27 (fun J37 hJ37 => ?_), fun w => absurd rfl w⟩), fun w => absurd rfl w⟩
            · have r0 : relOf (tk i) = 13 := by rw [e2]; decide
              exact ⟨by decide, fun _ => hJ37 1 (rel 26 (by rw [r0]; decide) (by rw [r0]; decide)), fun w => absurd w (by decide)⟩
            · refine ⟨by decide, fun w => absurd rfl w, fun _ => m_isSign o (by decide) (fun e3 => ⟨by decide, fun w => absurd w (by decide), fun _ => ?_⟩) (fun e3 => ⟨by decide, fun _ => ?_, fun w => absurd rfl w⟩)⟩
              · have r0 : relOf (tk i) = 14 := by rw [e3]; decide
                exact hJ37 1 (rel 27 (by rw [r0]; decide) (by rw [r0]; decide))
              · have r0 : relOf (tk i) = -1 := by unfold relOf; rw [if_neg (by omega), if_neg (by omega), if_neg (by omega)]
                rw [if_pos r0] at z
                rw [z] at q
                refine hJ37 0 (m_mustF h.2.1 ⟨by rw [x_st_ne (by decide), x_st_at]; decide, fun _ => q 1 _ (zMR_bad MFr.rf h.1 h.2.2.2.1 (b.1.up i4) rfl rfl), fun w => absurd w (by rw [x_st_ne (by decide), x_st_at]; decide)⟩)
      refine ⟨fun k2 => jj (fun w => k2 w.1), fun k2 => ⟨ra, fun k3 => jj (fun w => k3 (ha.mp w.2)), fun k3 => ?_⟩⟩
      rw [if_pos ⟨k2, ha.mpr k3⟩] at z
      rw [z] at q
      exact q 4 X ⟨MFr.rf, fun _ => ⟨rfl, h, b⟩, fun w => by cases w⟩
    · rw [if_pos k] at z
      refine m_isSign o (by decide) (fun e => ?_) (fun e => ?_)
      · rw [if_pos (by omega)] at z
        rw [z] at q
        refine m_mustT s h.1 h.2.1 (by decide) (by omega) (fun X1 f1 a1 => ?_)
        have e14 : X1 77 14 = 0 := (f1.2 14 (by decide)).trans h.2.1
        refine ⟨by rw [e14]; decide, fun w => absurd e14 w, fun _ => m_close (Q := fun Y => Q 3 Y) s (by decide) (by decide) ⟨a1, e14, (f1.2 21 (by decide)).trans h.2.2.1, h.2.2.2.1.nx f1, (f1.2 25 (by decide)).trans h.2.2.2.2⟩ b (by omega) (fun X2 f2 m2 b2 => q 3 X2 ⟨(MFr.ofN f1).tr f2, fun _ => ⟨rfl, m2, b2⟩, fun w => by cases w⟩)⟩
      · rw [if_neg (by omega)] at z
        rw [z] at q
        exact m_mustF h.2.1 ⟨by rw [x_st_ne (by decide), x_st_at]; decide, fun _ => q 3 _ (zMR_bad MFr.rf h.1 h.2.2.2.1 (b.1.up i4) rfl rfl), fun w => absurd w (by rw [x_st_ne (by decide), x_st_at]; decide)⟩
  have od : ∀ u : Int, tk i = u → ¬ ordOf u = -1 → w_X12_binds (ordOf u + 13) X (fun v111 => w_X12_settle v111 X (fun X118 => w_X12_push (ordOf u + 13) 0 X118 (fun X124 => w_X12_next X124 (fun X130 => Q 1 X130)))) := fun u e1 e2 => m_ordB s h b (by rw [e1]) (by rw [e1]; exact e2) q
  refine m_isSign o (by decide) (fun e => ?_) (fun e => ?_)
  · intro J hJ
    exact ⟨by decide, fun w => absurd w (by decide), fun _ => hJ 20 ⟨by decide, fun w => absurd w (by decide), fun _ => od 1043 e (by decide)⟩⟩
  · intro J hJ
    refine ⟨by decide, fun _ => m_isSign o (by decide) (fun e2 => ⟨by decide, fun w => absurd w (by decide), fun _ => hJ 21 ⟨by decide, fun w => absurd w (by decide), fun _ => od 1045 e2 (by decide)⟩⟩) (fun e2 => ⟨by decide, fun _ => ?_, fun w => absurd rfl w⟩), fun w => absurd rfl w⟩
    refine m_isSign o (by decide) (fun e3 => ⟨by decide, fun w => absurd w (by decide), fun _ => hJ 22 ⟨by decide, fun w => absurd w (by decide), fun _ => od 1042 e3 (by decide)⟩⟩) (fun e3 => ⟨by decide, fun _ => ?_, fun w => absurd rfl w⟩)
    refine m_isSign o (by decide) (fun e4 => ⟨by decide, fun w => absurd w (by decide), fun _ => hJ 23 ⟨by decide, fun w => absurd w (by decide), fun _ => od 1047 e4 (by decide)⟩⟩) (fun e4 => ⟨by decide, fun _ => ?_, fun w => absurd rfl w⟩)
    refine m_isSign o (by decide) (fun e5 => ⟨by decide, fun w => absurd w (by decide), fun _ => hJ 24 ⟨by decide, fun w => absurd w (by decide), fun _ => od 1037 e5 (by decide)⟩⟩) (fun e5 => ⟨by decide, fun _ => ?_, fun w => absurd rfl w⟩)
    refine hJ (-1) ⟨by decide, fun _ => rest ?_, fun w => absurd rfl w⟩
    unfold ordOf
    rw [if_neg (by omega), if_neg (by omega), if_neg (by omega), if_neg (by omega), if_neg (by omega)]

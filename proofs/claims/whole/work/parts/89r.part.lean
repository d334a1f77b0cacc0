/-! TEXTS: the reference reads a part, and what may stand before it -/
theorem uI_two {g : Int → Int} {a v w : Int} : uI (uI g a v) a w = uI g a w := by
  funext j
  unfold uI
  by_cases h : j = a
  · rw [if_pos h, if_pos h]
  · rw [if_neg h, if_neg h, if_neg h]
theorem zMB.lf {f : Int → Int} {n M : Int} {tk pl bh : Int → Int} (s : zRS f n M tk pl bh) {i j v : Int} {c : zCD} {p : zPL} {d : Int} {o a : Int} (b : zMB i v c p d) (hv : v < 50) (hj : i < j) : zMB j (v + 1) (zem c o a) p d := by
  obtain ⟨⟨⟨b1, b2⟩, b3, b4⟩, b5, b6⟩ := b
  refine ⟨⟨⟨by rw [em_n]; omega, by rw [em_n]; omega⟩, by omega, fun q hq => ⟨(b4 q hq).1, fun z => by have := (b4 q hq).2 z; rw [em_n]; omega⟩⟩, by omega, by omega⟩
theorem m_readPart {f : Int → Int} {n M : Int} {tk pl bh : Int → Int} {lw : Bool} {X : XT} {i v : Int} {c : zCD} {p : zPL} {d : Int} {Q : Int → XT → Prop} (s : zRS f n M tk pl bh) (ho : X 77 15 = if lw = true then 0 else 1) (h88 : X 88 = X0 88) (h89 : X 89 = X0 89) (h : zMS f n M pl X i v c p d) (b : zMB i v c p d) (q : ∀ t X1, zMR f n M pl X (smPt lw tk i v c p d) t X1 → Q t X1) : w_X12_readPart X Q := by
  have o := (at_obs s h.1).1
  refine m_isSign o (by decide) (fun e => ⟨by decide, fun z => absurd z (by decide), fun _ => ?_⟩) (fun e => ⟨by decide, fun _ => ?_, fun z => absurd rfl z⟩)
  · have e1 : smPt lw tk i v c p d = smOb 32 1 i v c p d := if_pos (by omega)
    exact m_openB s h b (Or.inr rfl) (by omega) (fun X1 r => q 1 X1 (by rw [e1]; exact r))
  · have zr := zPt_r (lw := lw) (t := tk i)
    have e0 : smPt lw tk i v c p d = if (lfR lw tk i v).1 = true then (3, false, (lfR lw tk i v).2.1, (lfR lw tk i v).2.2.1, zem c (lfR lw tk i v).2.2.2.2.1 (lfR lw tk i v).2.2.2.2.2, p, d) else (3, true, (lfR lw tk i v).2.1, v, c, p, d) := if_neg (by omega)
    have hf : ∀ j v2 y, lfR lw tk i v = (false, j, v2, y) → smPt lw tk i v c p d = (3, true, j, v, c, p, d) := fun j v2 y e => by rw [e0, e]; rfl
    have ht : ∀ j y op ar, lfR lw tk i v = (true, j, v + 1, y, (op, ar)) → smPt lw tk i v c p d = (3, false, j, v + 1, zem c op ar, p, d) := fun j y op ar e => by rw [e0, e]; rfl
    intro J hJ
    have main : J (zPt lw (tk i)) := by
      refine hJ _ ?_
      intro J2 hJ2
      have key : ∀ nf : Int, (nf = 0 ∨ nf = 1) → (nf = 1 ↔ 2000 ≤ tk i ∧ tk i ≤ 3000) → J2 nf := by
        intro nf hnf hn
        refine hJ2 nf ?_
        intro J3 hJ3
        have k3 : ∀ g : Int, (g = 0 ∨ g = 1) → (g = 0 ↔ zPt lw (tk i) = -1 ∧ nf = 0) → J3 g := by
          intro g hg hge
          refine hJ3 g ?_
          intro J4 hJ4
          have k4 : ∀ op : Int, op = (if zPt lw (tk i) = -1 then 0 else zPt lw (tk i)) → J4 op := by
            intro op hop
            refine hJ4 op ?_
            intro J5 hJ5
            have k5 : ∀ ar : Int, ar = (if 2000 ≤ tk i ∧ tk i ≤ 3000 then tk i - 2000 else 0) → J5 ar := by
              intro ar har
              refine hJ5 ar ?_
              refine m_leafC s h b (by omega) (fun z y => ?_) (fun g1 v1 X1 f1 m1 => ?_) (fun z => ?_)
              · have := zr.2.2.1
                omega
              · have o1 : X1 77 15 = if lw = true then 0 else 1 := (f1.2 15 (by decide)).trans ho
                have gd : (lw = true ∨ zPt lw (tk i) < 7) → Q 3 X1 := fun z => by
                  obtain ⟨y, ey⟩ := lfR_ok (lw := lw) (tk := tk) (i := i) (v := v) v1 (by omega) z
                  rw [← hop, ← har] at ey
                  refine q 3 X1 ?_
                  rw [ht _ _ _ _ ey]
                  exact ⟨f1, fun _ => ⟨rfl, m1, b.lf s v1 (by dsimp only; omega)⟩, fun z => by cases z⟩
                rw [o1]
                cases lw
                · rw [if_neg (by decide)]
                  refine ⟨by decide, fun z => absurd z (by decide), fun _ => ⟨by omega, fun z => gd (Or.inr z), fun z => ⟨by rw [m1.2.1]; decide, fun z2 => absurd m1.2.1 z2, fun _ => ?_⟩⟩⟩
                  have eo : op = zPt false (tk i) := by rw [hop, if_neg (by omega)]
                  have en : X1 77 18 - 1 = c.2.2 := by rw [m1.2.2.2.1.1.2.2, em_n]; omega
                  have bc := b.1.1
                  have p0 := pend_0 p
                  have iM := h.1.2.2.2.2
                  have nM := s.1.1
                  have n4 := s.2.1
                  have lt := at_lt s h.1 (by have := zr.2.2.1; omega)
                  obtain ⟨g1', g2', g3'⟩ := lfR_or (tk := tk) (i := i) (v := v) v1 (by omega)
                  rw [en]
                  have i2 : i + 1 + 1 = i + 2 := by omega
                  have i3 : i + 2 + 1 = i + 3 := by omega
                  refine m_numC s m1.1 m1.2.1 (by decide) (fun r1 X2 f2 a2 => ?_) (fun r1 w => ?_)
                  · have e2 : X2 77 14 = 0 := (f2.2 14 (by decide)).trans m1.2.1
                    rw [i2] at a2
                    refine ⟨by rw [e2]; decide, fun _ => m_numC s a2 e2 (by decide) (fun r2 X3 f3 a3 => ⟨by omega, q 3 _ ?_⟩) (fun r2 w => ⟨by omega, q 3 _ ?_⟩), fun z2 => absurd e2 z2⟩
                    · obtain ⟨y, ey⟩ := g1' r1 r2
                      rw [i3] at a3
                      have m3 := (m1.2.2.2.1.nx f2).nx f3
                      rw [ht _ _ _ _ ey]
                      refine ⟨?_, fun _ => ⟨rfl, ⟨?_, ?_, ?_, ?_, ?_⟩, b.lf s v1 (by dsimp only; omega)⟩, fun z => by cases z⟩
                      · have := (f1.tr (MFr.ofN f2)).tr (MFr.ofN f3)
                        exact ⟨this.1.st rfl, fun g hg => by rw [x_st_c (by decide)]; exact this.2 g hg⟩
                      · exact a3.go (fun g hg => by rw [x_st_c (by decide)]) (x_st_c (by decide))
                      · rw [x_st_c (by decide), f3.2 14 (by decide)]; exact e2
                      · rw [x_st_c (by decide), f3.2 21 (by decide), f2.2 21 (by decide)]; exact m1.2.2.1
                      · refine ⟨⟨?_, ?_, ?_⟩, ?_, ?_⟩
                        · rw [x_st_c (by decide), m3.1.1, eo]; rfl
                        · rw [x_st_s, m3.1.2.1]; exact uI_two
                        · rw [x_st_c (by decide), m3.1.2.2]; rfl
                        · rw [x_st_c (by decide)]; exact m3.2.1
                        · rw [x_st_c (by decide), x_st_c (by decide)]; exact m3.2.2
                      · rw [x_st_c (by decide), f3.2 25 (by decide), f2.2 25 (by decide)]; exact m1.2.2.2.2
                    · rw [hf _ _ _ (g2' r1 r2)]
                      exact zMR_bad5 (S := ((3, true, i + 2, v, c, p, d) : zST)) (t := 3) (f1.tr (MFr.ofN f2)) a2 (m1.2.2.2.1.nx f2) ((b.lf s v1 (j := i + 1) (by omega)).1.up (by omega)) rfl rfl
                  · have e2 : (x_st (x_st X1 77 14 1) 77 13 (X1 77 9)) 77 14 = 1 := by rw [x_st_ne (by decide), x_st_at]
                    refine ⟨by rw [e2]; decide, fun z2 => absurd z2 (by rw [e2]; decide), fun _ => ⟨by omega, q 3 _ ?_⟩⟩
                    rw [hf _ _ _ (g3' r1)]
                    exact zMR_bad5 (S := ((3, true, i + 1, v, c, p, d) : zST)) (t := 3) f1 m1.1 m1.2.2.2.1 ((b.lf s v1 (j := i + 1) (by omega)).1.up (by omega)) rfl rfl
                · rw [if_pos rfl]
                  exact ⟨by decide, fun _ => gd (Or.inl rfl), fun z => absurd rfl z⟩
              · have e2 : (x_st (x_st X 77 14 1) 77 13 (X 77 9)) 77 15 = if lw = true then 0 else 1 := by rw [x_st_ne (by decide), x_st_ne (by decide)]; exact ho
                have e3 : (x_st (x_st X 77 14 1) 77 13 (X 77 9)) 77 14 = 1 := by rw [x_st_ne (by decide), x_st_at]
                have qb : Q 3 (x_st (x_st X 77 14 1) 77 13 (X 77 9)) := by
                  refine q 3 _ ?_
                  have ee := lfR_bad (lw := lw) (tk := tk) (i := i) (v := v) (by omega)
                  rw [hf _ _ _ ee]
                  exact zMR_bad MFr.rf h.1 h.2.2.2.1 (b.1.up (at_400 s h.1)) rfl rfl
                refine ⟨by rw [e2]; cases lw <;> decide, fun _ => qb, fun _ => ⟨by omega, fun _ => qb, fun _ => ⟨by rw [e3]; decide, fun _ => qb, fun z2 => absurd z2 (by rw [e3]; decide)⟩⟩⟩
            refine ⟨by omega, fun z => k5 0 (by rw [if_neg (by omega)]), fun z => ?_⟩
            have nn := hn.mp (by omega)
            have e12 : X 77 12 = tk i - 2000 := by
              rcases o with ⟨h, h1⟩ | ⟨h, h1, _⟩ | ⟨h, h1, h2, h3, h4, h5⟩ | ⟨h, h1, h2⟩ <;> omega
            exact k5 _ (by rw [if_pos nn, e12])
          exact ⟨by omega, fun z => k4 _ (by rw [if_neg z]), fun z => k4 _ (by rw [if_pos z])⟩
        exact ⟨by omega, fun z => k3 1 (Or.inr rfl) (by omega), fun z => ⟨by omega, fun y => k3 0 (Or.inl rfl) (by omega), fun y => k3 1 (Or.inr rfl) (by omega)⟩⟩
      rcases o with ⟨h, h1⟩ | ⟨h, h1, _⟩ | ⟨h, h1, h2, h3, h4, h5⟩ | ⟨h, h1, h2⟩
      · exact ⟨by omega, fun _ => key 0 (Or.inl rfl) (by omega), fun z => absurd z (by omega)⟩
      · exact ⟨by omega, fun _ => key 0 (Or.inl rfl) (by omega), fun z => absurd z (by omega)⟩
      · exact ⟨by omega, fun z => absurd h z, fun _ => ⟨by omega, fun z => key 0 (Or.inl rfl) (by omega), fun z => key 1 (Or.inr rfl) (by omega)⟩⟩
      · exact ⟨by omega, fun _ => key 0 (Or.inl rfl) (by omega), fun z => absurd z (by omega)⟩
    rw [ho]
    cases lw
    · rw [if_neg (by decide)]
      exact ⟨by decide, fun z => absurd z (by decide), fun _ => m_orderAt o h89 main⟩
    · rw [if_pos rfl]
      exact ⟨by decide, fun _ => m_partAt o h88 main, fun z => absurd rfl z⟩
theorem m_readPlain {f : Int → Int} {n M : Int} {tk pl bh : Int → Int} {lw test : Bool} {X : XT} {i v : Int} {c : zCD} {p : zPL} {d : Int} {Q : Int → XT → Prop} (s : zRS f n M tk pl bh) (ho : X 77 15 = if lw = true then 0 else 1) (h88 : X 88 = X0 88) (h89 : X 89 = X0 89) (h : zMS f n M pl X i v c p d) (b : zMB i v c p d) (q : ∀ t X1, zMR f n M pl X (zmF lw test tk 0 i v c p d) t X1 → Q t X1) : w_X12_readPlain X Q := by
  have o := (at_obs s h.1).1
  have e0 : zmF lw test tk 0 i v c p d = if tk i = 27 then (0, false, i + 1, v, c, (28, 0) :: p, d) else if tk i = 1040 then smOb 31 0 i v c p d else smPt lw tk i v c p d := if_pos rfl
  have w27 : zwc 27 = 14836 := by decide +kernel
  unfold w_X12_readPlain
  rw [← w27]
  refine m_isWord o (by decide) (fun e => ⟨by decide, fun z => absurd z (by decide), fun _ => ?_⟩) (fun e => ⟨by decide, fun _ => ?_, fun z => absurd rfl z⟩)
  · have lt := at_lt s h.1 (by omega)
    have hM := s.1.1
    have hn := s.2.1
    obtain ⟨hA, hb, hv, hc, hd⟩ := h
    obtain ⟨⟨⟨b1, b2⟩, b3, b4⟩, b5, b6⟩ := b
    rw [if_pos (by omega)] at e0
    refine m_pushP hc (by omega) (fun X1 f1 g1 c1 => at_next s (hA.go (fun g hg => f1.2 g (by omega) (by omega)) (f1.1 82 rfl)) (by omega) (fun X2 f2 a2 => q 0 X2 ?_))
    rw [e0]
    refine ⟨(MFr.ofS f1).tr (MFr.ofN f2), fun _ => ⟨rfl, ⟨a2, ?_, ?_, c1.nx f2, ?_⟩, ⟨⟨⟨b1, ?_⟩, ?_, fun x hx => ?_⟩, b5, by dsimp only; omega⟩⟩, fun z => by cases z⟩
    · rw [f2.2 14 (by decide), f1.2 14 (by decide) (by decide)]; exact hb
    · rw [f2.2 21 (by decide), f1.2 21 (by decide) (by decide)]; exact hv
    · rw [f2.2 25 (by decide), f1.2 25 (by decide) (by decide)]; exact hd
    · have : pend ((28, 0) :: p) = 1 + pend p := rfl
      dsimp only
      omega
    · rw [List.length_cons]; dsimp only; omega
    · rcases List.mem_cons.mp hx with rfl | hx
      · exact ⟨by decide, fun z => absurd z (by decide)⟩
      · exact b4 x hx
  · rw [if_neg (by omega)] at e0
    refine m_isSign o (by decide) (fun e => ⟨by decide, fun z => absurd z (by decide), fun _ => ?_⟩) (fun e => ⟨by decide, fun _ => ?_, fun z => absurd rfl z⟩)
    · rw [if_pos (by omega)] at e0
      exact m_openB s h b (Or.inl rfl) (by omega) (fun X1 r => q 0 X1 (by rw [e0]; exact r))
    · rw [if_neg (by omega)] at e0
      exact m_readPart s ho h88 h89 h b (fun t X1 r => q t X1 (by rw [e0]; exact r))

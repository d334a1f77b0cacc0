/-! TEXTS: the class reads sums and tests: parts and sums -/
theorem nx6 {X : XT} {k : Int} : CFr X (x_st X 33 6 k) ∧ (x_st X 33 6 k) 33 6 = k ∧ (x_st X 33 6 k) 33 7 = X 33 7 ∧ (x_st X 33 6 k) 37 = X 37 ∧ (x_st X 33 6 k) 39 = X 39 := ⟨CFr.rf.nx (Or.inl rfl), x_st_at, x_st_ne (by decide), x_st_c (by decide), x_st_c (by decide)⟩
theorem CPo.q0 {lw : Bool} {X X1 : XT} {i v : Int} {r : zRT} {Q : Int → XT → Prop} (q : ∀ X1, CPo lw X X1 i v r → Q (if r.1 = true then 1 else 0) X1) (h : r.1 = false) (c : CPo lw X X1 i v r) : Q 0 X1 := by
  have := q X1 c
  rw [if_neg (by rw [h]; decide)] at this
  exact this
theorem e_part {lw : Bool} {tk : Int → Int} {fu : Nat} {d : Int} (d0 : 0 ≤ d) (d1 : d ≤ 8) (hS : d < 8 → zCR lw tk (w_parse fu 2 (d + 1)) (zrd lw tk fu 2 (d + 1))) : zCR lw tk (w_parse (fu + 1) 3 d) (zrd lw tk (fu + 1) 3 d) := by
  intro i v X Q h hi hv i0 i1 v0 v1 s0 s1 q
  have hk := h.2.2.2.2.1 i
  rw [rd_s3] at q
  unfold w_parse
  refine e_token h hi (by omega) i1 ⟨by omega, fun a => ?_, fun a => ?_⟩
  · rw [if_neg a] at q
    exact e_leaf h hi hv i0 i1 v0 v1 s0 s1 (fun r hr => by rw [hr]; exact q)
  · rw [if_pos a] at q
    have lt := tk_lt h.ht (i := i) (by omega)
    refine ⟨by omega, fun b => ?_, fun b => ?_⟩
    · rw [if_neg (by omega)] at q
      refine e_pass h hi (by omega) (by omega) ?_
      obtain ⟨f1, a6, a7, a37, a39⟩ := nx6 (X := X) (k := i + 1)
      generalize x_st X 33 6 (i + 1) = X2 at *
      have mo := rd_mov (lw := lw) (h.ht) fu 2 (d + 1) (i + 1) v (by omega) (by omega)
      unfold zMO at mo
      refine hS b (i + 1) v X2 _ (h.go f1) a6 (by rw [a7]; exact hv) (by omega) (by omega) v0 v1 (by rw [a37]; exact s0) (by rw [a37]; omega) (fun X3 c3 => ?_)
      unfold zcl at q
      generalize zrd lw tk fu 2 (d + 1) (i + 1) v = r at *
      obtain ⟨f3, b6, b7, b3, b4, b5, b8⟩ := c3
      rw [a37] at b3 b4 b5 b8
      by_cases b2 : r.1 = false
      · rw [if_pos b2] at q
        rw [if_neg (by rw [b2]; decide)]
        exact ⟨by decide, fun _ => CPo.dn q b2 (f1.tr f3) b6 b7 b3 (by omega) (fun j hj => by rw [b5 j hj, a39]), fun z => absurd rfl z⟩
      rw [if_neg b2] at q
      rw [if_pos (zbF b2)]
      have mi := mo.2.1 (zbF b2)
      refine ⟨by decide, fun z => absurd z (by decide), fun _ => ?_⟩
      refine e_takeT (h.go (f1.tr f3)) b6 (by omega) (by omega) (by decide) (by decide) (fun k => ⟨by decide, fun z => absurd z (by decide), fun _ => ?_⟩) (fun k => ⟨by decide, fun _ => ?_, fun z => absurd rfl z⟩)
      · rw [if_pos k] at q
        obtain ⟨f4, c6, c7, c37, c39⟩ := nx6 (X := X3) (k := r.2.1 + 1)
        refine CPo.up q rfl ((f1.tr f3).tr f4) c6 (by rw [c7]; exact b7) (by rw [c37]; exact b3) (by rw [c37]; dsimp only; omega) (fun j hj => by rw [c39, b5 j hj, a39]) ?_
        rw [c37, c39]
        exact b8 (zbF b2)
      · rw [if_neg k] at q
        exact CPo.dn q rfl (f1.tr f3) b6 b7 b3 (by dsimp only; omega) (fun j hj => by rw [b5 j hj, a39])
    · rw [if_pos (by omega)] at q
      exact CPo.dn q rfl CFr.rf hi hv (by omega) (by dsimp only; omega) (fun _ _ => rfl)
/-- where a sum's reading stands -/
def CSm (lw : Bool) (tk : Int → Int) (part : Int → Int → zRT) (X : XT) (i v : Int) (R : zRT) (wt rv cnt : Int) (Y : XT) : Prop := (0 ≤ cnt ∧ cnt ≤ 400) ∧ ((rv = 0 ∧ R.1 = false ∧ CPo lw X Y i v R) ∨ (rv = 1 ∧ ∃ (n : Nat) (w : Option (Int × zDT)) (P : zDT) (i' v' : Int), cnt = 400 - (n : Int) ∧ n ≤ 400 ∧ 402 ≤ (n : Int) + i' ∧ i < i' ∧ i' ≤ 400 ∧ 0 ≤ v' ∧ v' ≤ 50 ∧ rdSm part tk n w P i' v' = R ∧ CFr X Y ∧ Y 33 6 = i' ∧ Y 33 7 = v' ∧ (X 37 3 ≤ Y 37 3 ∧ (Y 37 3 - X 37 3) % 2 = 0) ∧ (∀ j : Int, j < X 37 3 → Y 39 j = X 39 j) ∧
  ((w = none ∧ wt = -1 ∧ Y 37 3 - X 37 3 ≤ 2 * (i' - i) ∧ zRC lw (Y 39) (X 37 3) (Y 37 3) P (v' - v)) ∨ ∃ (o : Int) (a : zDT) (m La : Int), w = some (o, a) ∧ wt = o ∧ (7 ≤ o ∧ o ≤ 8) ∧ Y 37 3 - X 37 3 + 2 ≤ 2 * (i' - i) ∧ zRC lw (Y 39) (X 37 3) m a La ∧ zRC lw (Y 39) m (Y 37 3) P (v' - v - La))))
theorem e_sumL {lw : Bool} {tk : Int → Int} {fu : Nat} {d : Int} (hP : zCR lw tk (w_parse fu 3 d) (zrd lw tk fu 3 d)) : zCR lw tk (w_parse (fu + 1) 2 d) (zrd lw tk (fu + 1) 2 d) := by
  intro i v X Q h hi hv i0 i1 v0 v1 s0 s1 q
  have HT := h.ht
  have mo := rd_mov (lw := lw) HT fu 3 d i v (by omega) i1
  unfold zMO at mo
  rw [rd_s2] at q
  unfold w_parse
  refine hP i v X _ h hi hv i0 i1 v0 v1 s0 s1 (fun X2 c2 => ?_)
  generalize hR : (if (zrd lw tk fu 3 d i v).1 = false then zrd lw tk fu 3 d i v else rdSm (zrd lw tk fu 3 d) tk 400 none (zrd lw tk fu 3 d i v).2.2.2 (zrd lw tk fu 3 d i v).2.1 (zrd lw tk fu 3 d i v).2.2.1) = R at q
  refine ⟨CSm lw tk (zrd lw tk fu 3 d) X i v R, fun _ _ cnt _ => (400 - cnt).toNat, ?_, ?_⟩
  · by_cases b : (zrd lw tk fu 3 d i v).1 = false
    · rw [if_pos b] at hR
      rw [if_neg (by rw [b]; decide)]
      exact ⟨by decide, Or.inl ⟨rfl, by rw [← hR]; exact b, by rw [← hR]; exact c2⟩⟩
    · rw [if_neg b] at hR
      rw [if_pos (zbF b)]
      have mi := mo.2.1 (zbF b)
      obtain ⟨f2, b6, b7, b3, b4, b5, b8⟩ := c2
      exact ⟨by decide, Or.inr ⟨rfl, 400, none, _, _, _, by decide, by decide, by omega, mi, by omega, by omega, by omega, hR, f2, b6, b7, b3, b5, Or.inl ⟨rfl, rfl, b4, b8 (zbF b)⟩⟩⟩
  clear hR c2 X2
  rintro wt rv cnt Y ⟨hcn, hI⟩
  rcases hI with ⟨rfl, hr, cp⟩ | ⟨rfl, n, w, P, i', v', ec, n1, hn, ii, i2, v2, v3, hrd, fY, y6, y7, y3, yb, hw⟩
  · -- the reading has failed
    have out := CPo.q0 q hr cp
    exact ⟨by omega, fun _ => ⟨Or.inl rfl, out⟩, fun _ => ⟨by decide, fun _ => ⟨Or.inl rfl, out⟩, fun z => absurd rfl z⟩⟩
  refine ⟨by omega, fun k => absurd k (by omega), fun _ => ⟨by decide, fun z => absurd z (by decide), fun _ => ?_⟩⟩
  have tY := h.go fY
  have hk := h.2.2.2.2.1 i'
  obtain ⟨n2, rfl⟩ : ∃ n2, n = n2 + 1 := ⟨n - 1, by omega⟩
  rw [rdSm_s] at hrd
  have szb : Y 37 3 - X 37 3 ≤ 2 * (i' - i) := by
    rcases hw with ⟨_, _, z, _⟩ | ⟨o, a, m, La, _, _, _, z, _⟩
    · exact z
    · omega
  have lt : ¬ tk i' = 29 → i' < 400 := tk_lt HT
  refine e_token tY y6 (by omega) i2 (e_order hk ?_)
  have on := ordOf_n (t := tk i')
  have or := ordOf_r (t := tk i')
  generalize ho : ordOf (tk i') = o at *
  -- the next part, and what is emitted behind it
  have mo2 : ¬ o = -1 → zMO (i' + 1) v' (zrd lw tk fu 3 d (i' + 1) v') := fun z => by
    have := lt (on z)
    exact rd_mov (lw := lw) HT fu 3 d (i' + 1) v' (by omega) (by omega)
  intro J hJ
  have times : 9 ≤ o → J := by
    intro o9
    have hon : ¬ o = -1 := by omega
    rw [if_neg hon] at hrd
    have mm := mo2 hon
    unfold zMO at mm
    have lti := lt (on hon)
    refine hJ (e_pass tY y6 (by omega) (on hon) ?_)
    obtain ⟨f1, a6, a7, a37, a39⟩ := nx6 (X := Y) (k := i' + 1)
    generalize x_st Y 33 6 (i' + 1) = Y2 at *
    refine hP (i' + 1) v' Y2 _ (tY.go f1) a6 (by rw [a7]; exact y7) (by omega) (by omega) v2 v3 (by rw [a37]; omega) (by rw [a37]; omega) (fun Y3 c3 => ?_)
    obtain ⟨f3, b6, b7, b3, b4, b5, b8⟩ := c3
    rw [a37] at b3 b4 b5 b8
    generalize zrd lw tk fu 3 d (i' + 1) v' = r at *
    refine e_emit (X := Y3) rfl (by omega) (by omega) (Or.inl (by omega)) (fun Y4 f4 z3 z0 z1 zb z33 => ⟨?_, by dsimp only; omega⟩)
    have fa : CFr X Y4 := ((fY.tr f1).tr f3).tr f4
    have bel : ∀ j : Int, j < Y 37 3 → Y4 39 j = Y 39 j := fun j hj => by rw [zb j (by omega), b5 j hj, a39]
    by_cases b : r.1 = false
    · rw [if_pos b] at hrd
      rw [if_neg (by rw [b]; decide)]
      refine ⟨by omega, Or.inl ⟨rfl, by rw [← hrd]; exact b, ?_⟩⟩
      rw [← hrd]
      exact ⟨fa, by rw [z33]; exact b6, by rw [z33]; exact b7, by omega, by omega, fun j hj => by rw [bel j (by omega)]; exact yb j hj, fun z => (by rw [b] at z; cases z)⟩
    rw [if_neg b, if_pos o9] at hrd
    rw [if_pos (zbF b)]
    have mi := mm.2.1 (zbF b)
    have r8 := b8 (zbF b)
    have rD : zRC lw (Y4 39) (Y 37 3) (Y3 37 3) r.2.2.2 (r.2.2.1 - v') := r8.cg (fun j j0 j1 => zb j j1)
    refine ⟨by omega, Or.inr ⟨rfl, n2, w, _, _, _, by omega, by omega, by omega, by omega, by omega, by omega, by omega, hrd, fa, by rw [z33]; exact b6, by rw [z33]; exact b7, by omega, fun j hj => by rw [bel j (by omega)]; exact yb j hj, ?_⟩⟩
    rw [z3]
    rcases hw with ⟨rfl, rfl, hz, hPP⟩ | ⟨o2, a2, m, La, rfl, rfl, ho2, hz, ha, hPP⟩
    · left
      refine ⟨rfl, rfl, by omega, ?_⟩
      have := RC_bin (hPP.cg (fun j j0 j1 => bel j j1)) rD (show 7 ≤ o by omega) (by have := or hon; omega) z0
      rw [show v' - v + (r.2.2.1 - v') = r.2.2.1 - v by omega] at this
      exact this
    · right
      have l1 := hPP.2.1
      refine ⟨wt, a2, m, La, rfl, rfl, ho2, by omega, ha.cg (fun j j0 j1 => bel j (by omega)), ?_⟩
      have := RC_bin (hPP.cg (fun j j0 j1 => bel j j1)) rD (show 7 ≤ o by omega) (by have := or hon; omega) z0
      rw [show v' - v - La + (r.2.2.1 - v') = r.2.2.1 - v - La by omega] at this
      exact this
  refine ⟨by omega, fun z => times (by omega), fun z => ⟨fun z2 => times (by omega), fun z2 => ⟨fun z3 => ?_, fun z3 => times (by omega)⟩⟩⟩
  intro J2 hJ2
  -- behind what waited
  have key : ∀ Z : XT, CFr Y Z → Z 33 = Y 33 → (Y 37 3 ≤ Z 37 3 ∧ (Z 37 3 - Y 37 3) % 2 = 0) → Z 37 3 - X 37 3 ≤ 2 * (i' - i) → (∀ j : Int, j < X 37 3 → Z 39 j = X 39 j) → zRC lw (Z 39) (X 37 3) (Z 37 3) (zcmB w P) (v' - v) → J2 Z := by
    intro Z fZ z33 zs zz zb zr
    refine hJ2 Z ⟨fun hon => ?_, fun hon => ?_⟩
    · rw [if_neg hon] at hrd
      have mm := mo2 hon
      unfold zMO at mm
      have lti := lt (on hon)
      have oo := or hon
      refine e_pass (tY.go fZ) (by rw [z33]; exact y6) (by omega) (on hon) ?_
      obtain ⟨f1, a6, a7, a37, a39⟩ := nx6 (X := Z) (k := i' + 1)
      generalize x_st Z 33 6 (i' + 1) = Y2 at *
      refine hP (i' + 1) v' Y2 _ ((tY.go fZ).go f1) a6 (by rw [a7, z33]; exact y7) (by omega) (by omega) v2 v3 (by rw [a37]; omega) (by rw [a37]; omega) (fun Y3 c3 => ⟨?_, by dsimp only; omega⟩)
      obtain ⟨f3, b6, b7, b3, b4, b5, b8⟩ := c3
      rw [a37] at b3 b4 b5 b8
      generalize zrd lw tk fu 3 d (i' + 1) v' = r at *
      have fa : CFr X Y3 := ((fY.tr fZ).tr f1).tr f3
      have bel : ∀ j : Int, j < Z 37 3 → Y3 39 j = Z 39 j := fun j hj => by rw [b5 j hj, a39]
      by_cases b : r.1 = false
      · rw [if_pos b] at hrd
        rw [if_neg (by rw [b]; decide)]
        refine ⟨by omega, Or.inl ⟨rfl, by rw [← hrd]; exact b, ?_⟩⟩
        rw [← hrd]
        exact ⟨fa, b6, b7, by omega, by omega, fun j hj => by rw [bel j (by omega)]; exact zb j hj, fun z => (by rw [b] at z; cases z)⟩
      rw [if_neg b, if_neg (by omega)] at hrd
      rw [if_pos (zbF b)]
      have mi := mm.2.1 (zbF b)
      exact ⟨by omega, Or.inr ⟨rfl, n2, some (o, zcmB w P), _, _, _, by omega, by omega, by omega, by omega, by omega, by omega, by omega, hrd, fa, b6, b7, by omega, fun j hj => by rw [bel j (by omega)]; exact zb j hj, Or.inr ⟨o, zcmB w P, Z 37 3, v' - v, rfl, rfl, by omega, by omega, zr.cg (fun j j0 j1 => bel j j1), by
        rw [show r.2.2.1 - v - (v' - v) = r.2.2.1 - v' by omega]
        exact b8 (zbF b)⟩⟩⟩
    · rw [if_pos hon] at hrd
      subst hrd
      exact CPo.up q rfl (fY.tr fZ) (by rw [z33]; exact y6) (by rw [z33]; exact y7) (by omega) (by dsimp only; omega) zb zr
  rcases hw with ⟨rfl, rfl, hz, hPP⟩ | ⟨o2, a2, m, La, rfl, rfl, ho2, hz, ha, hPP⟩
  · exact ⟨by decide, fun _ => key Y CFr.rf rfl (by omega) hz yb hPP, fun z => absurd rfl z⟩
  · refine ⟨by omega, fun z => absurd z (by omega), fun _ => e_emit (X := Y) rfl (by omega) (by omega) (Or.inl (by omega)) (fun Y4 f4 z3 z0 z1 zb z33 => key Y4 f4 z33 (by omega) (by omega) (fun j hj => by rw [zb j (by omega)]; exact yb j hj) ?_)⟩
    have l1 := hPP.2.1
    rw [z3]
    have := RC_bin (ha.cg (fun j j0 j1 => zb j (by omega))) (hPP.cg (fun j j0 j1 => zb j j1)) ho2.1 (by omega) z0
    rw [show La + (v' - v - La) = v' - v by omega] at this
    exact this

/-! TEXTS: the class reads sums and tests: tests, all -/
/-- where a test's reading stands -/
def CTs (lw : Bool) (tk : Int → Int) (plain : Int → Int → zRT) (X : XT) (i v : Int) (R : zRT) (oj rv cnt : Int) (Y : XT) : Prop := (0 ≤ cnt ∧ cnt ≤ 400) ∧ ((rv = 0 ∧ R.1 = false ∧ CPo lw X Y i v R) ∨ (rv = 1 ∧ ∃ (n : Nat) (w : Option zDT) (P : zDT) (i' v' : Int), cnt = 400 - (n : Int) ∧ n ≤ 400 ∧ 402 ≤ (n : Int) + i' ∧ i < i' ∧ i' ≤ 400 ∧ 0 ≤ v' ∧ v' ≤ 50 ∧ rdTs plain tk n w P i' v' = R ∧ CFr X Y ∧ Y 33 6 = i' ∧ Y 33 7 = v' ∧ (X 37 3 ≤ Y 37 3 ∧ (Y 37 3 - X 37 3) % 2 = 0) ∧ (∀ j : Int, j < X 37 3 → Y 39 j = X 39 j) ∧ Y 37 3 - X 37 3 ≤ 2 * (i' - i) ∧
  ((w = none ∧ oj = -1 ∧ zRC lw (Y 39) (X 37 3) (Y 37 3) P (v' - v)) ∨ ∃ (a : zDT) (La : Int), w = some a ∧ zRC lw (Y 39) (X 37 3) oj a La ∧ Y 39 oj = 5 ∧ zRC lw (Y 39) (oj + 2) (Y 37 3) P (v' - v - La))))
theorem e_test {lw : Bool} {tk : Int → Int} {fu : Nat} {d : Int} (hP : zCR lw tk (w_parse fu 1 d) (zrd lw tk fu 1 d)) : zCR lw tk (w_parse (fu + 1) 0 d) (zrd lw tk (fu + 1) 0 d) := by
  intro i v X Q h hi hv i0 i1 v0 v1 s0 s1 q
  have HT := h.ht
  have mo := rd_mov (lw := lw) HT fu 1 d i v (by omega) i1
  unfold zMO at mo
  rw [rd_s0] at q
  unfold w_parse
  refine hP i v X _ h hi hv i0 i1 v0 v1 s0 s1 (fun X2 c2 => ?_)
  generalize hR : (if (zrd lw tk fu 1 d i v).1 = false then zrd lw tk fu 1 d i v else rdTs (zrd lw tk fu 1 d) tk 400 none (zrd lw tk fu 1 d i v).2.2.2 (zrd lw tk fu 1 d i v).2.1 (zrd lw tk fu 1 d i v).2.2.1) = R at q
  refine ⟨CTs lw tk (zrd lw tk fu 1 d) X i v R, fun _ _ cnt _ => (400 - cnt).toNat, ?_, ?_⟩
  · by_cases b : (zrd lw tk fu 1 d i v).1 = false
    · rw [if_pos b] at hR
      rw [if_neg (by rw [b]; decide)]
      exact ⟨by decide, Or.inl ⟨rfl, by rw [← hR]; exact b, by rw [← hR]; exact c2⟩⟩
    · rw [if_neg b] at hR
      rw [if_pos (zbF b)]
      have mi := mo.2.1 (zbF b)
      obtain ⟨f2, b6, b7, b3, b4, b5, b8⟩ := c2
      exact ⟨by decide, Or.inr ⟨rfl, 400, none, _, _, _, by decide, by decide, by omega, mi, by omega, by omega, by omega, hR, f2, b6, b7, b3, b5, b4, Or.inl ⟨rfl, rfl, b8 (zbF b)⟩⟩⟩
  clear hR c2 X2
  rintro oj rv cnt Y ⟨hcn, hI⟩
  rcases hI with ⟨rfl, hr, cp⟩ | ⟨rfl, n, w, P, i', v', ec, n1, hn, ii, i2, v2, v3, hrd, fY, y6, y7, y3, yb, szb, hw⟩
  · have out := CPo.q0 q hr cp
    exact ⟨by omega, fun _ => ⟨Or.inl rfl, out⟩, fun _ => ⟨by decide, fun _ => ⟨Or.inl rfl, out⟩, fun z => absurd rfl z⟩⟩
  refine ⟨by omega, fun k => absurd k (by omega), fun _ => ⟨by decide, fun z => absurd z (by decide), fun _ => ?_⟩⟩
  have tY := h.go fY
  obtain ⟨n2, rfl⟩ : ∃ n2, n = n2 + 1 := ⟨n - 1, by omega⟩
  rw [rdTs_s] at hrd
  have lt : ¬ tk i' = 29 → i' < 400 := tk_lt HT
  have mo2 : ¬ tk i' = 29 → zMO (i' + 1) v' (zrd lw tk fu 1 d (i' + 1) v') := fun z => by
    have := lt z
    exact rd_mov (lw := lw) HT fu 1 d (i' + 1) v' (by omega) (by omega)
  refine e_takeT tY y6 (by omega) i2 (by decide) (by decide) (fun c => ⟨by decide, fun z => absurd z (by decide), fun _ => ?_⟩) (fun c => ⟨by decide, fun _ => ?_, fun z => absurd rfl z⟩)
  · rw [if_pos c] at hrd
    have mm := mo2 (by omega)
    unfold zMO at mm
    have lti := lt (by omega)
    obtain ⟨f1, a6, a7, a37, a39⟩ := nx6 (X := Y) (k := i' + 1)
    generalize x_st Y 33 6 (i' + 1) = Y2 at *
    generalize hz : Y 37 3 = z at *
    refine e_emit (X := Y2) (s := z) (by rw [a37]; exact hz) (by omega) (by omega) (Or.inl (by decide)) (fun Y3 f3 z3 z0 z1 zb z33 => ?_)
    refine hP (i' + 1) v' Y3 _ ((tY.go f1).go f3) (by rw [z33]; exact a6) (by rw [z33, a7]; exact y7) (by omega) (by omega) v2 v3 (by omega) (by omega) (fun Y4 c4 => ?_)
    obtain ⟨f4, b6, b7, b3, b4, b5, b8⟩ := c4
    rw [z3] at b3 b4 b5 b8
    generalize zrd lw tk fu 1 d (i' + 1) v' = r at *
    generalize he : Y4 37 3 = e at *
    refine e_land (X := Y4) (s := e) he (by omega) (by omega) (by omega) ⟨?_, by dsimp only; omega⟩
    generalize hY5 : x_st Y4 39 (z + 1) e = Y5
    have f5 : CFr Y4 Y5 := by rw [← hY5]; exact CFr.ld (by omega)
    have fa : CFr X Y5 := (((fY.tr f1).tr f3).tr f4).tr f5
    have e33 : Y5 33 = Y4 33 := by rw [← hY5, x_st_c (by decide)]
    have e37 : Y5 37 3 = e := by rw [← hY5, x_st_c (by decide)]; exact he
    have cne : ∀ j : Int, ¬ j = z + 1 → Y5 39 j = Y4 39 j := fun j hj => by rw [← hY5, x_st_ne hj]
    have bel : ∀ j : Int, j < z → Y5 39 j = Y 39 j := fun j hj => by rw [cne j (by omega), b5 j (by omega), zb j hj, a39]
    by_cases b : r.1 = false
    · rw [if_pos b] at hrd
      rw [if_neg (by rw [b]; decide)]
      refine ⟨by omega, Or.inl ⟨rfl, by rw [← hrd]; exact b, ?_⟩⟩
      rw [← hrd]
      exact ⟨fa, by rw [e33]; exact b6, by rw [e33]; exact b7, by omega, by omega, fun j hj => by rw [bel j (by omega)]; exact yb j hj, fun z => (by rw [b] at z; cases z)⟩
    rw [if_neg b] at hrd
    rw [if_pos (zbF b)]
    have mi := mm.2.1 (zbF b)
    have o6 : Y5 39 z = 6 := by rw [cne z (by omega), b5 z (by omega)]; exact z0
    have oj6 : Y5 39 (z + 1) = e := by rw [← hY5, x_st_at]
    have rD : zRC lw (Y5 39) (z + 2) e r.2.2.2 (r.2.2.1 - v') := (b8 (zbF b)).cg (fun j j0 j1 => cne j (by omega))
    refine ⟨by omega, Or.inr ⟨rfl, n2, w, _, _, _, by omega, by omega, by omega, by omega, by omega, by omega, by omega, hrd, fa, by rw [e33]; exact b6, by rw [e33]; exact b7, by omega, fun j hj => by rw [bel j (by omega)]; exact yb j hj, by omega, ?_⟩⟩
    rw [e37]
    rcases hw with ⟨rfl, rfl, hPP⟩ | ⟨a2, La, rfl, ha, h5, hPP⟩
    · left
      refine ⟨rfl, rfl, ?_⟩
      have := RC_and (hPP.cg (fun j j0 j1 => bel j j1)) o6 oj6 rD
      rw [show v' - v + (r.2.2.1 - v') = r.2.2.1 - v by omega] at this
      exact this
    · right
      have l1 := hPP.2.1
      have l2 := ha.2.1
      refine ⟨a2, La, rfl, ha.cg (fun j j0 j1 => bel j (by omega)), by rw [bel oj (by omega)]; exact h5, ?_⟩
      have := RC_and (hPP.cg (fun j j0 j1 => bel j j1)) o6 oj6 rD
      rw [show v' - v - La + (r.2.2.1 - v') = r.2.2.1 - v - La by omega] at this
      exact this
  · rw [if_neg c] at hrd
    have key : ∀ Z : XT, CFr Y Z → Z 33 = Y 33 → Z 37 3 = Y 37 3 → (∀ j : Int, j < X 37 3 → Z 39 j = X 39 j) → zRC lw (Z 39) (X 37 3) (Y 37 3) (zcmO w P) (v' - v) → w_X5_take 25 Z (fun (v43 : Int) (X44 : XT) => R32 v43 ∧ (¬ v43 = 0 → w_X7_emit 5 0 X44 (fun (X52 : XT) => w_parse fu 1 d X52 (fun (v57 : Int) (X58 : XT) => CTs lw tk (zrd lw tk fu 1 d) X i v R (Y 37 3) v57 (cnt + 1) X58 ∧ (400 - (cnt + 1)).toNat < (400 - cnt).toNat))) ∧ (v43 = 0 → Q 1 X44)) := by
      intro Z fZ z33 z37 zb zr
      have tZ := tY.go fZ
      refine e_takeT tZ (by rw [z33]; exact y6) (by omega) i2 (by decide) (by decide) (fun c5 => ⟨by decide, fun _ => ?_, fun z => absurd z (by decide)⟩) (fun c5 => ⟨by decide, fun z => absurd rfl z, fun _ => ?_⟩)
      · rw [if_pos c5] at hrd
        have mm := mo2 (by omega)
        unfold zMO at mm
        have lti := lt (by omega)
        obtain ⟨f1, a6, a7, a37, a39⟩ := nx6 (X := Z) (k := i' + 1)
        generalize x_st Z 33 6 (i' + 1) = Y2 at *
        generalize hz : Y 37 3 = z at *
        refine e_emit (X := Y2) (s := z) (by rw [a37]; exact z37) (by omega) (by omega) (Or.inl (by decide)) (fun Y3 f3 z3 z0 z1 zb3 z33b => ?_)
        refine hP (i' + 1) v' Y3 _ ((tZ.go f1).go f3) (by rw [z33b]; exact a6) (by rw [z33b, a7, z33]; exact y7) (by omega) (by omega) v2 v3 (by omega) (by omega) (fun Y4 c4 => ⟨?_, by omega⟩)
        obtain ⟨f4, b6, b7, b3, b4, b5, b8⟩ := c4
        rw [z3] at b3 b4 b5 b8
        generalize zrd lw tk fu 1 d (i' + 1) v' = r at *
        have fa : CFr X Y4 := (((fY.tr fZ).tr f1).tr f3).tr f4
        have bel : ∀ j : Int, j < z → Y4 39 j = Z 39 j := fun j hj => by rw [b5 j (by omega), zb3 j hj, a39]
        by_cases b : r.1 = false
        · rw [if_pos b] at hrd
          rw [if_neg (by rw [b]; decide)]
          refine ⟨by omega, Or.inl ⟨rfl, by rw [← hrd]; exact b, ?_⟩⟩
          rw [← hrd]
          exact ⟨fa, b6, b7, by omega, by omega, fun j hj => by rw [bel j (by omega)]; exact zb j hj, fun z => (by rw [b] at z; cases z)⟩
        rw [if_neg b] at hrd
        rw [if_pos (zbF b)]
        have mi := mm.2.1 (zbF b)
        exact ⟨by omega, Or.inr ⟨rfl, n2, some (zcmO w P), _, _, _, by omega, by omega, by omega, by omega, by omega, by omega, by omega, hrd, fa, b6, b7, by omega, fun j hj => by rw [bel j (by omega)]; exact zb j hj, by omega, Or.inr ⟨zcmO w P, v' - v, rfl, zr.cg (fun j j0 j1 => bel j j1), by rw [b5 z (by omega)]; exact z0, by
          rw [show r.2.2.1 - v - (v' - v) = r.2.2.1 - v' by omega]
          exact b8 (zbF b)⟩⟩⟩
      · rw [if_neg c5] at hrd
        subst hrd
        exact CPo.up q rfl (fY.tr fZ) (by rw [z33]; exact y6) (by rw [z33]; exact y7) (by omega) (by dsimp only; omega) zb (by rw [z37]; exact zr)
    rcases hw with ⟨rfl, rfl, hPP⟩ | ⟨a2, La, rfl, ha, h5, hPP⟩
    · exact e_landN (key Y CFr.rf rfl rfl yb hPP)
    · have l1 := hPP.2.1
      have l2 := ha.2.1
      refine e_land (X := Y) rfl (by omega) (by omega) (by omega) (key _ (CFr.ld (by omega)) (x_st_c (by decide)) (by rw [x_st_c (by decide)]) (fun j hj => by rw [x_st_ne (by omega)]; exact yb j hj) ?_)
      have := RC_or (ha.cg (g' := (x_st Y 39 (oj + 1) (Y 37 3)) 39) (fun j j0 j1 => x_st_ne (by omega))) (by rw [x_st_ne (by omega)]; exact h5) x_st_at (hPP.cg (fun j j0 j1 => x_st_ne (by omega)))
      rw [show La + (v' - v - La) = v' - v by omega] at this
      exact this
theorem e_all {lw : Bool} {tk : Int → Int} : ∀ (fu : Nat) (d : Int), 0 ≤ d → d ≤ 8 → (3 * (8 - d) + 1 ≤ (fu : Int) → zCR lw tk (w_parse fu 3 d) (zrd lw tk fu 3 d)) ∧ (3 * (8 - d) + 2 ≤ (fu : Int) → zCR lw tk (w_parse fu 2 d) (zrd lw tk fu 2 d)) ∧ (3 * (8 - d) + 3 ≤ (fu : Int) → zCR lw tk (w_parse fu 1 d) (zrd lw tk fu 1 d)) ∧ (3 * (8 - d) + 4 ≤ (fu : Int) → zCR lw tk (w_parse fu 0 d) (zrd lw tk fu 0 d)) := by
  intro fu
  induction fu with
  | zero => intro d d0 hd; exact ⟨fun h => absurd h (by omega), fun h => absurd h (by omega), fun h => absurd h (by omega), fun h => absurd h (by omega)⟩
  | succ fu ih =>
    intro d d0 hd
    exact ⟨fun h => e_part d0 hd (fun h8 => (ih (d + 1) (by omega) (by omega)).2.1 (by omega)), fun h => e_sumL ((ih d d0 hd).1 (by omega)), fun h => e_plain d0 hd ((ih d d0 hd).2.1 (by omega)) (fun h8 => (ih (d + 1) (by omega) (by omega)).2.2.2 (by omega)), fun h => e_test ((ih d d0 hd).2.2.1 (by omega))⟩

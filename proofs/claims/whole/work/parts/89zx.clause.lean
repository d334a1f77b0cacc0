/-! DRIVES: the class runs a clause as often as it says -/
theorem zKs.mk0 {A X Y : XT} {S : zDS} (h : zKs A X S Y) : zKs A X (S.1, S.2.1, S.2.2.1, 0) Y := by
  obtain ⟨⟨h1, h2, h3, h4, h5, h6⟩, r⟩ := h
  exact ⟨⟨h1, h2, h3, h4, h5, ⟨Int.le_refl _, by show (0 : Int) ≤ 24; decide⟩⟩, r⟩
theorem zKs.al {tk : Int → Int} {m : Nat} {A X Y : XT} {S : zDS} (k : kAll false tk m A) (h : zKs A X S Y) : kAll false tk m Y := k.cg (h.2.2.2.2.2 37 rfl) (h.2.2.2.2.2 38 rfl) (h.2.2.2.2.2 39 rfl)
theorem e_twords {A X Y : XT} {S : zDS} {Q : XT → Prop} (hA : Fx [0, 33, 35, 36, 37, 38, 39] X A) (hs : zKs A X S Y) (q : ∀ Y1, zKs A X S Y1 → zWk S Y1 → Q Y1) : w_X11_tellWords S.2.2.2 Y Q := by
  have p := hs.2.1
  have p6 : X 9 0 = S.1 6 := (p.2.2.2.2.2.2.1 0 (by decide) (by decide)).1
  have e9 : Y 9 = X 9 := (hs.2.2.2.2.2 9 rfl).trans (hA 9 rfl)
  have a8 : Y 1 9 = S.1 0 := p.2.2.1.1.1
  have a9 : Y 1 10 = S.1 1 := p.2.2.2.1.1.1
  have a10 := hs.2.2.2.1
  unfold w_X11_tellWords
  refine q _ (hs.fx ((((((Fx.rf.st rfl).st rfl).st rfl).st rfl).st rfl).st rfl)) ⟨?_, ?_, ?_, ?_, ?_, ?_⟩
  · rw [x_st_ne (by decide), x_st_ne (by decide), x_st_ne (by decide), x_st_ne (by decide), x_st_ne (by decide), x_st_at, e9]; exact p6
  · rw [x_st_ne (by decide), x_st_ne (by decide), x_st_ne (by decide), x_st_ne (by decide), x_st_at, x_st_c (by decide)]; exact a8
  · rw [x_st_ne (by decide), x_st_ne (by decide), x_st_ne (by decide), x_st_at, x_st_c (by decide), x_st_c (by decide)]; exact a9
  · rw [x_st_ne (by decide), x_st_ne (by decide), x_st_at, x_st_c (by decide), x_st_c (by decide), x_st_c (by decide)]; exact a10.1
  · rw [x_st_ne (by decide), x_st_at, x_st_c (by decide), x_st_c (by decide), x_st_c (by decide), x_st_c (by decide)]; exact a10.2
  · rw [x_st_at]
theorem zGo_w {T : TT} {C : zDC} {S : zDS} (h : (zGo T C S).1 = 0) : (zGo T C S).2.2.2.2 = S.2.2.2 + 1 := by
  revert h
  unfold zGo
  split
  · intro h; exact absurd (show (-3 : Int) = 0 from h) (by decide)
  split
  · intro h; exact absurd (show (-3 : Int) = 0 from h) (by decide)
  split
  · intro h; exact absurd (show (-3 : Int) = 0 from h) (by decide)
  split
  · intro h; exact absurd (show (-3 : Int) = 0 from h) (by decide)
  · rename_i c _ _ d _ _ a _ _ e _
    intro h
    rcases zTry_w (S := S) (c := c) (d := d) (h := a + e * S.2.2.2) with w | w
    · exact w.2
    · omega
theorem e_rclause {K : LK} {T : TT} {A X Y : XT} {S : zDS} {tk : Int → Int} {mm j : Nat} {i v : Int} {Q : Int → XT → Prop} (b : CE K X (X 79) T) (hA : Fx [0, 33, 35, 36, 37, 38, 39] X A) (kA : kAll false tk mm A) (hj : j < mm) (hm : mm ≤ 12) (ei : zsx false tk j = (i, v)) (lb : zLb tk i v) (hs : zKs A X S Y) (h0 : S.2.2.2 = 0) (q : ∀ Y1 : XT, ((zRn T (zCc tk i v) (zCc tk i v).1.toNat S).1 = 0 ∨ (zRn T (zCc tk i v) (zCc tk i v).1.toNat S).1 = -3 ∨ (zRn T (zCc tk i v) (zCc tk i v).1.toNat S).1 = -5) → zKs A X (zRn T (zCc tk i v) (zCc tk i v).1.toNat S).2 Y1 → Q (zRn T (zCc tk i v) (zCc tk i v).1.toNat S).1 Y1) : w_X11_runClause K (j : Int) Y Q := by
  have cl : ∀ (S1 : zDS) (Y1 : XT), zKs A X S1 Y1 → kCl false tk Y1 (j : Int) i v := fun S1 Y1 h => by
    have := (h.al kA).2 j hj
    rw [ei] at this; exact this
  have nc : ∀ (S1 : zDS) (Y1 : XT), zKs A X S1 Y1 → zNC Y1 := fun S1 Y1 h => (h.al kA).1.2
  have e38 : ∀ (S1 : zDS) (Y1 : XT), zKs A X S1 Y1 → Y1 38 = Y 38 := fun S1 Y1 h => (h.2.2.2.2.2 38 rfl).trans (hs.2.2.2.2.2 38 rfl).symm
  have ev1 : Y 38 ((j : Int) * 6 + 0) = (zCc tk i v).1 := by
    rw [Int.add_zero]
    exact ((cl S Y hs).1.2 rfl _ _ _ _ rfl rfl rfl rfl).1
  have e19 := lb.1
  have eh : zhd false tk i v = zd5 tk i v := (if_neg (by decide)).trans (if_pos e19)
  have eO : ∀ S1 : zDS, zOne T (zCc tk i v) S1 = if tk (zd5 tk i v).2.1 = 24 ∧ ¬ (zd6 tk i v).2.2.2 (fDr T S1) = some 1 then (0, S1) else zGo T (zCc tk i v) S1 := by
    intro S1
    unfold zOne
    by_cases c : tk (zd5 tk i v).2.1 = 24 ∧ ¬ (zd6 tk i v).2.2.2 (fDr T S1) = some 1
    · rw [if_pos c]
      exact if_pos ⟨decide_eq_true c.1, c.2⟩
    · rw [if_neg c]
      exact if_neg (fun y => c ⟨of_decide_eq_true y.1, y.2⟩)
  have lbt := lb.2.2.2.2
  refine e_head (by omega) (by decide) (e_head (by omega) (by decide) ?_)
  rw [ev1]
  generalize hN : (zCc tk i v).1 = N at *
  refine ⟨fun x13 x14 Z => ∃ S1 : zDS, zKs A X S1 Z ∧ S1.2.2.2 = x13 ∧ (0 ≤ x14 ∧ x14 ≤ N) ∧ x13 ≤ x14 ∧ zRn T (zCc tk i v) N.toNat S = zRn T (zCc tk i v) (N - x14).toNat S1, fun _ x14 _ => (N - x14).toNat, ⟨S, hs, h0, by omega, Int.le_refl _, by rw [Int.sub_zero]⟩, ?_⟩
  rintro x13 x14 Z ⟨S1, ks, rfl, hx, hle, er⟩
  refine ⟨by omega, by omega, fun k => ?_, fun k => ?_⟩
  · have e0 : zRn T (zCc tk i v) (N - x14).toNat S1 = (0, S1) := by
      rw [show (N - x14).toNat = 0 by omega]; rfl
    have := q Z (Or.inl (by rw [er, e0])) (by rw [er, e0]; exact ks)
    rw [er, e0] at this; exact this
  have es : zRn T (zCc tk i v) N.toNat S = if (zOne T (zCc tk i v) S1).1 = 0 then zRn T (zCc tk i v) (N - (x14 + 1)).toNat (zOne T (zCc tk i v) S1).2 else zOne T (zCc tk i v) S1 := by
    rw [er, show (N - x14).toNat = (N - (x14 + 1)).toNat + 1 by omega]; rfl
  have hI := ks.1
  have u0 := hI.2.2.2.2.2
  refine e_twords hA ks (fun Y1 ks1 wk1 => ?_)
  intro J38 hJ38
  have key38 : ∀ Z1 : XT, zKs A X S1 Z1 → zWk S1 Z1 → zCk T S1 Z1 → J38 Z1 := by
    intro Z1 k1 w1 c1
    refine hJ38 Z1 ?_
    intro J43 hJ43
    have key43 : ∀ Z2 : XT, zKs A X S1 Z2 → zWk S1 Z2 → zCk T S1 Z2 → zOne T (zCc tk i v) S1 = zGo T (zCc tk i v) S1 → J43 Z2 := by
      intro Z2 k2 w2 c2 eg
      rw [eg] at es
      refine hJ43 Z2 (e_once (by omega) k2 w2 c2 (nc _ _ k2) (cl _ _ k2) lb (by omega) (fun w Y3 rw3 hw3 ks3 => ⟨rw3, fun w0 => ?_, fun w0 => ?_⟩))
      · rcases hw3 with ⟨g0, _⟩ | ⟨_, g1⟩ | ⟨_, g1, _⟩
        · rw [if_pos g0] at es
          exact ⟨⟨_, ks3, zGo_w g0, by omega, by omega, es⟩, by dsimp only; omega⟩
        · omega
        · omega
      · have ne0 : ¬ (zGo T (zCc tk i v) S1).1 = 0 := by omega
        rw [if_neg ne0] at es
        have := q Y3 (by rw [es]; omega) (by rw [es]; exact ks3)
        rw [es] at this
        refine ⟨fun w5 => ?_, fun w5 => ?_⟩
        · rw [show (zGo T (zCc tk i v) S1).1 = -3 by omega] at this; exact this
        · rw [show (zGo T (zCc tk i v) S1).1 = -5 by omega] at this; exact this
    have v7 : Y 38 ((j : Int) * 6 + 5) = Z1 38 ((j : Int) * 6 + 5) := by rw [e38 _ _ k1]
    rw [v7]
    obtain ⟨_, y24, n24⟩ := cl _ _ k1
    rw [eh] at y24 n24
    by_cases t24 : tk (zd5 tk i v).2.1 = 24
    · have s6 := y24 t24
      obtain ⟨p0, e, y1, y2, y3⟩ := id s6
      have y4 := y1.2.1
      have n8 := (nc _ _ k1).1.2
      refine ⟨by omega, fun z => absurd z (by omega), fun _ => e_secD k1.1 w1 c1 (nc _ _ k1) s6 (by have := lb.2.2.2.1 t24; unfold zd6 at this; omega) (fun Y4 g4 r4 => ?_)⟩
      have rv : R32 (((zd6 tk i v).2.2.2 (fDr T S1)).getD (-2147483648)) := by
        cases hD : (zd6 tk i v).2.2.2 (fDr T S1) with
        | none => decide
        | some v => have := r4 v hD; show R32 v; omega
      have k4 := k1.fx (fx43 g4 rfl)
      have hq : ((zd6 tk i v).2.2.2 (fDr T S1)).getD (-2147483648) = 1 → (zd6 tk i v).2.2.2 (fDr T S1) = some 1 := by
        intro z1
        cases hD : (zd6 tk i v).2.2.2 (fDr T S1) with
        | none => rw [hD] at z1; exact absurd z1 (by decide)
        | some v => rw [hD] at z1; have : v = 1 := z1; rw [this]
      refine ⟨rv, fun z1 => key43 Y4 k4 (w1.v43 g4) (c1.v43 g4) (by rw [eO, if_neg (fun y => y.2 (hq z1))]), fun z1 => ?_⟩
      · have eo : zOne T (zCc tk i v) S1 = (0, S1) := by
          rw [eO, if_pos ⟨t24, fun y => z1 (by show ((zd6 tk i v).2.2.2 (fDr T S1)).getD (-2147483648) = 1; rw [y]; rfl)⟩]
        rw [eo, if_pos rfl] at es
        exact ⟨⟨S1, k4, rfl, by omega, by omega, es⟩, by dsimp only; omega⟩
    · rw [n24 t24]
      exact ⟨by decide, fun _ => key43 Z1 k1 w1 c1 (by rw [eO, if_neg (fun y => t24 y.1)]), fun z => absurd rfl z⟩
  have n4 := (nc _ _ ks1).1.1
  refine ⟨by omega, fun z => key38 Y1 ks1 wk1 (fun y => by omega), fun _ => ?_⟩
  have ce := ks1.ce b hA
  refine e_look (Or.inl ⟨rfl, rfl⟩) ce Fx.rf (fun Y2 f2 _ lk => ?_)
  refine e_corners ce ?_ lk (fun Y3 f3 cor => ?_)
  · rw [f2 1 rfl]; exact ks1.2.1.2.2.1.1.1
  · refine key38 Y3 ((ks1.fx (f2.sub (by decide))).fx (f3.sub (by decide))) ?_ (fun _ w c h a b d e f => cor w c h a b d e f)
    unfold zWk
    rw [f3 41 rfl, f2 41 rfl]; exact wk1

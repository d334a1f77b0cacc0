/-! PAIRS OF CALLS THAT ONLY ASK: surest, steer -/
def tn : Nat → Int
  | 0 => 1
  | n + 1 => 10 * tn n
theorem tn_s {n : Nat} : tn (n + 1) = 10 * tn n := rfl
theorem tn_1 : ∀ n : Nat, 1 ≤ tn n := by
  intro n
  induction n with
  | zero => exact Int.le_refl _
  | succ n ih => rw [tn_s]; omega
theorem tn_le {v : Int} (h : 0 ≤ v) (n : Nat) : v ≤ v * tn n := by
  have := Int.mul_le_mul_of_nonneg_left (tn_1 n) h
  rw [Int.mul_one] at this; exact this
theorem tn_cmp {a b : Int} (n : Nat) : a ≤ b ↔ a * tn n ≤ b * tn n := by
  have t := tn_1 n
  exact ⟨fun h => Int.mul_le_mul_of_nonneg_right h (by omega), fun h => Int.le_of_mul_le_mul_right h (by omega)⟩
theorem tn_eq {a b : Int} (n : Nat) : a = b ↔ a * tn n = b * tn n := by
  have t := tn_1 n
  exact ⟨fun h => by rw [h], fun h => Int.eq_of_mul_eq_mul_right (by omega) h⟩
theorem tn_mix {a b u v p t : Int} (ha : a * (10 * t) = u) (hb : b * (10 * t) = v) : (a * (10 - p) + b * p) * t = u / 10 * (10 - p) + v / 10 * p := by
  have ea : u / 10 = a * t := by
    rw [← ha, show a * (10 * t) = 10 * (a * t) by rw [← Int.mul_assoc, Int.mul_comm a 10, Int.mul_assoc]]
    exact Int.mul_ediv_cancel_left _ (by decide)
  have eb : v / 10 = b * t := by
    rw [← hb, show b * (10 * t) = 10 * (b * t) by rw [← Int.mul_assoc, Int.mul_comm b 10, Int.mul_assoc]]
    exact Int.mul_ediv_cancel_left _ (by decide)
  rw [ea, eb, Int.add_mul, Int.mul_right_comm a, Int.mul_right_comm b]
/-- the reference's chances: out of ten to the hours that are left -/
def CH (r : Int → Int) (T : TT) (c f till h : Int) (X : XT) : Prop := ∀ s : Int, 0 ≤ s → s < 576 → 0 ≤ X 104 (576 * h + s) ∧ X 104 (576 * h + s) * tn (12 - (till - h).toNat) = ckF r T c f till 0 (till - h).toNat s
theorem m_chBy {r : Int → Int} {T : TT} {X : XT} {c f till h s d : Int} {Q : Int → Prop} (w : RW r) (e : X 79 = r) (k : WKS r T c X) (c0 : 0 ≤ c) (c1 : c < r 0) (h0 : 0 ≤ h) (h1 : h < till) (t1 : till ≤ 11) (s0 : 0 ≤ s) (s1 : s < 576) (d0 : 0 ≤ d) (d1 : d ≤ 4) (hf : CH r T c f till (h + 1) X)
    (q : ∀ U : Int, 0 ≤ U → U * tn (12 - (till - h).toNat) = byF r T c 0 (ckF r T c f till 0 (till - (h + 1)).toNat) s h d → Q U) : w_X12_chanceBy c h s d X Q := by
  have wt := w.2.2.2.2.2.2
  have p0 : 0 ≤ r 7 := wt.2.2.1
  have p1 : r 7 ≤ 10 := wt.2.2.2.1
  have n0 := nxF_r (r := r) (T := T) (c := c) (h := h) (d := d) (tu := 0) ⟨s0, show s ≤ 576 by omega⟩
  have n1 := nxF_r (r := r) (T := T) (c := c) (h := h) (d := d) (tu := 1) ⟨s0, show s ≤ 576 by omega⟩
  have z0 := gN_r n0
  have z1 := gN_r n1
  have c5 := ck_576 (r := r) (T := T) (c := c) (f := f) (till := till) (men := 0) (Or.inl rfl) (till - (h + 1)).toNat
  have et : tn (12 - (till - (h + 1)).toNat) = 10 * tn (12 - (till - h).toNat) := by
    rw [show 12 - (till - (h + 1)).toNat = (12 - (till - h).toNat) + 1 by omega, tn_s]
  have hv : ∀ s' : Int, 0 ≤ s' → s' < 576 → 0 ≤ X 104 (576 * (h + 1) + s') ∧ X 104 (576 * (h + 1) + s') * (10 * tn (12 - (till - h).toNat)) = ckF r T c f till 0 (till - (h + 1)).toNat s' := fun s' a b => by
    have := hf s' a b
    rw [et] at this; exact this
  have fin : ∀ a b' : Int, 0 ≤ a → 0 ≤ b' → a * (10 * tn (12 - (till - h).toNat)) = ckF r T c f till 0 (till - (h + 1)).toNat (nxF r T c s h d 0) → b' * (10 * tn (12 - (till - h).toNat)) = ckF r T c f till 0 (till - (h + 1)).toNat (nxF r T c s h d 1) → Q (a * (10 - r 7) + b' * r 7) := by
    intro a b' a0 b0 ea eb
    refine q _ ?_ ?_
    · have := Int.mul_nonneg a0 (show 0 ≤ 10 - r 7 by omega)
      have := Int.mul_nonneg b0 p0
      omega
    · unfold byF
      rw [if_pos rfl]
      exact tn_mix ea eb
  refine m_next w e k c0 c1 h0 (by omega) s0 s1 (Or.inl rfl) d0 d1 (m_next w e k c0 c1 h0 (by omega) s0 s1 (Or.inr rfl) d0 d1 ?_)
  rw [e]
  intro J hJ
  have second : ∀ v a : Int, v = a * (10 - r 7) → 0 ≤ a → a * (10 * tn (12 - (till - h).toNat)) = ckF r T c f till 0 (till - (h + 1)).toNat (nxF r T c s h d 0) → J v := by
    rintro v a rfl a0 ea
    refine hJ _ ⟨by omega, fun z => ?_, fun z => ?_⟩
    · have hs : ¬ nxF r T c s h d 1 = 576 := fun y => z ((gN_no n1).mpr y)
      rw [gN_id hs]
      have hh := hv _ n1.1 (by omega)
      exact ⟨by omega, by omega, fin _ _ a0 hh.1 ea hh.2⟩
    · have hs := (gN_no n1).mp z
      have := fin a 0 a0 (by decide) ea (by rw [hs, c5, Int.zero_mul])
      rw [Int.zero_mul] at this; exact this
  refine ⟨by omega, fun z => ?_, fun z => ?_⟩
  · have hs : ¬ nxF r T c s h d 0 = 576 := fun y => z ((gN_no n0).mpr y)
    rw [gN_id hs]
    have hh := hv _ n0.1 (by omega)
    exact ⟨by omega, by omega, second _ _ rfl hh.1 hh.2⟩
  · have hs := (gN_no n0).mp z
    exact second 0 0 (by rw [Int.zero_mul]) (by decide) (by rw [hs, c5, Int.zero_mul])
theorem m_findSurest {r : Int → Int} {T : TT} {X : XT} {c f till : Int} {Q : XT → Prop} (w : RW r) (hT : HRt r T) (tr : TR T) (e : ME r X) (c0 : 0 ≤ c) (c1 : c < r 0) (f0 : 0 ≤ f) (f1 : f ≤ 63) (t0 : 0 ≤ till) (t1 : till ≤ 11) (q : ∀ X1, Gx scM X X1 → X1 79 = r → WKS r T c X1 → (∀ h : Int, 0 ≤ h → h ≤ till → CH r T c f till h X1) → Q X1) : w_X12_findSurest c f till (x_st X 77 0 0) Q := by
  refine m_works w hT tr e.th c0 c1 (fun X0 gw kk => ?_)
  have eX0 : ME r X0 := e.th.go gw rfl
  refine ⟨fun x X1 => -1 ≤ x ∧ x ≤ till ∧ Fx [104] X0 X1 ∧ ∀ h : Int, x < h → h ≤ till → CH r T c f till h X1, fun x _ => (x + 1).toNat, ⟨by omega, Int.le_refl _, Fx.rf, fun h a b => absurd b (by omega)⟩, ?_⟩
  rintro x X1 ⟨x0, x1, g1, k1⟩
  refine ⟨by omega, fun z => q X1 ((Gx_th.trans (gw.sub (by decide))).trans ⟨fun d hd k => g1 d (el_sub (l2 := scM) (by decide) hd), fun _ _ => by rw [g1 77 rfl]⟩) (by rw [g1 79 rfl]; exact eX0.1) (fun h s a b c d => by rw [g1 96 rfl]; exact kk h s a b c d) (fun h a b => k1 h (by omega) b), fun z => ?_⟩
  refine ⟨fun s X2 => 0 ≤ s ∧ s ≤ 576 ∧ Fx [104] X0 X2 ∧ (∀ h : Int, x < h → h ≤ till → CH r T c f till h X2) ∧ ∀ s' : Int, 0 ≤ s' → s' < s → 0 ≤ X2 104 (576 * x + s') ∧ X2 104 (576 * x + s') * tn (12 - (till - x).toNat) = ckF r T c f till 0 (till - x).toNat s', fun s _ => (576 - s).toNat, ⟨by decide, by decide, g1, k1, fun s' a b => absurd (show s' < (0 : Int) from b) (by omega)⟩, ?_⟩
  rintro s X2 ⟨s0, s1, g2, k2, k3⟩
  refine ⟨by omega, fun z2 => ⟨⟨by omega, by omega, g2, fun h a b => ?_⟩, by dsimp only; omega⟩, fun z2 => ?_⟩
  · by_cases hq : h = x
    · rw [hq]; exact fun s' c d => k3 s' c (by omega)
    · exact k2 h (by omega) b
  · have st : ∀ v : Int, 0 ≤ v → v * tn (12 - (till - x).toNat) = ckF r T c f till 0 (till - x).toNat s → (0 ≤ s + 1 ∧ s + 1 ≤ 576 ∧ Fx [104] X0 (x_st X2 104 ((576 * x) + s) v) ∧ (∀ h : Int, x < h → h ≤ till → CH r T c f till h (x_st X2 104 ((576 * x) + s) v)) ∧ ∀ s' : Int, 0 ≤ s' → s' < s + 1 → 0 ≤ (x_st X2 104 ((576 * x) + s) v) 104 (576 * x + s') ∧ (x_st X2 104 ((576 * x) + s) v) 104 (576 * x + s') * tn (12 - (till - x).toNat) = ckF r T c f till 0 (till - x).toNat s') := by
      intro v v0 v1
      refine ⟨by omega, by omega, g2.st rfl, fun h a b s' d e => ?_, fun s' a b => ?_⟩
      · rw [x_st_ne (by omega)]; exact k2 h a b s' d e
      · by_cases hq : s' = s
        · rw [hq, x_st_at]; exact ⟨v0, v1⟩
        · rw [x_st_ne (by omega)]; exact k3 s' a (by omega)
    have e2 : X2 79 = r := by rw [g2 79 rfl]; exact eX0.1
    have kw : WKS r T c X2 := fun h s a b c d => by rw [g2 96 rfl]; exact kk h s a b c d
    intro J hJ
    have key : ∀ v : Int, 0 ≤ v → ((x = till ∧ v * tn 12 = ckF r T c f till 0 0 s) ∨ (x < till ∧ v = 0)) → J v := by
      intro v vp hv
      refine hJ v ?_
      refine ⟨fun u d => 0 ≤ d ∧ d ≤ 5 ∧ 0 ≤ u ∧ ((x = till ∧ u * tn 12 = ckF r T c f till 0 0 s) ∨ (x < till ∧ u * tn (12 - (till - x).toNat) = max 0 (mxF (fun d => byF r T c 0 (ckF r T c f till 0 (till - (x + 1)).toNat) s x d) d.toNat))), fun _ d => (5 - d).toNat, ⟨by decide, by decide, vp, ?_⟩, ?_⟩
      · rcases hv with hv | hv
        · exact Or.inl hv
        · refine Or.inr ⟨hv.1, ?_⟩
          rw [hv.2, Int.zero_mul]; rfl
      rintro u d ⟨d0, d1, up, hu⟩
      intro J2 hJ2
      have fin : (x = till ∨ d = 5) → J2 := by
        intro hd
        refine hJ2 ⟨by omega, st u up ?_, by dsimp only; omega⟩
        rcases hu with hu | hu
        · rw [show (till - x).toNat = 0 by omega]; exact hu.2
        · obtain ⟨k5, ek⟩ : ∃ k5 : Nat, (till - x).toNat = k5 + 1 := ⟨(till - x).toNat - 1, by omega⟩
          have eh : till - ((k5 + 1 : Nat) : Int) = x := by omega
          have el : (till - (x + 1)).toNat = k5 := by omega
          have hd5 : d = 5 := by omega
          rw [hu.2, el, ek, ckF_s, eh, show d.toNat = 5 by omega]
          have b0 := (byF_r (r := r) (T := T) (c := c) (men := 0) (s := s) (h := x) (d := 0) w (ckF_r (T := T) (c := c) (f := f) (till := till) (men := 0) w k5)).1
          have le := mxF_le (g := fun d => byF r T c 0 (ckF r T c f till 0 k5) s x d) 5 0 (by decide) (by decide)
          have le2 := Int.le_trans b0 le
          omega
      refine ⟨by omega, fun z3 => fin (by omega), fun z3 => ⟨by omega, fun z4 => fin (by omega), fun z4 => ?_⟩⟩
      have hu2 := hu.resolve_left (fun y => by omega)
      have ms : mxF (fun d => byF r T c 0 (ckF r T c f till 0 (till - (x + 1)).toNat) s x d) (d + 1).toNat = max (mxF (fun d => byF r T c 0 (ckF r T c f till 0 (till - (x + 1)).toNat) s x d) d.toNat) (byF r T c 0 (ckF r T c f till 0 (till - (x + 1)).toNat) s x d) := by
        rw [show (d + 1).toNat = d.toNat + 1 by omega, mxF_s, show ((d.toNat : Nat) : Int) = d by omega]
      have br := byF_r (r := r) (T := T) (c := c) (men := 0) (s := s) (h := x) (d := d) w (ckF_r (T := T) (c := c) (f := f) (till := till) (men := 0) w (till - (x + 1)).toNat)
      have mb := mxF_b (g := fun d => byF r T c 0 (ckF r T c f till 0 (till - (x + 1)).toNat) s x d) (u := 1000000000000) (by decide) d.toNat (fun j _ _ => (byF_r (r := r) (T := T) (c := c) (men := 0) (s := s) (h := x) (d := j) w (ckF_r (T := T) (c := c) (f := f) (till := till) (men := 0) w (till - (x + 1)).toNat)).2)
      refine m_chBy w e2 kw c0 c1 (by omega) hu2.1 t1 s0 (by omega) d0 (by omega) (k2 (x + 1) (by omega) (by omega)) (fun U U0 eU => ?_)
      have l1 := tn_le U0 (12 - (till - x).toNat)
      have l2 := tn_le up (12 - (till - x).toNat)
      have lc := tn_cmp (a := U) (b := u) (12 - (till - x).toNat)
      have hu3 := hu2.2
      generalize mxF (fun d => byF r T c 0 (ckF r T c f till 0 (till - (x + 1)).toNat) s x d) d.toNat = M at ms mb hu3
      refine ⟨by omega, by omega, fun z5 => ⟨⟨by omega, by omega, up, Or.inr ⟨hu2.1, ?_⟩⟩, by dsimp only; omega⟩, fun z5 => ⟨⟨by omega, by omega, U0, Or.inr ⟨hu2.1, ?_⟩⟩, by dsimp only; omega⟩⟩
      · have := lc.mp z5
        rw [ms]; omega
      · have : ¬ U * tn (12 - (till - x).toNat) ≤ u * tn (12 - (till - x).toNat) := fun y => z5 (lc.mpr y)
        rw [ms]; omega
    refine ⟨by omega, fun z3 => key _ (by decide) (Or.inr ⟨by omega, rfl⟩), fun z3 => ?_⟩
    have hsh := m_shades (r := r) (X := X2) (c := c) (s := s) (f := f) (Q := fun (v120 : Int) => R32 v120 ∧ (v120 = 0 → J 0) ∧ (¬ v120 = 0 → J 1)) w e2 c0 c1 s0 (by omega) f0 f1 (fun hs => ⟨by decide, fun z4 => absurd z4 (by decide), fun _ => key 1 (by decide) (Or.inl ⟨z3, ?_⟩)⟩) (fun hs => ⟨by decide, fun _ => key 0 (by decide) (Or.inl ⟨z3, ?_⟩), fun z4 => absurd rfl z4⟩)
    · rw [gN_id (show ¬ s = 576 by omega)] at hsh; exact hsh
    · rw [ckF_0, if_pos hs]; rfl
    · rw [ckF_0, if_neg hs]; rfl
theorem q_surest {LW : s_LW} (hW : LWq LW) (hst : LWst LW) (a1 a2 a3 : Int32) : PairL m_X11_surest m_X12_surest 0 0 (INV LW) [.int a1, .int a2, .int a3] := by
  obtain ⟨c, rfl, rc⟩ := iI_of a1
  obtain ⟨f, rfl, rf⟩ := iI_of a2
  obtain ⟨tl, rfl, rtl⟩ := iI_of a3
  refine pair_qL hW hst (fun K X Q => w_X11_surest K c f tl X Q) (fun X Q => w_X12_surest c f tl X Q) (by decide) (by decide) (fun hK hn hp hf w => so_X11_surest hK hn hp hf w) (fun hn hp w => so_X12_surest hn hp w) (fun K X T b hT e => ?_)
  have w := b.rw
  have wc := w.2.2.1
  have wc1 := wc.1
  obtain ⟨r, hr⟩ : ∃ r, X 79 = r := ⟨_, rfl⟩
  rw [hr] at b hT e w wc wc1
  have e0 : ∀ X1 : XT, ME r X1 → x_st X1 77 0 0 79 0 = r 0 := fun X1 m => by rw [x_st_c (by decide), m.1]
  have bad : ¬ (0 ≤ c ∧ c < r 0) ∨ ¬ (0 ≤ f ∧ f ≤ 63) ∨ ¬ (0 ≤ tl ∧ tl ≤ 11) → w_X12_surest c f tl X (fun v2 X2 => v2 = -1 ∧ Gx kpL X X2) := fun hb => by
    have B : ((-1 : Int) = -1 ∧ Gx kpL X (x_st X 77 0 0)) := ⟨rfl, Gx_of Fx.rf Gx_th⟩
    unfold w_X12_surest
    rw [e0 X e]
    exact ⟨rc, wc1, fun _ => B, fun z1 => ⟨rf, fun _ => B, fun z2 => ⟨rtl, fun z3 => absurd hb (by omega), fun _ => B⟩⟩⟩
  unfold w_X11_surest w_X11_isOver
  rw [b.nc]
  refine ⟨rc, by omega, fun z => ⟨by decide, fun _ => bad (Or.inl z), fun z2 => absurd rfl z2⟩, fun z1 => ⟨rf, fun z => ⟨by decide, fun _ => bad (Or.inr (Or.inl z)), fun z2 => absurd rfl z2⟩, fun z2 => ⟨by decide, fun z => absurd z (by decide), fun _ => ⟨rtl, fun z3 => ?_, fun z => bad (Or.inr (Or.inr z))⟩⟩⟩⟩
  have bg := bgF_r wc z1.1 z1.2
  refine e_start b Fx.rf z1.1 z1.2 (e_take b Fx.rf z1.1 z1.2 (fun X1 f1 p1 => ?_))
  have f1b : Fx scC X X1 := f1.sub (by decide)
  refine e_spread b f1b z1.1 z1.2 p1 (by decide) z3.1 z3.2 bg.1 (by omega) (Or.inl rfl) (Or.inr rfl) (fun X2 f2 sp2 => ?_)
  have f2b : Fx scC X X2 := f1b.trans (f2.sub (by decide))
  obtain ⟨mk2, p2, st2, on2, cl2⟩ := sp2
  refine e_back b f2b z1.1 z1.2 z2.1 z2.2 p2 mk2 (by decide) z3.1 z3.2 (Or.inl ⟨rfl, rfl, rfl⟩) cl2 (fun X3 f3 k3 s3 => ?_)
  have f3b : Fx scC X X3 := f2b.trans (f3.sub (by decide))
  have v0 := k3 (bgF r c) bg.1 (by omega) (Or.inr st2)
  rw [show tl - 0 = tl by omega] at v0
  refine e_chanceOf (by decide) (by decide) bg.1 (by omega) ?_
  rw [v0]
  have e3 : ME r X3 := e.fx f3b
  dsimp only
  unfold w_X12_surest
  rw [e0 X3 e3]
  refine ⟨rc, wc1, fun z => absurd (by omega) z, fun _ => ⟨rf, fun z => absurd z2 z, fun _ => ⟨rtl, fun _ => ?_, fun z => absurd z3 z⟩⟩⟩
  refine m_findSurest w hT b.2.2.2 e3 z1.1 z1.2 z2.1 z2.2 z3.1 z3.2 (fun X4 g4 e4 _ k4 => ?_)
  refine m_begins w e4 z1.1 z1.2 ?_
  have fv := k4 0 (by decide) z3.1 (bgF r c) bg.1 (by omega)
  rw [show 576 * 0 + bgF r c = bgF r c by omega, show tl - 0 = tl by omega] at fv
  refine ⟨by omega, ?_⟩
  refine ⟨fun v h => tl ≤ h ∧ h ≤ 12 ∧ v * tn (12 - h.toNat) = ckF r T c f tl 0 tl.toNat (bgF r c), fun _ h => (12 - h).toNat, ⟨Int.le_refl _, by omega, fv.2⟩, ?_⟩
  rintro v h ⟨h0, h1, hv⟩
  refine ⟨by omega, fun z => ⟨?_, Gx_of f3b g4⟩, fun z => ⟨⟨by omega, by omega, ?_⟩, by dsimp only; omega⟩⟩
  · rw [show 12 - h.toNat = 0 by omega] at hv
    rw [← hv]; exact (Int.mul_one v).symm
  · rw [← hv, show 12 - h.toNat = (12 - (h + 1).toNat) + 1 by omega, tn_s, Int.mul_assoc]
theorem q_steer {LW : s_LW} (hW : LWq LW) (hst : LWst LW) (a1 a2 a3 a4 a5 a6 : Int32) : Pair m_X11_steer m_X12_steer 0 0 (INV LW) [.int a1, .int a2, .int a3, .int a4, .int a5, .int a6] := by
  obtain ⟨c, rfl, rc⟩ := iI_of a1
  obtain ⟨f, rfl, rf⟩ := iI_of a2
  obtain ⟨tl, rfl, rtl⟩ := iI_of a3
  obtain ⟨i, rfl, ri⟩ := iI_of a4
  obtain ⟨x, rfl, rx⟩ := iI_of a5
  obtain ⟨y, rfl, ry⟩ := iI_of a6
  refine pair_q hW hst (fun K X Q => w_X11_steer K c f tl i x y X Q) (fun X Q => w_X12_steer c f tl i x y X Q) (by decide) (by decide) (fun hK hn hp hf w => so_X11_steer hK hn hp hf w) (fun hn hp w => so_X12_steer hn hp w) (fun K X T b hT e => ?_)
  have w := b.rw
  have wc := w.2.2.1
  have wc1 := wc.1
  obtain ⟨r, hr⟩ : ∃ r, X 79 = r := ⟨_, rfl⟩
  rw [hr] at b hT e w wc wc1
  have e0 : ∀ X1 : XT, ME r X1 → x_st X1 77 0 0 79 0 = r 0 := fun X1 m => by rw [x_st_c (by decide), m.1]
  have bad : ¬ (0 ≤ c ∧ c < r 0) ∨ ¬ (0 ≤ f ∧ f ≤ 63) ∨ ¬ (0 ≤ tl ∧ tl ≤ 11) ∨ ¬ (0 ≤ i ∧ i ≤ tl - 1) ∨ ¬ (-8 ≤ x ∧ x ≤ 15) ∨ ¬ (-8 ≤ y ∧ y ≤ 15) → w_X12_steer c f tl i x y X (fun v2 X2 => v2 = -1 ∧ Gx kpL X X2) := fun hb => by
    have B : ((-1 : Int) = -1 ∧ Gx kpL X (x_st X 77 0 0)) := ⟨rfl, Gx_of Fx.rf Gx_th⟩
    unfold w_X12_steer
    rw [e0 X e]
    exact ⟨rc, wc1, fun _ => B, fun z1 => ⟨rf, fun _ => B, fun z2 => ⟨rtl, fun _ => B, fun z3 => ⟨ri, by omega, fun _ => B, fun z4 => ⟨rx, fun _ => B, fun z5 => ⟨ry, fun z6 => absurd hb (by omega), fun _ => B⟩⟩⟩⟩⟩⟩
  unfold w_X11_steer w_X11_isOver
  rw [b.nc]
  refine ⟨rc, by omega, fun z => ⟨by decide, fun _ => bad (Or.inl z), fun z2 => absurd rfl z2⟩, fun z1 => ⟨rf, fun z => ⟨by decide, fun _ => bad (Or.inr (Or.inl z)), fun z2 => absurd rfl z2⟩, fun z2 => ⟨by decide, fun z => absurd z (by decide), fun _ => ⟨rtl, fun z => bad (Or.inr (Or.inr (Or.inl z))), fun z3 => ⟨ri, by omega, fun z4 => ⟨rx, fun z => bad (Or.inr (Or.inr (Or.inr (Or.inr (Or.inl z))))), fun z5 => ⟨ry, fun z6 => ⟨by omega, ?_⟩, fun z => bad (Or.inr (Or.inr (Or.inr (Or.inr (Or.inr z)))))⟩⟩, fun z => bad (Or.inr (Or.inr (Or.inr (Or.inl z))))⟩⟩⟩⟩⟩
  obtain ⟨s, es⟩ : ∃ s, 24 * (y + 8) + x + 8 = s := ⟨_, rfl⟩
  have ec : caF x y = s := by unfold caF; rw [if_pos ⟨z5.1, z5.2, z6.1, z6.2⟩]; exact es
  have rs : 0 ≤ s ∧ s < 576 := by omega
  rw [es]
  refine e_take b Fx.rf z1.1 z1.2 (fun X1 f1 p1 => ?_)
  have f1b : Fx scC X X1 := f1.sub (by decide)
  refine e_spread b f1b z1.1 z1.2 p1 z4.1 (by omega) z3.2 rs.1 (by omega) (Or.inl rfl) (Or.inr rfl) (fun X2 f2 sp2 => ?_)
  have f2b : Fx scC X X2 := f1b.trans (f2.sub (by decide))
  obtain ⟨mk2, p2, st2, on2, cl2⟩ := sp2
  refine e_back b f2b z1.1 z1.2 z2.1 z2.2 p2 mk2 z4.1 (by omega) z3.2 (Or.inl ⟨rfl, rfl, rfl⟩) cl2 (fun X3 f3 k3 s3 => ?_)
  have f3b : Fx scC X X3 := f2b.trans (f3.sub (by decide))
  have s3 := s3 (by omega) s rs.1 (by omega) st2 on2
  obtain ⟨V, eV⟩ : ∃ V, X3 68 4 = V := ⟨_, rfl⟩
  rw [eV] at s3 ⊢
  obtain ⟨q1, q2, q3, q4⟩ := s3
  dsimp only at q3 q4
  have e3 : ME r X3 := e.fx f3b
  dsimp only
  unfold w_X12_steer
  rw [e0 X3 e3, ec]
  refine ⟨rc, wc1, fun z => absurd (by omega) z, fun _ => ⟨rf, fun z => absurd z2 z, fun _ => ⟨rtl, fun z => absurd z3 z, fun _ => ⟨ri, by omega, fun z => absurd z4 z, fun _ => ⟨rx, fun z => absurd z5 z, fun _ => ⟨ry, fun _ => ?_, fun z => absurd z6 z⟩⟩⟩⟩⟩⟩
  refine m_findSurest w hT b.2.2.2 e3 z1.1 z1.2 z2.1 z2.2 z3.1 z3.2 (fun X4 g4 e4 kw k4 => ?_)
  have fv := k4 i z4.1 (by omega) s rs.1 rs.2
  have ckv : ckF r T c f tl 0 (tl - i).toNat s = mxF (fun d => byF r T c 0 (ckF r T c f tl 0 (tl - (i + 1)).toNat) s i d) 5 := by
    obtain ⟨k5, ek⟩ : ∃ k5 : Nat, (tl - i).toNat = k5 + 1 := ⟨(tl - i).toNat - 1, by omega⟩
    rw [ek, ckF_s, show tl - ((k5 + 1 : Nat) : Int) = i by omega, show (tl - (i + 1)).toNat = k5 by omega]
  have cr := ckF_r (T := T) (c := c) (f := f) (till := tl) (men := 0) w (tl - i).toNat s
  refine ⟨fun d => 0 ≤ d ∧ d ≤ V, fun d => (5 - d).toNat, ⟨by decide, q1⟩, ?_⟩
  rintro d ⟨d0, d1⟩
  have br := byF_r (r := r) (T := T) (c := c) (men := 0) (s := s) (h := i) (d := d) w (ckF_r (T := T) (c := c) (f := f) (till := tl) (men := 0) w (tl - (i + 1)).toNat)
  refine m_chBy (f := f) (till := tl) w e4 kw z1.1 z1.2 z4.1 (by omega) z3.2 rs.1 rs.2 d0 (by omega) (k4 (i + 1) (by omega) (by omega)) (fun U U0 eU => ?_)
  have l1 := tn_le U0 (12 - (tl - i).toNat)
  have l2 := tn_le fv.1 (12 - (tl - i).toNat)
  have te := tn_eq (a := U) (b := X4 104 (576 * i + s)) (12 - (tl - i).toNat)
  rw [eU, fv.2, ckv] at te
  refine ⟨by omega, by omega, by omega, fun z => ⟨?_, Gx_of f3b g4⟩, fun z => ⟨⟨by omega, ?_⟩, by dsimp only; omega⟩⟩
  · by_cases hq : d = V
    · exact hq
    · exact absurd (te.mp z) (q4 d d0 (by omega))
  · by_cases hq : d = V
    · exact absurd (te.mpr (by rw [hq]; exact q3)) z
    · omega

/-! THE PAPER, the class's: where one cloud can come to -/
/-- a cloud's corner behind an hour, by two flags -/
def nyF (r : Int → Int) (T : TT) (c s h d d2 tu : Int) : Int := if s = 576 then 576 else mvF s (wxF r (r (15 + 5 * c + 2)) tu + (if freP r T c s h then sxF d + sxF d2 else 0)) (wyF r (r (15 + 5 * c + 2)) tu + (if freP r T c s h then syF d + syF d2 else 0))
theorem nyF_4 {r : Int → Int} {T : TT} {c s h d tu : Int} : nyF r T c s h d 4 tu = nxF r T c s h d tu := by
  unfold nyF nxF
  rw [show sxF 4 = 0 from rfl, show syF 4 = 0 from rfl, Int.add_zero, Int.add_zero]
theorem nyF_r {r : Int → Int} {T : TT} {c s h d d2 tu : Int} (hs : 0 ≤ s ∧ s ≤ 576) : 0 ≤ nyF r T c s h d d2 tu ∧ nyF r T c s h d d2 tu ≤ 576 := by
  unfold nyF
  split
  · omega
  · exact mvF_r hs
def PTK (r : Int → Int) (c : Int) (X : XT) : Prop := X 58 3 = c ∧ X 58 4 = r (9 + 2 * r (15 + 5 * c + 2)) ∧ X 58 5 = r (9 + 2 * r (15 + 5 * c + 2) + 1)
abbrev mkV (r : Int → Int) (T : TT) (c h s : Int) : Int := if ¬ s = 576 ∧ freP r T c s h then 1 else 2
def MKS (r : Int → Int) (T : TT) (c : Int) (X : XT) : Prop := ∀ h s : Int, 0 ≤ h → h ≤ 11 → 0 ≤ s → s ≤ 576 → X 59 (h * 577 + s) = 0 ∨ X 59 (h * 577 + s) = mkV r T c h s
theorem PTK.fx {r : Int → Int} {c : Int} {X X1 : XT} {l : List Nat} (p : PTK r c X) (f : Fx l X X1) (h : l.elem 58 = false) : PTK r c X1 := by
  unfold PTK; rw [f 58 h]; exact p
theorem e_take {K : LK} {B X : XT} {r : Int → Int} {T : TT} {c : Int} {Q : XT → Prop} (b : CE K B r T) (hx : Fx scC B X) (c0 : 0 ≤ c) (c1 : c < r 0) (q : ∀ X1, Fx [58] X X1 → PTK r c X1 → Q X1) : w_X2_take c X Q := by
  have f1 : Fx scC B (x_st X 58 3 c) := hx.st rfl
  refine e_windX b f1 c0 c1 (e_windY b (f1.st rfl) c0 c1 (q _ (((Fx.rf.st rfl).st rfl).st rfl) ⟨?_, ?_, ?_⟩))
  · rw [x_st_ne (by decide), x_st_ne (by decide), x_st_at]
  · rw [x_st_ne (by decide), x_st_at]
  · rw [x_st_at]
theorem mkV_r {r : Int → Int} {T : TT} {c h s : Int} : 1 ≤ mkV r T c h s ∧ mkV r T c h s ≤ 2 := by unfold mkV; split <;> omega
theorem e_reach {K : LK} {B X : XT} {r : Int → Int} {T : TT} {c h s : Int} {Q : XT → Prop} (b : CE K B r T) (hx : Fx scC B X) (c0 : 0 ≤ c) (c1 : c < r 0) (p : PTK r c X) (m : MKS r T c X) (h0 : 0 ≤ h) (h1 : h ≤ 11) (s0 : 0 ≤ s) (s1 : s ≤ 576) (q : ∀ X1, Fx [46, 48, 59] X X1 → MKS r T c X1 → ¬ X1 59 (h * 577 + s) = 0 → (∀ j : Int, ¬ j = h * 577 + s → X1 59 j = X 59 j) → Q X1) : w_X2_reach K h s X Q := by
  have mm := m h s h0 h1 s0 s1
  have mr := mkV_r (r := r) (T := T) (c := c) (h := h) (s := s)
  refine ⟨by omega, fun k => absurd k (by omega), fun _ => ⟨fun k => absurd k (by omega), fun _ => ⟨by omega, by omega, fun k => ?_, fun k => ⟨by omega, ?_⟩⟩⟩⟩
  · exact q X Fx.rf m k (fun _ _ => rfl)
  · have put : ∀ (X1 : XT) (v : Int), Fx [46, 48] X X1 → v = mkV r T c h s → Q (x_st X1 59 (h * 577 + s) v) := by
      rintro X1 v f rfl
      refine q _ ((f.sub (by decide)).st rfl) (fun h' s' a0 a1 b0 b1 => ?_) (by rw [x_st_at]; omega) (fun j hj => by rw [x_st_ne hj, f 59 rfl])
      by_cases hq : h' * 577 + s' = h * 577 + s
      · obtain ⟨rfl, rfl⟩ : h' = h ∧ s' = s := by omega
        rw [x_st_at]; exact Or.inr rfl
      · rw [x_st_ne hq, f 59 rfl]; exact m h' s' a0 a1 b0 b1
    refine ⟨fun k1 => put X 2 Fx.rf ?_, fun k1 => ?_⟩
    · unfold mkV; rw [if_neg (fun z => z.1 k1)]
    · rw [p.1]
      refine e_hind b hx c0 c1 h0 h1 s0 (by omega) (fun X1 f => ?_)
      have hr := hinF_r (r := r) (T := T) (c := c) (s := s) (h := h)
      refine ⟨by omega, fun k2 => put X1 2 f ?_, fun k2 => put X1 1 f ?_⟩
      · unfold mkV; rw [if_neg (fun z => k2 (hinF_0.mpr z.2))]
      · unfold mkV; rw [if_pos ⟨k1, hinF_0.mp k2⟩]
theorem e_mark {X : XT} {h s : Int} {Q : Int → Prop} (h0 : 0 ≤ h) (h1 : h ≤ 11) (s0 : 0 ≤ s) (s1 : s ≤ 576) (q : Q (X 59 (h * 577 + s))) : w_X2_markOf h s X Q :=
  ⟨by omega, fun k => absurd k (by omega), fun _ => ⟨fun k => absurd k (by omega), fun _ => ⟨by omega, q⟩⟩⟩
theorem e_isR {r : Int → Int} {T : TT} {c : Int} {X : XT} {h s : Int} {Q : Int → Prop} (m : MKS r T c X) (h0 : 0 ≤ h) (h1 : h ≤ 11) (s0 : 0 ≤ s) (s1 : s ≤ 576) (q1 : ¬ X 59 (h * 577 + s) = 0 → Q 1) (q0 : X 59 (h * 577 + s) = 0 → Q 0) : w_X2_isReached h s X Q := by
  have mm := m h s h0 h1 s0 s1
  have mr := mkV_r (r := r) (T := T) (c := c) (h := h) (s := s)
  exact e_mark h0 h1 s0 s1 ⟨by omega, q0, q1⟩
theorem e_onward {r : Int → Int} {T : TT} {c : Int} {X : XT} {h s d d2 tu : Int} {Q : Int → Prop} (w : RW r) (p : PTK r c X) (c0 : 0 ≤ c) (c1 : c < r 0) (m : MKS r T c X) (h0 : 0 ≤ h) (h1 : h ≤ 11) (s0 : 0 ≤ s) (s1 : s ≤ 576) (hm : ¬ X 59 (h * 577 + s) = 0) (rd : 0 ≤ d ∧ d ≤ 4) (rd2 : 0 ≤ d2 ∧ d2 ≤ 4) (rt : tu = 0 ∨ tu = 1) (q : Q (nyF r T c s h d d2 tu)) : w_X2_onward h s d d2 tu X Q := by
  have wc := w.2.2.1.2 c c0 c1
  have ww := w.2.1 (r (15 + 5 * c + 2)) (by omega) (by omega)
  have mm := m h s h0 h1 s0 s1
  have b1 := wx_r w.2.1 (l := r (15 + 5 * c + 2)) (tu := tu) (by omega) (by omega)
  have b2 := wy_r w.2.1 (l := r (15 + 5 * c + 2)) (tu := tu) (by omega) (by omega)
  have a1 := sx_r d
  have a2 := sx_r d2
  have a3 := sy_r d
  have a4 := sy_r d2
  have body : ∀ gx gy : Int, gx = wxF r (r (15 + 5 * c + 2)) tu → gy = wyF r (r (15 + 5 * c + 2)) tu → (w_X2_markOf h s X (fun (v5 : Int) => R32 v5 ∧ (¬ v5 = 1 → (0 ≤ s ∧ s ≤ 576) ∧ (-3 ≤ gx ∧ gx ≤ 3) ∧ (-3 ≤ gy ∧ gy ≤ 3) ∧ Q (mvF s gx gy)) ∧ (v5 = 1 → R32 d ∧ R32 d2 ∧ (0 ≤ s ∧ s ≤ 576) ∧ (-3 ≤ (gx + ((sxF d) + (sxF d2))) ∧ (gx + ((sxF d) + (sxF d2))) ≤ 3) ∧ (-3 ≤ (gy + ((syF d) + (syF d2))) ∧ (gy + ((syF d) + (syF d2))) ≤ 3) ∧ Q (mvF s (gx + ((sxF d) + (sxF d2))) (gy + ((syF d) + (syF d2))))))) := by
    rintro gx gy rfl rfl
    refine e_mark h0 h1 s0 s1 ?_
    have mr := mkV_r (r := r) (T := T) (c := c) (h := h) (s := s)
    refine ⟨by omega, fun k => ⟨by omega, by omega, by omega, ?_⟩, fun k => ⟨by omega, by omega, by omega, by omega, by omega, ?_⟩⟩
    · have hn : ¬ (¬ s = 576 ∧ freP r T c s h) := fun z => by
        unfold mkV at mm; rw [if_pos z] at mm; omega
      unfold nyF at q
      by_cases hs : s = 576
      · rw [if_pos hs] at q
        rw [hs]; exact q
      · rw [if_neg hs, if_neg (fun z => hn ⟨hs, z⟩), if_neg (fun z => hn ⟨hs, z⟩), Int.add_zero, Int.add_zero] at q
        exact q
    · have hy : ¬ s = 576 ∧ freP r T c s h := by
        by_cases z : ¬ s = 576 ∧ freP r T c s h
        · exact z
        · unfold mkV at mm; rw [if_neg z] at mm; omega
      unfold nyF at q
      rw [if_neg hy.1, if_pos hy.2, if_pos hy.2] at q
      exact q
  obtain ⟨p1, p2, p3⟩ := p
  unfold w_X2_onward
  rw [p2, p3]
  intro J hJ
  have k3 : ∀ gx : Int, gx = wxF r (r (15 + 5 * c + 2)) tu → J gx := by
    intro gx hg
    refine hJ gx ?_
    intro J2 hJ2
    rcases rt with rfl | rfl
    · exact ⟨by decide, fun _ => hJ2 _ (body _ _ hg rfl), fun k => absurd rfl k⟩
    · exact ⟨by decide, fun k => absurd k (by decide), fun _ => hJ2 _ (body _ _ hg rfl)⟩
  rcases rt with rfl | rfl
  · exact ⟨by decide, fun _ => k3 _ rfl, fun k => absurd rfl k⟩
  · exact ⟨by decide, fun k => absurd k (by decide), fun _ => k3 _ rfl⟩
/-- which flags, winds are gone through -/
abbrev alP (men ve d d2 tu : Int) : Prop := 0 ≤ d ∧ d ≤ 4 ∧ ((men = 1 ∧ d2 = 4) ∨ (men = 2 ∧ 0 ≤ d2 ∧ d2 ≤ 4)) ∧ (tu = 0 ∨ (tu = 1 ∧ ve = 1))
/-- what is reached in an hour goes on to what is reached in the next one -/
def CLO (r : Int → Int) (T : TT) (c men ve h s : Int) (X : XT) : Prop := ¬ X 59 (h * 577 + s) = 0 → ∀ d d2 tu : Int, alP men ve d d2 tu → ¬ X 59 ((h + 1) * 577 + nyF r T c s h d d2 tu) = 0
/-- marks are added in one hour alone -/
def MO (h : Int) (X X1 : XT) : Prop := (∀ j : Int, (j < (h + 1) * 577 ∨ (h + 2) * 577 ≤ j) → X1 59 j = X 59 j) ∧ ∀ j : Int, ¬ X 59 j = 0 → ¬ X1 59 j = 0
theorem MO.rf {h : Int} {X : XT} : MO h X X := ⟨fun _ _ => rfl, fun _ h => h⟩
theorem MO.trans {h : Int} {X X1 X2 : XT} (a : MO h X X1) (b : MO h X1 X2) : MO h X X2 := ⟨fun j hj => (b.1 j hj).trans (a.1 j hj), fun j hj => b.2 j (a.2 j hj)⟩
theorem CLO.mo {r : Int → Int} {T : TT} {c men ve h h' s : Int} {X X1 : XT} (cl : CLO r T c men ve h' s X) (m : MO h X X1) (hh : h' ≤ h) (s0 : 0 ≤ s) (s1 : s ≤ 576) : CLO r T c men ve h' s X1 := by
  intro hm d d2 tu ha
  rw [m.1 _ (by omega)] at hm
  exact m.2 _ (cl hm d d2 tu ha)
def SPR (r : Int → Int) (T : TT) (c now spot till men ve : Int) (X : XT) : Prop := MKS r T c X ∧ PTK r c X ∧ ¬ X 59 (now * 577 + spot) = 0 ∧ (∀ s : Int, 0 ≤ s → s ≤ 576 → ¬ X 59 (now * 577 + s) = 0 → s = spot) ∧ ∀ h s : Int, now ≤ h → h < till → 0 ≤ s → s ≤ 576 → CLO r T c men ve h s X
theorem e_spread {K : LK} {B X : XT} {r : Int → Int} {T : TT} {c now spot till men ve : Int} {Q : XT → Prop} (b : CE K B r T) (hx : Fx scC B X) (c0 : 0 ≤ c) (c1 : c < r 0) (p : PTK r c X) (n0 : 0 ≤ now) (n1 : now ≤ till) (t1 : till ≤ 11) (s0 : 0 ≤ spot) (s1 : spot ≤ 576) (hmen : men = 1 ∨ men = 2) (hve : ve = 0 ∨ ve = 1) (q : ∀ X1, Fx [46, 48, 59] X X1 → SPR r T c now spot till men ve X1 → Q X1) : w_X2_spread K now spot till men ve X Q := by
  have w := b.rw
  have sub : [46, 48, 59].all (fun c => scC.elem c) = true := rfl
  refine ⟨fun x X1 => 0 ≤ x ∧ x ≤ 6924 ∧ Fx [59] X X1 ∧ ∀ j : Int, 0 ≤ j → j < x → X1 59 j = 0, fun x _ => (6924 - x).toNat, ⟨by decide, by decide, Fx.rf, fun j j0 j1 => absurd (show j < (0 : Int) from j1) (by omega)⟩, ?_⟩
  rintro x X1 ⟨x0, x1, f1, z1⟩
  refine ⟨by omega, fun kx => ?_, fun kx => ⟨by omega, ⟨by omega, by omega, f1.st rfl, fun j j0 j1 => ?_⟩, by dsimp only; omega⟩⟩
  rotate_left
  · by_cases hq : j = x
    · rw [hq, x_st_at]
    · rw [x_st_ne hq]; exact z1 j j0 (by omega)
  have m1 : MKS r T c X1 := fun h s h0 h1 s0 s1 => Or.inl (z1 _ (by omega) (by omega))
  refine e_reach b (hx.trans (f1.sub (by decide))) c0 c1 (p.fx f1 rfl) m1 n0 (by omega) s0 s1 (fun X2 f2 m2 y2 o2 => ?_)
  have f2b : Fx [46, 48, 59] X X2 := (f1.sub (by decide)).trans f2
  have one2 : ∀ s : Int, 0 ≤ s → s ≤ 576 → ¬ X2 59 (now * 577 + s) = 0 → s = spot := fun s a0 a1 hs => by
    by_cases hq : s = spot
    · exact hq
    · rw [o2 _ (by omega), z1 _ (by omega) (by omega)] at hs; exact absurd rfl hs
  intro J hJ
  have key : ∀ fac : Int, ((men = 1 ∧ fac = 1) ∨ (men = 2 ∧ fac = 5)) → J fac := by
    intro fac hfac
    refine hJ fac ?_
    refine ⟨fun h X3 => now ≤ h ∧ h ≤ till ∧ Fx [46, 48, 59] X X3 ∧ MKS r T c X3 ∧ ¬ X3 59 (now * 577 + spot) = 0 ∧ (∀ s : Int, 0 ≤ s → s ≤ 576 → ¬ X3 59 (now * 577 + s) = 0 → s = spot) ∧ ∀ h' s : Int, now ≤ h' → h' < h → 0 ≤ s → s ≤ 576 → CLO r T c men ve h' s X3, fun h _ => (till - h).toNat, ⟨Int.le_refl _, n1, f2b, m2, y2, one2, fun h' s a b => absurd a (by omega)⟩, ?_⟩
    rintro h X3 ⟨h0, h1, f3, m3, y3, one3, cl3⟩
    refine ⟨by omega, by omega, fun k => ?_, fun k => ?_⟩
    · exact q X3 f3 ⟨m3, p.fx f3 rfl, y3, one3, fun h' s a0 a1 => cl3 h' s a0 (by omega)⟩
    · refine ⟨fun s X4 => 0 ≤ s ∧ s ≤ 577 ∧ Fx [46, 48, 59] X X4 ∧ MKS r T c X4 ∧ MO h X3 X4 ∧ ∀ s' : Int, 0 ≤ s' → s' < s → CLO r T c men ve h s' X4, fun s _ => (577 - s).toNat, ⟨by decide, by decide, f3, m3, MO.rf, fun s' a b => absurd (show s' < (0 : Int) from b) (by omega)⟩, ?_⟩
      rintro s X4 ⟨a0, a1, f4, m4, mo4, cl4⟩
      refine ⟨by omega, fun k2 => ⟨⟨by omega, by omega, f4, m4, mo4.2 _ y3, fun s' e0 e1 hs => ?_, fun h' s' e0 e1 e2 e3 => ?_⟩, by dsimp only; omega⟩, fun k2 => ?_⟩
      · rw [mo4.1 _ (by omega)] at hs; exact one3 s' e0 e1 hs
      · by_cases hq : h' = h
        · rw [hq]; exact cl4 s' e2 (by omega)
        · exact (cl3 h' s' e0 (by omega) e2 e3).mo mo4 (by omega) e2 e3
      · -- from one spot
        have ways : ∀ wf : Int, ((X4 59 (h * 577 + s) = 0 ∧ wf = 0) ∨ (¬ X4 59 (h * 577 + s) = 0 ∧ wf = 5 * fac)) → (∃ (I68 : Int → XT → Prop) (m69 : Int → XT → Nat), I68 0 X4 ∧ ∀ (x66 : Int) (X67 : XT), I68 x66 X67 → R32 x66 ∧ R32 wf ∧ (wf ≤ x66 → ((0 ≤ s + 1 ∧ s + 1 ≤ 577 ∧ Fx [46, 48, 59] X X67 ∧ MKS r T c X67 ∧ MO h X3 X67 ∧ ∀ s' : Int, 0 ≤ s' → s' < s + 1 → CLO r T c men ve h s' X67) ∧ (577 - (s + 1)).toNat < (577 - s).toNat)) ∧ (¬ wf ≤ x66 → (0 ≤ x66) ∧ ∀ J85 : Int → Prop, (∀ (v84 : Int), (w_X2_onward h s (x66 % 5) v84 0 X67 (fun (v86 : Int) => w_X2_reach K (h + 1) v86 X67 (fun (X93 : XT) => R32 ve ∧ (ve = 0 → I68 (x66 + 1) X93 ∧ m69 (x66 + 1) X93 < m69 x66 X67) ∧ (¬ ve = 0 → w_X2_onward h s (x66 % 5) v84 1 X93 (fun (v100 : Int) => w_X2_reach K (h + 1) v100 X93 (fun (X107 : XT) => I68 (x66 + 1) X107 ∧ m69 (x66 + 1) X107 < m69 x66 X67)))))) → J85 v84) → R32 men ∧ (men ≤ 1 → J85 4) ∧ (¬ men ≤ 1 → J85 (x66 / 5)))) := by
          intro wf hwf
          refine ⟨fun y X5 => 0 ≤ y ∧ y ≤ wf ∧ Fx [46, 48, 59] X X5 ∧ MKS r T c X5 ∧ MO h X4 X5 ∧ ∀ y' : Int, 0 ≤ y' → y' < y → ∀ tu : Int, (tu = 0 ∨ (tu = 1 ∧ ve = 1)) → ¬ X5 59 ((h + 1) * 577 + nyF r T c s h (y' % 5) (if men = 1 then 4 else y' / 5) tu) = 0, fun y _ => (wf - y).toNat, ⟨by decide, by omega, f4, m4, MO.rf, fun y' a b => absurd (show y' < (0 : Int) from b) (by omega)⟩, ?_⟩
          rintro y X5 ⟨y0, y1, f5, m5, mo5, cl5⟩
          refine ⟨by omega, by omega, fun k3 => ⟨⟨by omega, by omega, f5, m5, mo4.trans mo5, fun s' e0 e1 => ?_⟩, by omega⟩, fun k3 => ⟨y0, ?_⟩⟩
          · by_cases hq : s' = s
            · rw [hq]
              intro hm d d2 tu ha
              obtain ⟨d0, d1, hd2, htu⟩ := ha
              rw [mo5.1 _ (by omega)] at hm
              have hwf2 : wf = 5 * fac := by rcases hwf with hw | hw; exact absurd hw.1 hm; exact hw.2
              rcases hfac with ⟨hm1, hf1⟩ | ⟨hm2, hf2⟩
              · have := cl5 d (by omega) (by omega) tu htu
                rw [if_pos hm1, show d % 5 = d by omega] at this
                rw [show d2 = 4 by omega]; exact this
              · have := cl5 (5 * d2 + d) (by omega) (by omega) tu htu
                rw [if_neg (by omega), show (5 * d2 + d) % 5 = d by omega, show (5 * d2 + d) / 5 = d2 by omega] at this
                exact this
            · exact (cl4 s' e0 (by omega)).mo mo5 (Int.le_refl _) e0 (by omega)
          · have hmk : ¬ X4 59 (h * 577 + s) = 0 := by rcases hwf with hw | hw; omega; exact hw.1
            intro J2 hJ2
            have k4 : ∀ d2 : Int, d2 = (if men = 1 then 4 else y / 5) → J2 d2 := by
              intro d2 hd2
              have rd2 : 0 ≤ d2 ∧ d2 ≤ 4 := by rw [hd2]; split <;> omega
              refine hJ2 d2 ?_
              have hx5 : Fx scC B X5 := hx.trans (f5.sub sub)
              have go : ∀ (X6 : XT) (tu : Int) (Q2 : XT → Prop), (tu = 0 ∨ tu = 1) → Fx [46, 48, 59] X X6 → MKS r T c X6 → MO h X4 X6 → (∀ X7, Fx [46, 48, 59] X X7 → MKS r T c X7 → MO h X6 X7 → ¬ X7 59 ((h + 1) * 577 + nyF r T c s h (y % 5) d2 tu) = 0 → Q2 X7) → w_X2_onward h s (y % 5) d2 tu X6 (fun v => w_X2_reach K (h + 1) v X6 Q2) := by
                intro X6 tu Q2 htu f6 m6 mo6 hq2
                refine e_onward w (p.fx f6 rfl) c0 c1 m6 (by omega) (by omega) a0 (by omega) (by rw [mo6.1 _ (by omega)]; exact hmk) (by omega) rd2 htu ?_
                have nr := nyF_r (r := r) (T := T) (c := c) (h := h) (d := y % 5) (d2 := d2) (tu := tu) (show 0 ≤ s ∧ s ≤ 576 by omega)
                refine e_reach b (hx.trans (f6.sub sub)) c0 c1 (p.fx f6 rfl) m6 (by omega) (by omega) nr.1 nr.2 (fun X7 f7 m7 y7 o7 => ?_)
                refine hq2 X7 (f6.trans f7) m7 ⟨fun j hj => o7 j (by omega), fun j hj => ?_⟩ y7
                by_cases hq : j = (h + 1) * 577 + nyF r T c s h (y % 5) d2 tu
                · rw [hq]; exact y7
                · rw [o7 j hq]; exact hj
              refine go X5 0 _ (Or.inl rfl) f5 m5 mo5 (fun X7 f7 m7 mo7 y7 => ⟨by omega, fun kv => ⟨⟨by omega, by omega, f7, m7, mo5.trans mo7, fun y' e0 e1 tu htu => ?_⟩, by dsimp only; omega⟩, fun kv => ?_⟩)
              · by_cases hq : y' = y
                · rw [hq, ← hd2, show tu = 0 by omega]; exact y7
                · exact mo7.2 _ (cl5 y' e0 (by omega) tu htu)
              · refine go X7 1 _ (Or.inr rfl) f7 m7 (mo5.trans mo7) (fun X8 f8 m8 mo8 y8 => ⟨⟨by omega, by omega, f8, m8, (mo5.trans mo7).trans mo8, fun y' e0 e1 tu htu => ?_⟩, by dsimp only; omega⟩)
                by_cases hq : y' = y
                · rw [hq, ← hd2]
                  rcases htu with rfl | ⟨rfl, _⟩
                  · exact mo8.2 _ y7
                  · exact y8
                · exact mo8.2 _ (mo7.2 _ (cl5 y' e0 (by omega) tu htu))
            exact ⟨by omega, fun km => k4 4 (by rw [if_pos (by omega)]), fun km => k4 _ (by rw [if_neg (by omega)])⟩
        refine e_isR m4 (by omega) (by omega) a0 (by omega) (fun hm => ?_) (fun hm => ?_)
        · intro J3 hJ3
          exact ⟨by decide, fun k => absurd k (by decide), fun _ => hJ3 _ (ways _ (Or.inr ⟨hm, rfl⟩))⟩
        · intro J3 hJ3
          exact ⟨by decide, fun _ => hJ3 _ (ways _ (Or.inl ⟨hm, rfl⟩)), fun k => absurd rfl k⟩
  exact ⟨by omega, fun k => key 1 (by omega), fun k => key 5 (by omega)⟩

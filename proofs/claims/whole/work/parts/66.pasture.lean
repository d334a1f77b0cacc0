/-! PAIRS OF CALLS THAT ONLY ASK: pasture -/
abbrev ycF (r : Int → Int) (T : TT) (c h : Int) : Int → Int → Int := ygF r T c (11 - (h + 1)).toNat
def stG (r : Int → Int) (T : TT) (c h s l : Int) : Int := fsF (fun d => gyF r T c (ycF r T c h) s h l d = mxF (fun d => gyF r T c (ycF r T c h) s h l d) 5) 5 0
def gpF (r : Int → Int) (T : TT) (c m : Int) : Nat → Int × Int
  | 0 => (bgF r c, m)
  | h + 1 => (nxF r T c (gpF r T c m h).1 (h : Int) (stG r T c (h : Int) (gpF r T c m h).1 (gpF r T c m h).2) 0, (gpF r T c m h).2 - oneF (stG r T c (h : Int) (gpF r T c m h).1 (gpF r T c m h).2))
theorem gpF_s {r : Int → Int} {T : TT} {c m : Int} {h : Nat} : gpF r T c m (h + 1) = (nxF r T c (gpF r T c m h).1 (h : Int) (stG r T c (h : Int) (gpF r T c m h).1 (gpF r T c m h).2) 0, (gpF r T c m h).2 - oneF (stG r T c (h : Int) (gpF r T c m h).1 (gpF r T c m h).2)) := rfl
theorem STP_is {r : Int → Int} {T : TT} {c h s l st : Int} (hs : STP (fun d => gyF r T c (ycF r T c h) s h l d) 5 st) : stG r T c h s l = st := by
  obtain ⟨a1, a2, a3, a4⟩ := hs
  unfold stG
  by_cases hn : fsF (fun d => gyF r T c (ycF r T c h) s h l d = mxF (fun d => gyF r T c (ycF r T c h) s h l d) 5) 5 0 = -1
  · exact absurd a3 (fsF_none 5 0 (by decide) hn st a1 (by omega))
  · obtain ⟨b1, b2, b3, b4⟩ := fsF_at 5 0 hn (by decide)
    rcases Int.lt_trichotomy (fsF (fun d => gyF r T c (ycF r T c h) s h l d = mxF (fun d => gyF r T c (ycF r T c h) s h l d) 5) 5 0) st with z | z | z
    · exact absurd b1 (a4 _ b3 z)
    · exact z
    · exact absurd a3 (b2 st a1 z)
theorem STP_any {g : Int → Int} (h : mxF g 5 ≠ -1) : ∃ st, STP g 5 st := by
  by_cases hn : fsF (fun d => g d = mxF g 5) 5 0 = -1
  · rcases mxF_at (g := g) 5 with e | ⟨d, d0, d1, e⟩
    · exact absurd e h
    · exact absurd e (fsF_none 5 0 (by decide) hn d d0 (by omega))
  · obtain ⟨b1, b2, b3, b4⟩ := fsF_at 5 0 hn (by decide)
    exact ⟨_, b3, by omega, b1, fun j a b => b2 j a b⟩
theorem yc_r {r : Int → Int} {T : TT} {c h : Int} (tr : TR T) (h0 : 0 ≤ h) : ∀ t l, 0 ≤ ycF r T c h t l ∧ ycF r T c h t l ≤ 20000 := by
  intro t l
  have := ygF_r (r := r) (c := c) tr (11 - (h + 1)).toNat t l
  show 0 ≤ ygF r T c (11 - (h + 1)).toNat t l ∧ ygF r T c (11 - (h + 1)).toNat t l ≤ 20000
  omega
theorem stG_s {r : Int → Int} {T : TT} {c h s l : Int} (tr : TR T) (h0 : 0 ≤ h) : STP (fun d => gyF r T c (ycF r T c h) s h l d) 5 (stG r T c h s l) := by
  have mg := mg_r (r := r) (T := T) (c := c) (s := s) (h := h) (l := l) (yc_r (r := r) (c := c) tr h0)
  obtain ⟨st, hs⟩ := STP_any (g := fun d => gyF r T c (ycF r T c h) s h l d) (by omega)
  rw [STP_is hs]; exact hs
/-- the step that is taken can be paid for -/
theorem stG_r {r : Int → Int} {T : TT} {c h s l : Int} (tr : TR T) (h0 : 0 ≤ h) (l0 : 0 ≤ l) : 0 ≤ stG r T c h s l ∧ stG r T c h s l ≤ 4 ∧ 0 ≤ l - oneF (stG r T c h s l) ∧ ¬ (stG r T c h s l < 4 ∧ l ≤ 0) := by
  have hs := stG_s (r := r) (c := c) (s := s) (l := l) tr h0
  have mg := mg_r (r := r) (T := T) (c := c) (s := s) (h := h) (l := l) (yc_r (r := r) (c := c) tr h0)
  obtain ⟨a1, a2, a3, a4⟩ := hs
  dsimp only at a3
  have ok : ¬ (stG r T c h s l < 4 ∧ l ≤ 0) := fun y => by
    have : gyF r T c (ycF r T c h) s h l (stG r T c h s l) = -1 := by unfold gyF; rw [if_pos y]
    omega
  refine ⟨a1, by omega, ?_, ok⟩
  unfold oneF
  split <;> omega
theorem gpF_r {r : Int → Int} {T : TT} {c m : Int} (w : W_cld r) (tr : TR T) (c0 : 0 ≤ c) (c1 : c < r 0) (m0 : 0 ≤ m) : ∀ h : Nat, (0 ≤ (gpF r T c m h).1 ∧ (gpF r T c m h).1 ≤ 576) ∧ 0 ≤ (gpF r T c m h).2 ∧ (gpF r T c m h).2 ≤ m := by
  intro h
  induction h with
  | zero => have := bgF_r w c0 c1; unfold gpF; dsimp only; omega
  | succ h ih =>
    have s := stG_r (r := r) (c := c) (h := (h : Int)) (s := (gpF r T c m h).1) tr (by omega) ih.2.1
    have o := oneF_r (stG r T c (h : Int) (gpF r T c m h).1 (gpF r T c m h).2)
    rw [gpF_s]
    exact ⟨nxF_r ih.1, by dsimp only; omega, by dsimp only; omega⟩
theorem yg_x {r : Int → Int} {T : TT} {c h s l : Int} (h0 : 0 ≤ h) (h1 : h ≤ 11) : wkF r T c h s + (if h = 11 then 0 else mxF (fun d => gyF r T c (ycF r T c h) s h l d) 5) = ygF r T c (11 - h).toNat s l := by
  by_cases hh : h = 11
  · rw [if_pos hh, hh, show ((11 : Int) - 11).toNat = 0 from rfl, ygF_0, Int.add_zero]
  · obtain ⟨k5, ek⟩ : ∃ k5 : Nat, (11 - h).toNat = k5 + 1 := ⟨(11 - h).toNat - 1, by omega⟩
    rw [if_neg hh, ek, ygF_s, show 11 - ((k5 + 1 : Nat) : Int) = h by omega]
    unfold ycF
    rw [show (11 - (h + 1)).toNat = k5 by omega]
theorem e_grazed {K : LK} {B X : XT} {r : Int → Int} {T : TT} {c m i : Int} {Q : Int → XT → Prop} (b : CE K B r T) (hx : Fx scC B X) (c0 : 0 ≤ c) (c1 : c < r 0) (m0 : 0 ≤ m) (m1 : m ≤ 11) (i0 : -1 ≤ i) (i1 : i ≤ 10) (q : ∀ X1, Fx scC B X1 → Q (if i = -1 then ygF r T c 11 (bgF r c) m else stG r T c i (gpF r T c m i.toNat).1 (gpF r T c m i.toNat).2) X1) : w_X4_grazed K c m i X Q := by
  have w := b.rw
  have tr := b.2.2.2
  have wc := w.2.2.1
  have bg := bgF_r wc c0 c1
  refine e_start b hx c0 c1 (e_take b hx c0 c1 (fun X2 f2 p2 => ?_))
  have f2b : Fx scC B X2 := hx.trans (f2.sub (by decide))
  refine e_spread b f2b c0 c1 p2 (by decide) (by decide) (by decide) bg.1 (by omega) (Or.inl rfl) (Or.inl rfl) (fun X3 f3 sp3 => ?_)
  have f3b : Fx scC B X3 := f2b.trans (f3.sub (by decide))
  obtain ⟨mk3, p3, st3, _, cl3⟩ := sp3
  have clo : ∀ h s d : Int, 0 ≤ h → h < 11 → 0 ≤ s → s ≤ 576 → ¬ X3 59 (h * 577 + s) = 0 → 0 ≤ d → d ≤ 4 → ¬ X3 59 ((h + 1) * 577 + nxF r T c s h d 0) = 0 := fun h s d a b c' d' hm d0 d1 => by
    have := cl3 h s a b c' d' hm d 4 0 ⟨d0, d1, Or.inl ⟨rfl, rfl⟩, Or.inl rfl⟩
    rw [nyF_4] at this; exact this
  refine ⟨fun x X4 => -1 ≤ x ∧ x ≤ 11 ∧ Fx [46, 48, 62, 63, 64] X3 X4 ∧ (x < 11 → ∀ s l : Int, 0 ≤ s → s ≤ 576 → ¬ X3 59 ((x + 1) * 577 + s) = 0 → 0 ≤ l → l ≤ m → X4 62 ((x + 1) % 2 * 6924 + s * 12 + l) = ygF r T c (11 - (x + 1)).toNat s l) ∧ ∀ h s : Int, x < h → h ≤ 10 → 0 ≤ s → s ≤ 576 → ¬ X3 59 (h * 577 + s) = 0 → CHO r T c m (ycF r T c h) h s X4, fun x _ => (x + 1).toNat, ⟨by decide, by decide, Fx.rf, fun z => absurd z (by omega), fun h s a b' => absurd a (by omega)⟩, ?_⟩
  rintro x X4 ⟨x0, x1, f4, y4, ch4⟩
  have f4b : Fx scC B X4 := f3b.trans (f4.sub (by decide))
  refine ⟨by omega, fun z => ?_, fun z => ?_⟩
  · have ex : x = -1 := by omega
    subst ex
    have mk4 : MKS r T c X4 := fun h s a b c d => by rw [f4 59 rfl]; exact mk3 h s a b c d
    refine ⟨by omega, fun hi => ?_, fun hi => ?_⟩
    · have gp0 := gpF_r (m := m) wc tr c0 c1 m0
      have q2 := q X4 f4b
      rw [if_neg hi] at q2
      refine ⟨fun s l st h => 0 ≤ h ∧ h ≤ i + 1 ∧ (s, l) = gpF r T c m h.toNat ∧ ¬ X3 59 (h * 577 + s) = 0 ∧ (h = i + 1 → st = stG r T c i (gpF r T c m i.toNat).1 (gpF r T c m i.toNat).2), fun _ _ _ h => (i + 1 - h).toNat, ⟨by decide, by omega, rfl, st3, fun z => absurd z (by omega)⟩, ?_⟩
      rintro s l st h ⟨h0, h1, hsl, rs, hst⟩
      refine ⟨by omega, by omega, fun k => by rw [hst (by omega)]; exact q2, fun k => ?_⟩
      have gr := gp0 h.toNat
      have e1 : (gpF r T c m h.toNat).1 = s := by rw [← hsl]
      have e2 : (gpF r T c m h.toNat).2 = l := by rw [← hsl]
      rw [e1, e2] at gr
      obtain ⟨a, ha, ea, da⟩ := ch4 h s (by omega) (by omega) gr.1.1 gr.1.2 rs
      have hd := STP_is (da l.toNat (by omega))
      rw [show ((l.toNat : Nat) : Int) = l by omega] at hd
      have sr := stG_r (r := r) (T := T) (c := c) (h := h) (s := s) (l := l) tr h0 gr.2.1
      have dg := dig_get (a := a) (l := l) (by omega) gr.2.1 (by omega)
      rw [← hd] at dg
      unfold w_X2_slotOf
      intro J hJ
      have key : J (a : Int) := by
        refine hJ _ ?_
        rw [dg]
        refine e_onward w (p3.fx f4 rfl) c0 c1 mk4 h0 (by omega) gr.1.1 gr.1.2 (by rw [f4 59 rfl]; exact rs) ⟨sr.1, sr.2.1⟩ (by omega) (Or.inl rfl) ?_
        rw [nyF_4]
        intro J2 hJ2
        have k2 : ∀ v : Int, v = oneF (stG r T c h s l) → J2 v := by
          rintro v rfl
          refine hJ2 _ ⟨⟨by omega, by omega, ?_, clo h s _ h0 (by omega) gr.1.1 gr.1.2 rs sr.1 sr.2.1, fun zz => ?_⟩, by dsimp only; omega⟩
          · rw [show (h + 1).toNat = h.toNat + 1 by omega, gpF_s, e1, e2, show ((h.toNat : Nat) : Int) = h by omega]
          · rw [show i = h by omega, e1, e2]
        exact ⟨by omega, fun zz => k2 1 (by unfold oneF; rw [if_pos (by omega)]), fun zz => k2 0 (by unfold oneF; rw [if_neg (by omega)])⟩
      exact ⟨by omega, fun zz => absurd zz (by omega), fun _ => ⟨fun zz => absurd zz (by omega), fun _ => ⟨by omega, by rw [ea]; exact key⟩⟩⟩
    · have q2 := q X4 f4b
      rw [if_pos hi] at q2
      refine e_yieldOf (by decide) (by decide) bg.1 (by omega) m0 m1 ?_
      have v0 := y4 (by decide) (bgF r c) m bg.1 (by omega) st3 m0 (Int.le_refl _)
      rw [show (-1 : Int) + 1 = 0 from rfl] at v0
      rw [v0]; exact q2
  · -- the worths of an hour
    refine ⟨fun f X5 => 0 ≤ f ∧ f ≤ 64 ∧ Fx [46, 48, 64] X4 X5 ∧ ∀ f' : Int, 0 ≤ f' → f' < f → X5 64 f' = vF T x f', fun f _ => (64 - f).toNat, ⟨by decide, by decide, Fx.rf, fun f' a b' => absurd (show f' < (0 : Int) from b') (by omega)⟩, ?_⟩
    rintro f X5 ⟨f0, f1, f5, v5⟩
    have f5b : Fx scC B X5 := f4b.trans (f5.sub (by decide))
    refine ⟨by omega, fun z2 => ?_, fun z2 => ?_⟩
    · refine ⟨fun s X6 => 0 ≤ s ∧ s ≤ 577 ∧ Fx [62, 63] X5 X6 ∧ (x < 11 → ∀ s l : Int, 0 ≤ s → s ≤ 576 → ¬ X3 59 ((x + 1) * 577 + s) = 0 → 0 ≤ l → l ≤ m → X6 62 ((x + 1) % 2 * 6924 + s * 12 + l) = ygF r T c (11 - (x + 1)).toNat s l) ∧ (∀ s' l : Int, 0 ≤ s' → s' < s → ¬ X3 59 (x * 577 + s') = 0 → 0 ≤ l → l ≤ m → X6 62 (x % 2 * 6924 + s' * 12 + l) = ygF r T c (11 - x).toNat s' l) ∧ (∀ h s : Int, x < h → h ≤ 10 → 0 ≤ s → s ≤ 576 → ¬ X3 59 (h * 577 + s) = 0 → CHO r T c m (ycF r T c h) h s X6) ∧ (x ≤ 10 → ∀ s' : Int, 0 ≤ s' → s' < s → ¬ X3 59 (x * 577 + s') = 0 → CHO r T c m (ycF r T c x) x s' X6), fun s _ => (577 - s).toNat, ⟨by decide, by decide, Fx.rf, fun hh s l a b' c' d e => ?_, fun s' l a b' => absurd (show s' < (0 : Int) from b') (by omega), fun h s a b' c' d e => ?_, fun _ s' a b' => absurd (show s' < (0 : Int) from b') (by omega)⟩, ?_⟩
      · rw [f5 62 rfl]; exact y4 hh s l a b' c' d e
      · have := ch4 h s a b' c' d e
        unfold CHO at this ⊢
        rw [f5 63 rfl]; exact this
      rintro s X6 ⟨s0, s1, f6, n6, y6, ch6, cx6⟩
      have f6b : Fx [46, 48, 62, 63, 64] X3 X6 := (f4.trans (f5.sub (by decide))).trans (f6.sub (by decide))
      refine ⟨by omega, fun z3 => ⟨⟨by omega, by omega, f6b, fun _ s l a b' c' d e => ?_, fun h s a b' c' d e => ?_⟩, by dsimp only; omega⟩, fun z3 => ?_⟩
      · rw [show x + -1 + 1 = x by omega] at c' ⊢
        exact y6 s l a (by omega) c' d e
      · by_cases hq : h = x
        · subst hq; exact cx6 b' s c' (by omega) e
        · exact ch6 h s (by omega) b' c' d e
      · have mk6 : MKS r T c X6 := fun h s a b c d => by rw [f6b 59 rfl]; exact mk3 h s a b c d
        refine e_isR mk6 (by omega) x1 s0 (by omega) (fun hm => ⟨by decide, fun z4 => absurd z4 (by decide), fun _ => ?_⟩) (fun hm => ⟨by decide, fun _ => ⟨⟨by omega, by omega, f6, n6, fun s' l a b' c' d e => ?_, ch6, fun hh s' a b' c' => ?_⟩, by dsimp only; omega⟩, fun z4 => absurd rfl z4⟩)
        · have hm0 : ¬ X3 59 (x * 577 + s) = 0 := by rw [← f6b 59 rfl]; exact hm
          refine e_graze (Y := ycF r T c x) (u := 20000) b (f5b.trans (f6.sub (by decide))) c0 c1 (p3.fx f6b rfl) mk6 (by omega) x1 s0 (by omega) hm m0 m1 (fun f a b' => by rw [f6 64 rfl]; exact v5 f a (by omega)) (yc_r tr (by omega)) (by decide) (fun hh d l a b' c' d' => ?_) (fun X7 f7 o7 p7 v7 ch7 => ?_)
          · have nr := nxF_r (r := r) (T := T) (c := c) (h := x) (d := d) (tu := 0) ⟨s0, show s ≤ 576 by omega⟩
            exact n6 hh _ l nr.1 nr.2 (clo x s d (by omega) hh s0 (by omega) hm0 a b') c' d'
          · refine ⟨⟨by omega, by omega, f6.trans f7, fun hh s' l a b' c' d e => ?_, fun s' l a b' c' d e => ?_, fun h s' a b' c' d e => ?_, fun hh s' a b' c' => ?_⟩, by dsimp only; omega⟩
            · rw [o7 _ (by omega)]; exact n6 hh s' l a b' c' d e
            · by_cases hq : s' = s
              · rw [hq, v7 l d e, yg_x (by omega) x1]
              · rw [o7 _ (by omega)]; exact y6 s' l a (by omega) c' d e
            · have := ch6 h s' a b' c' d e
              unfold CHO at this ⊢
              rw [p7 _ (by omega)]; exact this
            · by_cases hq : s' = s
              · rw [hq]; exact ch7 (by omega)
              · have := cx6 hh s' a (by omega) c'
                unfold CHO at this ⊢
                rw [p7 _ (by omega)]; exact this
        · by_cases hq : s' = s
          · rw [hq, ← f6b 59 rfl] at c'; exact absurd hm c'
          · exact y6 s' l a (by omega) c' d e
        · by_cases hq : s' = s
          · rw [hq, ← f6b 59 rfl] at c'; exact absurd hm c'
          · exact cx6 hh s' a (by omega) c'
    · unfold w_X0_worthOf
      refine e_ftold (hd := 2) (wo := 1) b f5b f0 (by omega) (by omega) x1 (by decide) (by decide) (by decide) (by decide) (by decide) (by decide) rfl (fun X6 f6 => ⟨by omega, ⟨by omega, by omega, (f5.trans (f6.sub (by decide))).st rfl, fun f' a b' => ?_⟩, by dsimp only; omega⟩)
      by_cases hq : f' = f
      · rw [hq, x_st_at]; rfl
      · rw [x_st_ne hq, f6 64 rfl]; exact v5 f' a (by omega)

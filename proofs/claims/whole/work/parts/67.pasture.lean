theorem yg_576 {r : Int → Int} {T : TT} {c : Int} (tr : TR T) : ∀ (k : Nat) (l : Int), ygF r T c k 576 l = 0 := by
  intro k
  induction k with
  | zero => intro l; rfl
  | succ k ih =>
    intro l
    have lo := mg_r (r := r) (T := T) (c := c) (s := 576) (h := 11 - ((k + 1 : Nat) : Int)) (l := l) (ygF_r (r := r) (c := c) tr k)
    have hi := mxF_b (g := fun d => gyF r T c (ygF r T c k) 576 (11 - ((k + 1 : Nat) : Int)) l d) (u := 0) (by decide) 5 (fun d _ _ => by
      (try dsimp only)
      unfold gyF
      split
      · decide
      · rw [nxF_576, ih]; decide)
    rw [ygF_s, show wkF r T c (11 - ((k + 1 : Nat) : Int)) 576 = 0 from rfl]
    omega
def YD (r : Int → Int) (T : TT) (c h : Int) (X : XT) : Prop := ∀ s l : Int, 0 ≤ s → s < 576 → 0 ≤ l → l ≤ 11 → X 98 (12 * (576 * h + s) + l) = ygF r T c (11 - h).toNat s l
theorem m_pastureBy {r : Int → Int} {T : TT} {X : XT} {c h s l d : Int} {Q : Int → Prop} (w : RW r) (tr : TR T) (e : X 79 = r) (k : WKS r T c X) (c0 : 0 ≤ c) (c1 : c < r 0) (h0 : 0 ≤ h) (h1 : h ≤ 10) (s0 : 0 ≤ s) (s1 : s < 576) (l0 : 0 ≤ l) (l1 : l ≤ 11) (d0 : 0 ≤ d) (d1 : d ≤ 4) (hf : YD r T c (h + 1) X) (q : Q (gyF r T c (ycF r T c h) s h l d)) : w_X12_pastureBy c h s l d X Q := by
  have nr := nxF_r (r := r) (T := T) (c := c) (h := h) (d := d) (tu := 0) ⟨s0, show s ≤ 576 by omega⟩
  have gr := gN_r nr
  refine m_next w e k c0 c1 h0 (by omega) s0 s1 (Or.inl rfl) d0 d1 ?_
  intro J hJ
  unfold gyF at q
  have key : ∀ v : Int, v = l - oneF d → J v := by
    rintro v rfl
    have o := oneF_r d
    have o4 : d < 4 → oneF d = 1 := fun z => by unfold oneF; rw [if_pos z]
    refine hJ _ ⟨by omega, fun z => ?_, fun z => ?_⟩
    · rw [if_neg (fun y => by have := o4 y.1; omega)] at q
      refine ⟨by omega, fun z2 => ?_, fun z2 => ?_⟩
      · have hs : ¬ nxF r T c s h d 0 = 576 := fun y => z2 ((gN_no nr).mpr y)
        rw [gN_id hs]
        refine ⟨by omega, ?_⟩
        rw [hf _ _ nr.1 (by omega) z (by omega)]
        exact q
      · have hs := (gN_no nr).mp z2
        rw [hs] at q
        have e0 : ycF r T c h 576 (l - oneF d) = 0 := yg_576 tr _ _
        rw [e0] at q; exact q
    · rw [if_pos] at q
      · exact q
      · unfold oneF at z
        split at z
        · exact ⟨by assumption, by omega⟩
        · omega
  exact ⟨by omega, fun z => key l (by unfold oneF; rw [if_neg (by omega)]; omega), fun z => key _ (by unfold oneF; rw [if_pos (by omega)])⟩
theorem m_findPasture {r : Int → Int} {T : TT} {X : XT} {c : Int} {Q : XT → Prop} (w : RW r) (hT : HRt r T) (tr : TR T) (e : ME r X) (kw0 : WKS r T c X) (c0 : 0 ≤ c) (c1 : c < r 0) (q : ∀ X1, Gx [91, 93, 98, 99] X X1 → WOR T X1 → (∀ h : Int, 0 ≤ h → h ≤ 11 → YD r T c h X1) → Q X1) : w_X12_findPasture c X Q := by
  refine ⟨fun x X1 => 0 ≤ x ∧ x ≤ 768 ∧ Gx [91, 93, 98, 99] X X1 ∧ ∀ j : Int, 0 ≤ j → j < x → X1 99 j = vF T (j / 64) (j % 64), fun x _ => (768 - x).toNat, ⟨by decide, by decide, Gx.rf, fun j a b => absurd (show j < (0 : Int) from b) (by omega)⟩, ?_⟩
  rintro x X1 ⟨x0, x1, g1, k1⟩
  refine ⟨by omega, fun z => ?_, fun z => ⟨x0, m_ftold hT tr (e.go g1 rfl) (by omega) (by omega) (by omega) (by omega) (by decide) (by decide) (by decide) (by decide) (by decide) (by decide) (fun X2 g2 => ⟨by omega, ⟨by omega, by omega, (g1.trans (g2.sub (by decide))).st rfl (by decide), fun j a b => ?_⟩, by dsimp only; omega⟩)⟩⟩
  rotate_left
  · by_cases hq : j = x
    · rw [hq, x_st_at]; rfl
    · rw [x_st_ne hq, g2.1 99 rfl (by decide)]; exact k1 j a (by omega)
  have wo1 : WOR T X1 := fun h f a b c' d => by
    have := k1 (64 * h + f) (by omega) (by omega)
    rw [show (64 * h + f) / 64 = h by omega, show (64 * h + f) % 64 = f by omega] at this
    exact this
  refine ⟨fun x X2 => -1 ≤ x ∧ x ≤ 11 ∧ Fx [98] X1 X2 ∧ ∀ h : Int, x < h → h ≤ 11 → YD r T c h X2, fun x _ => (x + 1).toNat, ⟨by decide, by decide, Fx.rf, fun h a b => absurd b (by omega)⟩, ?_⟩
  rintro x X2 ⟨x0', x1', f2, y2⟩
  have toG : ∀ X9, Fx [98] X1 X9 → Gx [91, 93, 98, 99] X X9 := fun X9 f => g1.trans ⟨fun d hd k => f d (el_sub (l2 := [91, 93, 98, 99]) (by decide) hd), fun _ _ => by rw [f 77 rfl]⟩
  refine ⟨by omega, fun z => q X2 (toG X2 f2) (fun h f a b c' d => by rw [f2 99 rfl]; exact wo1 h f a b c' d) (fun h a b => y2 h (by omega) b), fun z => ?_⟩
  refine ⟨fun s X3 => 0 ≤ s ∧ s ≤ 576 ∧ Fx [98] X1 X3 ∧ (∀ h : Int, x < h → h ≤ 11 → YD r T c h X3) ∧ ∀ s' l : Int, 0 ≤ s' → s' < s → 0 ≤ l → l ≤ 11 → X3 98 (12 * (576 * x + s') + l) = ygF r T c (11 - x).toNat s' l, fun s _ => (576 - s).toNat, ⟨by decide, by decide, f2, y2, fun s' l a b => absurd (show s' < (0 : Int) from b) (by omega)⟩, ?_⟩
  rintro s X3 ⟨s0, s1, f3, y3, v3⟩
  refine ⟨by omega, fun z2 => ⟨⟨by omega, by omega, f3, fun h a b => ?_⟩, by dsimp only; omega⟩, fun z2 => ?_⟩
  · by_cases hq : h = x
    · rw [hq]; exact fun s' l a b => v3 s' l a (by omega)
    · exact y3 h (by omega) b
  · have e3 : X3 79 = r := (e.go (toG X3 f3) rfl).1
    have wo3 : WOR T X3 := fun h f a b c' d => by rw [f3 99 rfl]; exact wo1 h f a b c' d
    have wr := wkF_r (r := r) tr c x s
    refine m_worth w e3 wo3 c0 c1 (by omega) (by omega) s0 (by omega) ?_
    refine ⟨fun l X4 => 0 ≤ l ∧ l ≤ 12 ∧ Fx [98] X1 X4 ∧ (∀ h : Int, x < h → h ≤ 11 → YD r T c h X4) ∧ (∀ s' l : Int, 0 ≤ s' → s' < s → 0 ≤ l → l ≤ 11 → X4 98 (12 * (576 * x + s') + l) = ygF r T c (11 - x).toNat s' l) ∧ ∀ l' : Int, 0 ≤ l' → l' < l → X4 98 (12 * (576 * x + s) + l') = ygF r T c (11 - x).toNat s l', fun l _ => (12 - l).toNat, ⟨by decide, by decide, f3, y3, v3, fun l' a b => absurd (show l' < (0 : Int) from b) (by omega)⟩, ?_⟩
    rintro l X4 ⟨l0, l1, f4, y4, v4, u4⟩
    refine ⟨by omega, fun z3 => ⟨⟨by omega, by omega, f4, y4, fun s' l a b c' d => ?_⟩, by dsimp only; omega⟩, fun z3 => ?_⟩
    · by_cases hq : s' = s
      · rw [hq]; exact u4 l c' (by omega)
      · exact v4 s' l a (by omega) c' d
    · have e4 : X4 79 = r := (e.go (toG X4 f4) rfl).1
      have kw4 : WKS r T c X4 := fun h s a b c' d => by rw [(toG X4 f4).1 96 rfl (by decide)]; exact kw0 h s a b c' d
      have mg := mg_r (r := r) (T := T) (c := c) (s := s) (h := x) (l := l) (yc_r (r := r) (c := c) tr (show 0 ≤ x by omega))
      obtain ⟨g, hg⟩ : ∃ g : Int → Int, (fun d => gyF r T c (ycF r T c x) s x l d) = g := ⟨_, rfl⟩
      have gd : ∀ d, gyF r T c (ycF r T c x) s x l d = g d := fun d => by rw [← hg]
      have yx := yg_x (r := r) (T := T) (c := c) (s := s) (l := l) (show 0 ≤ x by omega) (show x ≤ 11 by omega)
      rw [hg] at yx mg
      refine ⟨fun u d => 0 ≤ d ∧ d ≤ 5 ∧ ((x = 11 ∧ u = 0) ∨ (x < 11 ∧ u = max 0 (mxF g d.toNat))), fun _ d => (5 - d).toNat, ⟨by decide, by decide, ?_⟩, ?_⟩
      · by_cases hx : x = 11
        · exact Or.inl ⟨hx, rfl⟩
        · exact Or.inr ⟨by omega, rfl⟩
      rintro u d ⟨d0, d1, hu⟩
      intro J hJ
      have fin : (x = 11 ∨ d = 5) → J := by
        intro hd
        have hval : wkF r T c x s + u = ygF r T c (11 - x).toNat s l := by
          rcases hu with ⟨hx, rfl⟩ | ⟨hx, rfl⟩
          · rw [if_pos hx] at yx; exact yx
          · rw [if_neg (by omega)] at yx
            rw [show d.toNat = 5 by omega, show max 0 (mxF g 5) = mxF g 5 by omega]
            exact yx
        refine hJ ⟨by omega, ⟨by omega, by omega, f4.st rfl, fun h a b s' l' a1 b1 c' d' => ?_, fun s' l' a b c' d' => ?_, fun l' a b => ?_⟩, by dsimp only; omega⟩
        · rw [x_st_ne (by omega)]; exact y4 h a b s' l' a1 b1 c' d'
        · rw [x_st_ne (by omega)]; exact v4 s' l' a b c' d'
        · by_cases hq : l' = l
          · rw [hq, x_st_at]; exact hval
          · rw [x_st_ne (by omega)]; exact u4 l' a (by omega)
      refine ⟨by omega, fun z4 => fin (by omega), fun z4 => ⟨fun z5 => fin (by omega), fun z5 => ?_⟩⟩
      have hu2 := hu.resolve_left (fun y => by omega)
      have gr := gy_r (r := r) (T := T) (c := c) (s := s) (h := x) (l := l) (d := d) (yc_r (r := r) (c := c) tr (show 0 ≤ x by omega))
      have ms : mxF g (d + 1).toNat = max (mxF g d.toNat) (g d) := by rw [show (d + 1).toNat = d.toNat + 1 by omega, mxF_s, show ((d.toNat : Nat) : Int) = d by omega]
      have mb := mxF_b (g := g) (u := 20000) (by decide) d.toNat (fun j _ _ => by rw [← gd]; exact (gy_r (yc_r (r := r) (c := c) tr (show 0 ≤ x by omega))).2.1)
      refine m_pastureBy w tr e4 kw4 c0 c1 (by omega) (by omega) s0 (by omega) l0 (by omega) d0 (by omega) (y4 (x + 1) (by omega) (by omega)) ?_
      rw [gd] at gr ⊢
      exact ⟨by omega, by omega, fun z6 => ⟨⟨by omega, by omega, Or.inr ⟨hu2.1, by omega⟩⟩, by dsimp only; omega⟩, fun z6 => ⟨⟨by omega, by omega, Or.inr ⟨hu2.1, by omega⟩⟩, by dsimp only; omega⟩⟩
theorem st_576 {r : Int → Int} {T : TT} {c h l : Int} (tr : TR T) (h0 : 0 ≤ h) (h1 : h ≤ 10) (l0 : 0 < l) : stG r T c h 576 l = 0 := by
  have yx := yg_x (r := r) (T := T) (c := c) (s := 576) (l := l) h0 (show h ≤ 11 by omega)
  rw [yg_576 tr, if_neg (by omega), show wkF r T c h 576 = 0 from rfl] at yx
  refine STP_is ⟨by decide, by decide, ?_, fun j a b => absurd b (by omega)⟩
  have g0 : gyF r T c (ycF r T c h) 576 h l 0 = 0 := by
    unfold gyF
    rw [if_neg (by omega), nxF_576]
    exact yg_576 tr _ _
  dsimp only
  rw [g0]; omega
theorem q_pasture {LW : s_LW} (hW : LWq LW) (hst : LWst LW) (a1 a2 a3 : Int32) : Pair m_X11_pasture m_X12_pasture 0 0 (INV LW) [.int a1, .int a2, .int a3] := by
  obtain ⟨c, rfl, rc⟩ := iI_of a1
  obtain ⟨m, rfl, rm⟩ := iI_of a2
  obtain ⟨i, rfl, ri⟩ := iI_of a3
  refine pair_q hW hst (fun K X Q => w_X11_pasture K c m i X Q) (fun X Q => w_X12_pasture c m i X Q) (by decide) (by decide) (fun hK hn hp hf w => so_X11_pasture hK hn hp hf w) (fun hn hp w => so_X12_pasture hn hp w) (fun K X T b hT e => ?_)
  have w := b.rw
  have tr := b.2.2.2
  have wc := w.2.2.1
  have wc1 := wc.1
  obtain ⟨r, hr⟩ : ∃ r, X 79 = r := ⟨_, rfl⟩
  rw [hr] at b hT e w wc wc1
  have e0 : ∀ X1 : XT, ME r X1 → x_st X1 77 0 0 79 0 = r 0 := fun X1 m => by rw [x_st_c (by decide), m.1]
  have bad : ¬ (0 ≤ c ∧ c < r 0) ∨ ¬ (0 ≤ m ∧ m ≤ 11) ∨ ¬ (-1 ≤ i ∧ i ≤ 10) → w_X12_pasture c m i X (fun v2 X2 => v2 = -1 ∧ Gx kpL X X2) := fun hb => by
    have B : ((-1 : Int) = -1 ∧ Gx kpL X (x_st X 77 0 0)) := ⟨rfl, Gx_of Fx.rf Gx_th⟩
    unfold w_X12_pasture
    rw [e0 X e]
    exact ⟨rc, wc1, fun _ => B, fun z1 => ⟨rm, fun _ => B, fun z2 => ⟨ri, fun z3 => absurd hb (by omega), fun _ => B⟩⟩⟩
  unfold w_X11_pasture
  rw [b.nc]
  refine ⟨rc, by omega, fun z => bad (Or.inl z), fun z1 => ⟨rm, fun z => bad (Or.inr (Or.inl z)), fun z2 => ⟨ri, fun z3 => ?_, fun z => bad (Or.inr (Or.inr z))⟩⟩⟩
  have bg := bgF_r wc z1.1 z1.2
  refine e_grazed b Fx.rf z1.1 z1.2 z2.1 z2.2 z3.1 z3.2 (fun X1 f1 => ?_)
  obtain ⟨V, eV⟩ : ∃ V, (if i = -1 then ygF r T c 11 (bgF r c) m else stG r T c i (gpF r T c m i.toNat).1 (gpF r T c m i.toNat).2) = V := ⟨_, rfl⟩
  rw [eV]
  (try dsimp only)
  have e1 : ME r X1 := e.fx f1
  unfold w_X12_pasture
  rw [e0 X1 e1]
  refine ⟨rc, wc1, fun z => absurd (by omega) z, fun _ => ⟨rm, fun z => absurd z2 z, fun _ => ⟨ri, fun _ => ?_, fun z => absurd z3 z⟩⟩⟩
  refine m_works w hT tr e1.th z1.1 z1.2 (fun X2 g2 k2 => ?_)
  have e2 : ME r X2 := e1.th.go g2 rfl
  refine m_findPasture w hT tr e2 k2 z1.1 z1.2 (fun X3 g3 wo3 y3 => ?_)
  have e3 : X3 79 = r := (e2.go g3 rfl).1
  have kw : WKS r T c X3 := fun h s a b c d => by rw [g3.1 96 rfl (by decide)]; exact k2 h s a b c d
  have G3 : Gx kpL X X3 := Gx_of f1 ((Gx_th.trans (g2.sub (by decide))).trans (g3.sub (by decide)))
  refine m_begins w e3 z1.1 z1.2 ⟨fun hi => ?_, fun hi => ⟨by omega, ?_, G3⟩⟩
  rotate_left
  · have v0 := y3 0 (by decide) (by decide) (bgF r c) m bg.1 (by omega) z2.1 z2.2
    rw [show 12 * (576 * 0 + bgF r c) + m = 12 * bgF r c + m by omega] at v0
    rw [v0, ← eV, if_pos hi]; rfl
  rw [if_neg hi] at eV
  have gp0 := gpF_r (m := m) wc tr z1.1 z1.2 z2.1
  refine ⟨fun a l st h => 0 ≤ h ∧ h ≤ i + 1 ∧ a = gN (gpF r T c m h.toNat).1 ∧ l = (gpF r T c m h.toNat).2 ∧ (h = i + 1 → st = V), fun _ _ _ h => (i + 1 - h).toNat, ⟨by decide, by omega, (gN_id (show ¬ bgF r c = 576 by omega)).symm, rfl, fun z => absurd z (by omega)⟩, ?_⟩
  rintro a l st h ⟨h0, h1, ea, el, hst⟩
  refine ⟨by omega, fun k => ⟨hst (by omega), G3⟩, fun k => ?_⟩
  have gr := gp0 h.toNat
  obtain ⟨s, es⟩ : ∃ s, (gpF r T c m h.toNat).1 = s := ⟨_, rfl⟩
  rw [← el, es] at gr
  rw [es] at ea
  have sr := stG_r (r := r) (T := T) (c := c) (h := h) (s := s) (l := l) tr h0 gr.2.1
  intro J hJ
  have key : J (gN (nxF r T c s h (stG r T c h s l) 0)) (stG r T c h s l) := by
    refine hJ _ _ (fun J2 hJ2 => ?_)
    have k2 : ∀ v : Int, v = oneF (stG r T c h s l) → J2 v := by
      rintro v rfl
      refine hJ2 _ ⟨⟨by omega, by omega, ?_, ?_, fun zz => ?_⟩, by dsimp only; omega⟩
      · rw [show (h + 1).toNat = h.toNat + 1 by omega, gpF_s, es, ← el, show ((h.toNat : Nat) : Int) = h by omega]
      · rw [show (h + 1).toNat = h.toNat + 1 by omega, gpF_s, es, ← el, show ((h.toNat : Nat) : Int) = h by omega]
      · rw [← eV, show i = h by omega, es, ← el]
    exact ⟨by omega, fun zz => k2 0 (by unfold oneF; rw [if_neg (by omega)]), fun zz => k2 1 (by unfold oneF; rw [if_pos (by omega)])⟩
  have ar := gN_r gr.1
  refine ⟨by omega, fun z5 => ?_, fun z5 => ?_⟩
  · have hs : ¬ s = 576 := fun y => z5 (by rw [ea]; exact (gN_no gr.1).mpr y)
    have eas : a = s := by rw [ea, gN_id hs]
    rw [eas] at z5 ⊢
    refine ⟨by omega, m_worth w e3 wo3 z1.1 z1.2 h0 (by omega) gr.1.1 (by omega) ?_⟩
    have hS := stG_s (r := r) (T := T) (c := c) (h := h) (s := s) (l := l) tr h0
    have mg := mg_r (r := r) (T := T) (c := c) (s := s) (h := h) (l := l) (yc_r (r := r) (c := c) tr h0)
    have wr := wkF_r (r := r) tr c h s
    have yx := yg_x (r := r) (T := T) (c := c) (s := s) (l := l) h0 (show h ≤ 11 by omega)
    rw [if_neg (by omega)] at yx
    rw [y3 h h0 (by omega) s l gr.1.1 (by omega) gr.2.1 (by omega), ← yx, show ∀ x y : Int, x + y - x = y from fun x y => by omega]
    obtain ⟨q1, q2, q3, q4⟩ := hS
    dsimp only at q3 q4
    refine ⟨fun d => 0 ≤ d ∧ d ≤ stG r T c h s l, fun d => (5 - d).toNat, ⟨by decide, q1⟩, ?_⟩
    rintro d ⟨d0, d1⟩
    have gr2 := gy_r (r := r) (T := T) (c := c) (s := s) (h := h) (l := l) (d := d) (yc_r (r := r) (c := c) tr h0)
    refine m_pastureBy w tr e3 kw z1.1 z1.2 h0 (by omega) gr.1.1 (by omega) gr.2.1 (by omega) d0 (by omega) (y3 (h + 1) (by omega) (by omega)) ⟨by omega, by omega, fun zz => ?_, fun zz => ⟨⟨by omega, ?_⟩, by dsimp only; omega⟩⟩
    · have hd : d = stG r T c h s l := by
        by_cases hq : d = stG r T c h s l
        · exact hq
        · exact absurd zz (q4 d d0 (by omega))
      refine m_next w e3 kw z1.1 z1.2 h0 (by omega) gr.1.1 (by omega) (Or.inl rfl) d0 (by omega) ?_
      rw [hd]; exact key
    · by_cases hq : d = stG r T c h s l
      · exact absurd (by rw [hq]; exact q3) zz
      · omega
  · have hs : s = 576 := (gN_no gr.1).mp (by rw [← ea]; exact z5)
    refine ⟨by omega, fun zz => ?_, fun zz => ?_⟩
    · have h4 : stG r T c h s l = 4 := by omega
      rw [h4, hs, nxF_576] at key
      rw [z5]; exact key
    · have h4 : stG r T c h s l = 0 := by rw [hs]; exact st_576 tr h0 (by omega) (by omega)
      rw [h4, hs, nxF_576] at key
      rw [z5]; exact key

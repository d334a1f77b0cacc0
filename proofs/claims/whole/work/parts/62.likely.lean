theorem q_likely {LW : s_LW} (hW : LWq LW) (hst : LWst LW) (a1 a2 a3 : Int32) : PairL m_X11_likely m_X12_likely 0 0 (INV LW) [.int a1, .int a2, .int a3] := by
  obtain ⟨c, rfl, rc⟩ := iI_of a1
  obtain ⟨f, rfl, rf⟩ := iI_of a2
  obtain ⟨tl, rfl, rtl⟩ := iI_of a3
  refine pair_qL hW hst (fun K X Q => w_X11_likely K c f tl X Q) (fun X Q => w_X12_likely c f tl X Q) (by decide) (by decide) (fun hK hn hp hf w => so_X11_likely hK hn hp hf w) (fun hn hp w => so_X12_likely hn hp w) (fun K X T b hT e => ?_)
  have w := b.rw
  have wc := w.2.2.1
  have wc1 := wc.1
  have wt := w.2.2.2.2.2.2
  unfold W_trm at wt
  obtain ⟨r, hr⟩ : ∃ r, X 79 = r := ⟨_, rfl⟩
  rw [hr] at b hT e w wc wc1 wt
  have e0 : ∀ X1 : XT, ME r X1 → x_st X1 77 0 0 79 0 = r 0 := fun X1 m => by rw [x_st_c (by decide), m.1]
  have e7 : ∀ X1 : XT, ME r X1 → x_st X1 77 0 0 79 7 = r 7 := fun X1 m => by rw [x_st_c (by decide), m.1]
  have bad : ¬ (0 ≤ c ∧ c < r 0) ∨ ¬ (0 ≤ f ∧ f ≤ 63) ∨ ¬ (0 ≤ tl ∧ tl ≤ 11) → w_X12_likely c f tl X (fun v2 X2 => v2 = -1 ∧ Gx kpL X X2) := fun hb => by
    have B : ((-1 : Int) = -1 ∧ Gx kpL X (x_st X 77 0 0)) := ⟨rfl, Gx_of Fx.rf Gx_th⟩
    unfold w_X12_likely
    rw [e0 X e]
    exact ⟨rc, wc1, fun _ => B, fun z1 => ⟨rf, fun _ => B, fun z2 => ⟨rtl, fun z3 => absurd hb (by omega), fun _ => B⟩⟩⟩
  unfold w_X11_likely w_X11_isOver
  rw [b.nc]
  refine ⟨rc, by omega, fun z => ⟨by decide, fun _ => bad (Or.inl z), fun z2 => absurd rfl z2⟩, fun z1 => ⟨rf, fun z => ⟨by decide, fun _ => bad (Or.inr (Or.inl z)), fun z2 => absurd rfl z2⟩, fun z2 => ⟨by decide, fun z => absurd z (by decide), fun _ => ⟨rtl, fun z3 => ?_, fun z => bad (Or.inr (Or.inr z))⟩⟩⟩⟩
  have bg := bgF_r wc z1.1 z1.2
  have mm : ∀ (X1 : XT), Fx scC X X1 → w_X12_likely c f tl X1 (fun v2 X2 => v2 = smI (fun s => if shP r c s f then lkF r T c tl.toNat s else 0) 576 ∧ Gx kpL X X2) := by
    intro X1 f1
    have e1 : ME r X1 := e.fx f1
    unfold w_X12_likely
    rw [e0 X1 e1, e7 X1 e1]
    have et : ME r (x_st X1 77 0 0) := e1.th
    have g0 : Gx scM X1 (x_st X1 77 0 0) := Gx_th
    refine ⟨rc, wc1, fun z => absurd (by omega) z, fun _ => ⟨rf, fun z => absurd z2 z, fun _ => ⟨rtl, fun _ => ?_, fun z => absurd z3 z⟩⟩⟩
    generalize x_st X1 77 0 0 = X0 at et g0 ⊢
    have bnd : ∀ (h : Nat) (s : Int), 0 ≤ s → s < 576 → 0 ≤ lkF r T c h s ∧ lkF r T c h s ≤ 1000000000000 := fun h s a b' => lkF_b w z1.1 z1.2 h a (by omega)
    refine ⟨fun s X2 => 0 ≤ s ∧ s ≤ 576 ∧ Gx [91, 93, 102, 103] X0 X2 ∧ ∀ s' : Int, 0 ≤ s' → s' < s → X2 102 s' = lkF r T c 0 s', fun s _ => (576 - s).toNat, ⟨by decide, by decide, Gx.rf, fun s' a b => absurd (show s' < (0 : Int) from b) (by omega)⟩, ?_⟩
    rintro s X2 ⟨s0, s1, g2, k2⟩
    refine ⟨by omega, fun y => ?_, fun y => ?_⟩
    rotate_left
    · refine m_begins w (et.go g2 rfl).1 z1.1 z1.2 ?_
      have st : ∀ v : Int, v = lkF r T c 0 s → (0 ≤ s + 1 ∧ s + 1 ≤ 576 ∧ Gx [91, 93, 102, 103] X0 (x_st X2 102 s v) ∧ ∀ s' : Int, 0 ≤ s' → s' < s + 1 → (x_st X2 102 s v) 102 s' = lkF r T c 0 s') := by
        rintro v rfl
        refine ⟨by omega, by omega, g2.st rfl (by decide), fun s' a b => ?_⟩
        by_cases hq : s' = s
        · rw [hq, x_st_at]
        · rw [x_st_ne hq]; exact k2 s' a (by omega)
      exact ⟨by omega, fun z => ⟨by omega, st 0 (by unfold lkF; rw [if_neg (fun q => z q.symm)]), by dsimp only; omega⟩, fun z => ⟨by omega, st _ (by unfold lkF; rw [if_pos z.symm]), by dsimp only; omega⟩⟩
    refine ⟨fun h X3 => 0 ≤ h ∧ h ≤ tl ∧ Gx [91, 93, 102, 103] X0 X3 ∧ ∀ s' : Int, 0 ≤ s' → s' < 576 → X3 102 s' = lkF r T c h.toNat s', fun h _ => (tl - h).toNat, ⟨by decide, z3.1, g2, fun s' a b => k2 s' a (by omega)⟩, ?_⟩
    rintro h X3 ⟨h0, h1, g3, k3⟩
    have e3 : ME r X3 := et.go g3 rfl
    refine ⟨by omega, fun y2 => ?_, fun y2 => ?_⟩
    · refine ⟨fun v s => 0 ≤ s ∧ s ≤ 576 ∧ v = smI (fun s => if shP r c s f then lkF r T c tl.toNat s else 0) s.toNat, fun _ s => (576 - s).toNat, ⟨by decide, by decide, rfl⟩, ?_⟩
      rintro v s ⟨s0, s1, rfl⟩
      refine ⟨by omega, fun y3 => ⟨by rw [show s.toNat = 576 by omega], Gx_of f1 (g0.trans (g3.sub (by decide)))⟩, fun y3 => ?_⟩
      have es : smI (fun s => if shP r c s f then lkF r T c tl.toNat s else 0) (s + 1).toNat = smI (fun s => if shP r c s f then lkF r T c tl.toNat s else 0) s.toNat + if shP r c s f then lkF r T c tl.toNat s else 0 := by
        rw [show (s + 1).toNat = s.toNat + 1 by omega, smI_s, show ((s.toNat : Nat) : Int) = s by omega]
      have hsh := m_shades (r := r) (X := X3) (c := c) (s := s) (f := f) (Q := fun (v58 : Int) => ∀ J65 : Int → Prop, (∀ (v64 : Int), ((0 ≤ s + 1 ∧ s + 1 ≤ 576 ∧ smI (fun s => if shP r c s f then lkF r T c tl.toNat s else 0) s.toNat + v64 = smI (fun s => if shP r c s f then lkF r T c tl.toNat s else 0) (s + 1).toNat) ∧ (576 - (s + 1)).toNat < (576 - s).toNat) → J65 v64) → R32 v58 ∧ (v58 = 0 → J65 0) ∧ (¬ v58 = 0 → (0 ≤ s ∧ s < 576) ∧ J65 (X3 102 s))) w e3.1 z1.1 z1.2 s0 (by omega) z2.1 z2.2 (fun hs J hJ => ⟨by decide, fun z => absurd z (by decide), fun _ => ⟨by omega, hJ _ ⟨⟨by omega, by omega, ?_⟩, by omega⟩⟩⟩) (fun hs J hJ => ⟨by decide, fun _ => hJ _ ⟨⟨by omega, by omega, ?_⟩, by omega⟩, fun z => absurd rfl z⟩)
      · rw [gN_id (show ¬ s = 576 by omega)] at hsh; exact hsh
      · rw [es, if_pos hs, k3 s s0 (by omega), show h = tl by omega]
      · rw [es, if_neg hs]
    · refine ⟨fun s X4 => 0 ≤ s ∧ s ≤ 576 ∧ Gx [91, 93, 102, 103] X0 X4 ∧ (∀ s' : Int, 0 ≤ s' → s' < 576 → X4 102 s' = lkF r T c h.toNat s') ∧ ∀ t : Int, 0 ≤ t → t < s → X4 103 t = 0, fun s _ => (576 - s).toNat, ⟨by decide, by decide, g3, k3, fun s' a b => absurd (show s' < (0 : Int) from b) (by omega)⟩, ?_⟩
      rintro s X4 ⟨s0, s1, g4, k4, m4⟩
      have e4 : ME r X4 := et.go g4 rfl
      refine ⟨by omega, fun y3 => ⟨by rw [e4.1]; exact w.2.2.2.1.1, ?_⟩, fun y3 => ⟨by omega, ⟨by omega, by omega, g4.st rfl (by decide), fun s' a b => ?_, fun t a b => ?_⟩, by dsimp only; omega⟩⟩
      rotate_left
      · rw [x_st_c (by decide)]; exact k4 s' a b
      · by_cases hq : t = s
        · rw [hq, x_st_at]
        · rw [x_st_ne hq]; exact m4 t a (by omega)
      rw [e4.1]
      have fr := fRw_r w.2.2.2.1 c h
      refine ⟨fun s X5 => 0 ≤ s ∧ s ≤ 576 ∧ Gx [91, 93, 102, 103] X0 X5 ∧ (∀ s' : Int, 0 ≤ s' → s' < 576 → X5 102 s' = lkF r T c h.toNat s') ∧ ∀ t : Int, 0 ≤ t → t < 576 → X5 103 t = dfF r T c h (tlF (fRw r c h)) (lkF r T c h.toNat) s.toNat t, fun s _ => (576 - s).toNat, ⟨by decide, by decide, g4, k4, fun t a b => m4 t a (by omega)⟩, ?_⟩
      rintro s X5 ⟨s0', s1', g5, k5, m5⟩
      have e5 : ME r X5 := et.go g5 rfl
      refine ⟨by omega, fun y4 => ?_, fun y4 => ?_⟩
      · refine ⟨fun u X6 => 0 ≤ u ∧ u ≤ 576 ∧ Gx [91, 93, 102, 103] X0 X6 ∧ (∀ t : Int, 0 ≤ t → t < 576 → X6 103 t = dfF r T c h (tlF (fRw r c h)) (lkF r T c h.toNat) 576 t) ∧ ∀ t : Int, 0 ≤ t → t < u → X6 102 t = dfF r T c h (tlF (fRw r c h)) (lkF r T c h.toNat) 576 t, fun u _ => (576 - u).toNat, ⟨by decide, by decide, g5, fun t a b => by rw [m5 t a b, show s.toNat = 576 by omega], fun s' a b => absurd (show s' < (0 : Int) from b) (by omega)⟩, ?_⟩
        rintro u X6 ⟨u0, u1, g6, m6, k6⟩
        refine ⟨by omega, fun y5 => ⟨⟨by omega, by omega, g6, fun t a b => ?_⟩, by dsimp only; omega⟩, fun y5 => ⟨by omega, ⟨by omega, by omega, g6.st rfl (by decide), fun t a b => ?_, fun t a b => ?_⟩, by dsimp only; omega⟩⟩
        · rw [k6 t a (by omega), show (h + 1).toNat = h.toNat + 1 by omega, lkF_s, show ((h.toNat : Nat) : Int) = h by omega]
          rw [show dfF r T c h (tlF (fRw r c h)) (lkF r T c h.toNat) 577 t = dfF r T c h (tlF (fRw r c h)) (lkF r T c h.toNat) 576 t + (if nxF r T c ((576 : Nat) : Int) h (tlF (fRw r c h)) 0 = t then lkF r T c h.toNat ((576 : Nat) : Int) / 10 * (10 - r 7) else 0) + (if nxF r T c ((576 : Nat) : Int) h (tlF (fRw r c h)) 1 = t then lkF r T c h.toNat ((576 : Nat) : Int) / 10 * r 7 else 0) from dfF_s]
          rw [show ((576 : Nat) : Int) = 576 from rfl, nxF_576, nxF_576, if_neg (by omega), if_neg (by omega), Int.add_zero, Int.add_zero]
        · rw [x_st_c (by decide)]; exact m6 t a b
        · by_cases hq : t = u
          · rw [hq, x_st_at]; exact m6 u u0 (by omega)
          · rw [x_st_ne hq]; exact k6 t a (by omega)
      · have ps := bnd h.toNat s s0' (by omega)
        have es : (s + 1).toNat = s.toNat + 1 := by omega
        have ec : ((s.toNat : Nat) : Int) = s := by omega
        rw [k5 s s0' (by omega)]
        refine ⟨by omega, by omega, fun y5 => ⟨⟨by omega, by omega, g5, k5, fun t a b => ?_⟩, by dsimp only; omega⟩, fun y5 => ?_⟩
        · have ez : lkF r T c h.toNat s = 0 := by omega
          rw [m5 t a b, es, dfF_s, ec, ez, show (0 : Int) / 10 = 0 from rfl, Int.zero_mul, Int.zero_mul, ite_self, ite_self, Int.add_zero, Int.add_zero]
        · refine m_goOn w hT b.2.2.2 e5 z1.1 z1.2 s0' (by omega) h0 (by omega) (Or.inl rfl) fr.1 (by omega) (fun X6 g6 => ?_)
          have e6 : ME r X6 := e5.go g6 rfl
          refine m_goOn w hT b.2.2.2 e6 z1.1 z1.2 s0' (by omega) h0 (by omega) (Or.inr rfl) fr.1 (by omega) (fun X7 g7 => ?_)
          have g67 : Gx [91, 93] X5 X7 := g6.trans g7
          have g7b : Gx [91, 93, 102, 103] X0 X7 := g5.trans (g67.sub (by decide))
          have n0 := nxF_r (r := r) (T := T) (c := c) (h := h) (d := fRw r c h) (tu := 0) ⟨s0', show s ≤ 576 by omega⟩
          have n1 := nxF_r (r := r) (T := T) (c := c) (h := h) (d := fRw r c h) (tu := 1) ⟨s0', show s ≤ 576 by omega⟩
          have o0 := gN_r n0
          have o1 := gN_r n1
          have k7 : ∀ s' : Int, 0 ≤ s' → s' < 576 → X7 102 s' = lkF r T c h.toNat s' := fun s' a b => by rw [g67.1 102 rfl (by decide)]; exact k5 s' a b
          have m7 : ∀ t : Int, 0 ≤ t → t < 576 → X7 103 t = dfF r T c h (tlF (fRw r c h)) (lkF r T c h.toNat) s.toNat t := fun t a b => by rw [g67.1 103 rfl (by decide)]; exact m5 t a b
          rw [k7 s s0' (by omega)]
          have sn : ∀ t : Int, dfF r T c h (tlF (fRw r c h)) (lkF r T c h.toNat) (s + 1).toNat t = dfF r T c h (tlF (fRw r c h)) (lkF r T c h.toNat) s.toNat t + (if nxF r T c s h (fRw r c h) 0 = t then lkF r T c h.toNat s / 10 * (10 - r 7) else 0) + (if nxF r T c s h (fRw r c h) 1 = t then lkF r T c h.toNat s / 10 * r 7 else 0) := fun t => by
            rw [es, dfF_s, ec, nxF_tl ⟨s0', show s ≤ 576 by omega⟩, nxF_tl ⟨s0', show s ≤ 576 by omega⟩]
          refine ⟨by omega, by omega, fun J hJ => ?_⟩
          have second : ∀ X8 : XT, Gx [91, 93, 102, 103] X0 X8 → (∀ s' : Int, 0 ≤ s' → s' < 576 → X8 102 s' = lkF r T c h.toNat s') → (∀ t : Int, 0 ≤ t → t < 576 → X8 103 t = dfF r T c h (tlF (fRw r c h)) (lkF r T c h.toNat) s.toNat t + (if nxF r T c s h (fRw r c h) 0 = t then lkF r T c h.toNat s / 10 * (10 - r 7) else 0)) → J X8 := by
            intro X8 g8 k8 m8
            refine hJ X8 ⟨by omega, fun y6 => ⟨⟨by omega, by omega, g8, k8, fun t a b => ?_⟩, by dsimp only; omega⟩, fun y6 => ?_⟩
            · have hs := (gN_no n1).mp y6
              rw [sn, m8 t a b, hs, if_neg (show ¬ (576 : Int) = t by omega), Int.add_zero]
            · have hs : ¬ nxF r T c s h (fRw r c h) 1 = 576 := fun q => y6 ((gN_no n1).mpr q)
              rw [gN_id hs]
              refine ⟨by omega, by omega, ⟨by omega, by omega, g8.st rfl (by decide), fun s' a b => ?_, fun t a b => ?_⟩, by dsimp only; omega⟩
              · rw [x_st_c (by decide)]; exact k8 s' a b
              · rw [sn, ← m8 t a b]
                by_cases hq : nxF r T c s h (fRw r c h) 1 = t
                · rw [if_pos hq, hq, x_st_at]
                · rw [if_neg hq, x_st_ne (fun q => hq q.symm), Int.add_zero]
          refine ⟨by omega, fun y6 => second X7 g7b k7 (fun t a b => ?_), fun y6 => ?_⟩
          · have hs := (gN_no n0).mp y6
            rw [m7 t a b, hs, if_neg (show ¬ (576 : Int) = t by omega), Int.add_zero]
          · have hs : ¬ nxF r T c s h (fRw r c h) 0 = 576 := fun q => y6 ((gN_no n0).mpr q)
            rw [gN_id hs]
            refine ⟨by omega, by omega, second _ (g7b.st rfl (by decide)) (fun s' a b => ?_) (fun t a b => ?_)⟩
            · rw [x_st_c (by decide)]; exact k7 s' a b
            · rw [← m7 t a b]
              by_cases hq : nxF r T c s h (fRw r c h) 0 = t
              · rw [if_pos hq, hq, x_st_at]
              · rw [if_neg hq, x_st_ne (fun q => hq q.symm), Int.add_zero]
  refine e_look0 b (fun X1 f1 hr1 _ => ?_)
  have e97 : X1 9 1 = r 7 := by rw [f1 9 rfl]; exact b.trm (by decide) (by decide)
  refine e_start b f1 z1.1 z1.2 (e_take b (f1.st rfl) z1.1 z1.2 (fun X2 f2 p2 => ?_))
  have f2b : Fx scC X X2 := (f1.st rfl).trans (f2.sub (by decide))
  have h2 : X2 68 3 = r 7 := by rw [f2 68 rfl, x_st_at]; exact e97
  refine e_spread b f2b z1.1 z1.2 p2 (by decide) z3.1 z3.2 bg.1 (by omega) (Or.inl rfl) (Or.inr rfl) (fun X3 f3 sp3 => ?_)
  have f3b : Fx scC X X3 := f2b.trans (f3.sub (by decide))
  have h3 : X3 68 3 = r 7 := by rw [f3 68 rfl]; exact h2
  have hr3 : HEAR r 50 X3 := fun c h a b c' d => by rw [f3 50 rfl, f2 50 rfl, x_st_c (by decide)]; exact hr1 c h a b c' d
  obtain ⟨mk3, p3, st3, _, cl3⟩ := sp3
  refine ⟨fun x X4 => 0 ≤ x ∧ x ≤ 1154 ∧ Fx [69] X3 X4 ∧ ∀ j : Int, 0 ≤ j → j < x → X4 69 j = 0, fun x _ => (1154 - x).toNat, ⟨by decide, by decide, Fx.rf, fun s' a b => absurd (show s' < (0 : Int) from b) (by omega)⟩, ?_⟩
  rintro x X4 ⟨x0, x1, f4, k4⟩
  refine ⟨by omega, fun y => ?_, fun y => ⟨by omega, ⟨by omega, by omega, f4.st rfl, fun j a b => ?_⟩, by dsimp only; omega⟩⟩
  rotate_left
  · by_cases hq : j = x
    · rw [hq, x_st_at]
    · rw [x_st_ne hq]; exact k4 j a (by omega)
  refine e_setChance (by decide) (by decide) bg.1 (by omega) ?_
  refine ⟨fun h X5 => 0 ≤ h ∧ h ≤ tl ∧ Fx [69] X3 X5 ∧ (∀ s : Int, 0 ≤ s → s ≤ 576 → X5 69 (h % 2 * 577 + s) = lkF r T c h.toNat s) ∧ ∀ s : Int, 0 ≤ s → s ≤ 576 → ¬ lkF r T c h.toNat s = 0 → ¬ X3 59 (h * 577 + s) = 0, fun h _ => (tl - h).toNat, ⟨by decide, z3.1, f4.st rfl, fun s a b' => ?_, fun s a b' hn => ?_⟩, ?_⟩
  · show _ = if bgF r c = s then 1000000000000 else 0
    by_cases hq : bgF r c = s
    · rw [if_pos hq, ← hq, x_st_at]
    · rw [if_neg hq, x_st_ne (by omega)]; exact k4 _ (by omega) (by omega)
  · have hn : ¬ (if bgF r c = s then (1000000000000 : Int) else 0) = 0 := hn
    by_cases hq : bgF r c = s
    · rw [← hq]; exact st3
    · rw [if_neg hq] at hn; exact absurd rfl hn
  rintro h X5 ⟨h0, h1, f5, k5, m5⟩
  have eh : ((h.toNat : Nat) : Int) = h := by omega
  have f5b : Fx scC X X5 := f3b.trans (f5.sub (by decide))
  refine ⟨by omega, by omega, fun y2 => ?_, fun y2 => ?_⟩
  · have eht : h = tl := by omega
    subst eht
    refine ⟨fun v s => 0 ≤ s ∧ s ≤ 576 ∧ v = smI (fun s => if shP r c s f then lkF r T c h.toNat s else 0) s.toNat, fun _ s => (576 - s).toNat, ⟨by decide, by decide, rfl⟩, ?_⟩
    rintro v s ⟨s0, s1, rfl⟩
    have es : smI (fun s => if shP r c s f then lkF r T c h.toNat s else 0) (s + 1).toNat = smI (fun s => if shP r c s f then lkF r T c h.toNat s else 0) s.toNat + if shP r c s f then lkF r T c h.toNat s else 0 := by
      rw [show (s + 1).toNat = s.toNat + 1 by omega, smI_s, show ((s.toNat : Nat) : Int) = s by omega]
    refine ⟨by omega, fun y3 => ?_, fun y3 => ?_⟩
    · have := mm X5 f5b
      rw [show s.toNat = 576 by omega]
      exact this
    · have pc5 : X5 58 3 = c := by rw [f5 58 rfl]; exact p3.1
      unfold w_X2_shades
      rw [pc5]
      refine e_covers b f5b z1.1 z1.2 s0 (by omega) z2.1 z2.2 (fun hs => ⟨by decide, by decide, fun z => absurd z (by decide), fun _ => e_chanceOf h0 (by omega) s0 (by omega) ⟨⟨by omega, by omega, ?_⟩, by dsimp only; omega⟩⟩) (fun hs => ⟨by decide, by decide, fun _ => ⟨⟨by omega, by omega, ?_⟩, by dsimp only; omega⟩, fun z => absurd rfl z⟩)
      · rw [es, if_pos hs, k5 s s0 (by omega)]
      · rw [es, if_neg hs]; exact (Int.add_zero _).symm
  · have tr := tlF_r w.2.2.2.1 c h
    refine e_flag (fun c h a b c' d => by rw [f5 50 rfl]; exact hr3 c h a b c' d) z1.1 (by omega) h0 (by omega) ?_
    refine e_drift1 (P := lkF r T c h.toNat) w (p3.fx f5 rfl) z1.1 z1.2 (fun h s a b c d => by rw [f5 59 rfl]; exact mk3 h s a b c d) h0 (by omega) tr (by rw [f5 68 rfl]; exact h3) (fun s a b' => lkF_b w z1.1 z1.2 h.toNat a b') k5 (fun s a b' hn => by rw [f5 59 rfl]; exact m5 s a b' hn) (fun X6 f6 k6 => ?_)
    refine ⟨⟨by omega, by omega, f5.trans f6, fun s a b' => ?_, fun t a b' hn => ?_⟩, by dsimp only; omega⟩
    · rw [k6 s a b', show (h + 1).toNat = h.toNat + 1 by omega, lkF_s, eh]
    · rw [show (h + 1).toNat = h.toNat + 1 by omega, lkF_s, eh] at hn
      obtain ⟨s, s0, s1, hp, hor⟩ := lk_next 577 (Nat.le_refl _) hn
      have hm := m5 s s0 s1 hp
      rcases hor with ho | ho
      · have := cl3 h s h0 (by omega) s0 s1 hm (tlF (fRw r c h)) 4 0 ⟨tr.1, tr.2, Or.inl ⟨rfl, rfl⟩, Or.inl rfl⟩
        rw [nyF_4, ho] at this; exact this
      · have := cl3 h s h0 (by omega) s0 s1 hm (tlF (fRw r c h)) 4 1 ⟨tr.1, tr.2, Or.inl ⟨rfl, rfl⟩, Or.inr ⟨rfl, rfl⟩⟩
        rw [nyF_4, ho] at this; exact this

/-! PAIRS OF CALLS THAT TELL, over the texts: summer, the reference's and both -/
def Gs (l : List Nat) (X X1 : XT) : Prop := (∀ c, l.elem c = false → ¬ c = 77 → X1 c = X c) ∧ ∀ f, kpf f → ¬ f = 61 → X1 77 f = X 77 f
theorem Gs.rf {l : List Nat} {X : XT} : Gs l X X := ⟨fun _ _ _ => rfl, fun _ _ _ => rfl⟩
theorem Gs.trans {l : List Nat} {X X1 X2 : XT} (a : Gs l X X1) (b : Gs l X1 X2) : Gs l X X2 := ⟨fun c h k => (b.1 c h k).trans (a.1 c h k), fun f h k => (b.2 f h k).trans (a.2 f h k)⟩
theorem Gs.sub {l l2 : List Nat} {X X1 : XT} (a : Gs l X X1) (h : l.all (fun c => l2.elem c) = true) : Gs l2 X X1 := ⟨fun c hc k => a.1 c (el_sub h hc) k, a.2⟩
theorem Gx.gs {l : List Nat} {X X1 : XT} (a : Gx l X X1) : Gs l X X1 := ⟨a.1, fun f h _ => a.2 f h⟩
theorem Gs.st {l : List Nat} {X X1 : XT} {c : Nat} {i v : Int} (a : Gs l X X1) (h : l.elem c = true) (h7 : ¬ 77 = c) : Gs l X (x_st X1 c i v) := ⟨fun d hd k => by
  have hne : ¬ d = c := fun e => by rw [e, h] at hd; cases hd
  rw [x_st_c hne]; exact a.1 d hd k, fun f hf k => by rw [x_st_c h7]; exact a.2 f hf k⟩
theorem Gs.st61 {l : List Nat} {X X1 : XT} {v : Int} (a : Gs l X X1) : Gs l X (x_st X1 77 61 v) := ⟨fun d hd k => by rw [x_st_c k]; exact a.1 d hd k, fun f hf k => by rw [x_st_ne k]; exact a.2 f hf k⟩
theorem ME.gs {r : Int → Int} {l : List Nat} {X X1 : XT} (m : ME r X) (g : Gs l X X1) (h : l.elem 79 = false) : ME r X1 := ⟨(g.1 79 h (by decide)).trans m.1, (g.2 15 (by decide) (by decide)).trans m.2⟩
theorem m_drawDay {r : Int → Int} {T : TT} {X : XT} {s : Int} {Q : XT → Prop} (w : RW r) (hT : HRt r T) (tr : TR T) (e : ME r X) (es : X 77 61 = s) (hs : 0 ≤ s ∧ s ≤ 1000002) (q : ∀ X1, Gs [91, 93, 94] X X1 → X1 77 61 = (dyF r T s 11).1 → SPM r (spD r T s) X1 → Q X1) : w_X12_drawDay X Q := by
  have wc := w.2.2.1
  have wc1 := wc.1
  refine ⟨fun x X1 => 0 ≤ x ∧ x ≤ r 0 ∧ Gs [91, 93, 94] X X1 ∧ X1 77 61 = s ∧ ∀ c : Int, 0 ≤ c → c < x → X1 94 (12 * c) = gN (bgF r c), fun x _ => (r 0 - x).toNat, ⟨by decide, wc1.1, Gs.rf, es, fun c c0 c1 => absurd (show c < (0 : Int) from c1) (by omega)⟩, ?_⟩
  rintro x X1 ⟨x0, x1, g1, s1, h1⟩
  have e1 : ME r X1 := e.gs g1 rfl
  have n0 : X1 79 0 = r 0 := by rw [e1.1]
  refine ⟨by omega, by omega, fun k => ?_, fun k => ?_⟩
  · refine ⟨fun y X2 => 0 ≤ y ∧ y ≤ 11 ∧ Gs [91, 93, 94] X X2 ∧ X2 77 61 = (dyF r T s y.toNat).1 ∧ ∀ c : Int, 0 ≤ c → c < r 0 → ∀ h : Nat, (h : Int) ≤ y → X2 94 (12 * c + (h : Int)) = gN ((dyF r T s h).2 c), fun y _ => (11 - y).toNat, ⟨by decide, by decide, g1, s1, fun c c0 c1 h h0 => ?_⟩, ?_⟩
    · have : h = 0 := by omega
      subst this
      have := h1 c c0 (by omega)
      rw [show 12 * c + ((0 : Nat) : Int) = 12 * c by omega]; exact this
    rintro y X2 ⟨y0, y1, g2, s2, h2⟩
    refine ⟨by omega, fun k3 => q X2 g2 (by rw [s2, show y.toNat = 11 by omega]) (fun c h c0 c1 h0 h11 => ?_), fun k3 => ?_⟩
    · have := h2 c c0 c1 h.toNat (by omega)
      rw [show ((h.toNat : Nat) : Int) = h by omega] at this
      exact ⟨this, (dyF_r wc hs h.toNat).2 c c0 c1⟩
    · have ey : ((y.toNat : Nat) : Int) = y := by omega
      have ey1 : (y + 1).toNat = y.toNat + 1 := by omega
      obtain ⟨dr1, dr2⟩ := dyF_r (T := T) wc hs y.toNat
      refine ⟨fun z X3 => 0 ≤ z ∧ z ≤ r 0 ∧ Gs [91, 93, 94] X X3 ∧ X3 77 61 = sdI (dyF r T s y.toNat).2 (dyF r T s y.toNat).1 z.toNat ∧ (∀ c : Int, 0 ≤ c → c < r 0 → ∀ h : Nat, (h : Int) ≤ y → X3 94 (12 * c + (h : Int)) = gN ((dyF r T s h).2 c)) ∧ ∀ c : Int, 0 ≤ c → c < z → X3 94 (12 * c + y + 1) = gN ((dyF r T s (y.toNat + 1)).2 c), fun z _ => (r 0 - z).toNat, ⟨by decide, wc1.1, g2, s2, h2, fun c c0 c1 => absurd (show c < (0 : Int) from c1) (by omega)⟩, ?_⟩
      rintro z X3 ⟨z0, z1, g3, s3, h3, m3⟩
      have e3 : ME r X3 := e.gs g3 rfl
      have n3 : X3 79 0 = r 0 := by rw [e3.1]
      refine ⟨by omega, by omega, fun k4 => ⟨⟨by omega, by omega, g3, ?_, fun c c0 c1 h h0 => ?_⟩, by dsimp only; omega⟩, fun k4 => ?_⟩
      · rw [s3, ey1, dyF_1, show z = r 0 by omega]
      · by_cases hq : (h : Int) = y + 1
        · rw [hq, show h = y.toNat + 1 by omega, ← Int.add_assoc]; exact m3 c c0 (by omega)
        · exact h3 c c0 c1 h (by omega)
      · have zr : z < r 0 := by omega
        have ez : ((z.toNat : Nat) : Int) = z := by omega
        have ez1 : (z + 1).toNat = z.toNat + 1 := by omega
        have sp := h3 z z0 zr y.toNat (by omega)
        rw [ey] at sp
        have sr := dr2 z z0 zr
        have gr := gN_r sr
        have sdr := sdI_r (p := (dyF r T s y.toNat).2) dr1 z.toNat
        have fr := fRw_r w.2.2.2.1 z y
        rw [sp]
        have step : ∀ (X5 : XT) (v : Int), Gs [91, 93, 94] X X5 → X5 77 61 = sdI (dyF r T s y.toNat).2 (dyF r T s y.toNat).1 (z.toNat + 1) → (∀ j : Int, X5 94 j = X3 94 j) → v = gN ((dyF r T s (y.toNat + 1)).2 z) → (0 ≤ z + 1 ∧ z + 1 ≤ r 0 ∧ Gs [91, 93, 94] X (x_st X5 94 (12 * z + y + 1) v) ∧ (x_st X5 94 (12 * z + y + 1) v) 77 61 = sdI (dyF r T s y.toNat).2 (dyF r T s y.toNat).1 (z + 1).toNat ∧ (∀ c : Int, 0 ≤ c → c < r 0 → ∀ h : Nat, (h : Int) ≤ y → (x_st X5 94 (12 * z + y + 1) v) 94 (12 * c + (h : Int)) = gN ((dyF r T s h).2 c)) ∧ ∀ c : Int, 0 ≤ c → c < z + 1 → (x_st X5 94 (12 * z + y + 1) v) 94 (12 * c + y + 1) = gN ((dyF r T s (y.toNat + 1)).2 c)) := by
          rintro X5 v g5 s5 o5 rfl
          refine ⟨by omega, by omega, g5.st rfl (by decide), by rw [x_st_c (by decide), s5, ez1], fun c c0 c1 h h0 => ?_, fun c c0 c1 => ?_⟩
          · rw [x_st_ne (by omega), o5]; exact h3 c c0 c1 h h0
          · by_cases hc : c = z
            · rw [hc, x_st_at]
            · rw [x_st_ne (by omega), o5]; exact m3 c c0 (by omega)
        refine ⟨by omega, by omega, fun k5 => ?_, fun k5 => ⟨by omega, step X3 _ g3 ?_ (fun _ => rfl) ?_, by dsimp only; omega⟩⟩
        · have hg : ¬ (dyF r T s y.toNat).2 z = 576 := fun h => k5 ((gN_no sr).mpr h)
          unfold w_X12_draw
          rw [x_st_at, s3]
          refine ⟨by omega, by omega, by decide, by omega, by omega, by decide, ?_⟩
          generalize hX4 : x_st X3 77 61 ((sdI (dyF r T s y.toNat).2 (dyF r T s y.toNat).1 z.toNat * 1103 + 12345) % 1000003) = X4
          have g4 : Gs [91, 93, 94] X X4 := by rw [← hX4]; exact g3.st61
          have e4 : ME r X4 := e.gs g4 rfl
          have es4 : sdI (dyF r T s y.toNat).2 (dyF r T s y.toNat).1 (z.toNat + 1) = (sdI (dyF r T s y.toNat).2 (dyF r T s y.toNat).1 z.toNat * 1103 + 12345) % 1000003 := by rw [sdI_s, ez, if_neg hg]
          have s4 : X4 77 61 = sdI (dyF r T s y.toNat).2 (dyF r T s y.toNat).1 (z.toNat + 1) := by rw [es4, ← hX4, x_st_at]
          have wt := w.2.2.2.2.2.2
          unfold W_trm at wt
          have tu1 : tuI r (dyF r T s y.toNat).2 (dyF r T s y.toNat).1 z = if (sdI (dyF r T s y.toNat).2 (dyF r T s y.toNat).1 z.toNat * 1103 + 12345) % 1000003 % 10 < r 7 then 1 else 0 := by
            unfold tuI; rw [if_neg hg, es4]
          intro J hJ
          have key : ∀ tu : Int, tu = tuI r (dyF r T s y.toNat).2 (dyF r T s y.toNat).1 z → J tu := by
            rintro tu rfl
            refine hJ _ ?_
            rw [e4.1, gN_id hg]
            refine ⟨w.2.2.2.1.1, m_goOn w hT tr e4 z0 zr sr.1 (by omega) y0 (by omega) tuI_r (by omega) (by omega) (fun X5 g5 => ⟨by omega, step X5 _ (g4.trans ((g5.sub (by decide) : Gx [91, 93, 94] X4 X5).gs)) (by rw [g5.2 61 (by decide), s4]) (fun j => by rw [g5.1 94 rfl (by decide), ← hX4, x_st_c (by decide)]) ?_, by dsimp only; omega⟩)⟩
            rw [dyF_2, ey]
          rw [e4.1]
          refine ⟨by omega, by omega, fun k8 => key 0 ?_, fun k8 => key 1 ?_⟩
          · rw [tu1, if_neg (by omega)]
          · rw [tu1, if_pos (by omega)]
        · have hg : (dyF r T s y.toNat).2 z = 576 := (gN_no sr).mp k5
          rw [s3, sdI_s, ez, if_pos hg]
        · have hg : (dyF r T s y.toNat).2 z = 576 := (gN_no sr).mp k5
          rw [dyF_2, hg]; rfl
  · have xr : x < r 0 := by omega
    refine m_begins w e1.1 x0 xr ⟨by omega, ⟨by omega, by omega, g1.st rfl (by decide), by rw [x_st_c (by decide)]; exact s1, fun c c0 c1 => ?_⟩, by dsimp only; omega⟩
    have b := bgF_r wc x0 xr
    by_cases hc : c = x
    · rw [hc, x_st_at, gN_id (by omega)]
    · rw [x_st_ne (by omega)]; exact h1 c c0 (by omega)
-- a summer's days
def seF (r : Int → Int) (T : TT) (s : Int) : Nat → Int
  | 0 => s
  | d + 1 => (dyF r T (seF r T s d) 11).1
theorem seF_r {r : Int → Int} {T : TT} {s : Int} (w : W_cld r) (hs : 0 ≤ s ∧ s ≤ 1000002) : ∀ d : Nat, 0 ≤ seF r T s d ∧ seF r T s d ≤ 1000002 := by
  intro d
  induction d with
  | zero => exact hs
  | succ d ih => exact (dyF_r w ih 11).1
abbrev sbP (r : Int → Int) (T : TT) (s : Int) (d : Nat) (f : Int) : Prop := scF r T (spD r T (seF r T s d)) f 12 = true
def dcF (r : Int → Int) (T : TT) (s f : Int) : Nat → Int
  | 0 => 0
  | d + 1 => dcF r T s f d + if sbP r T s d f then 1 else 0
theorem dcF_s {r : Int → Int} {T : TT} {s f : Int} {d : Nat} : dcF r T s f (d + 1) = dcF r T s f d + if sbP r T s d f then 1 else 0 := rfl
def taF (r : Int → Int) (T : TT) (s : Int) : Nat → Int
  | 0 => 0
  | d + 1 => taF r T s d + smF (fun f => sbP r T s d f) 64
theorem taF_s {r : Int → Int} {T : TT} {s : Int} {d : Nat} : taF r T s (d + 1) = taF r T s d + smF (fun f => sbP r T s d f) 64 := rfl
theorem taF_r {r : Int → Int} {T : TT} {s : Int} : ∀ d : Nat, 0 ≤ taF r T s d ∧ taF r T s d ≤ 64 * d := by
  intro d
  induction d with
  | zero => exact ⟨Int.le_refl _, Int.le_refl _⟩
  | succ d ih =>
    have := smF_r (p := fun f => sbP r T s d f) 64
    rw [taF_s]; omega
/-- the fields' days behind so many days and fields -/
def DY (r : Int → Int) (T : TT) (s : Int) (d : Nat) (f : Int) (g : Int → Int) : Prop := ∀ j : Int, 0 ≤ j → j ≤ 63 → g j = if j < f then dcF r T s j (d + 1) else dcF r T s j d
theorem DY.go {r : Int → Int} {T : TT} {s : Int} {d : Nat} {f : Int} {g : Int → Int} (h : DY r T s d f g) (f0 : 0 ≤ f) (f1 : f ≤ 63) {v : Int} (hv : (sbP r T s d f ∧ v = 1) ∨ (¬ sbP r T s d f ∧ v = 0)) : DY r T s d (f + 1) (uI g f (g f + v)) := by
  intro j j0 j1
  have hj := h j j0 j1
  unfold uI
  by_cases hq : j = f
  · subst hq
    rw [if_pos rfl, if_pos (by omega), hj, if_neg (by omega), dcF_s]
    rcases hv with ⟨a, rfl⟩ | ⟨a, rfl⟩
    · rw [if_pos a]
    · rw [if_neg a]
  · rw [if_neg hq, hj]
    by_cases h2 : j < f
    · rw [if_pos h2, if_pos (by omega)]
    · rw [if_neg h2, if_neg (by omega)]
theorem DY.same {r : Int → Int} {T : TT} {s : Int} {d : Nat} {f : Int} {g : Int → Int} (h : DY r T s d f g) (hv : ¬ sbP r T s d f) : DY r T s d (f + 1) g := by
  intro j j0 j1
  have hj := h j j0 j1
  by_cases hq : j = f
  · subst hq
    rw [hj, if_neg (by omega), if_pos (by omega), dcF_s, if_neg hv, Int.add_zero]
  · rw [hj]
    by_cases h2 : j < f
    · rw [if_pos h2, if_pos (by omega)]
    · rw [if_neg h2, if_neg (by omega)]
theorem DY.next {r : Int → Int} {T : TT} {s : Int} {d : Nat} {g : Int → Int} (h : DY r T s d 64 g) : DY r T s (d + 1) 0 g := by
  intro j j0 j1
  have hj := h j j0 j1
  rw [hj, if_pos (by omega), if_neg (by omega)]
theorem CE.cg {K : LK} {B X1 : XT} {r : Int → Int} {T : TT} (b : CE K B r T) (f : ∀ d : Nat, d = 1 ∨ d = 2 ∨ d = 3 ∨ d = 4 ∨ d = 5 ∨ d = 6 ∨ d = 7 ∨ d = 8 ∨ d = 9 ∨ d = 10 → X1 d = B d) : CE K X1 r T := by
  have e1 : lawc X1 = lawc B := lawc_cg (f 1 (by omega)) (f 10 (by omega))
  refine ⟨by rw [f 1 (by omega), f 2 (by omega), f 3 (by omega), f 4 (by omega), f 5 (by omega), f 6 (by omega), f 7 (by omega), f 8 (by omega), f 9 (by omega)]; exact b.1, by rw [e1]; exact b.2.1, by rw [e1]; exact b.2.2.1, b.2.2.2⟩
theorem q_summer {LW : s_LW} (hW : LWq LW) (hst : LWst LW) (a1 a2 : Int32) : Pair m_X11_summer m_X12_summer 0 0 (INV LW) [.int a1, .int a2] := by
  obtain ⟨a, rfl, ra⟩ := iI_of a1
  obtain ⟨m, rfl, rm⟩ := iI_of a2
  refine pair_t hW hst (fun K X Q => w_X11_summer K a m X Q) (fun X Q => w_X12_summer a m X Q) (by decide) (by decide) (fun hK hn hp hf w => so_X11_summer hK hn hp hf w) (fun hn hp w => so_X12_summer hn hp w) (fun K X T b hT e hR => ?_)
  have w := b.rw
  have wc := w.2.2.1
  have bad : ¬ (0 ≤ a ∧ a ≤ 1000000) ∨ ¬ (1 ≤ m ∧ m ≤ 30) → w_X11_refuse (-1) X (fun v X1 => w_X12_summer a m X1 (fun v2 X2 => v2 = v ∧ RR X2 ∧ LWk X X2)) := by
    intro hb
    refine e_refuse (s := 0) (by omega) ?_
    generalize hX1 : x_st (x_st X 0 13 (-1)) 76 0 (X 76 0 + 1) = X1
    have fin : w_X12_tell (-1) (x_st X1 77 0 0) (fun v2 X2 => v2 = -1 ∧ RR X2 ∧ LWk X X2) := by
      refine m_tellN (by decide) (by decide) ?_
      generalize hY : x_st (x_st (x_st X1 77 0 0) 77 1 (-1)) 78 (- -1) ((x_st X1 77 0 0) 78 (- -1) + 1) = Y
      have yc : ∀ d, ¬ d = 0 → ¬ d = 76 → ¬ d = 77 → ¬ d = 78 → Y d = X d := fun d d2 d3 d4 d5 => by
        rw [← hY, x_st_c d5, x_st_c d4, x_st_c d4, ← hX1, x_st_c d3, x_st_c d2]
      have y77 : ∀ f : Int, Y 77 f = if f = 1 then -1 else if f = 0 then 0 else X 77 f := fun f => by
        rw [← hY, x_st_c (by decide), x_st_s]; unfold uI; rw [x_st_s]; unfold uI; rw [← hX1, x_st_c (by decide), x_st_c (by decide)]
      have y0 : ∀ f : Int, Y 0 f = if f = 13 then -1 else X 0 f := fun f => by
        rw [← hY, x_st_c (by decide), x_st_c (by decide), x_st_c (by decide), ← hX1, x_st_c (by decide), x_st_s]; rfl
      have y76 : ∀ f : Int, Y 76 f = if f = 0 then X 76 0 + 1 else X 76 f := fun f => by
        rw [← hY, x_st_c (by decide), x_st_c (by decide), x_st_c (by decide), ← hX1, x_st_s]; unfold uI; rw [x_st_c (by decide)]
      have y78 : ∀ f : Int, Y 78 f = if f = 1 then X 78 1 + 1 else X 78 f := fun f => by
        rw [← hY, x_st_s, x_st_c (by decide), x_st_c (by decide), ← hX1, x_st_c (by decide), x_st_c (by decide)]; rfl
      refine ⟨rfl, RR_tell hR (-1) (fun d dk d0 d76 d77 d78 => yc d d0 d76 d77 d78) ?_ ?_ ?_ ?_ ?_ ?_ ?_ ?_ ?_, LWk_of (fun d hd => yc d (by omega) (by omega) (by omega) (by omega))⟩
      · rw [y0]; rfl
      · rw [y77]; rfl
      · rw [y0, y77]; exact hR.2.1.2.1
      · rw [y0, y77]; exact hR.2.1.2.2
      · rw [y77]; rfl
      · rw [y77]; rfl
      · rw [y77]; rfl
      · rw [y77]; rfl
      · unfold R_ref
        rw [y76, y76, y76, y76, y76, y78, y78, y78, y78, y78]
        obtain ⟨z0, z1, z2, z3, z4⟩ := hR.2.2.2.1
        exact ⟨congrArg (· + 1) z0, z1, z2, z3, z4⟩
    exact ⟨ra, fun _ => fin, fun k => ⟨rm, fun k2 => absurd hb (by omega), fun _ => fin⟩⟩
  refine ⟨ra, fun k => bad (Or.inl k), fun ka => ⟨rm, fun km => ?_, fun k => bad (Or.inr k)⟩⟩
  have ha : 0 ≤ a ∧ a ≤ 1000002 := by omega
  -- the class's summer
  refine e_begin (r := X 79) (T := T) (fun X2 f2 c2 => ?_)
  generalize hX3 : x_st (x_st X2 52 5 1) 52 6 a = X3
  have f3 : Fx (52 :: 54 :: scC) X X3 := by rw [← hX3]; exact ((f2.sub (by decide) : Fx (52 :: 54 :: scC) X X2).st rfl).st rfl
  have p3 : X3 52 6 = a ∧ X3 52 5 = 1 := by rw [← hX3]; exact ⟨x_st_at, by rw [x_st_ne (by decide), x_st_at]⟩
  have ch3 : CHG (X 79) T X3 := fun h f s h0 h1 f0 f1 s0 s1 => by rw [← hX3, x_st_c (by decide), x_st_c (by decide)]; exact c2 h f s h0 h1 f0 f1 s0 s1
  have bb : ∀ X1, Fx (52 :: 54 :: scC) X X1 → CE K X1 (X 79) T := fun X1 f => b.cg (fun d hd => by rcases hd with rfl | rfl | rfl | rfl | rfl | rfl | rfl | rfl | rfl | rfl <;> exact f _ rfl)
  refine ⟨fun x X4 => 0 ≤ x ∧ x ≤ 64 ∧ Fx [54] X3 X4 ∧ ∀ j : Int, 0 ≤ j → j < x → X4 54 j = 0, fun x _ => (64 - x).toNat, ⟨by decide, by decide, Fx.rf, fun j j0 j1 => absurd (show j < (0 : Int) from j1) (by omega)⟩, ?_⟩
  rintro x X4 ⟨x0, x1, f4, z4⟩
  refine ⟨by omega, fun kx => ?_, fun kx => ⟨by omega, ⟨by omega, by omega, f4.st rfl, fun j j0 j1 => ?_⟩, by dsimp only; omega⟩⟩
  rotate_left
  · by_cases hq : j = x
    · rw [hq, x_st_at]
    · rw [x_st_ne hq]; exact z4 j j0 (by omega)
  have f4b : Fx (52 :: 54 :: scC) X X4 := f3.trans (f4.sub (by decide))
  refine e_hear (Or.inr ⟨rfl, rfl⟩) (bb X4 f4b) Fx.rf (fun X5 f5 hh5 => ?_)
  have f5b : Fx (52 :: 54 :: scC) X X5 := f4b.trans (f5.sub (by decide))
  refine ⟨fun al d X6 => 0 ≤ d ∧ d ≤ m ∧ al = taF (X 79) T a d.toNat ∧ Fx (52 :: 54 :: scC) X X6 ∧ X6 52 5 = 1 ∧ X6 52 6 = seF (X 79) T a d.toNat ∧ HEAR (X 79) 56 X6 ∧ CHG (X 79) T X6 ∧ DY (X 79) T a d.toNat 0 (X6 54), fun _ d _ => (m - d).toNat, ⟨by decide, by omega, rfl, f5b, by rw [f5 52 rfl, f4 52 rfl]; exact p3.2, by rw [f5 52 rfl, f4 52 rfl]; exact p3.1, hh5, fun h f s h0 h1 f0 f1 s0 s1 => by rw [f5 53 rfl, f4 53 rfl]; exact ch3 h f s h0 h1 f0 f1 s0 s1, fun j j0 j1 => ?_⟩, ?_⟩
  · rw [f5 54 rfl, z4 j j0 (by omega), if_neg (by omega)]; rfl
  rintro al d X6 ⟨d0, d1, rfl, f6, p5, p6, hh6, ch6, dy6⟩
  refine ⟨by omega, rm, fun kd => ?_, fun kd => ?_⟩
  rotate_left
  · -- a day more
    have sr := seF_r (T := T) wc ha d.toNat
    refine e_drawDay (b.cg (fun d hd => rfl)) f6 hh6 p6 sr (fun X7 f7 k7 s7 sp7 => ?_)
    have f7b : Fx (52 :: 54 :: scC) X X7 := f6.trans (f7.sub (by decide))
    have ed1 : (d + 1).toNat = d.toNat + 1 := by omega
    refine ⟨fun al f X8 => 0 ≤ f ∧ f ≤ 64 ∧ al = taF (X 79) T a d.toNat + smF (fun f => sbP (X 79) T a d.toNat f) f.toNat ∧ Fx (52 :: 54 :: scC) X X8 ∧ X8 52 5 = 1 ∧ X8 52 6 = seF (X 79) T a (d.toNat + 1) ∧ HEAR (X 79) 56 X8 ∧ CHG (X 79) T X8 ∧ SPX (X 79) 57 (spD (X 79) T (seF (X 79) T a d.toNat)) X8 ∧ DY (X 79) T a d.toNat f (X8 54), fun _ f _ => (64 - f).toNat, ⟨by decide, by decide, (Int.add_zero _).symm, f7b, by rw [k7 5 (by decide)]; exact p5, s7, fun c h c0 c1 h0 h1 => by rw [f7 56 rfl]; exact hh6 c h c0 c1 h0 h1, fun h f s h0 h1 f0 f1 s0 s1 => by rw [f7 53 rfl]; exact ch6 h f s h0 h1 f0 f1 s0 s1, sp7, by rw [f7 54 rfl]; exact dy6⟩, ?_⟩
    rintro al f X8 ⟨f0, f64, rfl, f8, q5, q6, hh8, ch8, sp8, dy8⟩
    refine ⟨by omega, fun kf => ⟨⟨by omega, by omega, ?_, f8, q5, by rw [ed1]; exact q6, hh8, ch8, ?_⟩, by dsimp only; omega⟩, fun kf => ?_⟩
    · rw [ed1, taF_s, show f.toNat = 64 by omega]
    · rw [ed1]
      rw [show f = 64 by omega] at dy8
      exact dy8.next
    · have ef : ((f.toNat : Nat) : Int) = f := by omega
      have ef1 : (f + 1).toNat = f.toNat + 1 := by omega
      refine e_scor (sp := spD (X 79) T (seF (X 79) T a d.toNat)) (Or.inr ⟨rfl, rfl⟩) (bb X8 f8) Fx.rf sp8 ch8 f0 (by omega) (fun hs X9 f9 c9 => ⟨by decide, fun k => absurd k (by decide), fun _ => ⟨by omega, ?_, by dsimp only; omega⟩⟩) (fun hs X9 f9 c9 => ⟨by decide, fun _ => ⟨?_, by dsimp only; omega⟩, fun k => absurd rfl k⟩)
      · refine ⟨by omega, by omega, ?_, (f8.trans (f9.sub (by decide))).st rfl, by rw [x_st_c (by decide), f9 52 rfl]; exact q5, by rw [x_st_c (by decide), f9 52 rfl]; exact q6, fun c h c0 c1 h0 h1 => by rw [x_st_c (by decide), f9 56 rfl]; exact hh8 c h c0 c1 h0 h1, fun h g s h0 h1 g0 g1 s0 s1 => by rw [x_st_c (by decide)]; exact c9 h g s h0 h1 g0 g1 s0 s1, fun c h c0 c1 h0 h1 => by rw [x_st_c (by decide), f9 57 rfl]; exact sp8 c h c0 c1 h0 h1, ?_⟩
        · rw [ef1, smF_s, ef, if_pos hs]; omega
        · rw [x_st_s, f9 54 rfl]; exact dy8.go f0 (by omega) (Or.inl ⟨hs, rfl⟩)
      · refine ⟨by omega, by omega, ?_, f8.trans (f9.sub (by decide)), by rw [f9 52 rfl]; exact q5, by rw [f9 52 rfl]; exact q6, fun c h c0 c1 h0 h1 => by rw [f9 56 rfl]; exact hh8 c h c0 c1 h0 h1, c9, fun c h c0 c1 h0 h1 => by rw [f9 57 rfl]; exact sp8 c h c0 c1 h0 h1, ?_⟩
        · rw [ef1, smF_s, ef, if_neg hs]; omega
        · rw [f9 54 rfl]; exact dy8.same hs
  -- the reference's
  have edm : d.toNat = m.toNat := by omega
  rw [edm] at p6 dy6 ⊢
  generalize hV : taF (X 79) T a m.toNat = V
  have vr := taF_r (r := X 79) (T := T) (s := a) m.toNat
  rw [hV] at vr
  show w_X12_summer a m (x_st X6 0 13 0) _
  generalize hZ : x_st X6 0 13 0 = Z
  have zc : ∀ c, ¬ c = 0 → (52 :: 54 :: scC).elem c = false → Z c = X c := fun c c0 c1 => by rw [← hZ, x_st_c c0]; exact f6 c c1
  have z79 : Z 79 = X 79 := zc 79 (by decide) rfl
  have z77 : Z 77 = X 77 := zc 77 (by decide) rfl
  refine ⟨ra, fun k => absurd ka k, fun _ => ⟨rm, fun _ => ?_, fun k => absurd km k⟩⟩
  generalize hY0 : x_st (x_st (x_st Z 77 0 0) 77 61 a) 77 63 1 = Y0
  have y0c : ∀ c, ¬ c = 77 → Y0 c = Z c := fun c hc => by rw [← hY0, x_st_c hc, x_st_c hc, x_st_c hc]
  have y07 : ∀ f : Int, Y0 77 f = if f = 63 then 1 else if f = 61 then a else if f = 0 then 0 else X 77 f := fun f => by
    rw [← hY0, x_st_s]; unfold uI; rw [x_st_s]; unfold uI; rw [x_st_s]; unfold uI; rw [z77]
  have eY0 : ME (X 79) Y0 := ⟨by rw [y0c 79 (by decide)]; exact z79, by rw [y07]; exact e.2⟩
  refine ⟨fun x Y => 0 ≤ x ∧ x ≤ 64 ∧ Fx [114] Y0 Y ∧ ∀ j : Int, 0 ≤ j → j < x → Y 114 j = 0, fun x _ => (64 - x).toNat, ⟨by decide, by decide, Fx.rf, fun j j0 j1 => absurd (show j < (0 : Int) from j1) (by omega)⟩, ?_⟩
  rintro x2 Y ⟨x20, x21, fY, zY⟩
  refine ⟨by omega, fun kx2 => ?_, fun kx2 => ⟨by omega, ⟨by omega, by omega, fY.st rfl, fun j j0 j1 => ?_⟩, by dsimp only; omega⟩⟩
  rotate_left
  · by_cases hq : j = x2
    · rw [hq, x_st_at]
    · rw [x_st_ne hq]; exact zY j j0 (by omega)
  have gY : Gs [91, 93, 94, 95, 114] Y0 Y := ⟨fun c hc _ => fY c (el_sub (l2 := [91, 93, 94, 95, 114]) (by decide) hc), fun f _ _ => by rw [fY 77 rfl]⟩
  refine ⟨fun al d Y1 => 0 ≤ d ∧ d ≤ m ∧ al = taF (X 79) T a d.toNat ∧ Gs [91, 93, 94, 95, 114] Y0 Y1 ∧ Y1 77 61 = seF (X 79) T a d.toNat ∧ DY (X 79) T a d.toNat 0 (Y1 114), fun _ d _ => (m - d).toNat, ⟨by decide, by omega, rfl, gY, by rw [fY 77 rfl, y07]; rfl, fun j j0 j1 => ?_⟩, ?_⟩
  · rw [zY j j0 (by omega), if_neg (by omega)]; rfl
  rintro al d2 Y1 ⟨d20, d21, rfl, g1, s1, dy1⟩
  have e1 : ME (X 79) Y1 := eY0.gs g1 rfl
  refine ⟨by omega, fun kd2 => ?_, fun kd2 => ?_⟩
  · have ed2 : d2.toNat = m.toNat := by omega
    rw [ed2] at s1 dy1 ⊢
    rw [hV]
    refine m_tellP vr.1 (by omega) ?_
    generalize hE : x_st Y1 77 1 0 = E
    have ec : ∀ c, ¬ c = 0 → ¬ c = 52 → ¬ c = 54 → ¬ c = 77 → ¬ c = 114 → kpL.elem c = false → E c = X c := fun c c0 c52 c54 c77 c114 hk => by
      have h1 : scC.elem c = false := el_sub (l := scC) (l2 := kpL) (by decide) hk
      have h2 : [91, 93, 94, 95].elem c = false := el_sub (l := [91, 93, 94, 95]) (l2 := kpL) (by decide) hk
      rw [← hE, x_st_c c77, g1.1 c (by simp at h2 ⊢; exact ⟨h2.1, h2.2.1, h2.2.2.1, h2.2.2.2, c114⟩) c77, y0c c c77, zc c c0 (by simp [c52, c54] at h1 ⊢; exact h1)]
    have e77 : ∀ f : Int, kpf f → ¬ f = 61 → E 77 f = if f = 1 then 0 else if f = 63 then 1 else X 77 f := fun f hf hf2 => by
      rw [← hE, x_st_s]; unfold uI
      by_cases hq : f = 1
      · rw [if_pos hq, if_pos hq]
      · rw [if_neg hq, if_neg hq, g1.2 f hf hf2, y07]
        by_cases hq2 : f = 63
        · rw [if_pos hq2, if_pos hq2]
        · rw [if_neg hq2, if_neg hq2, if_neg hf2, if_neg (fun h0 => by subst h0; exact absurd hf (by decide))]
    have e0 : ∀ f : Int, E 0 f = if f = 13 then 0 else X 0 f := fun f => by
      rw [← hE, x_st_c (by decide), g1.1 0 rfl (by decide), y0c 0 (by decide), ← hZ, x_st_s]; unfold uI; rw [f6 0 rfl]
    have e52 : E 52 5 = 1 := by rw [← hE, x_st_c (by decide), g1.1 52 rfl (by decide), y0c 52 (by decide), ← hZ, x_st_c (by decide)]; exact p5
    have e54 : E 54 = X6 54 := by rw [← hE, x_st_c (by decide), g1.1 54 rfl (by decide), y0c 54 (by decide), ← hZ, x_st_c (by decide)]
    have e114 : E 114 = Y1 114 := by rw [← hE, x_st_c (by decide)]
    refine ⟨rfl, ?_, LWk_of (fun c hc => by rcases hc with rfl | rfl | rfl | rfl | rfl | rfl | rfl | rfl | rfl <;> exact ec _ (by decide) (by decide) (by decide) (by decide) (by decide) rfl)⟩
    obtain ⟨p, s, t, rf, sm, kp, i0, i1, cs⟩ := hR
    have ed : ∀ c, (¬ c = 0 ∧ ¬ c = 52 ∧ ¬ c = 54 ∧ ¬ c = 77 ∧ ¬ c = 114) → kpL.elem c = false → E c = X c := fun c hc hk => ec c hc.1 hc.2.1 hc.2.2.1 hc.2.2.2.1 hc.2.2.2.2 hk
    unfold RR
    rw [ed 1 (by decide) rfl, ed 2 (by decide) rfl, ed 3 (by decide) rfl, ed 4 (by decide) rfl, ed 5 (by decide) rfl, ed 6 (by decide) rfl, ed 7 (by decide) rfl, ed 8 (by decide) rfl, ed 9 (by decide) rfl, ed 79 (by decide) rfl, ed 33 (by decide) rfl, ed 34 (by decide) rfl, ed 82 (by decide) rfl, ed 76 (by decide) rfl, ed 78 (by decide) rfl, ed 32 (by decide) rfl, ed 81 (by decide) rfl, ed 12 (by decide) rfl, ed 13 (by decide) rfl, ed 14 (by decide) rfl, ed 15 (by decide) rfl, ed 16 (by decide) rfl, ed 17 (by decide) rfl, ed 18 (by decide) rfl, ed 19 (by decide) rfl, ed 20 (by decide) rfl, ed 80 (by decide) rfl, ed 22 (by decide) rfl, ed 23 (by decide) rfl, ed 24 (by decide) rfl, ed 25 (by decide) rfl, ed 26 (by decide) rfl, ed 27 (by decide) rfl, ed 28 (by decide) rfl, ed 29 (by decide) rfl, ed 30 (by decide) rfl, ed 11 (by decide) rfl, ed 88 (by decide) rfl, ed 89 (by decide) rfl, ed 90 (by decide) rfl]
    refine ⟨p, ⟨?_, ?_, ?_⟩, t.cg ?_ ?_, rf, ⟨⟨?_, ?_, ?_⟩, fun j j0 j1 => ?_⟩, kp, i0, i1, cs.cg ?_⟩
    · rw [e0, e77 1 (by decide) (by decide)]; rfl
    · rw [e0, e77 6 (by decide) (by decide)]; exact s.2.1
    · rw [e0, e77 59 (by decide) (by decide)]; exact s.2.2
    · rw [e77 13 (by decide) (by decide)]; rfl
    · rw [e77 8 (by decide) (by decide)]; rfl
    · rw [e52, e77 63 (by decide) (by decide)]; rfl
    · rw [e52]; decide
    · rw [e52]; decide
    · rw [e54, e114, dy6 j j0 j1, dy1 j j0 j1]
    · rw [e77 15 (by decide) (by decide)]; rfl
  · have sr := seF_r (T := T) wc ha d2.toNat
    refine m_drawDay w hT b.2.2.2 e1 s1 sr (fun Y2 g2 s2 sp2 => ?_)
    have g2b : Gs [91, 93, 94, 95, 114] Y0 Y2 := g1.trans (g2.sub (by decide))
    have ed1 : (d2 + 1).toNat = d2.toNat + 1 := by omega
    refine ⟨fun al f Y3 => 0 ≤ f ∧ f ≤ 64 ∧ al = taF (X 79) T a d2.toNat + smF (fun f => sbP (X 79) T a d2.toNat f) f.toNat ∧ Gs [91, 93, 94, 95, 114] Y0 Y3 ∧ Y3 77 61 = seF (X 79) T a (d2.toNat + 1) ∧ SPM (X 79) (spD (X 79) T (seF (X 79) T a d2.toNat)) Y3 ∧ DY (X 79) T a d2.toNat f (Y3 114), fun _ f _ => (64 - f).toNat, ⟨by decide, by decide, (Int.add_zero _).symm, g2b, s2, sp2, by rw [g2.1 114 rfl (by decide)]; exact dy1⟩, ?_⟩
    rintro al f Y3 ⟨f0, f64, rfl, g3, s3, sp3, dy3⟩
    refine ⟨by omega, fun kf => ⟨⟨by omega, by omega, ?_, g3, by rw [ed1]; exact s3, ?_⟩, by dsimp only; omega⟩, fun kf => ?_⟩
    · rw [ed1, taF_s, show f.toNat = 64 by omega]
    · rw [ed1]
      rw [show f = 64 by omega] at dy3
      exact dy3.next
    · have ef : ((f.toNat : Nat) : Int) = f := by omega
      have ef1 : (f + 1).toNat = f.toNat + 1 := by omega
      have stp : ∀ (v : Int) (Y4 : XT), Gx [91, 93, 95] Y3 Y4 → ((sbP (X 79) T a d2.toNat f ∧ v = 1) ∨ (¬ sbP (X 79) T a d2.toNat f ∧ v = 0)) → (0 ≤ f + 1 ∧ f + 1 ≤ 64 ∧ taF (X 79) T a d2.toNat + smF (fun f => sbP (X 79) T a d2.toNat f) f.toNat + v = taF (X 79) T a d2.toNat + smF (fun f => sbP (X 79) T a d2.toNat f) (f + 1).toNat ∧ Gs [91, 93, 94, 95, 114] Y0 (x_st Y4 114 f (Y4 114 f + v)) ∧ (x_st Y4 114 f (Y4 114 f + v)) 77 61 = seF (X 79) T a (d2.toNat + 1) ∧ SPM (X 79) (spD (X 79) T (seF (X 79) T a d2.toNat)) (x_st Y4 114 f (Y4 114 f + v)) ∧ DY (X 79) T a d2.toNat (f + 1) ((x_st Y4 114 f (Y4 114 f + v)) 114)) := by
        intro v Y4 g4 hv
        refine ⟨by omega, by omega, ?_, (g3.trans ((g4.sub (by decide) : Gx [91, 93, 94, 95, 114] Y3 Y4).gs)).st rfl (by decide), by rw [x_st_c (by decide), g4.2 61 (by decide)]; exact s3, fun c h c0 c1 h0 h1 => by rw [x_st_c (by decide), g4.1 94 rfl (by decide)]; exact sp3 c h c0 c1 h0 h1, ?_⟩
        · rw [ef1, smF_s, ef]
          rcases hv with ⟨hv, rfl⟩ | ⟨hv, rfl⟩
          · rw [if_pos hv]; omega
          · rw [if_neg hv]; omega
        · rw [x_st_s, g4.1 114 rfl (by decide)]; exact dy3.go f0 (by omega) hv
      refine m_scor w hT b.2.2.2 (eY0.gs g3 rfl) sp3 f0 (by omega) (fun hs Y4 g4 => ?_) (fun hs Y4 g4 => ?_)
      · intro J hJ
        exact ⟨by decide, fun k => absurd k (by decide), fun _ => hJ 1 ⟨by omega, stp 1 Y4 g4 (Or.inl ⟨hs, rfl⟩), by dsimp only; omega⟩⟩
      · intro J hJ
        exact ⟨by decide, fun _ => hJ 0 ⟨by omega, stp 0 Y4 g4 (Or.inr ⟨hs, rfl⟩), by dsimp only; omega⟩, fun k => absurd rfl k⟩

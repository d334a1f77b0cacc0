/-! PAIRS OF CALLS THAT TELL, over the texts: summer -/
def sdI (p : Int → Int) (s0 : Int) : Nat → Int
  | 0 => s0
  | m + 1 => if p (m : Int) = 576 then sdI p s0 m else (sdI p s0 m * 1103 + 12345) % 1000003
theorem sdI_s {p : Int → Int} {s0 : Int} {m : Nat} : sdI p s0 (m + 1) = if p (m : Int) = 576 then sdI p s0 m else (sdI p s0 m * 1103 + 12345) % 1000003 := rfl
theorem sdI_r {p : Int → Int} {s0 : Int} (h : 0 ≤ s0 ∧ s0 ≤ 1000002) : ∀ m : Nat, 0 ≤ sdI p s0 m ∧ sdI p s0 m ≤ 1000002 := by
  intro m
  induction m with
  | zero => exact h
  | succ m ih => rw [sdI_s]; split <;> omega
def tuI (r : Int → Int) (p : Int → Int) (s0 : Int) (c : Int) : Int := if p c = 576 then 0 else if sdI p s0 (c.toNat + 1) % 10 < r 7 then 1 else 0
def dyF (r : Int → Int) (T : TT) (s : Int) : Nat → Int × (Int → Int)
  | 0 => (s, bgF r)
  | h + 1 => (sdI (dyF r T s h).2 (dyF r T s h).1 (r 0).toNat, fun c => nxF r T c ((dyF r T s h).2 c) (h : Int) (fRw r c (h : Int)) (tuI r (dyF r T s h).2 (dyF r T s h).1 c))
theorem dyF_1 {r : Int → Int} {T : TT} {s : Int} {h : Nat} : (dyF r T s (h + 1)).1 = sdI (dyF r T s h).2 (dyF r T s h).1 (r 0).toNat := rfl
theorem dyF_2 {r : Int → Int} {T : TT} {s : Int} {h : Nat} {c : Int} : (dyF r T s (h + 1)).2 c = nxF r T c ((dyF r T s h).2 c) (h : Int) (fRw r c (h : Int)) (tuI r (dyF r T s h).2 (dyF r T s h).1 c) := rfl
theorem dyF_r {r : Int → Int} {T : TT} {s : Int} (w : W_cld r) (hs : 0 ≤ s ∧ s ≤ 1000002) : ∀ h : Nat, (0 ≤ (dyF r T s h).1 ∧ (dyF r T s h).1 ≤ 1000002) ∧ ∀ c : Int, 0 ≤ c → c < r 0 → 0 ≤ (dyF r T s h).2 c ∧ (dyF r T s h).2 c ≤ 576 := by
  intro h
  induction h with
  | zero => exact ⟨hs, fun c c0 c1 => by have := bgF_r w c0 c1; show 0 ≤ bgF r c ∧ bgF r c ≤ 576; omega⟩
  | succ h ih => exact ⟨sdI_r ih.1 _, fun c c0 c1 => nxF_r (ih.2 c c0 c1)⟩
theorem tuI_r {r p : Int → Int} {s c : Int} : tuI r p s c = 0 ∨ tuI r p s c = 1 := by
  unfold tuI; split
  · exact Or.inl rfl
  · split
    · exact Or.inr rfl
    · exact Or.inl rfl
def spD (r : Int → Int) (T : TT) (s : Int) : Int → Int → Int := fun c h => (dyF r T s h.toNat).2 c
theorem e_drawDay {K : LK} {B X : XT} {r : Int → Int} {T : TT} {s : Int} {Q : XT → Prop} (b : CE K B r T) (hx : Fx (52 :: 54 :: scC) B X) (hh : HEAR r 56 X) (es : X 52 6 = s) (hs : 0 ≤ s ∧ s ≤ 1000002) (q : ∀ X1, Fx [46, 48, 52, 57] X X1 → (∀ f : Int, ¬ f = 6 → X1 52 f = X 52 f) → X1 52 6 = (dyF r T s 11).1 → SPX r 57 (spD r T s) X1 → Q X1) : w_X9_drawDay K X Q := by
  have w := b.rw
  have wc := w.2.2.1
  have wc1 := wc.1
  have toC : ∀ X1, Fx [46, 48, 52, 57] X X1 → Fx (52 :: 54 :: scC) B X1 := fun X1 f => hx.trans (f.sub (by decide))
  -- e_goOn and the like want the class's scratch alone: 52 is none; the world with 52, 54 put back serves
  have cut : ∀ X1, Fx (52 :: 54 :: scC) B X1 → ∀ d, (52 :: 54 :: scC).elem d = false → X1 d = B d := fun X1 f d h => f d h
  have b2 : ∀ X1, Fx (52 :: 54 :: scC) B X1 → CE K X1 r T := fun X1 f => by
    have e1 : lawc X1 = lawc B := lawc_cg (f 1 rfl) (f 10 rfl)
    refine ⟨by rw [f 1 rfl, f 2 rfl, f 3 rfl, f 4 rfl, f 5 rfl, f 6 rfl, f 7 rfl, f 8 rfl, f 9 rfl]; exact b.1, by rw [e1]; exact b.2.1, by rw [e1]; exact b.2.2.1, b.2.2.2⟩
  refine ⟨fun x X1 => 0 ≤ x ∧ x ≤ r 0 ∧ Fx [57] X X1 ∧ ∀ c : Int, 0 ≤ c → c < x → X1 57 (c * 12) = bgF r c, fun x _ => (r 0 - x).toNat, ⟨by decide, wc1.1, Fx.rf, fun c c0 c1 => absurd (show c < (0 : Int) from c1) (by omega)⟩, ?_⟩
  rintro x X1 ⟨x0, x1, f1, h1⟩
  have g1 : Fx (52 :: 54 :: scC) B X1 := hx.trans (f1.sub (by decide))
  have n9 : X1 1 9 = r 0 := by rw [g1 1 rfl, b.nc]
  refine ⟨by omega, by omega, fun k => ?_, fun k => ?_⟩
  · refine ⟨fun y X2 => 0 ≤ y ∧ y ≤ 11 ∧ Fx [46, 48, 52, 57] X X2 ∧ (∀ f : Int, ¬ f = 6 → X2 52 f = X 52 f) ∧ X2 52 6 = (dyF r T s y.toNat).1 ∧ ∀ c : Int, 0 ≤ c → c < r 0 → ∀ h : Nat, (h : Int) ≤ y → X2 57 (c * 12 + (h : Int)) = (dyF r T s h).2 c, fun y _ => (11 - y).toNat, ⟨by decide, by decide, f1.sub (by decide), fun f _ => by rw [f1 52 rfl], by rw [f1 52 rfl]; exact es, fun c c0 c1 h h0 => ?_⟩, ?_⟩
    · have : h = 0 := by omega
      subst this
      have := h1 c c0 (by omega)
      rw [show c * 12 + ((0 : Nat) : Int) = c * 12 by omega]; exact this
    rintro y X2 ⟨y0, y1, f2, k2, e2, h2⟩
    refine ⟨by omega, fun k3 => q X2 f2 k2 (by rw [e2, show y.toNat = 11 by omega]) (fun c h c0 c1 h0 h11 => ?_), fun k3 => ?_⟩
    · have := h2 c c0 c1 h.toNat (by omega)
      rw [show ((h.toNat : Nat) : Int) = h by omega] at this
      exact ⟨this, (dyF_r wc hs h.toNat).2 c c0 c1⟩
    · have ey : ((y.toNat : Nat) : Int) = y := by omega
      have ey1 : (y + 1).toNat = y.toNat + 1 := by omega
      obtain ⟨dr1, dr2⟩ := dyF_r (T := T) wc hs y.toNat
      refine ⟨fun z X3 => 0 ≤ z ∧ z ≤ r 0 ∧ Fx [46, 48, 52, 57] X X3 ∧ (∀ f : Int, ¬ f = 6 → X3 52 f = X 52 f) ∧ X3 52 6 = sdI (dyF r T s y.toNat).2 (dyF r T s y.toNat).1 z.toNat ∧ (∀ c : Int, 0 ≤ c → c < r 0 → ∀ h : Nat, (h : Int) ≤ y → X3 57 (c * 12 + (h : Int)) = (dyF r T s h).2 c) ∧ ∀ c : Int, 0 ≤ c → c < z → X3 57 (c * 12 + (y + 1)) = (dyF r T s (y.toNat + 1)).2 c, fun z _ => (r 0 - z).toNat, ⟨by decide, wc1.1, f2, k2, e2, h2, fun c c0 c1 => absurd (show c < (0 : Int) from c1) (by omega)⟩, ?_⟩
      rintro z X3 ⟨z0, z1, f3, k5, e3, h3, m3⟩
      have g3 := toC X3 f3
      have n9 : X3 1 9 = r 0 := by rw [g3 1 rfl, b.nc]
      refine ⟨by omega, by omega, fun k4 => ⟨⟨by omega, by omega, f3, k5, ?_, fun c c0 c1 h h0 => ?_⟩, by dsimp only; omega⟩, fun k4 => ?_⟩
      · rw [e3, ey1, dyF_1, show z = r 0 by omega]
      · by_cases hq : (h : Int) = y + 1
        · rw [hq, show h = y.toNat + 1 by omega]; exact m3 c c0 (by omega)
        · exact h3 c c0 c1 h (by omega)
      · have zr : z < r 0 := by omega
        have ez : ((z.toNat : Nat) : Int) = z := by omega
        have ez1 : (z + 1).toNat = z.toNat + 1 := by omega
        have sp := h3 z z0 zr y.toNat (by omega)
        rw [ey] at sp
        have sr := dr2 z z0 zr
        have sdr := sdI_r (p := (dyF r T s y.toNat).2) dr1 z.toNat
        have fr := tlF_r w.2.2.2.1 z y
        refine ⟨by omega, fun k6 => absurd (by omega) k6, fun _ => ⟨by omega, fun _ => ⟨by omega, ?_⟩, fun k6 => absurd (by omega) k6⟩⟩
        rw [sp]
        have key : ∀ (X4 : XT) (tu : Int), Fx [52] X3 X4 → (∀ f : Int, ¬ f = 6 → X4 52 f = X3 52 f) → X4 52 6 = sdI (dyF r T s y.toNat).2 (dyF r T s y.toNat).1 (z.toNat + 1) → tu = tuI r (dyF r T s y.toNat).2 (dyF r T s y.toNat).1 z → ∀ Q2 : XT → Prop, (∀ X65, (0 ≤ z + 1 ∧ z + 1 ≤ r 0 ∧ Fx [46, 48, 52, 57] X X65 ∧ (∀ f : Int, ¬ f = 6 → X65 52 f = X 52 f) ∧ X65 52 6 = sdI (dyF r T s y.toNat).2 (dyF r T s y.toNat).1 (z + 1).toNat ∧ (∀ c : Int, 0 ≤ c → c < r 0 → ∀ h : Nat, (h : Int) ≤ y → X65 57 (c * 12 + (h : Int)) = (dyF r T s h).2 c) ∧ ∀ c : Int, 0 ≤ c → c < z + 1 → X65 57 (c * 12 + (y + 1)) = (dyF r T s (y.toNat + 1)).2 c) → Q2 X65) → w_X8_goOn K 56 57 z y tu X4 Q2 := by
          rintro X4 tu f4 k4' e4 rfl Q2 hQ2
          have g4 : Fx (52 :: 54 :: scC) B X4 := g3.trans (f4.sub (by decide))
          have hd : X4 56 (z * 11 + y) = tlF (fRw r z y) := by rw [f4 56 rfl, f3 56 rfl]; exact hh z y z0 (by omega) y0 (by omega)
          refine e_goOn (Or.inr ⟨rfl, rfl⟩) (b2 X4 g4) Fx.rf z0 zr y0 (by omega) tuI_r (by rw [f4 57 rfl]; exact sp) hd sr.1 sr.2 fr.1 fr.2 (fun X5 f5 e5 o5 => ?_)
          have f35 : Fx [46, 48, 52, 57] X3 X5 := (f4.sub (by decide)).trans (f5.sub (by decide))
          refine hQ2 X5 ⟨by omega, by omega, f3.trans f35, fun f hf => by rw [f5 52 rfl, k4' f hf, k5 f hf], by rw [f5 52 rfl, e4, ez1], fun c c0 c1 h h0 => ?_, fun c c0 c1 => ?_⟩
          · rw [o5 _ (by omega), f4 57 rfl]; exact h3 c c0 c1 h h0
          · by_cases hc : c = z
            · rw [hc, e5, nxF_tl sr, dyF_2, ey]
            · rw [o5 _ (by omega), f4 57 rfl]; exact m3 c c0 (by omega)
        intro J1 hJ1
        by_cases hg : (dyF r T s y.toNat).2 z = 576
        · refine ⟨by omega, fun k7 => absurd hg k7, fun _ => hJ1 _ ?_⟩
          intro J2 hJ2
          refine ⟨by decide, fun _ => hJ2 X3 ?_, fun k7 => absurd k7 (by decide)⟩
          exact key X3 0 Fx.rf (fun _ _ => rfl) (by rw [e3, sdI_s, ez, if_pos hg]) (by unfold tuI; rw [if_pos hg]) _ (fun X5 h5 => ⟨h5, by dsimp only; omega⟩)
        · refine ⟨by omega, fun _ => hJ1 _ ?_, fun k7 => absurd k7 hg⟩
          intro J2 hJ2
          refine ⟨by decide, fun k7 => absurd rfl k7, fun _ => ?_⟩
          unfold w_X9_drawOfTen
          rw [x_st_at, e3]
          refine ⟨by omega, by omega, by omega, by omega, by omega, ?_⟩
          generalize hX4 : x_st X3 52 6 ((sdI (dyF r T s y.toNat).2 (dyF r T s y.toNat).1 z.toNat * 1103 + 12345) % 1000003) = X4
          have f4 : Fx [52] X3 X4 := by rw [← hX4]; exact Fx.rf.st rfl
          have k4' : ∀ f : Int, ¬ f = 6 → X4 52 f = X3 52 f := fun f hf => by rw [← hX4, x_st_ne hf]
          have es4 : sdI (dyF r T s y.toNat).2 (dyF r T s y.toNat).1 (z.toNat + 1) = (sdI (dyF r T s y.toNat).2 (dyF r T s y.toNat).1 z.toNat * 1103 + 12345) % 1000003 := by rw [sdI_s, ez, if_neg hg]
          have e4 : X4 52 6 = sdI (dyF r T s y.toNat).2 (dyF r T s y.toNat).1 (z.toNat + 1) := by rw [es4, ← hX4, x_st_at]
          have v7 : X4 9 1 = r 7 := by rw [f4 9 rfl, g3 9 rfl, b.trm (by decide) (by decide)]; rfl
          have wt := w.2.2.2.2.2.2
          unfold W_trm at wt
          have tu1 : tuI r (dyF r T s y.toNat).2 (dyF r T s y.toNat).1 z = if (sdI (dyF r T s y.toNat).2 (dyF r T s y.toNat).1 z.toNat * 1103 + 12345) % 1000003 % 10 < r 7 then 1 else 0 := by
            unfold tuI; rw [if_neg hg, es4]
          rw [v7]
          refine ⟨by omega, by omega, fun k8 => hJ2 X4 ?_, fun k8 => ?_⟩
          · exact key X4 0 f4 k4' e4 (by rw [tu1, if_neg (by omega)]) _ (fun X5 h5 => ⟨h5, by dsimp only; omega⟩)
          · exact key X4 1 f4 k4' e4 (by rw [tu1, if_pos (by omega)]) _ (fun X5 h5 => ⟨h5, by dsimp only; omega⟩)
  · have xr : x < r 0 := by omega
    refine e_start (b2 X1 g1) Fx.rf x0 xr ⟨by omega, fun k => absurd (by omega) k, fun _ => ⟨by decide, fun k => absurd (by decide) k, fun _ => ⟨by omega, ⟨by omega, by omega, f1.st rfl, fun c c0 c1 => ?_⟩, by dsimp only; omega⟩⟩⟩
    by_cases hc : c = x
    · rw [hc, Int.add_zero, x_st_at]
    · rw [x_st_ne (by omega)]; exact h1 c c0 (by omega)

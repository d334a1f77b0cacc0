/-! PAIRS OF CALLS THAT ONLY ASK: duel -/
theorem ws2 {g : Int → Int} (hg : ∀ d, g d = 0 ∨ g d = 1000000000000) : ∀ m : Nat, wsF g m = 0 ∨ wsF g m = 1000000000000 := by
  intro m
  induction m with
  | zero => exact Or.inr rfl
  | succ m ih => have := hg (m : Int); rw [wsF_s]; omega
theorem mx2 {g : Int → Int} (hg : ∀ d, g d = 0 ∨ g d = 1000000000000) : ∀ m : Nat, mxF g (m + 1) = 0 ∨ mxF g (m + 1) = 1000000000000 := by
  intro m
  induction m with
  | zero => have := hg ((0 : Nat) : Int); rw [mxF_s, mxF_0]; omega
  | succ m ih => have := hg ((m + 1 : Nat) : Int); rw [mxF_s]; omega
theorem by2 {r : Int → Int} {T : TT} {c s h d : Int} {g : Int → Int} (hg : ∀ t, g t = 0 ∨ g t = 1000000000000) : byF r T c 1 g s h d = 0 ∨ byF r T c 1 g s h d = 1000000000000 := by
  unfold byF
  rw [if_neg (by decide)]
  exact ws2 (fun _ => hg _) 5
theorem ck2 {r : Int → Int} {T : TT} {c f till : Int} : ∀ (k : Nat) (s : Int), ckF r T c f till 1 k s = 0 ∨ ckF r T c f till 1 k s = 1000000000000 := by
  intro k
  induction k with
  | zero => intro s; rw [ckF_0]; split <;> omega
  | succ k ih => intro s; rw [ckF_s]; exact mx2 (fun d => by2 ih) 4
theorem nyF_576 {r : Int → Int} {T : TT} {c h d d2 tu : Int} : nyF r T c 576 h d d2 tu = 576 := rfl
theorem ck_576 {r : Int → Int} {T : TT} {c f till men : Int} (hm : men = 0 ∨ men = 1) : ∀ k : Nat, ckF r T c f till men k 576 = 0 := by
  intro k
  induction k with
  | zero => rw [ckF_0, if_neg (fun z => z.1 rfl)]
  | succ k ih =>
    have e : ∀ d, byF r T c men (ckF r T c f till men k) 576 (till - ((k + 1 : Nat) : Int)) d = 0 := by
      intro d
      unfold byF
      rcases hm with rfl | rfl
      · rw [if_pos rfl, nxF_576, nxF_576, ih]; omega
      · rw [if_neg (by decide)]
        have : ∀ m : Nat, wsF (fun d2 => ckF r T c f till 1 k (nyF r T c 576 (till - ((k + 1 : Nat) : Int)) d d2 0)) (m + 1) = 0 := by
          intro m
          induction m with
          | zero => rw [wsF_s, nyF_576, ih]; unfold wsF; omega
          | succ m ihm => rw [wsF_s, ihm, nyF_576, ih]; omega
        exact this 4
    rw [ckF_s]
    have : ∀ m : Nat, mxF (fun d => byF r T c men (ckF r T c f till men k) 576 (till - ((k + 1 : Nat) : Int)) d) (m + 1) = 0 := by
      intro m
      induction m with
      | zero => rw [mxF_s, mxF_0, e]; omega
      | succ m ihm => rw [mxF_s, ihm, e]; omega
    exact this 4
/-- the reference's table of who wins -/
def WN (r : Int → Int) (T : TT) (c f till h : Int) (X : XT) : Prop := ∀ s : Int, 0 ≤ s → s < 576 → X 112 (576 * h + s) = if 0 < ckF r T c f till 1 (till - h).toNat s then 1 else 0
theorem m_isWon {r : Int → Int} {T : TT} {X : XT} {c f till h s d : Int} {Q : Int → Prop} (w : RW r) (e : X 79 = r) (k : WKS r T c X) (c0 : 0 ≤ c) (c1 : c < r 0) (h0 : 0 ≤ h) (h1 : h < till) (t1 : till ≤ 11) (s0 : 0 ≤ s) (s1 : s < 576) (d0 : 0 ≤ d) (d1 : d ≤ 4) (hf : WN r T c f till (h + 1) X)
    (q1 : 0 < byF r T c 1 (ckF r T c f till 1 (till - (h + 1)).toNat) s h d → Q 1) (q0 : byF r T c 1 (ckF r T c f till 1 (till - (h + 1)).toNat) s h d = 0 → Q 0) : w_X12_isWon c h s d X Q := by
  have wc := w.2.2.1.1
  have hc := w.2.2.1.2 c c0 c1
  have kk := k h s h0 (by omega) s0 s1
  have eb : byF r T c 1 (ckF r T c f till 1 (till - (h + 1)).toNat) s h d = wsF (fun d2 => ckF r T c f till 1 (till - (h + 1)).toNat (nyF r T c s h d d2 0)) 5 := by unfold byF; rw [if_neg (by decide)]
  rw [eb] at q1 q0
  refine ⟨fun u y => 0 ≤ y ∧ y ≤ 5 ∧ ((u = 1 ∧ 0 < wsF (fun d2 => ckF r T c f till 1 (till - (h + 1)).toNat (nyF r T c s h d d2 0)) y.toNat) ∨ (u = 0 ∧ wsF (fun d2 => ckF r T c f till 1 (till - (h + 1)).toNat (nyF r T c s h d d2 0)) y.toNat = 0)), fun _ y => (5 - y).toNat, ⟨by decide, by decide, Or.inl ⟨rfl, by show (0 : Int) < 1000000000000; decide⟩⟩, ?_⟩
  rintro u y ⟨y0, y1, hu⟩
  have r5 := wsF_r (g := fun d2 => ckF r T c f till 1 (till - (h + 1)).toNat (nyF r T c s h d d2 0)) (fun _ => (ckF_r w _ _).1) 5
  refine ⟨by omega, fun z => ?_, fun z => ⟨by omega, fun z2 => ?_, fun z2 => ?_⟩⟩
  · rw [show y.toNat = 5 by omega] at hu
    rcases hu with ⟨rfl, hu⟩ | ⟨rfl, hu⟩
    · exact ⟨Or.inr rfl, q1 hu⟩
    · exact ⟨Or.inl rfl, q0 hu⟩
  · have hu2 : wsF (fun d2 => ckF r T c f till 1 (till - (h + 1)).toNat (nyF r T c s h d d2 0)) y.toNat = 0 := by
      rcases hu with hu | hu; omega; exact hu.2
    have dn := wsF_dn (g := fun d2 => ckF r T c f till 1 (till - (h + 1)).toNat (nyF r T c s h d d2 0)) y.toNat (5 - y.toNat)
    rw [show y.toNat + (5 - y.toNat) = 5 by omega] at dn
    rw [z2]
    exact ⟨Or.inl rfl, q0 (by omega)⟩
  · have hu1 : u = 1 := by omega
    subst hu1
    have hp : 0 < wsF (fun d2 => ckF r T c f till 1 (till - (h + 1)).toNat (nyF r T c s h d d2 0)) y.toNat := by
      rcases hu with hu | hu; exact hu.2; omega
    have nr := nyF_r (r := r) (T := T) (c := c) (h := h) (d := d) (d2 := y) (tu := 0) ⟨s0, show s ≤ 576 by omega⟩
    have gr := gN_r nr
    have ms : wsF (fun d2 => ckF r T c f till 1 (till - (h + 1)).toNat (nyF r T c s h d d2 0)) (y + 1).toNat = min (wsF (fun d2 => ckF r T c f till 1 (till - (h + 1)).toNat (nyF r T c s h d d2 0)) y.toNat) (ckF r T c f till 1 (till - (h + 1)).toNat (nyF r T c s h d y 0)) := by
      rw [show (y + 1).toNat = y.toNat + 1 by omega, wsF_s, show ((y.toNat : Nat) : Int) = y by omega]
    have cr := ckF_r (T := T) (c := c) (f := f) (till := till) (men := 1) w (till - (h + 1)).toNat (nyF r T c s h d y 0)
    rw [kk, e]
    have fin : ∀ v22 v20 : Int, gN (mvF s (wxF r (r (15 + 5 * c + 2)) 0 + (sxF v20 + sxF v22)) (wyF r (r (15 + 5 * c + 2)) 0 + (syF v20 + syF v22))) = gN (nyF r T c s h d y 0) → R32 v20 → R32 v22 → (w_X12_goes (r (15 + 5 * c + 2)) s 0 v20 v22 X (fun (v24 : Int) => ∀ J30 : Prop, (((0 ≤ y + 1 ∧ y + 1 ≤ 5 ∧ (((0 : Int) = 1 ∧ 0 < wsF (fun d2 => ckF r T c f till 1 (till - (h + 1)).toNat (nyF r T c s h d d2 0)) (y + 1).toNat) ∨ ((0 : Int) = 0 ∧ wsF (fun d2 => ckF r T c f till 1 (till - (h + 1)).toNat (nyF r T c s h d d2 0)) (y + 1).toNat = 0))) ∧ (5 - (y + 1)).toNat < (5 - y).toNat) → J30) → R32 v24 ∧ (v24 = (-1) → J30 ) ∧ (¬ v24 = (-1) → (0 ≤ ((576 * (h + 1)) + v24) ∧ ((576 * (h + 1)) + v24) < 6912) ∧ R32 (X 112 ((576 * (h + 1)) + v24)) ∧ ((X 112 ((576 * (h + 1)) + v24)) = 0 → J30 ) ∧ (¬ (X 112 ((576 * (h + 1)) + v24)) = 0 → (0 ≤ y + 1 ∧ y + 1 ≤ 5 ∧ (((1 : Int) = 1 ∧ 0 < wsF (fun d2 => ckF r T c f till 1 (till - (h + 1)).toNat (nyF r T c s h d d2 0)) (y + 1).toNat) ∨ ((1 : Int) = 0 ∧ wsF (fun d2 => ckF r T c f till 1 (till - (h + 1)).toNat (nyF r T c s h d d2 0)) (y + 1).toNat = 0))) ∧ (5 - (y + 1)).toNat < (5 - y).toNat)))) := by
      intro v22 v20 hv rv1 rv2
      refine m_goes w e (by omega) (by omega) s0 s1 (Or.inl rfl) rv1 rv2 ?_
      rw [hv]
      intro J30 hJ30
      refine ⟨by omega, fun z3 => ?_, fun z3 => ?_⟩
      · have hs := (gN_no nr).mp z3
        have c5 := ck_576 (r := r) (T := T) (c := c) (f := f) (till := till) (men := 1) (Or.inr rfl) (till - (h + 1)).toNat
        rw [hs, c5] at ms
        exact hJ30 ⟨⟨by omega, by omega, Or.inr ⟨rfl, by omega⟩⟩, by omega⟩
      · have hs : ¬ nyF r T c s h d y 0 = 576 := fun z4 => z3 ((gN_no nr).mpr z4)
        rw [gN_id hs]
        have hv2 := hf (nyF r T c s h d y 0) nr.1 (by omega)
        rw [hv2]
        by_cases hz : 0 < ckF r T c f till 1 (till - (h + 1)).toNat (nyF r T c s h d y 0)
        · rw [if_pos hz]
          exact ⟨by omega, by decide, fun z4 => absurd z4 (by decide), fun _ => ⟨⟨by omega, by omega, Or.inl ⟨rfl, by omega⟩⟩, by omega⟩⟩
        · rw [if_neg hz]
          exact ⟨by omega, by decide, fun _ => hJ30 ⟨⟨by omega, by omega, Or.inr ⟨rfl, by omega⟩⟩, by omega⟩, fun z4 => absurd rfl z4⟩
    refine ⟨by omega, by omega, fun J21 hJ21 => ?_⟩
    by_cases hfr : freP r T c s h
    · rw [if_pos hfr]
      refine ⟨by decide, fun z3 => absurd z3 (by decide), fun _ => hJ21 d (fun J23 hJ23 => by
        rw [if_pos hfr]
        refine ⟨by decide, fun z3 => absurd z3 (by decide), fun _ => hJ23 y (fin y d ?_ (by omega) (by omega))⟩
        unfold nyF
        rw [if_neg (by omega), if_pos hfr, if_pos hfr])⟩
    · rw [if_neg hfr]
      refine ⟨by decide, fun _ => hJ21 4 (fun J23 hJ23 => by
        rw [if_neg hfr]
        refine ⟨by decide, fun _ => hJ23 4 (fin 4 4 ?_ (by decide) (by decide)), fun z3 => absurd rfl z3⟩
        unfold nyF
        rw [if_neg (by omega), if_neg hfr, if_neg hfr]
        rfl), fun z3 => absurd rfl z3⟩
theorem m_duels {r : Int → Int} {T : TT} {X : XT} {c f till : Int} {Q : XT → Prop} (w : RW r) (e : X 79 = r) (k : WKS r T c X) (c0 : 0 ≤ c) (c1 : c < r 0) (f0 : 0 ≤ f) (f1 : f ≤ 63) (t0 : 0 ≤ till) (t1 : till ≤ 11) (q : ∀ X1, Fx [112] X X1 → (∀ h : Int, 0 ≤ h → h ≤ till → WN r T c f till h X1) → Q X1) : (∃ (I23 : Int → XT → Prop) (m24 : Int → XT → Nat), I23 till X ∧ ∀ (x21 : Int) (X22 : XT), I23 x21 X22 → R32 x21 ∧ (x21 < 0 → Q X22) ∧ (¬ x21 < 0 → ∃ (I73 : Int → XT → Prop) (m74 : Int → XT → Nat), I73 0 X22 ∧ ∀ (x71 : Int) (X72 : XT), I73 x71 X72 → R32 x71 ∧ (576 ≤ x71 → I23 (x21 + (-1)) X72 ∧ m24 (x21 + (-1)) X72 < m24 x21 X22) ∧ (¬ 576 ≤ x71 → ∀ J88 : Int → Prop, (∀ (v87 : Int), (∃ (I91 : Int → Int → Prop) (m92 : Int → Int → Nat), I91 v87 0 ∧ ∀ (x89 : Int) (x90 : Int), I91 x89 x90 → ∀ J100 : Prop, (((x89 = 0 ∨ x89 = 1) ∧ (0 ≤ ((576 * x21) + x71) ∧ ((576 * x21) + x71) < 6912) ∧ I73 (x71 + 1) (x_st X72 112 ((576 * x21) + x71) x89) ∧ m74 (x71 + 1) (x_st X72 112 ((576 * x21) + x71) x89) < m74 x71 X72) → J100) → R32 x90 ∧ (5 ≤ x90 → J100 ) ∧ (¬ 5 ≤ x90 → (till ≤ x21 → J100 ) ∧ (¬ till ≤ x21 → R32 x89 ∧ (¬ x89 = 0 → J100 ) ∧ (x89 = 0 → w_X12_isWon c x21 x71 x90 X72 (fun (v113 : Int) => I91 v113 (x90 + 1) ∧ m92 v113 (x90 + 1) < m92 x89 x90))))) → J88 v87) → (¬ x21 = till → J88 0) ∧ (x21 = till → w_X12_shades c x71 f X72 (fun (v120 : Int) => R32 v120 ∧ (v120 = 0 → J88 0) ∧ (¬ v120 = 0 → J88 1)))))) := by
  refine ⟨fun x X1 => -1 ≤ x ∧ x ≤ till ∧ Fx [112] X X1 ∧ ∀ h : Int, x < h → h ≤ till → WN r T c f till h X1, fun x _ => (x + 1).toNat, ⟨by omega, Int.le_refl _, Fx.rf, fun h a b => absurd b (by omega)⟩, ?_⟩
  rintro x X1 ⟨x0, x1, g1, k1⟩
  refine ⟨by omega, fun z => q X1 g1 (fun h a b => k1 h (by omega) b), fun z => ?_⟩
  refine ⟨fun s X2 => 0 ≤ s ∧ s ≤ 576 ∧ Fx [112] X X2 ∧ (∀ h : Int, x < h → h ≤ till → WN r T c f till h X2) ∧ ∀ s' : Int, 0 ≤ s' → s' < s → X2 112 (576 * x + s') = if 0 < ckF r T c f till 1 (till - x).toNat s' then 1 else 0, fun s _ => (576 - s).toNat, ⟨by decide, by decide, g1, k1, fun s' a b => absurd (show s' < (0 : Int) from b) (by omega)⟩, ?_⟩
  rintro s X2 ⟨s0, s1, g2, k2, k3⟩
  refine ⟨by omega, fun z2 => ⟨⟨by omega, by omega, g2, fun h a b => ?_⟩, by dsimp only; omega⟩, fun z2 => ?_⟩
  · by_cases hq : h = x
    · rw [hq]; exact fun s' c d => k3 s' c (by omega)
    · exact k2 h (by omega) b
  · have st : ∀ v : Int, v = (if 0 < ckF r T c f till 1 (till - x).toNat s then 1 else 0) → (0 ≤ s + 1 ∧ s + 1 ≤ 576 ∧ Fx [112] X (x_st X2 112 ((576 * x) + s) v) ∧ (∀ h : Int, x < h → h ≤ till → WN r T c f till h (x_st X2 112 ((576 * x) + s) v)) ∧ ∀ s' : Int, 0 ≤ s' → s' < s + 1 → (x_st X2 112 ((576 * x) + s) v) 112 (576 * x + s') = if 0 < ckF r T c f till 1 (till - x).toNat s' then 1 else 0) := by
      rintro v rfl
      refine ⟨by omega, by omega, g2.st rfl, fun h a b s' d e => ?_, fun s' a b => ?_⟩
      · rw [x_st_ne (by omega)]; exact k2 h a b s' d e
      · by_cases hq : s' = s
        · rw [hq, x_st_at]
        · rw [x_st_ne (by omega)]; exact k3 s' a (by omega)
    have e2 : X2 79 = r := by rw [g2 79 rfl]; exact e
    have kw : WKS r T c X2 := fun h s a b c d => by rw [g2 96 rfl]; exact k h s a b c d
    intro J hJ
    have key : ∀ v : Int, ((x = till ∧ v = if 0 < ckF r T c f till 1 (till - x).toNat s then 1 else 0) ∨ (x < till ∧ v = 0)) → J v := by
      intro v hv
      refine hJ v ?_
      refine ⟨fun u d => 0 ≤ d ∧ d ≤ 5 ∧ (u = 0 ∨ u = 1) ∧ ((x = till ∧ u = if 0 < ckF r T c f till 1 (till - x).toNat s then 1 else 0) ∨ (x < till ∧ (u = 1 ↔ 0 < mxF (fun d => byF r T c 1 (ckF r T c f till 1 (till - (x + 1)).toNat) s x d) d.toNat))), fun _ d => (5 - d).toNat, ⟨by decide, by decide, ?_, ?_⟩, ?_⟩
      · rcases hv with hv | hv
        · rw [hv.2]; split <;> omega
        · exact Or.inl hv.2
      · rcases hv with hv | hv
        · exact Or.inl hv
        · refine Or.inr ⟨hv.1, ?_⟩
          show v = 1 ↔ (0 : Int) < -1
          omega
      rintro u d ⟨d0, d1, ru, hu⟩
      intro J2 hJ2
      have fin : (x = till ∨ d = 5 ∨ ¬ u = 0) → J2 := by
        intro hd
        refine hJ2 ⟨ru, by omega, st u ?_, by dsimp only; omega⟩
        rcases hu with hu | hu
        · exact hu.2
        · obtain ⟨k5, ek⟩ : ∃ k5 : Nat, (till - x).toNat = k5 + 1 := ⟨(till - x).toNat - 1, by omega⟩
          have eh : till - ((k5 + 1 : Nat) : Int) = x := by omega
          have el : (till - (x + 1)).toNat = k5 := by omega
          have hu2 := hu.2
          rw [el] at hu2
          rw [ek, ckF_s, eh]
          have up := mxF_up (g := fun d => byF r T c 1 (ckF r T c f till 1 k5) s x d) d.toNat (5 - d.toNat)
          rw [show d.toNat + (5 - d.toNat) = 5 by omega] at up
          by_cases hz : 0 < mxF (fun d => byF r T c 1 (ckF r T c f till 1 k5) s x d) 5
          · rw [if_pos hz]
            rcases hd with hd | hd | hd
            · omega
            · rw [hd] at hu2
              exact hu2.mpr hz
            · omega
          · rw [if_neg hz]
            have : ¬ u = 1 := fun y => hz (by have := hu2.mp y; omega)
            omega
      refine ⟨by omega, fun z3 => fin (by omega), fun z3 => ⟨fun z4 => fin (by omega), fun z4 => ⟨by omega, fun z5 => fin (by omega), fun z5 => ?_⟩⟩⟩
      have hu2 := hu.resolve_left (fun y => by omega)
      have ms : mxF (fun d => byF r T c 1 (ckF r T c f till 1 (till - (x + 1)).toNat) s x d) (d + 1).toNat = max (mxF (fun d => byF r T c 1 (ckF r T c f till 1 (till - (x + 1)).toNat) s x d) d.toNat) (byF r T c 1 (ckF r T c f till 1 (till - (x + 1)).toNat) s x d) := by
        rw [show (d + 1).toNat = d.toNat + 1 by omega, mxF_s, show ((d.toNat : Nat) : Int) = d by omega]
      have hn : ¬ 0 < mxF (fun d => byF r T c 1 (ckF r T c f till 1 (till - (x + 1)).toNat) s x d) d.toNat := fun y => by have := hu2.2.mpr y; omega
      refine m_isWon (f := f) (till := till) w e2 kw c0 c1 (by omega) hu2.1 t1 s0 (by omega) d0 (by omega) (k2 (x + 1) (by omega) (by omega)) (fun hp => ⟨⟨by omega, by omega, Or.inr rfl, Or.inr ⟨hu2.1, ?_⟩⟩, by dsimp only; omega⟩) (fun hp => ⟨⟨by omega, by omega, Or.inl rfl, Or.inr ⟨hu2.1, ?_⟩⟩, by dsimp only; omega⟩)
      · rw [ms]; exact ⟨fun _ => by omega, fun _ => rfl⟩
      · rw [ms, hp]; exact ⟨fun y => absurd y (by decide), fun y => absurd y (by omega)⟩
    refine ⟨fun z3 => key _ (Or.inr ⟨by omega, rfl⟩), fun z3 => ?_⟩
    have hsh := m_shades (r := r) (X := X2) (c := c) (s := s) (f := f) (Q := fun (v120 : Int) => R32 v120 ∧ (v120 = 0 → J 0) ∧ (¬ v120 = 0 → J 1)) w e2 c0 c1 s0 (by omega) f0 f1 (fun hs => ⟨by decide, fun z4 => absurd z4 (by decide), fun _ => key 1 (Or.inl ⟨z3, ?_⟩)⟩) (fun hs => ⟨by decide, fun _ => key 0 (Or.inl ⟨z3, ?_⟩), fun z4 => absurd rfl z4⟩)
    · rw [gN_id (show ¬ s = 576 by omega)] at hsh; exact hsh
    · rw [show (till - x).toNat = 0 by omega, ckF_0, if_pos hs]; rfl
    · rw [show (till - x).toNat = 0 by omega, ckF_0, if_neg hs]; rfl
theorem q_duel {LW : s_LW} (hW : LWq LW) (hst : LWst LW) (a1 a2 a3 a4 : Int32) : Pair m_X11_duel m_X12_duel 0 0 (INV LW) [.int a1, .int a2, .int a3, .int a4] := by
  obtain ⟨c, rfl, rc⟩ := iI_of a1
  obtain ⟨f, rfl, rf⟩ := iI_of a2
  obtain ⟨tl, rfl, rtl⟩ := iI_of a3
  obtain ⟨i, rfl, ri⟩ := iI_of a4
  refine pair_q hW hst (fun K X Q => w_X11_duel K c f tl i X Q) (fun X Q => w_X12_duel c f tl i X Q) (by decide) (by decide) (fun hK hn hp hf w => so_X11_duel hK hn hp hf w) (fun hn hp w => so_X12_duel hn hp w) (fun K X T b hT e => ?_)
  have w := b.rw
  have wc := w.2.2.1
  have wc1 := wc.1
  obtain ⟨r, hr⟩ : ∃ r, X 79 = r := ⟨_, rfl⟩
  rw [hr] at b hT e w wc wc1
  have e0 : ∀ X1 : XT, ME r X1 → x_st X1 77 0 0 79 0 = r 0 := fun X1 m => by rw [x_st_c (by decide), m.1]
  have bad : ¬ (0 ≤ c ∧ c < r 0) ∨ ¬ (0 ≤ f ∧ f ≤ 63) ∨ ¬ (0 ≤ tl ∧ tl ≤ 11) ∨ ¬ (0 ≤ i ∧ i ≤ 1) → w_X12_duel c f tl i X (fun v2 X2 => v2 = -1 ∧ Gx kpL X X2) := fun hb => by
    have B : ((-1 : Int) = -1 ∧ Gx kpL X (x_st X 77 0 0)) := ⟨rfl, Gx_of Fx.rf Gx_th⟩
    unfold w_X12_duel
    rw [e0 X e]
    exact ⟨rc, wc1, fun _ => B, fun z1 => ⟨rf, fun _ => B, fun z2 => ⟨rtl, fun _ => B, fun z3 => ⟨ri, fun z4 => absurd hb (by omega), fun _ => B⟩⟩⟩⟩
  unfold w_X11_duel w_X11_isOver
  rw [b.nc]
  refine ⟨rc, by omega, fun z => ⟨by decide, fun _ => bad (Or.inl z), fun z2 => absurd rfl z2⟩, fun z1 => ⟨rf, fun z => ⟨by decide, fun _ => bad (Or.inr (Or.inl z)), fun z2 => absurd rfl z2⟩, fun z2 => ⟨by decide, fun z => absurd z (by decide), fun _ => ⟨rtl, fun z => bad (Or.inr (Or.inr (Or.inl z))), fun z3 => ⟨ri, fun z4 => ?_, fun z => bad (Or.inr (Or.inr (Or.inr z)))⟩⟩⟩⟩⟩
  have bg := bgF_r wc z1.1 z1.2
  have ck := ck2 (r := r) (T := T) (c := c) (f := f) (till := tl) tl.toNat (bgF r c)
  have mm : ∀ (X1 : XT) (V : Int), Fx scC X X1 → (i = 0 → V = if 0 < ckF r T c f tl 1 tl.toNat (bgF r c) then 1 else 0) → (¬ i = 0 → (ckF r T c f tl 1 tl.toNat (bgF r c) = 0 ∨ tl = 0) → V = -1) → (¬ i = 0 → 0 < ckF r T c f tl 1 tl.toNat (bgF r c) → 0 < tl → STP (fun d => byF r T c 1 (ckF r T c f tl 1 (tl - (0 + 1)).toNat) (bgF r c) 0 d) 5 V) → w_X12_duel c f tl i X1 (fun v2 X2 => v2 = V ∧ Gx kpL X X2) := by
    intro X1 V f1 v0 v1 v2
    have e1 : ME r X1 := e.fx f1
    unfold w_X12_duel
    rw [e0 X1 e1]
    refine ⟨rc, wc1, fun z => absurd (by omega) z, fun _ => ⟨rf, fun z => absurd z2 z, fun _ => ⟨rtl, fun z => absurd z3 z, fun _ => ⟨ri, fun _ => ?_, fun z => absurd z4 z⟩⟩⟩⟩
    refine m_works w hT b.2.2.2 e1.th z1.1 z1.2 (fun X2 g2 k2 => ?_)
    have e2 : ME r X2 := e1.th.go g2 rfl
    refine m_duels w e2.1 k2 z1.1 z1.2 z2.1 z2.2 z3.1 z3.2 (fun X3 f3 k3 => ?_)
    have g3 : Gx scM X1 X3 := (Gx_th.trans (g2.sub (by decide))).trans ⟨fun d hd k => f3 d (el_sub (l2 := scM) (by decide) hd), fun _ _ => by rw [f3 77 rfl]⟩
    have e3 : X3 79 = r := by rw [f3 79 rfl]; exact e2.1
    have kw : WKS r T c X3 := fun h s a b c d => by rw [f3 96 rfl]; exact k2 h s a b c d
    refine m_begins w e3 z1.1 z1.2 ?_
    have fv := k3 0 (by decide) z3.1 (bgF r c) bg.1 (by omega)
    rw [show 576 * 0 + bgF r c = bgF r c by omega, show tl - 0 = tl by omega] at fv
    rw [fv]
    intro J hJ
    have J0 : i = 0 → J := fun hi => hJ ⟨fun z => absurd hi z, fun _ => ⟨by omega, by split <;> decide, fun z => ⟨?_, Gx_of f1 g3⟩, fun z => ⟨?_, Gx_of f1 g3⟩⟩⟩
    rotate_left
    · rw [v0 hi]; exact z.symm
    · rw [v0 hi]; split at z
      · rw [if_pos (by assumption)]
      · exact absurd rfl z
    have J1 : ¬ i = 0 → (ckF r T c f tl 1 tl.toNat (bgF r c) = 0 ∨ tl = 0) → J := fun hi hz => hJ ⟨fun _ => ⟨(v1 hi hz).symm, Gx_of f1 g3⟩, fun z => absurd z hi⟩
    refine ⟨J0, fun hi => ⟨by omega, by split <;> decide, fun z => J1 hi (Or.inl ?_), fun z => ⟨fun z5 => ?_, fun z5 => J1 hi (Or.inr z5)⟩⟩⟩
    · split at z <;> omega
    · have hp : 0 < ckF r T c f tl 1 tl.toNat (bgF r c) := by
        split at z
        · assumption
        · exact absurd rfl z
      obtain ⟨q1, q2, q3, q4⟩ := v2 hi hp (by omega)
      have ckv : ckF r T c f tl 1 tl.toNat (bgF r c) = mxF (fun d => byF r T c 1 (ckF r T c f tl 1 (tl - (0 + 1)).toNat) (bgF r c) 0 d) 5 := by
        obtain ⟨k5, ek⟩ : ∃ k5 : Nat, tl.toNat = k5 + 1 := ⟨tl.toNat - 1, by omega⟩
        rw [ek, ckF_s, show tl - ((k5 + 1 : Nat) : Int) = 0 by omega, show (tl - (0 + 1)).toNat = k5 by omega]
      have b2 := fun d => by2 (r := r) (T := T) (c := c) (s := bgF r c) (h := 0) (d := d) (ck2 (r := r) (T := T) (c := c) (f := f) (till := tl) (tl - (0 + 1)).toNat)
      dsimp only at q3 q4
      refine ⟨fun d => 0 ≤ d ∧ d ≤ V, fun d => (5 - d).toNat, ⟨by decide, q1⟩, ?_⟩
      rintro d ⟨d0, d1⟩
      have bd := b2 d
      have bV := b2 V
      refine m_isWon (f := f) (till := tl) w e3 kw z1.1 z1.2 (by decide) (by omega) z3.2 bg.1 (by omega) d0 (by omega) (k3 (0 + 1) (by decide) (by omega)) (fun hw => ⟨by decide, fun _ => ⟨?_, Gx_of f1 g3⟩, fun z6 => absurd z6 (by decide)⟩) (fun hw => ⟨by decide, fun z6 => absurd rfl z6, fun _ => ⟨⟨by omega, ?_⟩, by dsimp only; omega⟩⟩)
      · by_cases hq : d = V
        · exact hq
        · exact absurd (show byF r T c 1 (ckF r T c f tl 1 (tl - (0 + 1)).toNat) (bgF r c) 0 d = mxF (fun d => byF r T c 1 (ckF r T c f tl 1 (tl - (0 + 1)).toNat) (bgF r c) 0 d) 5 by omega) (q4 d d0 (by omega))
      · by_cases hq : d = V
        · rw [hq] at hw; omega
        · omega
  refine e_start b Fx.rf z1.1 z1.2 (e_take b Fx.rf z1.1 z1.2 (fun X1 f1 p1 => ?_))
  have f1b : Fx scC X X1 := f1.sub (by decide)
  refine e_spread b f1b z1.1 z1.2 p1 (by decide) z3.1 z3.2 bg.1 (by omega) (Or.inr rfl) (Or.inl rfl) (fun X2 f2 sp2 => ?_)
  have f2b : Fx scC X X2 := f1b.trans (f2.sub (by decide))
  obtain ⟨mk2, p2, st2, on2, cl2⟩ := sp2
  refine e_back b f2b z1.1 z1.2 z2.1 z2.2 p2 mk2 (by decide) z3.1 z3.2 (Or.inr ⟨rfl, rfl, rfl⟩) cl2 (fun X3 f3 k3 s3 => ?_)
  have f3b : Fx scC X X3 := f2b.trans (f3.sub (by decide))
  have v0 := k3 (bgF r c) bg.1 (by omega) (Or.inr st2)
  rw [show tl - 0 = tl by omega] at v0
  refine e_chanceOf (by decide) (by decide) bg.1 (by omega) ?_
  rw [v0]
  intro J hJ
  have fin : ∀ v : Int, v = (if 0 < ckF r T c f tl 1 tl.toNat (bgF r c) then 1 else 0) → J v := by
    rintro v rfl
    refine hJ _ ⟨ri, fun hi => ⟨by split <;> decide, fun z => mm X3 _ f3b (fun z5 => absurd z5 hi) (fun _ _ => rfl) (fun _ z5 _ => ?_), fun z => ⟨rtl, fun z5 => mm X3 _ f3b (fun z6 => absurd z6 hi) (fun _ _ => rfl) (fun _ _ z6 => absurd z6 (by omega)), fun z5 => mm X3 _ f3b (fun z6 => absurd z6 hi) (fun _ z6 => ?_) (fun _ _ z6 => s3 z6 (bgF r c) bg.1 (by omega) st2 on2)⟩⟩, fun hi => ⟨by split <;> decide, fun z => mm X3 _ f3b (fun _ => z.symm) (fun z5 => absurd hi z5) (fun z5 => absurd hi z5), fun z => mm X3 _ f3b (fun _ => ?_) (fun z5 => absurd hi z5) (fun z5 => absurd hi z5)⟩⟩
    · rw [if_pos z5] at z; exact absurd z (by decide)
    · exfalso
      split at z
      · omega
      · exact z rfl
    · split at z
      · rw [if_pos (by assumption)]
      · exact absurd rfl z
  exact ⟨by omega, fun z => fin 0 (by rw [if_neg (by omega)]), fun z => fin 1 (by rw [if_pos (by omega)])⟩

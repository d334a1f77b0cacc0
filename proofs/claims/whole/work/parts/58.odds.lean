/-! THE ODDS, the class's side: chances and the worst of another's ways, from the last hour back -/
theorem oAnd_1 {h : Int} (h0 : 0 ≤ h) (h1 : h ≤ 12) : oAnd h 1 = h % 2 := by
  have : h = 0 ∨ h = 1 ∨ h = 2 ∨ h = 3 ∨ h = 4 ∨ h = 5 ∨ h = 6 ∨ h = 7 ∨ h = 8 ∨ h = 9 ∨ h = 10 ∨ h = 11 ∨ h = 12 := by omega
  rcases this with rfl | rfl | rfl | rfl | rfl | rfl | rfl | rfl | rfl | rfl | rfl | rfl | rfl <;> decide +kernel
/-- the greatest of g at 0 .. m-1, and -1 -/
def mxF (g : Int → Int) : Nat → Int
  | 0 => -1
  | m + 1 => max (mxF g m) (g (m : Int))
theorem mxF_s {g : Int → Int} {m : Nat} : mxF g (m + 1) = max (mxF g m) (g (m : Int)) := rfl
theorem mxF_0 {g : Int → Int} : mxF g 0 = -1 := rfl
theorem mxF_le {g : Int → Int} : ∀ (m : Nat) (d : Int), 0 ≤ d → d < m → g d ≤ mxF g m := by
  intro m
  induction m with
  | zero => intro d d0 d1; omega
  | succ m ih =>
    intro d d0 d1
    rw [mxF_s]
    by_cases hd : d = (m : Int)
    · rw [hd]; omega
    · have := ih d d0 (by omega); omega
theorem mxF_at {g : Int → Int} : ∀ m : Nat, mxF g m = -1 ∨ ∃ d : Int, 0 ≤ d ∧ d < m ∧ g d = mxF g m := by
  intro m
  induction m with
  | zero => exact Or.inl rfl
  | succ m ih =>
    rw [mxF_s]
    rcases Int.lt_or_le (mxF g m) (g (m : Int)) with h | h
    · exact Or.inr ⟨m, by omega, by omega, by omega⟩
    · rw [show max (mxF g m) (g (m : Int)) = mxF g m by omega]
      rcases ih with ih | ⟨d, d0, d1, e⟩
      · exact Or.inl ih
      · exact Or.inr ⟨d, d0, by omega, e⟩
theorem mxF_ge {g : Int → Int} : ∀ m : Nat, -1 ≤ mxF g m := by
  intro m
  induction m with
  | zero => exact Int.le_refl _
  | succ m ih => rw [mxF_s]; omega
theorem mxF_up {g : Int → Int} (m : Nat) : ∀ j : Nat, mxF g m ≤ mxF g (m + j) := by
  intro j
  induction j with
  | zero => exact Int.le_refl _
  | succ j ih => rw [show m + (j + 1) = (m + j) + 1 from rfl, mxF_s]; omega
theorem mxF_b {g : Int → Int} {u : Int} (hu : 0 ≤ u) (m : Nat) (h : ∀ d : Int, 0 ≤ d → d < m → g d ≤ u) : mxF g m ≤ u := by
  rcases mxF_at (g := g) m with e | ⟨d, d0, d1, e⟩
  · omega
  · rw [← e]; exact h d d0 d1
/-- the least of g at 0 .. m-1, and a whole chance -/
def wsF (g : Int → Int) : Nat → Int
  | 0 => 1000000000000
  | m + 1 => min (wsF g m) (g (m : Int))
theorem wsF_s {g : Int → Int} {m : Nat} : wsF g (m + 1) = min (wsF g m) (g (m : Int)) := rfl
theorem wsF_r {g : Int → Int} (hg : ∀ d, 0 ≤ g d) : ∀ m : Nat, 0 ≤ wsF g m ∧ wsF g m ≤ 1000000000000 := by
  intro m
  induction m with
  | zero => unfold wsF; omega
  | succ m ih => have := hg (m : Int); rw [wsF_s]; omega
theorem wsF_dn {g : Int → Int} (m : Nat) : ∀ j : Nat, wsF g (m + j) ≤ wsF g m := by
  intro j
  induction j with
  | zero => exact Int.le_refl _
  | succ j ih => rw [show m + (j + 1) = (m + j) + 1 from rfl, wsF_s]; omega
/-- what one's flag d brings, g behind it -/
def byF (r : Int → Int) (T : TT) (c men : Int) (g : Int → Int) (s h d : Int) : Int := if men = 0 then (g (nxF r T c s h d 0) / 10) * (10 - r 7) + (g (nxF r T c s h d 1) / 10) * r 7 else wsF (fun d2 => g (nyF r T c s h d d2 0)) 5
def ckF (r : Int → Int) (T : TT) (c f till men : Int) : Nat → Int → Int
  | 0, s => if shP r c s f then 1000000000000 else 0
  | k + 1, s => mxF (fun d => byF r T c men (ckF r T c f till men k) s (till - ((k + 1 : Nat) : Int)) d) 5
theorem ckF_0 {r : Int → Int} {T : TT} {c f till men s : Int} : ckF r T c f till men 0 s = if shP r c s f then 1000000000000 else 0 := rfl
theorem ckF_s {r : Int → Int} {T : TT} {c f till men s : Int} {k : Nat} : ckF r T c f till men (k + 1) s = mxF (fun d => byF r T c men (ckF r T c f till men k) s (till - ((k + 1 : Nat) : Int)) d) 5 := rfl
theorem mix_r {a b p : Int} (a0 : 0 ≤ a) (a1 : a ≤ 1000000000000) (b0 : 0 ≤ b) (b1 : b ≤ 1000000000000) (p0 : 0 ≤ p) (p1 : p ≤ 10) : 0 ≤ a / 10 * (10 - p) + b / 10 * p ∧ a / 10 * (10 - p) + b / 10 * p ≤ 1000000000000 := by
  have : p = 0 ∨ p = 1 ∨ p = 2 ∨ p = 3 ∨ p = 4 ∨ p = 5 ∨ p = 6 ∨ p = 7 ∨ p = 8 ∨ p = 9 ∨ p = 10 := by omega
  rcases this with rfl | rfl | rfl | rfl | rfl | rfl | rfl | rfl | rfl | rfl | rfl <;> omega
theorem byF_r {r : Int → Int} {T : TT} {c men s h d : Int} {g : Int → Int} (w : RW r) (hg : ∀ t, 0 ≤ g t ∧ g t ≤ 1000000000000) : 0 ≤ byF r T c men g s h d ∧ byF r T c men g s h d ≤ 1000000000000 := by
  have wt := w.2.2.2.2.2.2
  unfold byF
  split
  · exact mix_r (hg _).1 (hg _).2 (hg _).1 (hg _).2 wt.2.2.1 wt.2.2.2.1
  · exact wsF_r (fun _ => (hg _).1) 5
theorem ckF_r {r : Int → Int} {T : TT} {c f till men : Int} (w : RW r) : ∀ (k : Nat) (s : Int), 0 ≤ ckF r T c f till men k s ∧ ckF r T c f till men k s ≤ 1000000000000 := by
  intro k
  induction k with
  | zero => intro s; rw [ckF_0]; split <;> omega
  | succ k ih =>
    intro s
    rw [ckF_s]
    have b := fun d => byF_r (r := r) (T := T) (c := c) (men := men) (s := s) (h := till - ((k + 1 : Nat) : Int)) (d := d) w ih
    refine ⟨?_, mxF_b (by decide) 5 (fun d _ _ => (b d).2)⟩
    have := mxF_le (g := fun d => byF r T c men (ckF r T c f till men k) s (till - ((k + 1 : Nat) : Int)) d) 5 0 (by decide) (by decide)
    have b0 := (b 0).1
    exact Int.le_trans b0 this
theorem e_chanceOf {X : XT} {h s : Int} {Q : Int → Prop} (h0 : 0 ≤ h) (h1 : h ≤ 11) (s0 : 0 ≤ s) (s1 : s ≤ 576) (q : Q (X 69 (h % 2 * 577 + s))) : w_X1_chanceOf h s X Q := by
  unfold w_X1_chanceOf
  rw [oAnd_1 h0 (by omega)]
  exact ⟨by omega, fun k => absurd k (by omega), fun _ => ⟨fun k => absurd k (by omega), fun _ => ⟨by omega, q⟩⟩⟩
theorem e_setChance {X : XT} {h s v : Int} {Q : XT → Prop} (h0 : 0 ≤ h) (h1 : h ≤ 11) (s0 : 0 ≤ s) (s1 : s ≤ 576) (q : Q (x_st X 69 (h % 2 * 577 + s) v)) : w_X1_setChance h s v X Q := by
  unfold w_X1_setChance
  rw [oAnd_1 h0 (by omega)]
  exact ⟨by omega, fun k => absurd k (by omega), fun _ => ⟨fun k => absurd k (by omega), fun _ => ⟨by omega, q⟩⟩⟩
theorem e_chBy {r : Int → Int} {T : TT} {c : Int} {X : XT} {h s d : Int} {g : Int → Int} {Q : Int → Prop} (w : RW r) (p : PTK r c X) (c0 : 0 ≤ c) (c1 : c < r 0) (m : MKS r T c X) (h0 : 0 ≤ h) (h1 : h ≤ 10) (s0 : 0 ≤ s) (s1 : s ≤ 576) (hm : ¬ X 59 (h * 577 + s) = 0) (rd : 0 ≤ d ∧ d ≤ 4) (e3 : X 68 3 = r 7) (hg : ∀ t, 0 ≤ g t ∧ g t ≤ 1000000000000) (hv : ∀ tu : Int, tu = 0 ∨ tu = 1 → X 69 ((h + 1) % 2 * 577 + nxF r T c s h d tu) = g (nxF r T c s h d tu)) (q : Q (byF r T c 0 g s h d)) : w_X1_chanceBy h s d X Q := by
  have wt := w.2.2.2.2.2.2
  have n0 := nxF_r (r := r) (T := T) (c := c) (h := h) (d := d) (tu := 0) ⟨s0, s1⟩
  have n1 := nxF_r (r := r) (T := T) (c := c) (h := h) (d := d) (tu := 1) ⟨s0, s1⟩
  have g0 := hg (nxF r T c s h d 0)
  have g1 := hg (nxF r T c s h d 1)
  refine e_onward w p c0 c1 m h0 (by omega) s0 s1 hm rd (by omega) (Or.inl rfl) ?_
  rw [nyF_4]
  refine e_chanceOf (by omega) (by omega) n0.1 n0.2 ?_
  rw [hv 0 (Or.inl rfl)]
  refine e_onward w p c0 c1 m h0 (by omega) s0 s1 hm rd (by omega) (Or.inr rfl) ?_
  rw [nyF_4]
  refine e_chanceOf (by omega) (by omega) n1.1 n1.2 ?_
  rw [hv 1 (Or.inr rfl), e3]
  unfold W_trm at wt
  exact ⟨by omega, by omega, by omega, by omega, by omega, by omega, by unfold byF at q; rw [if_pos rfl] at q; exact q⟩
theorem e_wsBy {r : Int → Int} {T : TT} {c : Int} {X : XT} {h s d : Int} {g : Int → Int} {Q : Int → Prop} (w : RW r) (p : PTK r c X) (c0 : 0 ≤ c) (c1 : c < r 0) (m : MKS r T c X) (h0 : 0 ≤ h) (h1 : h ≤ 10) (s0 : 0 ≤ s) (s1 : s ≤ 576) (hm : ¬ X 59 (h * 577 + s) = 0) (rd : 0 ≤ d ∧ d ≤ 4) (hg : ∀ t, 0 ≤ g t ∧ g t ≤ 1000000000000) (hv : ∀ d2 : Int, 0 ≤ d2 → d2 ≤ 4 → X 69 ((h + 1) % 2 * 577 + nyF r T c s h d d2 0) = g (nyF r T c s h d d2 0)) (q : Q (byF r T c 1 g s h d)) : w_X1_worstBy h s d X Q := by
  have q : Q (wsF (fun d2 => g (nyF r T c s h d d2 0)) 5) := by unfold byF at q; rw [if_neg (by decide)] at q; exact q
  refine ⟨fun u y => 0 ≤ y ∧ y ≤ 5 ∧ u = wsF (fun d2 => g (nyF r T c s h d d2 0)) y.toNat, fun _ y => (5 - y).toNat, ⟨by decide, by decide, rfl⟩, ?_⟩
  rintro u y ⟨y0, y1, rfl⟩
  have lo := wsF_r (g := fun d2 => g (nyF r T c s h d d2 0)) (fun _ => (hg _).1) y.toNat
  refine ⟨by omega, fun k => ?_, fun k => ⟨by omega, fun k2 => ?_, fun k2 => ?_⟩⟩
  · rw [show y.toNat = 5 by omega]; exact q
  · have dn := wsF_dn (g := fun d2 => g (nyF r T c s h d d2 0)) y.toNat (5 - y.toNat)
    rw [show y.toNat + (5 - y.toNat) = 5 by omega] at dn
    have l5 := wsF_r (g := fun d2 => g (nyF r T c s h d d2 0)) (fun _ => (hg _).1) 5
    rw [show wsF (fun d2 => g (nyF r T c s h d d2 0)) y.toNat = wsF (fun d2 => g (nyF r T c s h d d2 0)) 5 by omega]; exact q
  · have nr := nyF_r (r := r) (T := T) (c := c) (h := h) (d := d) (d2 := y) (tu := 0) ⟨s0, s1⟩
    refine e_onward w p c0 c1 m h0 (by omega) s0 s1 hm rd (by omega) (Or.inl rfl) (e_chanceOf (by omega) (by omega) nr.1 nr.2 ?_)
    have gy := hg (nyF r T c s h d y 0)
    rw [hv y y0 (by omega)]
    refine ⟨by omega, ⟨by omega, by omega, ?_⟩, by dsimp only; omega⟩
    rw [show (y + 1).toNat = y.toNat + 1 by omega, wsF_s, show ((y.toNat : Nat) : Int) = y by omega]
/-- the first of the best -/
def STP (g : Int → Int) (m : Nat) (st : Int) : Prop := 0 ≤ st ∧ st < m ∧ g st = mxF g m ∧ ∀ j : Int, 0 ≤ j → j < st → ¬ g j = mxF g m
theorem e_bestOf {men h s : Int} {X : XT} {g : Int → Int} {Q : Int → XT → Prop} (hg : ∀ d, 0 ≤ g d ∧ g d ≤ 1000000000000) (hmen : men = 0 ∨ men = 1)
    (hb : ∀ (X1 : XT) (d : Int) (Q : Int → Prop), Fx [68] X X1 → X1 68 3 = X 68 3 → 0 ≤ d → d ≤ 4 → Q (g d) → (men = 0 → w_X1_chanceBy h s d X1 Q) ∧ (¬ men = 0 → w_X1_worstBy h s d X1 Q))
    (q : ∀ X1, Fx [68] X X1 → X1 68 3 = X 68 3 → STP g 5 (X1 68 4) → Q (mxF g 5) X1) : w_X1_bestOf h s men X Q := by
  refine ⟨fun u d X1 => 0 ≤ d ∧ d ≤ 5 ∧ u = mxF g d.toNat ∧ Fx [68] X X1 ∧ X1 68 3 = X 68 3 ∧ (0 < d → STP g d.toNat (X1 68 4)), fun _ d _ => (5 - d).toNat, ⟨by decide, by decide, rfl, Fx.rf, rfl, fun z => absurd z (by decide)⟩, ?_⟩
  rintro u d X1 ⟨d0, d1, rfl, f1, e3, st⟩
  have ge := mxF_ge (g := g) d.toNat
  have le := mxF_b (g := g) (u := 1000000000000) (by decide) d.toNat (fun j _ _ => (hg j).2)
  refine ⟨by omega, fun k => ?_, fun k => ⟨by omega, fun k2 => ?_, fun k2 => ?_⟩⟩
  · rw [show d.toNat = 5 by omega] at st ⊢
    exact q X1 f1 e3 (st (by omega))
  · have up := mxF_up (g := g) d.toNat (5 - d.toNat)
    rw [show d.toNat + (5 - d.toNat) = 5 by omega] at up
    have le5 := mxF_b (g := g) (u := 1000000000000) (by decide) 5 (fun j _ _ => (hg j).2)
    have e5 : mxF g 5 = mxF g d.toNat := by omega
    have dp : 0 < d := by
      rcases Int.lt_or_le 0 d with z | z
      · exact z
      · rw [show d.toNat = 0 by omega, mxF_0] at k2; omega
    obtain ⟨a1, a2, a3, a4⟩ := st dp
    rw [← e5] at a3 a4 ⊢
    exact q X1 f1 e3 ⟨a1, by omega, a3, a4⟩
  · intro J hJ
    have gd := hg d
    have key : J (g d) := by
      have ms : mxF g (d + 1).toNat = max (mxF g d.toNat) (g d) := by rw [show (d + 1).toNat = d.toNat + 1 by omega, mxF_s, show ((d.toNat : Nat) : Int) = d by omega]
      refine hJ _ ⟨by omega, fun z => ⟨⟨by omega, by omega, by omega, f1, e3, fun _ => ?_⟩, by dsimp only; omega⟩, fun z => ⟨⟨by omega, by omega, by omega, f1.st rfl, by rw [x_st_ne (by decide)]; exact e3, fun _ => ?_⟩, by dsimp only; omega⟩⟩
      · have dp : 0 < d := by
          rcases Int.lt_or_le 0 d with y | y
          · exact y
          · rw [show d.toNat = 0 by omega, mxF_0] at z; omega
        obtain ⟨a1, a2, a3, a4⟩ := st dp
        have em : mxF g (d + 1).toNat = mxF g d.toNat := by omega
        rw [← em] at a3 a4
        exact ⟨a1, by omega, a3, a4⟩
      · rw [x_st_at]
        refine ⟨d0, by omega, by omega, fun j j0 j1 => ?_⟩
        have := mxF_le (g := g) d.toNat j j0 (by omega)
        omega
    have hbb := hb X1 d J f1 e3 d0 (by omega) key
    exact ⟨by omega, hbb.1, hbb.2⟩
theorem e_back {K : LK} {B X : XT} {r : Int → Int} {T : TT} {c f till fr men me ve : Int} {Q : XT → Prop} (b : CE K B r T) (hx : Fx scC B X) (c0 : 0 ≤ c) (c1 : c < r 0) (f0 : 0 ≤ f) (f1 : f ≤ 63) (p : PTK r c X) (mk : MKS r T c X) (n0 : 0 ≤ fr) (n1 : fr ≤ till) (t1 : till ≤ 11) (hmen : (men = 0 ∧ me = 1 ∧ ve = 1) ∨ (men = 1 ∧ me = 2 ∧ ve = 0))
    (cl : ∀ h s : Int, fr ≤ h → h < till → 0 ≤ s → s ≤ 576 → CLO r T c me ve h s X)
    (q : ∀ X1, Fx [68, 69] X X1 → (∀ s : Int, 0 ≤ s → s ≤ 576 → (fr = till ∨ ¬ X 59 (fr * 577 + s) = 0) → X1 69 (fr % 2 * 577 + s) = ckF r T c f till men (till - fr).toNat s) → (fr < till → ∀ spot : Int, 0 ≤ spot → spot ≤ 576 → ¬ X 59 (fr * 577 + spot) = 0 → (∀ s : Int, 0 ≤ s → s ≤ 576 → ¬ X 59 (fr * 577 + s) = 0 → s = spot) → STP (fun d => byF r T c men (ckF r T c f till men (till - (fr + 1)).toNat) spot fr d) 5 (X1 68 4)) → Q X1) : w_X1_reckonBack f till fr men X Q := by
  have w := b.rw
  have e97 : X 9 1 = r 7 := by rw [hx 9 rfl]; exact b.trm (by decide) (by decide)
  refine ⟨fun s X1 => 0 ≤ s ∧ s ≤ 577 ∧ Fx [68, 69] X X1 ∧ X1 68 3 = r 7 ∧ ∀ s' : Int, 0 ≤ s' → s' < s → X1 69 (till % 2 * 577 + s') = ckF r T c f till men 0 s', fun s _ => (577 - s).toNat, ⟨by decide, by decide, Fx.rf.st rfl, by rw [x_st_at]; exact e97, fun s' a b => absurd (show s' < (0 : Int) from b) (by omega)⟩, ?_⟩
  rintro s X1 ⟨s0, s1, g1, h1, k1⟩
  have hx1 : Fx scC B X1 := hx.trans (g1.sub (by decide))
  refine ⟨by omega, fun y => ?_, fun y => ?_⟩
  · refine ⟨fun x X2 => fr - 1 ≤ x ∧ x ≤ till - 1 ∧ Fx [68, 69] X X2 ∧ X2 68 3 = r 7 ∧ (∀ s : Int, 0 ≤ s → s ≤ 576 → (x + 1 = till ∨ ¬ X 59 ((x + 1) * 577 + s) = 0) → X2 69 ((x + 1) % 2 * 577 + s) = ckF r T c f till men (till - (x + 1)).toNat s) ∧ (x + 1 < till → ∀ spot : Int, 0 ≤ spot → spot ≤ 576 → ¬ X 59 ((x + 1) * 577 + spot) = 0 → (∀ s : Int, 0 ≤ s → s ≤ 576 → ¬ X 59 ((x + 1) * 577 + s) = 0 → s = spot) → STP (fun d => byF r T c men (ckF r T c f till men (till - (x + 1 + 1)).toNat) spot (x + 1) d) 5 (X2 68 4)), fun x _ => (x + 1).toNat, ⟨by omega, by omega, g1, h1, fun s' a b' _ => ?_, fun z => absurd z (by omega)⟩, ?_⟩
    · rw [show till - 1 + 1 = till by omega, show (till - till).toNat = 0 by omega]
      exact k1 s' a (by omega)
    rintro x X2 ⟨x0, x1, g2, h2, k2, p2⟩
    refine ⟨by omega, by omega, fun z => ?_, fun z => ?_⟩
    · have ex : x + 1 = fr := by omega
      rw [ex] at k2 p2
      exact q X2 g2 k2 p2
    · have hk : ∃ k5 : Nat, (till - x).toNat = k5 + 1 := ⟨(till - x).toNat - 1, by omega⟩
      obtain ⟨k5, ek⟩ := hk
      have eh : till - ((k5 + 1 : Nat) : Int) = x := by omega
      have el : (till - (x + 1)).toNat = k5 := by omega
      rw [el] at k2
      refine ⟨fun s X3 => 0 ≤ s ∧ s ≤ 577 ∧ Fx [68, 69] X X3 ∧ X3 68 3 = r 7 ∧ (∀ s : Int, 0 ≤ s → s ≤ 576 → (x + 1 = till ∨ ¬ X 59 ((x + 1) * 577 + s) = 0) → X3 69 ((x + 1) % 2 * 577 + s) = ckF r T c f till men k5 s) ∧ (∀ s' : Int, 0 ≤ s' → s' < s → ¬ X 59 (x * 577 + s') = 0 → X3 69 (x % 2 * 577 + s') = ckF r T c f till men (k5 + 1) s') ∧ (∀ spot : Int, 0 ≤ spot → spot < s → ¬ X 59 (x * 577 + spot) = 0 → (∀ s : Int, 0 ≤ s → s ≤ 576 → ¬ X 59 (x * 577 + s) = 0 → s = spot) → STP (fun d => byF r T c men (ckF r T c f till men k5) spot x d) 5 (X3 68 4)), fun s _ => (577 - s).toNat, ⟨by decide, by decide, g2, h2, k2, fun s' a b' => absurd (show s' < (0 : Int) from b') (by omega), fun s' a b' => absurd (show s' < (0 : Int) from b') (by omega)⟩, ?_⟩
      rintro s X3 ⟨t0, t1', g3, h3, k3, q3, p3⟩
      refine ⟨by omega, fun z2 => ⟨⟨by omega, by omega, g3, h3, fun s' a b' c' => ?_, fun _ spot a b' hm hu => ?_⟩, by dsimp only; omega⟩, fun z2 => ?_⟩
      · rw [show x + -1 + 1 = x by omega] at c' ⊢
        rw [ek]
        exact q3 s' a (by omega) (by rcases c' with c' | c'; omega; exact c')
      · rw [show x + -1 + 1 = x by omega] at hm hu ⊢
        rw [el]
        exact p3 spot a (by omega) hm hu
      · have mk3 : MKS r T c X3 := fun h s a b c d => by rw [g3 59 rfl]; exact mk h s a b c d
        refine e_isR mk3 (by omega) (by omega) t0 (by omega) (fun hm => ⟨by decide, fun z3 => absurd z3 (by decide), fun _ => ?_⟩) (fun hm => ⟨by decide, fun _ => ⟨⟨by omega, by omega, g3, h3, k3, fun s' a b' hm' => ?_, fun spot a b' hm' hu => ?_⟩, by dsimp only; omega⟩, fun z3 => absurd rfl z3⟩)
        · have hm0 : ¬ X 59 (x * 577 + s) = 0 := by rw [← g3 59 rfl]; exact hm
          have clx := cl x s (by omega) (by omega) t0 (by omega) hm0
          refine e_bestOf (g := fun d => byF r T c men (ckF r T c f till men k5) s x d) (fun d => byF_r w (ckF_r w k5)) (by omega) (fun X4 d Q2 g4 h4 d0 d1 hq => ?_) (fun X4 g4 h4 st4 => ?_)
          · have g4b : Fx [68, 69] X X4 := g3.trans (g4.sub (by decide))
            have mk4 : MKS r T c X4 := fun h s a b c d => by rw [g4b 59 rfl]; exact mk h s a b c d
            have hm4 : ¬ X4 59 (x * 577 + s) = 0 := by rw [g4b 59 rfl]; exact hm0
            have e4 : X4 68 3 = r 7 := by rw [h4]; exact h3
            refine ⟨fun zz => ?_, fun zz => ?_⟩
            · subst zz
              have h12 : me = 1 ∧ ve = 1 := by omega
              refine e_chBy w (p.fx g4b rfl) c0 c1 mk4 (by omega) (by omega) t0 (by omega) hm4 ⟨d0, d1⟩ e4 (ckF_r w k5) (fun tu htu => ?_) hq
              have nr := nxF_r (r := r) (T := T) (c := c) (h := x) (d := d) (tu := tu) ⟨t0, show s ≤ 576 by omega⟩
              rw [g4 69 rfl]
              refine k3 _ nr.1 nr.2 (Or.inr ?_)
              have := clx d 4 tu ⟨d0, d1, Or.inl ⟨h12.1, rfl⟩, by omega⟩
              rw [nyF_4] at this; exact this
            · have hz : men = 1 ∧ me = 2 := by omega
              obtain ⟨hz, hz2⟩ := hz
              subst hz
              refine e_wsBy w (p.fx g4b rfl) c0 c1 mk4 (by omega) (by omega) t0 (by omega) hm4 ⟨d0, d1⟩ (ckF_r w k5) (fun d2 e0 e1 => ?_) hq
              have nr := nyF_r (r := r) (T := T) (c := c) (h := x) (d := d) (d2 := d2) (tu := 0) ⟨t0, show s ≤ 576 by omega⟩
              rw [g4 69 rfl]
              exact k3 _ nr.1 nr.2 (Or.inr (clx d d2 0 ⟨d0, d1, Or.inr ⟨hz2, e0, e1⟩, Or.inl rfl⟩))
          · have g4b : Fx [68, 69] X X4 := g3.trans (g4.sub (by decide))
            refine e_setChance (by omega) (by omega) t0 (by omega) ⟨⟨by omega, by omega, g4b.st rfl, by rw [x_st_c (by decide), h4]; exact h3, fun s' a b' c' => ?_, fun s' a b' hm' => ?_, fun spot a b' hm' hu => ?_⟩, by dsimp only; omega⟩
            · rw [x_st_ne (by omega), g4 69 rfl]; exact k3 s' a b' c'
            · by_cases hq : s' = s
              · rw [hq, x_st_at, ckF_s, eh]
              · rw [x_st_ne (by omega), g4 69 rfl]; exact q3 s' a (by omega) hm'
            · rw [x_st_c (by decide), ← hu s t0 (by omega) hm0]
              exact st4
        · by_cases hq : s' = s
          · rw [hq] at hm'
            rw [g3 59 rfl] at hm
            exact absurd hm hm'
          · exact q3 s' a (by omega) hm'
        · by_cases hq : spot = s
          · rw [hq] at hm'
            rw [g3 59 rfl] at hm
            exact absurd hm hm'
          · exact p3 spot a (by omega) hm' hu
  · have pc1 : X1 58 3 = c := by rw [g1 58 rfl]; exact p.1
    unfold w_X2_shades
    rw [pc1]
    have st : ∀ v : Int, v = ckF r T c f till men 0 s → (0 ≤ s + 1 ∧ s + 1 ≤ 577 ∧ Fx [68, 69] X (x_st X1 69 (till % 2 * 577 + s) v) ∧ (x_st X1 69 (till % 2 * 577 + s) v) 68 3 = r 7 ∧ ∀ s' : Int, 0 ≤ s' → s' < s + 1 → (x_st X1 69 (till % 2 * 577 + s) v) 69 (till % 2 * 577 + s') = ckF r T c f till men 0 s') := by
      rintro v rfl
      refine ⟨by omega, by omega, g1.st rfl, by rw [x_st_c (by decide)]; exact h1, fun s' a b' => ?_⟩
      by_cases hq : s' = s
      · rw [hq, x_st_at]
      · rw [x_st_ne (by omega)]; exact k1 s' a (by omega)
    refine e_covers b hx1 c0 c1 s0 (by omega) f0 f1 (fun hs => ⟨by decide, by decide, fun z => absurd z (by decide), fun _ => e_setChance (by omega) (by omega) s0 (by omega) ⟨st _ ?_, by dsimp only; omega⟩⟩) (fun hs => ⟨by decide, by decide, fun _ => e_setChance (by omega) (by omega) s0 (by omega) ⟨st _ ?_, by dsimp only; omega⟩, fun z => absurd rfl z⟩)
    · rw [ckF_0, if_pos hs]
    · rw [ckF_0, if_neg hs]

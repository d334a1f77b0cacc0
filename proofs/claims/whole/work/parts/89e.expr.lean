/-! TEXTS: the class reads sums and tests -/
/-- while nothing is asked of corners, no order of the code is a corner's -/
def zNC (X : XT) : Prop := ((X 37 4 = 0 ∨ X 37 4 = 1) ∧ 0 ≤ X 37 3 ∧ X 37 3 ≤ 800) ∧ (X 37 4 = 0 → ∀ j : Int, 0 ≤ j → j < X 37 3 → j % 2 = 0 → ¬ X 39 j = 3)
theorem zNC.cg {X X1 : XT} (h : zNC X) (a : X1 37 3 = X 37 3) (b : X1 37 4 = X 37 4) (c : X1 39 = X 39) : zNC X1 := by
  unfold zNC
  rw [a, b, c]; exact h
def CFr (X X1 : XT) : Prop := Fx [33, 37, 39] X X1 ∧ (∀ f : Int, ¬ f = 6 → ¬ f = 7 → X1 33 f = X 33 f) ∧ (∀ f : Int, ¬ f = 3 → ¬ f = 4 → X1 37 f = X 37 f) ∧ (zNC X → zNC X1)
theorem CFr.rf {X : XT} : CFr X X := ⟨Fx.rf, fun _ _ _ => rfl, fun _ _ _ => rfl, id⟩
theorem CFr.tr {X X1 X2 : XT} (a : CFr X X1) (b : CFr X1 X2) : CFr X X2 := ⟨a.1.trans b.1, fun f h1 h2 => (b.2.1 f h1 h2).trans (a.2.1 f h1 h2), fun f h1 h2 => (b.2.2.1 f h1 h2).trans (a.2.2.1 f h1 h2), fun h => b.2.2.2 (a.2.2.2 h)⟩
theorem CFr.nx {X X1 : XT} {f v : Int} (a : CFr X X1) (h : f = 6 ∨ f = 7) : CFr X (x_st X1 33 f v) := ⟨a.1.st rfl, fun g h1 h2 => by rw [x_st_ne (by omega)]; exact a.2.1 g h1 h2, fun g h1 h2 => by rw [x_st_c (by decide)]; exact a.2.2.1 g h1 h2, fun h => (a.2.2.2 h).cg (by rw [x_st_c (by decide)]) (by rw [x_st_c (by decide)]) (x_st_c (by decide))⟩
theorem CFr.ask {X X1 : XT} (a : CFr X X1) : CFr X (x_st X1 37 4 1) := ⟨a.1.st rfl, fun g h1 h2 => by rw [x_st_c (by decide)]; exact a.2.1 g h1 h2, fun g h1 h2 => by rw [x_st_ne h2]; exact a.2.2.1 g h1 h2, fun h0 => ⟨⟨Or.inr x_st_at, by rw [x_st_ne (by decide)]; exact (a.2.2.2 h0).1.2⟩, fun h => by rw [x_st_at] at h; exact absurd h (by decide)⟩⟩
theorem CFr.ld {X : XT} {f v : Int} (h3 : ¬ v = 3) : CFr X (x_st X 39 f v) := ⟨Fx.rf.st rfl, fun g h1 h2 => by rw [x_st_c (by decide)], fun g h1 h2 => by rw [x_st_c (by decide)], fun h => ⟨by rw [x_st_c (by decide)]; exact h.1, fun h4 j j0 j1 j2 => by
  rw [x_st_c (by decide)] at h4 j1
  by_cases e : j = f
  · rw [e, x_st_at]; exact h3
  · rw [x_st_ne e]; exact h.2 h4 j j0 j1 j2⟩⟩
theorem CFr.em {X : XT} {s o c : Int} (hs : X 37 3 = s) (s2 : (0 ≤ s ∧ s % 2 = 0) ∧ s + 2 ≤ 800) (h3 : ¬ o = 3 ∨ ¬ X 37 4 = 0) : CFr X (x_st (x_st (x_st X 39 s o) 39 (s + 1) c) 37 3 (s + 2)) := ⟨((Fx.rf.st rfl).st rfl).st rfl, fun g h1 h2 => by rw [x_st_c (by decide), x_st_c (by decide), x_st_c (by decide)], fun g h1 h2 => by rw [x_st_ne h1, x_st_c (by decide), x_st_c (by decide)], fun h => ⟨⟨by rw [x_st_ne (by decide), x_st_c (by decide), x_st_c (by decide)]; exact h.1.1, by rw [x_st_at]; omega, by rw [x_st_at]; omega⟩, fun h4 j j0 j1 j2 => by
  rw [x_st_ne (by decide), x_st_c (by decide), x_st_c (by decide)] at h4
  rw [x_st_at] at j1
  rw [x_st_c (by decide), x_st_ne (by omega)]
  by_cases e : j = s
  · rw [e, x_st_at]
    rcases h3 with h3 | h3
    · exact h3
    · exact absurd h4 h3
  · rw [x_st_ne e]; exact h.2 h4 j j0 (by omega) j2⟩⟩
/-- the tokens of the tape, as the class has them -/
def TKX (lw : Bool) (tk : Int → Int) (X : XT) : Prop := (1 ≤ X 33 5 ∧ X 33 5 ≤ 401) ∧ (∀ j : Int, 0 ≤ j → j < X 33 5 → X 35 j = tk j) ∧ (∀ j : Int, X 33 5 - 1 ≤ j → tk j = 29) ∧ (∀ j : Int, 0 ≤ j → j < X 33 5 - 1 → ¬ tk j = 29) ∧ (∀ j : Int, 0 ≤ tk j ∧ tk j ≤ 3001) ∧ X 33 9 = if lw = true then 1 else 0
theorem TKX.go {lw : Bool} {tk : Int → Int} {X X1 : XT} (h : TKX lw tk X) (a : CFr X X1) : TKX lw tk X1 := by
  unfold TKX
  rw [a.2.1 5 (by decide) (by decide), a.2.1 9 (by decide) (by decide), a.1 35 rfl]
  exact h
theorem TKX.ht {lw : Bool} {tk : Int → Int} {X : XT} (h : TKX lw tk X) : ∀ j : Int, 400 ≤ j → tk j = 29 := fun j hj => h.2.2.1 j (by have := h.1; omega)
theorem e_token {lw : Bool} {tk : Int → Int} {X : XT} {i : Int} {Q : Int → Prop} (h : TKX lw tk X) (hi : X 33 6 = i) (i0 : 0 ≤ i) (i1 : i ≤ 400) (q : Q (tk i)) : w_X5_token X Q := by
  have h1 := h.1
  unfold w_X5_token
  rw [hi]
  refine ⟨by omega, fun k => absurd k (by omega), fun _ => ⟨by omega, fun k => ?_, fun k => ⟨fun k2 => absurd k2 (by omega), fun _ => ⟨by omega, ?_⟩⟩⟩⟩
  · rw [h.2.2.1 i (by omega)] at q; exact q
  · rw [h.2.1 i i0 (by omega)]; exact q
theorem e_pass {lw : Bool} {tk : Int → Int} {X : XT} {i : Int} {Q : XT → Prop} (h : TKX lw tk X) (hi : X 33 6 = i) (i0 : 0 ≤ i) (hk : ¬ tk i = 29) (q : Q (x_st X 33 6 (i + 1))) : w_X5_pass X Q := by
  have h1 := h.1
  have lt : i < X 33 5 - 1 := by
    by_cases z : X 33 5 - 1 ≤ i
    · exact absurd (h.2.2.1 i z) hk
    · omega
  unfold w_X5_pass
  rw [hi]
  exact ⟨by omega, by omega, fun k => absurd k (by omega), fun _ => ⟨fun k => absurd k (by omega), fun _ => q⟩⟩
theorem e_takeT {lw : Bool} {tk : Int → Int} {X : XT} {i t : Int} {Q : Int → XT → Prop} (h : TKX lw tk X) (hi : X 33 6 = i) (i0 : 0 ≤ i) (i1 : i ≤ 400) (ht : ¬ t = 29) (rt : 0 ≤ t ∧ t ≤ 3001) (q1 : tk i = t → Q 1 (x_st X 33 6 (i + 1))) (q0 : ¬ tk i = t → Q 0 X) : w_X5_take t X Q := by
  have hr := h.2.2.2.2.1 i
  refine e_token h hi i0 i1 ?_
  intro J hJ
  refine ⟨by omega, by omega, fun k => hJ 0 ⟨by decide, fun _ => ⟨Or.inl rfl, q0 k⟩, fun k2 => absurd rfl k2⟩, fun k => hJ 1 ⟨by decide, fun k2 => absurd k2 (by decide), fun _ => ?_⟩⟩
  exact e_pass h hi i0 (by omega) ⟨Or.inr rfl, q1 k⟩
theorem e_emit {X : XT} {s o a : Int} {Q : XT → Prop} (hs : X 37 3 = s) (s0 : 0 ≤ s ∧ s % 2 = 0) (s1 : s + 2 ≤ 800) (h3 : ¬ o = 3 ∨ ¬ X 37 4 = 0) (q : ∀ X1, CFr X X1 → X1 37 3 = s + 2 → X1 39 s = o → X1 39 (s + 1) = a → (∀ j : Int, j < s → X1 39 j = X 39 j) → X1 33 = X 33 → Q X1) : w_X7_emit o a X Q := by
  have a1 : (x_st X 39 (X 37 3) o) 37 3 = s := by rw [x_st_c (by decide)]; exact hs
  have a2 : (x_st (x_st X 39 (X 37 3) o) 39 (s + 1) a) 37 3 = s := by rw [x_st_c (by decide)]; exact a1
  unfold w_X7_emit
  rw [a1, a2, hs]
  refine ⟨by omega, fun k => absurd k (by omega), fun _ => ⟨by omega, by omega, q _ (CFr.em hs ⟨s0, s1⟩ h3) x_st_at ?_ ?_ (fun j hj => ?_) ?_⟩⟩
  · rw [x_st_c (by decide), x_st_ne (by omega), x_st_at]
  · rw [x_st_c (by decide), x_st_at]
  · rw [x_st_c (by decide), x_st_ne (by omega), x_st_ne (by omega)]
  · rw [x_st_c (by decide), x_st_c (by decide), x_st_c (by decide)]
theorem e_landN {X : XT} {Q : XT → Prop} (q : Q X) : w_X7_landHere (-1) X Q := ⟨by decide, fun _ => q, fun k => absurd (by decide) k⟩
theorem e_land {X : XT} {s j : Int} {Q : XT → Prop} (hs : X 37 3 = s) (s1 : s ≤ 800) (j0 : 0 ≤ j) (j1 : j + 1 < s) (q : Q (x_st X 39 (j + 1) s)) : w_X7_landHere j X Q := by
  unfold w_X7_landHere
  rw [hs]
  exact ⟨by omega, fun k => absurd k (by omega), fun _ => ⟨by omega, by omega, fun k => absurd k (by omega), fun _ => ⟨by omega, q⟩⟩⟩
theorem e_order {t : Int} {X : XT} {Q : Int → Prop} (r : 0 ≤ t ∧ t ≤ 3001) (q : Q (ordOf t)) : w_X5_orderOf t X Q := by
  unfold ordOf at q
  unfold w_X5_orderOf
  refine ⟨by omega, ?_⟩
  repeat' constructor
  all_goals intro k
  all_goals (first
    | (rw [if_pos k] at q; exact q)
    | (rw [if_neg (by omega), if_pos k] at q; exact q)
    | (rw [if_neg (by omega), if_neg (by omega), if_pos k] at q; exact q)
    | (rw [if_neg (by omega), if_neg (by omega), if_neg (by omega), if_pos k] at q; exact q)
    | (rw [if_neg (by omega), if_neg (by omega), if_neg (by omega), if_neg (by omega), if_pos k] at q; exact q)
    | (rw [if_neg (by omega), if_neg (by omega), if_neg (by omega), if_neg (by omega), if_neg (by omega)] at q; exact q))
theorem e_relat {t : Int} {X : XT} {Q : Int → Prop} (r : 0 ≤ t ∧ t ≤ 3001) (q : Q (relOf t)) : w_X5_relationOf t X Q := by
  unfold relOf at q
  unfold w_X5_relationOf
  refine ⟨by omega, ?_⟩
  repeat' constructor
  all_goals intro k
  all_goals (first
    | (rw [if_pos k] at q; exact q)
    | (rw [if_neg (by omega), if_pos k] at q; exact q)
    | (rw [if_neg (by omega), if_neg (by omega), if_pos k] at q; exact q)
    | (rw [if_neg (by omega), if_neg (by omega), if_neg (by omega)] at q; exact q))

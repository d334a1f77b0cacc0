/-! DRIVES AND PARTING: the fewest flags -/
def WKS (r : Int → Int) (T : TT) (c : Int) (X : XT) : Prop := ∀ h s : Int, 0 ≤ h → h ≤ 11 → 0 ≤ s → s < 576 → X 96 (576 * h + s) = if freP r T c s h then 1 else 0
theorem m_works {r : Int → Int} {T : TT} {X : XT} {c : Int} {Q : XT → Prop} (w : RW r) (hT : HRt r T) (tr : TR T) (e : ME r X) (c0 : 0 ≤ c) (c1 : c < r 0) (q : ∀ X1, Gx [91, 93, 96] X X1 → WKS r T c X1 → Q X1) : w_X12_layWorks c X Q := by
  refine ⟨fun h X1 => 0 ≤ h ∧ h ≤ 12 ∧ Gx [91, 93, 96] X X1 ∧ ∀ h' s : Int, 0 ≤ h' → h' < h → 0 ≤ s → s < 576 → X1 96 (576 * h' + s) = if freP r T c s h' then 1 else 0, fun h _ => (12 - h).toNat, ⟨by decide, by decide, Gx.rf, fun h' s a b => absurd (show h' < (0 : Int) from b) (by omega)⟩, ?_⟩
  rintro h X1 ⟨h0, h1, g1, k1⟩
  refine ⟨by omega, fun k => q X1 g1 (fun h' s a b c d => k1 h' s a (by omega) c d), fun k => ?_⟩
  refine ⟨fun s X2 => 0 ≤ s ∧ s ≤ 576 ∧ Gx [91, 93, 96] X X2 ∧ (∀ h' s : Int, 0 ≤ h' → h' < h → 0 ≤ s → s < 576 → X2 96 (576 * h' + s) = if freP r T c s h' then 1 else 0) ∧ ∀ s' : Int, 0 ≤ s' → s' < s → X2 96 (576 * h + s') = if freP r T c s' h then 1 else 0, fun s _ => (576 - s).toNat, ⟨by decide, by decide, g1, k1, fun s' a b => absurd (show s' < (0 : Int) from b) (by omega)⟩, ?_⟩
  rintro s X2 ⟨s0, s1, g2, k2, k3⟩
  refine ⟨by omega, fun k4 => ⟨⟨by omega, by omega, g2, fun h' s' a b c d => ?_⟩, by dsimp only; omega⟩, fun k4 => ?_⟩
  · by_cases hq : h' = h
    · rw [hq]; exact k3 s' c (by omega)
    · exact k2 h' s' a (by omega) c d
  · have st : ∀ (X3 : XT) (v : Int), Gx [91, 93] X2 X3 → v = (if freP r T c s h then 1 else 0) → (0 ≤ s + 1 ∧ s + 1 ≤ 576 ∧ Gx [91, 93, 96] X (x_st X3 96 ((576 * h) + s) v) ∧ (∀ h' s' : Int, 0 ≤ h' → h' < h → 0 ≤ s' → s' < 576 → (x_st X3 96 ((576 * h) + s) v) 96 (576 * h' + s') = if freP r T c s' h' then 1 else 0) ∧ ∀ s' : Int, 0 ≤ s' → s' < s + 1 → (x_st X3 96 ((576 * h) + s) v) 96 (576 * h + s') = if freP r T c s' h then 1 else 0) := by
      rintro X3 v g3 rfl
      refine ⟨by omega, by omega, (g2.trans (g3.sub (by decide))).st rfl (by decide), fun h' s' a b c d => ?_, fun s' a b => ?_⟩
      · rw [x_st_ne (by omega), g3.1 96 rfl (by decide)]; exact k2 h' s' a b c d
      · by_cases hq : s' = s
        · rw [hq, x_st_at]
        · rw [x_st_ne (by omega), g3.1 96 rfl (by decide)]; exact k3 s' a (by omega)
    refine m_helps w hT tr (e.go g2 rfl) c0 c1 s0 (by omega) h0 (by omega) (fun hf X3 g3 => ⟨by decide, by omega, st X3 1 g3 (by rw [if_pos hf]), by dsimp only; omega⟩) (fun hf X3 g3 => ⟨by decide, by omega, st X3 0 g3 (by rw [if_neg hf]), by dsimp only; omega⟩)
theorem m_next {r : Int → Int} {T : TT} {X : XT} {c h s tu d : Int} {Q : Int → Prop} (w : RW r) (e : X 79 = r) (k : WKS r T c X) (c0 : 0 ≤ c) (c1 : c < r 0) (h0 : 0 ≤ h) (h1 : h ≤ 11) (s0 : 0 ≤ s) (s1 : s < 576) (rt : tu = 0 ∨ tu = 1) (d0 : 0 ≤ d) (d1 : d ≤ 4) (q : Q (gN (nxF r T c s h d tu))) : w_X12_nextOf c h s tu d X Q := by
  have wc := w.2.2.1.1
  have hc := w.2.2.1.2 c c0 c1
  have kk := k h s h0 h1 s0 s1
  unfold w_X12_nextOf
  rw [kk, e]
  by_cases hf : freP r T c s h
  · rw [if_pos hf]
    refine ⟨by omega, by omega, by decide, fun z => absurd z (by decide), fun _ => m_goes w e (by omega) (by omega) s0 s1 rt (by omega) (by decide) ?_⟩
    rw [nxF_go (by omega) hf] at q
    rw [show sxF 4 = 0 from rfl, show syF 4 = 0 from rfl, Int.add_zero, Int.add_zero]
    exact q
  · rw [if_neg hf]
    refine ⟨by omega, by omega, by decide, fun _ => m_goes w e (by omega) (by omega) s0 s1 rt (by decide) (by decide) ?_, fun z => absurd rfl z⟩
    rw [nxF_no (fun _ => Or.inr (Or.inr hf)) ⟨s0, by omega⟩] at q
    rw [show sxF 4 = 0 from rfl, show syF 4 = 0 from rfl, Int.add_zero, Int.add_zero, Int.add_zero]
    exact q
/-- the least of g at 0 .. m-1, and 1000 -/
def mnF (g : Int → Int) : Nat → Int
  | 0 => 1000
  | m + 1 => min (mnF g m) (g (m : Int))
theorem mnF_s {g : Int → Int} {m : Nat} : mnF g (m + 1) = min (mnF g m) (g (m : Int)) := rfl
theorem mnF_le {g : Int → Int} : ∀ (m : Nat) (d : Int), 0 ≤ d → d < m → mnF g m ≤ g d := by
  intro m
  induction m with
  | zero => intro d d0 d1; omega
  | succ m ih =>
    intro d d0 d1
    rw [mnF_s]
    by_cases hd : d = (m : Int)
    · rw [hd]; omega
    · have := ih d d0 (by omega); omega
theorem mnF_at {g : Int → Int} : ∀ m : Nat, mnF g m = 1000 ∨ ∃ d : Int, 0 ≤ d ∧ d < m ∧ g d = mnF g m := by
  intro m
  induction m with
  | zero => exact Or.inl rfl
  | succ m ih =>
    rw [mnF_s]
    rcases Int.lt_or_le (g (m : Int)) (mnF g m) with h | h
    · exact Or.inr ⟨m, by omega, by omega, by omega⟩
    · rw [show min (mnF g m) (g (m : Int)) = mnF g m by omega]
      rcases ih with ih | ⟨d, d0, d1, e⟩
      · exact Or.inl ih
      · exact Or.inr ⟨d, d0, by omega, e⟩
theorem mnF_m {g : Int → Int} : ∀ m : Nat, mnF g m ≤ 1000 := by
  intro m
  induction m with
  | zero => exact Int.le_refl _
  | succ m ih => rw [mnF_s]; omega
def oneF (d : Int) : Int := if d < 4 then 1 else 0
/-- the fewest flags from a corner, k hours ahead of till; ok: where it may be -/
def coF (r : Int → Int) (T : TT) (c : Int) (ok : Int → Int → Bool) (till : Int) : Nat → Int → Int
  | 0, s => if ok till s = true then 0 else 1000
  | k + 1, s => if ok (till - ((k + 1 : Nat) : Int)) s = true then mnF (fun d => coF r T c ok till k (nxF r T c s (till - ((k + 1 : Nat) : Int)) d 0) + oneF d) 5 else 1000
theorem coF_0 {r : Int → Int} {T : TT} {c : Int} {ok : Int → Int → Bool} {till s : Int} : coF r T c ok till 0 s = if ok till s = true then 0 else 1000 := rfl
theorem coF_s {r : Int → Int} {T : TT} {c : Int} {ok : Int → Int → Bool} {till s : Int} {k : Nat} : coF r T c ok till (k + 1) s = if ok (till - ((k + 1 : Nat) : Int)) s = true then mnF (fun d => coF r T c ok till k (nxF r T c s (till - ((k + 1 : Nat) : Int)) d 0) + oneF d) 5 else 1000 := rfl
theorem coF_r {r : Int → Int} {T : TT} {c : Int} {ok : Int → Int → Bool} {till : Int} : ∀ (k : Nat) (s : Int), 0 ≤ coF r T c ok till k s ∧ (coF r T c ok till k s ≤ k ∨ coF r T c ok till k s = 1000) := by
  intro k
  induction k with
  | zero =>
    intro s
    rw [coF_0]; split <;> omega
  | succ k ih =>
    intro s
    rw [coF_s]
    split
    · rcases mnF_at (g := fun d => coF r T c ok till k (nxF r T c s (till - ((k + 1 : Nat) : Int)) d 0) + oneF d) 5 with h | ⟨d, d0, d1, e⟩
      · rw [h]; omega
      · have i := ih (nxF r T c s (till - ((k + 1 : Nat) : Int)) d 0)
        have m := mnF_m (g := fun d => coF r T c ok till k (nxF r T c s (till - ((k + 1 : Nat) : Int)) d 0) + oneF d) 5
        rw [← e] at m ⊢
        try dsimp only at m ⊢
        have o : 0 ≤ oneF d ∧ oneF d ≤ 1 := by unfold oneF; split <;> omega
        omega
    · omega
/-- the class's sheet of costs -/
theorem e_costOf {X : XT} {h s : Int} {Q : Int → Prop} (h0 : 0 ≤ h) (h1 : h ≤ 11) (s0 : 0 ≤ s) (s1 : s ≤ 576) (q : Q (X 61 (h * 577 + s))) : w_X4_costOf h s X Q :=
  ⟨by omega, fun k => absurd k (by omega), fun _ => ⟨fun k => absurd k (by omega), fun _ => ⟨by omega, q⟩⟩⟩
theorem e_costBy {r : Int → Int} {T : TT} {c : Int} {X : XT} {h s d : Int} {Q : Int → Prop} (w : RW r) (p : PTK r c X) (c0 : 0 ≤ c) (c1 : c < r 0) (m : MKS r T c X) (h0 : 0 ≤ h) (h1 : h ≤ 10) (s0 : 0 ≤ s) (s1 : s ≤ 576) (hm : ¬ X 59 (h * 577 + s) = 0) (rd : 0 ≤ d ∧ d ≤ 4) (q : Q (X 61 ((h + 1) * 577 + nxF r T c s h d 0) + oneF d)) : w_X4_costBy h s d X Q := by
  intro J hJ
  have key : ∀ v : Int, v = oneF d → J v := by
    rintro v rfl
    refine hJ _ (e_onward w p c0 c1 m h0 (by omega) s0 s1 hm rd (by omega) (Or.inl rfl) ?_)
    rw [nyF_4]
    have nr := nxF_r (r := r) (T := T) (c := c) (h := h) (d := d) (tu := 0) ⟨s0, s1⟩
    exact e_costOf (by omega) (by omega) nr.1 nr.2 q
  exact ⟨by omega, fun k => key 1 (by unfold oneF; rw [if_pos (by omega)]), fun k => key 0 (by unfold oneF; rw [if_neg (by omega)])⟩
theorem e_costs {r : Int → Int} {T : TT} {c till : Int} {ok : Int → Int → Bool} {RS : Int → Int → Prop} {X : XT} {Q : XT → Prop} (w : RW r) (p : PTK r c X) (c0 : 0 ≤ c) (c1 : c < r 0) (m : MKS r T c X) (t0 : 0 ≤ till) (t1 : till ≤ 11)
    (hr : ∀ h s : Int, 0 ≤ h → h ≤ till → 0 ≤ s → s ≤ 576 → RS h s → (¬ X 59 (h * 577 + s) = 0 ↔ ok h s = true))
    (hn : ∀ h s : Int, 0 ≤ h → h < till → 0 ≤ s → s ≤ 576 → ¬ X 59 (h * 577 + s) = 0 → RS h s)
    (hc : ∀ h s d : Int, 0 ≤ h → h < till → 0 ≤ s → s ≤ 576 → RS h s → 0 ≤ d → d ≤ 4 → RS (h + 1) (nxF r T c s h d 0))
    (q : ∀ X1, Fx [61] X X1 → (∀ h s : Int, 0 ≤ h → h ≤ till → 0 ≤ s → s ≤ 576 → RS h s → X1 61 (h * 577 + s) = coF r T c ok till (till - h).toNat s) → Q X1) : w_X4_reckonCosts till X Q := by
  refine ⟨fun x X1 => -1 ≤ x ∧ x ≤ till ∧ Fx [61] X X1 ∧ ∀ h s : Int, x < h → h ≤ till → 0 ≤ s → s ≤ 576 → RS h s → X1 61 (h * 577 + s) = coF r T c ok till (till - h).toNat s, fun x _ => (x + 1).toNat, ⟨by omega, Int.le_refl _, Fx.rf, fun h s a b => absurd b (by omega)⟩, ?_⟩
  rintro x X1 ⟨x0, x1, f1, k1⟩
  refine ⟨by omega, fun k => q X1 f1 (fun h s a b => k1 h s (by omega) b), fun k => ?_⟩
  refine ⟨fun s X2 => 0 ≤ s ∧ s ≤ 577 ∧ Fx [61] X X2 ∧ (∀ h s : Int, x < h → h ≤ till → 0 ≤ s → s ≤ 576 → RS h s → X2 61 (h * 577 + s) = coF r T c ok till (till - h).toNat s) ∧ ∀ s' : Int, 0 ≤ s' → s' < s → RS x s' → X2 61 (x * 577 + s') = coF r T c ok till (till - x).toNat s', fun s _ => (577 - s).toNat, ⟨by decide, by decide, f1, k1, fun s' a b => absurd (show s' < (0 : Int) from b) (by omega)⟩, ?_⟩
  rintro s X2 ⟨s0, s1, f2, k2, k3⟩
  refine ⟨by omega, fun k4 => ⟨⟨by omega, by omega, f2, fun h s' a b d e g => ?_⟩, by dsimp only; omega⟩, fun k4 => ?_⟩
  · by_cases hq : h = x
    · rw [hq] at g ⊢; exact k3 s' d (by omega) g
    · exact k2 h s' (by omega) b d e g
  · have st : ∀ v : Int, (RS x s → v = coF r T c ok till (till - x).toNat s) → (0 ≤ s + 1 ∧ s + 1 ≤ 577 ∧ Fx [61] X (x_st X2 61 (x * 577 + s) v) ∧ (∀ h s' : Int, x < h → h ≤ till → 0 ≤ s' → s' ≤ 576 → RS h s' → (x_st X2 61 (x * 577 + s) v) 61 (h * 577 + s') = coF r T c ok till (till - h).toNat s') ∧ ∀ s' : Int, 0 ≤ s' → s' < s + 1 → RS x s' → (x_st X2 61 (x * 577 + s) v) 61 (x * 577 + s') = coF r T c ok till (till - x).toNat s') := by
      intro v hv
      refine ⟨by omega, by omega, f2.st rfl, fun h s' a b d e g => ?_, fun s' a b g => ?_⟩
      · rw [x_st_ne (by omega)]; exact k2 h s' a b d e g
      · by_cases hq : s' = s
        · rw [hq, x_st_at]; rw [hq] at g; exact hv g
        · rw [x_st_ne (by omega)]; exact k3 s' a (by omega) g
    refine ⟨by omega, fun z => absurd z (by omega), fun _ => ⟨fun z => absurd z (by omega), fun _ => ?_⟩⟩
    have m2 : MKS r T c X2 := fun h s h0 h1 s0 s1 => by rw [f2 59 rfl]; exact m h s h0 h1 s0 s1
    refine e_isR m2 (by omega) (by omega) s0 (by omega) (fun hm => ⟨by decide, fun _ => ⟨by omega, by omega, fun kx => ?_, fun kx => ⟨by omega, st 0 (fun g => ?_), by dsimp only; omega⟩⟩, fun z => absurd z (by decide)⟩) (fun hm => ⟨by decide, fun z => absurd rfl z, fun _ => ⟨by omega, st 1000 (fun g => ?_), by dsimp only; omega⟩⟩)
    · rw [f2 59 rfl] at hm
      have rs := hn x s (by omega) (by omega) s0 (by omega) hm
      have okx := (hr x s (by omega) x1 s0 (by omega) rs).mp hm
      obtain ⟨k5, ek⟩ : ∃ k5 : Nat, (till - x).toNat = k5 + 1 := ⟨(till - x).toNat - 1, by omega⟩
      have eh : till - ((k5 + 1 : Nat) : Int) = x := by omega
      have el : (till - (x + 1)).toNat = k5 := by omega
      refine ⟨fun v d => 0 ≤ d ∧ d ≤ 5 ∧ v = mnF (fun d => coF r T c ok till k5 (nxF r T c s x d 0) + oneF d) d.toNat, fun _ d => (5 - d).toNat, ⟨by decide, by decide, rfl⟩, ?_⟩
      rintro v d ⟨d0, d1, rfl⟩
      have mr := mnF_m (g := fun d => coF r T c ok till k5 (nxF r T c s x d 0) + oneF d) d.toNat
      have mlow : 0 ≤ mnF (fun d => coF r T c ok till k5 (nxF r T c s x d 0) + oneF d) d.toNat := by
        rcases mnF_at (g := fun d => coF r T c ok till k5 (nxF r T c s x d 0) + oneF d) d.toNat with h | ⟨d', _, _, e⟩
        · rw [h]; decide
        · rw [← e]
          have := coF_r (r := r) (T := T) (c := c) (ok := ok) (till := till) k5 (nxF r T c s x d' 0)
          have o : 0 ≤ oneF d' := by unfold oneF; split <;> omega
          omega
      refine ⟨by omega, fun kd => ⟨by omega, st _ (fun g => ?_), by dsimp only; omega⟩, fun kd => ?_⟩
      · rw [ek, coF_s, eh, if_pos okx, show d.toNat = 5 by omega]
      · have nr := nxF_r (r := r) (T := T) (c := c) (h := x) (d := d) (tu := 0) ⟨s0, show s ≤ 576 by omega⟩
        have rs2 := hc x s d (by omega) (by omega) s0 (by omega) rs d0 (by omega)
        have v2 := k2 (x + 1) (nxF r T c s x d 0) (by omega) (by omega) nr.1 nr.2 rs2
        rw [el] at v2
        have cr := coF_r (r := r) (T := T) (c := c) (ok := ok) (till := till) k5 (nxF r T c s x d 0)
        have o : 0 ≤ oneF d ∧ oneF d ≤ 1 := by unfold oneF; split <;> omega
        refine e_costBy w (p.fx f2 rfl) c0 c1 m2 (by omega) (by omega) s0 (by omega) (by rw [f2 59 rfl]; exact hm) ⟨d0, by omega⟩ ?_
        rw [v2]
        refine ⟨by omega, by omega, ⟨by omega, by omega, ?_⟩, by dsimp only; omega⟩
        rw [show (d + 1).toNat = d.toNat + 1 by omega, mnF_s, show ((d.toNat : Nat) : Int) = d by omega]
    · rw [f2 59 rfl] at hm
      rw [show (till - x).toNat = 0 by omega, coF_0, if_pos]
      rw [← kx]; exact (hr x s (by omega) x1 s0 (by omega) g).mp hm
    · rw [f2 59 rfl] at hm
      have nok : ¬ ok x s = true := fun z => (hr x s (by omega) x1 s0 (by omega) g).mpr z hm
      rcases Nat.eq_zero_or_pos (till - x).toNat with h | h
      · rw [h, coF_0, if_neg (by rw [show till = x by omega]; exact nok)]
      · obtain ⟨k5, ek⟩ : ∃ k5 : Nat, (till - x).toNat = k5 + 1 := ⟨(till - x).toNat - 1, by omega⟩
        rw [ek, coF_s, show till - ((k5 + 1 : Nat) : Int) = x by omega, if_neg nok]

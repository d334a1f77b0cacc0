/-! SERVE: the reference keeps a set of contracts, or not -/
theorem m_is {a k : Int} {X : XT} {Q : Int → Prop} (a0 : 0 ≤ a) (a1 : a < 256) (k0 : 0 ≤ k) (k1 : k < 8) (q1 : bt a k = true → Q 1) (q0 : ¬ bt a k = true → Q 0) : w_X12_is a k X Q := by
  have mb := (mem_b a0 a1 k0 k1).2
  unfold w_X12_is
  rw [mb]
  refine ⟨by split <;> decide, fun y => q0 (fun e => y (if_pos e)), fun y => q1 ?_⟩
  by_cases e : bt a k = true
  · exact e
  · rw [if_neg e] at y; exact absurd y (by decide)
theorem m_isOver {r : Int → Int} {a h : Int} {X : XT} {Q : Int → Prop} (w : RW r) (e : X 79 = r) (a0 : 0 ≤ a) (a1 : a < 256) (rh : 0 ≤ h ∧ h ≤ 12) (q1 : ovF r a h → Q 1) (q0 : ¬ ovF r a h → Q 0) : w_X12_isOver a h X Q := by
  have wn := w.2.2.2.2.1
  have wn1 := wn.1
  unfold w_X12_isOver
  rw [e]
  refine ⟨fun v k => 0 ≤ k ∧ k ≤ r 2 ∧ ((v = 1 ∧ ∀ j : Int, 0 ≤ j → j < k → bt a j = true → coR r j 2 < h) ∨ (v = 0 ∧ ¬ ∀ j : Int, 0 ≤ j → j < k → bt a j = true → coR r j 2 < h)), fun _ k => (r 2 - k).toNat, ⟨by decide, wn.1.1, Or.inl ⟨rfl, fun j j0 j1 => absurd (show j < (0 : Int) from j1) (by omega)⟩⟩, ?_⟩
  rintro v k ⟨k0, k1, hv⟩
  refine ⟨by omega, by omega, fun z => ?_, fun z => ?_⟩
  · have ek : k = r 2 := by omega
    subst ek
    rcases hv with ⟨rfl, hv⟩ | ⟨rfl, hv⟩
    · exact ⟨Or.inr rfl, q1 hv⟩
    · exact ⟨Or.inl rfl, q0 hv⟩
  · have wk := wn.2 k k0 (by omega)
    intro J hJ
    have no : (¬ ∀ j : Int, 0 ≤ j → j < k + 1 → bt a j = true → coR r j 2 < h) → J := fun hn => hJ ⟨⟨by omega, by omega, Or.inr ⟨rfl, hn⟩⟩, by dsimp only; omega⟩
    refine ⟨by omega, fun z2 => no (fun g => ?_), fun z2 => ?_⟩
    · rcases hv with hv | hv
      · omega
      · exact hv.2 (fun j j0 j1 => g j j0 (by omega))
    · have yes := (hv.resolve_right (fun y => z2 y.1)).2
      refine m_is a0 a1 k0 (by omega) (fun hb J2 hJ2 => ⟨by decide, fun y => absurd y (by decide), fun _ => ⟨by omega, by unfold coR at *; omega, by omega, fun y => no (fun g => by have := g k k0 (by omega) hb; unfold coR at this; omega), fun y => hJ2 ⟨⟨by omega, by omega, Or.inl ⟨rfl, fun j j0 j1 hj => ?_⟩⟩, by dsimp only; omega⟩⟩⟩) (fun hb J2 hJ2 => ⟨by decide, fun _ => hJ2 ⟨⟨by omega, by omega, Or.inl ⟨rfl, fun j j0 j1 hj => ?_⟩⟩, by dsimp only; omega⟩, fun y => absurd rfl y⟩)
      · by_cases hq : j = k
        · rw [hq]; unfold coR; omega
        · exact yes j j0 (by omega) hj
      · by_cases hq : j = k
        · rw [hq] at hj; exact absurd hj hb
        · exact yes j j0 (by omega) hj
theorem m_serves {r : Int → Int} {a h c s : Int} {X : XT} {Q : Int → Prop} (w : RW r) (e : X 79 = r) (c0 : 0 ≤ c) (c1 : c < r 0) (a0 : 0 ≤ a) (a1 : a < 256) (rh : 0 ≤ h ∧ h ≤ 12) (s0 : 0 ≤ s) (s1 : s < 576) (q1 : svN r c a h (r 2) s → Q 1) (q0 : ¬ svN r c a h (r 2) s → Q 0) : w_X12_serves c a h s X Q := by
  have wn := w.2.2.2.2.1
  have wn1 := wn.1
  unfold w_X12_serves
  rw [e]
  refine ⟨fun v k => 0 ≤ k ∧ k ≤ r 2 ∧ ((v = 1 ∧ svN r c a h k s) ∨ (v = 0 ∧ ¬ svN r c a h k s)), fun _ k => (r 2 - k).toNat, ⟨by decide, wn.1.1, Or.inl ⟨rfl, fun j j0 j1 => absurd (show j < (0 : Int) from j1) (by omega)⟩⟩, ?_⟩
  rintro v k ⟨k0, k1, hv⟩
  refine ⟨by omega, by omega, fun z => ?_, fun z => ?_⟩
  · have ek : k = r 2 := by omega
    subst ek
    rcases hv with ⟨rfl, hv⟩ | ⟨rfl, hv⟩
    · exact ⟨Or.inr rfl, q1 hv⟩
    · exact ⟨Or.inl rfl, q0 hv⟩
  · have wk := wn.2 k k0 (by omega)
    have skip : (bt a k = true → coR r k 1 ≤ h → h ≤ coR r k 2 → False) → ((0 ≤ k + 1 ∧ k + 1 ≤ r 2 ∧ ((v = 1 ∧ svN r c a h (k + 1) s) ∨ (v = 0 ∧ ¬ svN r c a h (k + 1) s))) ∧ (r 2 - (k + 1)).toNat < (r 2 - k).toNat) := fun hn => by
      refine ⟨⟨by omega, by omega, ?_⟩, by omega⟩
      have := svN_s (r := r) (c := c) (a := a) (h := h) (s := s) k0
      rcases hv with ⟨rfl, hv⟩ | ⟨rfl, hv⟩
      · exact Or.inl ⟨rfl, this.mpr ⟨hv, fun y1 y2 y3 => absurd (hn y1 y2 y3) (fun f => f)⟩⟩
      · exact Or.inr ⟨rfl, fun y => hv (this.mp y).1⟩
    refine m_is a0 a1 k0 (by omega) (fun hb => ⟨by decide, fun y => absurd y (by decide), fun _ => ⟨by omega, by omega, by omega, by omega, fun y => skip (fun _ y2 y3 => y ⟨y2, y3⟩), fun y => ?_⟩⟩) (fun hb => ⟨by decide, fun _ => skip (fun y1 _ _ => hb y1), fun y => absurd rfl y⟩)
    intro J hJ
    have no : ¬ svN r c a h (k + 1) s → J := fun hn => hJ ⟨⟨by omega, by omega, Or.inr ⟨rfl, hn⟩⟩, by dsimp only; omega⟩
    refine ⟨by omega, fun z2 => no (fun g => ?_), fun z2 => ?_⟩
    · rcases hv with hv | hv
      · omega
      · exact hv.2 ((svN_s k0).mp g).1
    · have yes := (hv.resolve_right (fun y => z2 y.1)).2
      have hsh := m_shades (r := r) (X := X) (c := c) (s := s) (f := coR r k 0) (Q := fun (v32 : Int) => R32 v32 ∧ (v32 = 0 → J) ∧ (¬ v32 = 0 → (0 ≤ k + 1 ∧ k + 1 ≤ r 2 ∧ (((1 : Int) = 1 ∧ svN r c a h (k + 1) s) ∨ ((1 : Int) = 0 ∧ ¬ svN r c a h (k + 1) s))) ∧ (r 2 - (k + 1)).toNat < (r 2 - k).toNat)) w e c0 c1 s0 (by omega) wk.1 wk.2.1 (fun hs => ⟨by decide, fun y => absurd y (by decide), fun _ => ⟨⟨by omega, by omega, Or.inl ⟨rfl, (svN_s k0).mpr ⟨yes, fun _ _ _ => hs⟩⟩⟩, by omega⟩⟩) (fun hs => ⟨by decide, fun _ => no (fun g => hs (((svN_s k0).mp g).2 hb y.1 y.2)), fun y => absurd rfl y⟩)
      rw [gN_id (show ¬ s = 576 by omega)] at hsh
      exact hsh
theorem canF_cg {r : Int → Int} {T : TT} {c a : Int} : ∀ (k : Nat) (P P' : Int → Prop), (∀ s : Int, 0 ≤ s → s < 576 → (P s ↔ P' s)) → (canF r T c a k P ↔ canF r T c a k P') := by
  intro k
  induction k with
  | zero => intro P P' _; exact Iff.rfl
  | succ k ih =>
    intro P P' h
    rw [canF_s, canF_s]
    have i := ih (nxS r T c (12 - ((k + 1 : Nat) : Int)) (fun s => P s ∧ svN r c a (12 - ((k + 1 : Nat) : Int)) (r 2) s)) (nxS r T c (12 - ((k + 1 : Nat) : Int)) (fun s => P' s ∧ svN r c a (12 - ((k + 1 : Nat) : Int)) (r 2) s)) (fun t _ _ => ⟨fun ⟨s, d, sr, dr, ps, e⟩ => ⟨s, d, sr, dr, ⟨(h s sr.1 sr.2).mp ps.1, ps.2⟩, e⟩, fun ⟨s, d, sr, dr, ps, e⟩ => ⟨s, d, sr, dr, ⟨(h s sr.1 sr.2).mpr ps.1, ps.2⟩, e⟩⟩)
    rw [i]
    constructor
    · rintro (y | ⟨⟨s, sr, ps⟩, y⟩)
      · exact Or.inl y
      · exact Or.inr ⟨⟨s, sr, (h s sr.1 sr.2).mp ps.1, ps.2⟩, y⟩
    · rintro (y | ⟨⟨s, sr, ps⟩, y⟩)
      · exact Or.inl y
      · exact Or.inr ⟨⟨s, sr, (h s sr.1 sr.2).mpr ps.1, ps.2⟩, y⟩
theorem m_canServe {r : Int → Int} {T : TT} {c a : Int} {X : XT} {Q : Int → XT → Prop} (w : RW r) (e : X 79 = r) (kw : WKS r T c X) (c0 : 0 ≤ c) (c1 : c < r 0) (a0 : 0 ≤ a) (a1 : a < 256)
    (q : ∀ (v : Int) (X1 : XT), Fx [100, 101] X X1 → ((v = 1 ∧ canF r T c a 12 (fun s => s = bgF r c)) ∨ (v = 0 ∧ ¬ canF r T c a 12 (fun s => s = bgF r c))) → Q v X1) : w_X12_canServe c a X Q := by
  have bg := bgF_r w.2.2.1 c0 c1
  refine ⟨fun s X1 => 0 ≤ s ∧ s ≤ 576 ∧ Fx [100, 101] X X1 ∧ ∀ s' : Int, 0 ≤ s' → s' < s → X1 100 s' = 0, fun s _ => (576 - s).toNat, ⟨by decide, by decide, Fx.rf, fun s' x y => absurd (show s' < (0 : Int) from y) (by omega)⟩, ?_⟩
  rintro s X1 ⟨s0, s1, f1, k1⟩
  refine ⟨by omega, fun z => ?_, fun z => ⟨by omega, ⟨by omega, by omega, f1.st rfl, fun s' x y => ?_⟩, by dsimp only; omega⟩⟩
  rotate_left
  · by_cases hq : s' = s
    · rw [hq, x_st_at]
    · rw [x_st_ne hq]; exact k1 s' x (by omega)
  refine m_begins w (by rw [f1 79 rfl]; exact e) c0 c1 ⟨by omega, ?_⟩
  refine ⟨fun h X2 => 0 ≤ h ∧ h ≤ 12 ∧ Fx [100, 101] X X2 ∧ (∀ s : Int, 0 ≤ s → s < 576 → X2 100 s = 0 ∨ X2 100 s = 1) ∧ (canF r T c a (12 - h).toNat (fun s => ¬ X2 100 s = 0) ↔ canF r T c a 12 (fun s => s = bgF r c)), fun h _ => (12 - h).toNat, ⟨by decide, by decide, f1.st rfl, fun s' x y => ?_, canF_cg _ _ _ (fun s' x y => ?_)⟩, ?_⟩
  · by_cases hq : s' = bgF r c
    · rw [hq, x_st_at]; exact Or.inr rfl
    · rw [x_st_ne hq]; exact Or.inl (k1 s' x (by omega))
  · by_cases hq : s' = bgF r c
    · rw [hq, x_st_at]; exact ⟨fun _ => rfl, fun _ => by decide⟩
    · rw [x_st_ne hq, k1 s' x (by omega)]; exact ⟨fun z => absurd rfl z, fun z => absurd z hq⟩
  rintro h X2 ⟨h0, h1, f2, b2, eqv⟩
  have e2 : X2 79 = r := by rw [f2 79 rfl]; exact e
  refine ⟨by omega, fun z2 => ?_, fun z2 => ?_⟩
  · refine q 1 X2 f2 (Or.inl ⟨rfl, eqv.mp ?_⟩)
    rw [show (12 - h).toNat = 0 by omega]; exact True.intro
  obtain ⟨k5, ek⟩ : ∃ k5 : Nat, (12 - h).toNat = k5 + 1 := ⟨(12 - h).toNat - 1, by omega⟩
  rw [ek, canF_s, show 12 - ((k5 + 1 : Nat) : Int) = h by omega] at eqv
  refine m_isOver w e2 a0 a1 ⟨h0, h1⟩ (fun ov => ⟨by decide, fun _ => q 1 X2 f2 (Or.inl ⟨rfl, eqv.mp (Or.inl ov)⟩), fun y => absurd y (by decide)⟩) (fun no => ⟨by decide, fun y => absurd rfl y, fun _ => ?_⟩)
  refine ⟨fun v s X3 => 0 ≤ s ∧ s ≤ 576 ∧ Fx [100, 101] X X3 ∧ (∀ s' : Int, 0 ≤ s' → s' < s → (X3 100 s' = 0 ∨ X3 100 s' = 1) ∧ (¬ X3 100 s' = 0 ↔ (¬ X2 100 s' = 0 ∧ svN r c a h (r 2) s')) ∧ X3 101 s' = 0) ∧ (∀ s' : Int, s ≤ s' → s' < 576 → X3 100 s' = X2 100 s') ∧ ((v = 0 ∧ ∀ s' : Int, 0 ≤ s' → s' < s → ¬ (¬ X2 100 s' = 0 ∧ svN r c a h (r 2) s')) ∨ (v = 1 ∧ ∃ s' : Int, (0 ≤ s' ∧ s' < 576) ∧ ¬ X2 100 s' = 0 ∧ svN r c a h (r 2) s')), fun _ s _ => (576 - s).toNat, ⟨by decide, by decide, f2, fun s' x y => absurd (show s' < (0 : Int) from y) (by omega), fun _ _ _ => rfl, Or.inl ⟨rfl, fun s' x y => absurd (show s' < (0 : Int) from y) (by omega)⟩⟩, ?_⟩
  rintro v s X3 ⟨t0, t1, f3, k3, o3, hv⟩
  have e3 : X3 79 = r := by rw [f3 79 rfl]; exact e
  refine ⟨by omega, fun z3 => ⟨by omega, fun z4 => ?_, fun z4 => ?_⟩, fun z3 => ⟨by omega, ?_⟩⟩
  · -- on to the next hour
    have ex := (hv.resolve_left (fun y => z4 y.1)).2
    obtain ⟨F, hF⟩ : ∃ F : Int → Prop, F = fun s => ¬ X2 100 s = 0 ∧ svN r c a h (r 2) s := ⟨_, rfl⟩
    have k3F : ∀ s' : Int, 0 ≤ s' → s' < 576 → (¬ X3 100 s' = 0 ↔ F s') := fun s' x y => by rw [hF]; exact (k3 s' x (by omega)).2.1
    rw [← hF] at eqv
    have eqv2 : canF r T c a k5 (nxS r T c h F) ↔ canF r T c a 12 (fun s => s = bgF r c) := by
      rw [← eqv]
      constructor
      · intro hc
        obtain ⟨s', sr, ps⟩ := ex
        exact Or.inr ⟨⟨s', sr, ps⟩, hc⟩
      · rintro (y | y)
        · exact absurd y no
        · exact y.2
    have cop : ∀ X4 : XT, Fx [100, 101] X X4 → (∀ s' : Int, 0 ≤ s' → s' < 576 → X4 101 s' = 0 ∨ X4 101 s' = 1) → (ovF r a (h + 1) ∨ ∀ t : Int, 0 ≤ t → t < 576 → (¬ X4 101 t = 0 ↔ nxS r T c h F t)) → (∃ (I89 : Int → XT → Prop) (m90 : Int → XT → Nat), I89 0 X4 ∧ ∀ (x87 : Int) (X88 : XT), I89 x87 X88 → R32 x87 ∧ (576 ≤ x87 → ((0 ≤ h + 1 ∧ h + 1 ≤ 12 ∧ Fx [100, 101] X X88 ∧ (∀ s : Int, 0 ≤ s → s < 576 → X88 100 s = 0 ∨ X88 100 s = 1) ∧ (canF r T c a (12 - (h + 1)).toNat (fun s => ¬ X88 100 s = 0) ↔ canF r T c a 12 (fun s => s = bgF r c)))) ∧ (12 - (h + 1)).toNat < (12 - h).toNat) ∧ (¬ 576 ≤ x87 → (0 ≤ x87 ∧ x87 < 576) ∧ ((X88 101 x87) = 0 ∨ (X88 101 x87) = 1) ∧ I89 (x87 + 1) (x_st X88 100 x87 (X88 101 x87)) ∧ m90 (x87 + 1) (x_st X88 100 x87 (X88 101 x87)) < m90 x87 X88)) := by
      intro X4 f4 b4 hor
      refine ⟨fun s X5 => 0 ≤ s ∧ s ≤ 576 ∧ Fx [100, 101] X X5 ∧ (∀ s' : Int, 0 ≤ s' → s' < 576 → X5 101 s' = X4 101 s') ∧ ∀ s' : Int, 0 ≤ s' → s' < s → X5 100 s' = X4 101 s', fun s _ => (576 - s).toNat, ⟨by decide, by decide, f4, fun _ _ _ => rfl, fun s' x y => absurd (show s' < (0 : Int) from y) (by omega)⟩, ?_⟩
      rintro s X5 ⟨u0, u1, f5, c5, d5⟩
      refine ⟨by omega, fun z5 => ⟨⟨by omega, by omega, f5, fun s' x y => by rw [d5 s' x (by omega)]; exact b4 s' x y, ?_⟩, by omega⟩, fun z5 => ⟨by omega, by rw [c5 s u0 (by omega)]; exact b4 s u0 (by omega), ⟨by omega, by omega, f5.st rfl, fun s' x y => by rw [x_st_c (by decide)]; exact c5 s' x y, fun s' x y => ?_⟩, by dsimp only; omega⟩⟩
      · rw [show (12 - (h + 1)).toNat = k5 by omega]
        rcases hor with ov | hor
        · have always : ∀ P : Int → Prop, canF r T c a k5 P := fun P => by
            cases k5 with
            | zero => exact True.intro
            | succ k6 => exact canF_s.mpr (Or.inl (by rw [show 12 - ((k6 + 1 : Nat) : Int) = h + 1 by omega]; exact ov))
          exact ⟨fun _ => eqv2.mp (always _), fun _ => always _⟩
        · rw [← eqv2]
          exact canF_cg _ _ _ (fun t x y => by rw [d5 t x (by omega)]; exact hor t x y)
      · by_cases hq : s' = s
        · rw [hq, x_st_at]; exact c5 s u0 (by omega)
        · rw [x_st_ne hq]; exact d5 s' x (by omega)
    refine ⟨fun s X4 => 0 ≤ s ∧ s ≤ 576 ∧ Fx [100, 101] X X4 ∧ (∀ s' : Int, 0 ≤ s' → s' < 576 → X4 100 s' = X3 100 s' ∧ (X4 101 s' = 0 ∨ X4 101 s' = 1)) ∧ ∀ t : Int, 0 ≤ t → t < 576 → (¬ X4 101 t = 0 ↔ ∃ s' d : Int, (0 ≤ s' ∧ s' < s) ∧ (0 ≤ d ∧ d ≤ 4) ∧ F s' ∧ nxF r T c s' h d 0 = t), fun s _ => (576 - s).toNat, ⟨by decide, by decide, f3, fun s' x y => ⟨rfl, Or.inl (k3 s' x (by omega)).2.2⟩, fun t x y => ?_⟩, ?_⟩
    · rw [(k3 t x (by omega)).2.2]
      exact ⟨fun z => absurd rfl z, fun ⟨s', d, sr, _⟩ => absurd sr (by omega)⟩
    rintro s X4 ⟨u0, u1, f4, c4, d4⟩
    have e4 : X4 79 = r := by rw [f4 79 rfl]; exact e
    intro J hJ
    refine ⟨by omega, fun z5 => hJ (cop X4 f4 (fun s' x y => (c4 s' x y).2) (Or.inr (fun t x y => ?_))), fun z5 => m_isOver w e4 a0 a1 (by omega) (fun ov => ⟨by decide, fun _ => hJ (cop X4 f4 (fun s' x y => (c4 s' x y).2) (Or.inl ov)), fun y => absurd y (by decide)⟩) (fun nov => ⟨by decide, fun y => absurd rfl y, fun _ => ?_⟩)⟩
    · rw [d4 t x y, show s = 576 by omega]; exact ⟨fun ⟨s', d, a1, a2, a3, a4⟩ => ⟨s', d, a1, a2, a3, a4⟩, fun ⟨s', d, a1, a2, a3, a4⟩ => ⟨s', d, a1, a2, a3, a4⟩⟩
    · refine ⟨fun d X5 => 0 ≤ d ∧ d ≤ 5 ∧ Fx [100, 101] X X5 ∧ (∀ s' : Int, 0 ≤ s' → s' < 576 → X5 100 s' = X3 100 s' ∧ (X5 101 s' = 0 ∨ X5 101 s' = 1)) ∧ ∀ t : Int, 0 ≤ t → t < 576 → (¬ X5 101 t = 0 ↔ ∃ s' d' : Int, (0 ≤ s' ∧ s' ≤ s) ∧ (0 ≤ d' ∧ d' ≤ 4) ∧ (s' < s ∨ d' < d) ∧ F s' ∧ nxF r T c s' h d' 0 = t), fun d _ => (5 - d).toNat, ⟨by decide, by decide, f4, c4, fun t x y => (d4 t x y).trans ⟨fun ⟨s', d, a1, a2, a3, a4⟩ => ⟨s', d, by omega, a2, by omega, a3, a4⟩, fun ⟨s', d, a1, a2, a5, a3, a4⟩ => ⟨s', d, by omega, a2, a3, a4⟩⟩⟩, ?_⟩
      rintro d X5 ⟨d0, d1, f5, c5, d5⟩
      have e5 : X5 79 = r := by rw [f5 79 rfl]; exact e
      have kw5 : WKS r T c X5 := fun h s x y x1 y1 => by rw [f5 96 rfl]; exact kw h s x y x1 y1
      refine ⟨by omega, fun z6 => ⟨⟨by omega, by omega, f5, c5, fun t x y => (d5 t x y).trans ⟨fun ⟨s', d, a1, a2, a5, a3, a4⟩ => ⟨s', d, by omega, a2, a3, a4⟩, fun ⟨s', d, a1, a2, a3, a4⟩ => ⟨s', d, by omega, a2, by omega, a3, a4⟩⟩⟩, by dsimp only; omega⟩, fun z6 => ⟨by omega, by have := k3 s u0 (by omega); rw [(c5 s u0 (by omega)).1]; omega, fun z7 => ?_, fun z7 => ?_⟩⟩
      · have nF : ¬ F s := fun y => by
          have := (k3F s u0 (by omega)).mpr y
          rw [(c5 s u0 (by omega)).1] at z7
          exact this z7
        exact ⟨⟨by omega, by omega, f5, c5, fun t x y => (d5 t x y).trans ⟨fun ⟨s', d', a1, a2, a5, a3, a4⟩ => ⟨s', d', by omega, a2, a3, a4⟩, fun ⟨s', d', a1, a2, a3, a4⟩ => ⟨s', d', by omega, a2, if hq : s' = s then absurd (by rw [← hq]; exact a3) nF else Or.inl (by omega), a3, a4⟩⟩⟩, by dsimp only; omega⟩
      · have yF : F s := (k3F s u0 (by omega)).mp (by rw [← (c5 s u0 (by omega)).1]; exact z7)
        have nr := nxF_r (r := r) (T := T) (c := c) (h := h) (d := d) (tu := 0) ⟨u0, show s ≤ 576 by omega⟩
        have gr := gN_r nr
        have step : ∀ t : Int, (∃ s' d' : Int, (0 ≤ s' ∧ s' ≤ s) ∧ (0 ≤ d' ∧ d' ≤ 4) ∧ (s' < s ∨ d' < d + 1) ∧ F s' ∧ nxF r T c s' h d' 0 = t) ↔ ((∃ s' d' : Int, (0 ≤ s' ∧ s' ≤ s) ∧ (0 ≤ d' ∧ d' ≤ 4) ∧ (s' < s ∨ d' < d) ∧ F s' ∧ nxF r T c s' h d' 0 = t) ∨ nxF r T c s h d 0 = t) := fun t => by
          constructor
          · rintro ⟨s', d', x1, x2, x5, x3, x4⟩
            by_cases hq : s' = s ∧ d' = d
            · obtain ⟨rfl, rfl⟩ := hq; exact Or.inr x4
            · exact Or.inl ⟨s', d', x1, x2, by omega, x3, x4⟩
          · rintro (⟨s', d', x1, x2, x5, x3, x4⟩ | x4)
            · exact ⟨s', d', x1, x2, by omega, x3, x4⟩
            · exact ⟨s, d, by omega, by omega, by omega, yF, x4⟩
        refine m_next w e5 kw5 c0 c1 h0 (by omega) u0 (by omega) (Or.inl rfl) d0 (by omega) ⟨by omega, fun z8 => ⟨⟨by omega, by omega, f5, c5, fun t x y => ?_⟩, by dsimp only; omega⟩, fun z8 => ?_⟩
        · have hs := (gN_no nr).mp z8
          rw [d5 t x y, step, hs]
          exact ⟨Or.inl, fun y2 => y2.resolve_right (by omega)⟩
        · have hs : ¬ nxF r T c s h d 0 = 576 := fun y => z8 ((gN_no nr).mpr y)
          rw [gN_id hs]
          refine ⟨by omega, ⟨by omega, by omega, f5.st rfl, fun s' x y => ⟨by rw [x_st_c (by decide)]; exact (c5 s' x y).1, ?_⟩, fun t x y => ?_⟩, by dsimp only; omega⟩
          · by_cases hq : s' = nxF r T c s h d 0
            · rw [hq, x_st_at]; exact Or.inr rfl
            · rw [x_st_ne hq]; exact (c5 s' x y).2
          · rw [step]
            by_cases hq : t = nxF r T c s h d 0
            · rw [hq, x_st_at]; exact ⟨fun _ => Or.inr rfl, fun _ => by decide⟩
            · rw [x_st_ne hq, d5 t x y]; exact ⟨Or.inl, fun y2 => y2.resolve_right (fun y3 => hq y3.symm)⟩
  · have hall := (hv.resolve_right (fun y => by omega)).2
    refine q 0 X3 f3 (Or.inr ⟨rfl, fun hc => ?_⟩)
    rcases eqv.mpr hc with y | ⟨⟨s', sr, ps⟩, _⟩
    · exact no y
    · exact hall s' sr.1 (by omega) ps
  · intro J hJ
    have e100 : ∀ s', (x_st X3 101 s 0) 100 s' = X3 100 s' := fun s' => by rw [x_st_c (by decide)]
    have eo := o3 s (Int.le_refl _) (by omega)
    have br := b2 s t0 (by omega)
    have key : ∀ u : Int, ((u = 1 ∧ ¬ X2 100 s = 0 ∧ svN r c a h (r 2) s) ∨ (u = 0 ∧ ¬ (¬ X2 100 s = 0 ∧ svN r c a h (r 2) s))) → J u := by
      intro u hu
      refine hJ u ⟨by omega, fun J2 hJ2 => ?_⟩
      have st : ∀ v' : Int, ((v' = 0 ∧ v = 0 ∧ u = 0) ∨ (v' = 1 ∧ (v = 1 ∨ u = 1))) → (0 ≤ s + 1 ∧ s + 1 ≤ 576 ∧ Fx [100, 101] X (x_st (x_st X3 101 s 0) 100 s u) ∧ (∀ s' : Int, 0 ≤ s' → s' < s + 1 → ((x_st (x_st X3 101 s 0) 100 s u) 100 s' = 0 ∨ (x_st (x_st X3 101 s 0) 100 s u) 100 s' = 1) ∧ (¬ (x_st (x_st X3 101 s 0) 100 s u) 100 s' = 0 ↔ (¬ X2 100 s' = 0 ∧ svN r c a h (r 2) s')) ∧ (x_st (x_st X3 101 s 0) 100 s u) 101 s' = 0) ∧ (∀ s' : Int, s + 1 ≤ s' → s' < 576 → (x_st (x_st X3 101 s 0) 100 s u) 100 s' = X2 100 s') ∧ ((v' = 0 ∧ ∀ s' : Int, 0 ≤ s' → s' < s + 1 → ¬ (¬ X2 100 s' = 0 ∧ svN r c a h (r 2) s')) ∨ (v' = 1 ∧ ∃ s' : Int, (0 ≤ s' ∧ s' < 576) ∧ ¬ X2 100 s' = 0 ∧ svN r c a h (r 2) s'))) := by
        intro v' hv'
        refine ⟨by omega, by omega, (f3.st rfl).st rfl, fun s' x y => ?_, fun s' x y => ?_, ?_⟩
        · by_cases hq : s' = s
          · subst hq
            rw [x_st_at, x_st_c (by decide), x_st_at]
            refine ⟨by omega, ?_, rfl⟩
            rcases hu with ⟨rfl, hu⟩ | ⟨rfl, hu⟩
            · exact ⟨fun _ => hu, fun _ => by decide⟩
            · exact ⟨fun z => absurd rfl z, fun z => absurd z hu⟩
          · have := k3 s' x (by omega)
            have e1 : (x_st (x_st X3 101 s 0) 100 s u) 101 s' = X3 101 s' := by rw [x_st_c (by decide), x_st_ne hq]
            rw [e1, x_st_ne hq, x_st_c (by decide)]
            exact this
        · rw [x_st_ne (by omega), x_st_c (by decide)]; exact o3 s' (by omega) y
        · rcases hv' with ⟨rfl, rfl, rfl⟩ | ⟨rfl, hv'⟩
          · refine Or.inl ⟨rfl, fun s' x y => ?_⟩
            by_cases hq : s' = s
            · rw [hq]; exact (hu.resolve_left (fun y => absurd y.1 (by decide))).2
            · exact (hv.resolve_right (fun y => absurd y.1 (by decide))).2 s' x (by omega)
          · refine Or.inr ⟨rfl, ?_⟩
            rcases hv' with rfl | rfl
            · exact (hv.resolve_left (fun y => absurd y.1 (by decide))).2
            · exact ⟨s, by omega, (hu.resolve_right (fun y => absurd y.1 (by decide))).2⟩
      refine ⟨by omega, fun z5 => hJ2 ⟨st 1 (by omega), by dsimp only; omega⟩, fun z5 => ?_⟩
      rw [x_st_at]
      exact ⟨by omega, fun z6 => ⟨st 0 (by omega), by dsimp only; omega⟩, fun z6 => hJ2 ⟨st 1 (by omega), by dsimp only; omega⟩⟩
    rw [e100, eo]
    refine ⟨by omega, fun z5 => key 0 (Or.inr ⟨rfl, fun y => y.1 z5⟩), fun z5 => ?_⟩
    exact m_serves w (by rw [x_st_c (by decide)]; exact e3) c0 c1 a0 a1 ⟨h0, h1⟩ t0 (by omega) (fun sv => ⟨by decide, fun y => absurd y (by decide), fun _ => key 1 (Or.inl ⟨rfl, z5, sv⟩)⟩) (fun sv => ⟨by decide, fun _ => key 0 (Or.inr ⟨rfl, fun y => sv y.2⟩), fun y => absurd rfl y⟩)

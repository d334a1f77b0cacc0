/-! SERVE: what a set of contracts asks, and the class's rows -/
abbrev coR (r : Int → Int) (k j : Int) : Int := r (304 + 5 * k + j)
def svN (r : Int → Int) (c a h : Int) (m : Int) (s : Int) : Prop := ∀ k : Int, 0 ≤ k → k < m → bt a k = true → coR r k 1 ≤ h → h ≤ coR r k 2 → shP r c s (coR r k 0)
def ovF (r : Int → Int) (a h : Int) : Prop := ∀ k : Int, 0 ≤ k → k < r 2 → bt a k = true → coR r k 2 < h
def nxS (r : Int → Int) (T : TT) (c h : Int) (P : Int → Prop) (t : Int) : Prop := ∃ s d : Int, (0 ≤ s ∧ s < 576) ∧ (0 ≤ d ∧ d ≤ 4) ∧ P s ∧ nxF r T c s h d 0 = t
def canF (r : Int → Int) (T : TT) (c a : Int) : Nat → (Int → Prop) → Prop
  | 0, _ => True
  | k + 1, P => ovF r a (12 - ((k + 1 : Nat) : Int)) ∨ ((∃ s : Int, (0 ≤ s ∧ s < 576) ∧ P s ∧ svN r c a (12 - ((k + 1 : Nat) : Int)) (r 2) s) ∧ canF r T c a k (nxS r T c (12 - ((k + 1 : Nat) : Int)) (fun s => P s ∧ svN r c a (12 - ((k + 1 : Nat) : Int)) (r 2) s)))
theorem canF_s {r : Int → Int} {T : TT} {c a : Int} {k : Nat} {P : Int → Prop} : canF r T c a (k + 1) P ↔ (ovF r a (12 - ((k + 1 : Nat) : Int)) ∨ ((∃ s : Int, (0 ≤ s ∧ s < 576) ∧ P s ∧ svN r c a (12 - ((k + 1 : Nat) : Int)) (r 2) s) ∧ canF r T c a k (nxS r T c (12 - ((k + 1 : Nat) : Int)) (fun s => P s ∧ svN r c a (12 - ((k + 1 : Nat) : Int)) (r 2) s)))) := Iff.rfl
/-- rows that hold a set of corners -/
def PRw (g : Int → Int) (P : Int → Prop) : Prop := ∀ y : Int, 0 ≤ y → y < 24 → B24 (g y) ∧ ∀ x : Int, 0 ≤ x → x < 24 → (bt (g y) x = true ↔ P (24 * y + x))
theorem mask_b : ∀ wd : Fin 3, ∀ m : Fin 8, (0 ≤ oShl ((oShl 1 ((wd.1 : Int) + 1)) - 1) ((((m.1 : Int)) + 8) - ((wd.1 : Int) + 1) + 1) ∧ oShl ((oShl 1 ((wd.1 : Int) + 1)) - 1) ((((m.1 : Int)) + 8) - ((wd.1 : Int) + 1) + 1) < 16777216) ∧ ∀ x : Fin 24, (oShl ((oShl 1 ((wd.1 : Int) + 1)) - 1) ((((m.1 : Int)) + 8) - ((wd.1 : Int) + 1) + 1)).toNat.testBit x.1 = decide (m.1 + 8 ≤ x.1 + wd.1 ∧ x.1 ≤ m.1 + 8) := by decide +kernel
theorem e_keep {K : LK} {B X : XT} {r : Int → Int} {T : TT} {c f : Int} {P : Int → Prop} {Q : XT → Prop} (b : CE K B r T) (hx : Fx scC B X) (c0 : 0 ≤ c) (c1 : c < r 0) (p : PTK r c X) (f0 : 0 ≤ f) (f1 : f ≤ 63) (hp : PRw (X 66) P) (q : ∀ X1, Fx [66] X X1 → PRw (X1 66) (fun s => P s ∧ shP r c s f) → Q X1) : w_X4_keepOver f X Q := by
  have wc := b.rw.2.2.1.1
  have hc := b.rw.2.2.1.2 c c0 c1
  have eW : X 5 (c * 5 + 0) = r (15 + 5 * c + 0) := by rw [hx 5 rfl]; exact b.cld c0 (by omega) (by decide) (by decide)
  have eL : X 5 (c * 5 + 1) = r (15 + 5 * c + 1) := by rw [hx 5 rfl]; exact b.cld c0 (by omega) (by decide) (by decide)
  have eN : X 1 9 = r 0 := by rw [hx 1 rfl]; exact b.nc
  unfold w_X4_keepOver
  rw [p.1, eN]
  obtain ⟨wd, ew⟩ : ∃ wd, r (15 + 5 * c + 0) = wd := ⟨_, rfl⟩
  obtain ⟨tl, el⟩ : ∃ tl, r (15 + 5 * c + 1) = tl := ⟨_, rfl⟩
  rw [ew] at eW hc
  rw [el] at eL hc
  refine ⟨by omega, by omega, f0, ?_⟩
  refine ⟨fun y X1 => 0 ≤ y ∧ y ≤ 24 ∧ Fx [66] X X1 ∧ (∀ y', y ≤ y' → y' < 24 → X1 66 y' = X 66 y') ∧ ∀ y' : Int, 0 ≤ y' → y' < y → B24 (X1 66 y') ∧ ∀ x : Int, 0 ≤ x → x < 24 → (bt (X1 66 y') x = true ↔ (P (24 * y' + x) ∧ shP r c (24 * y' + x) f)), fun y _ => (24 - y).toNat, ⟨by decide, by decide, Fx.rf, fun _ _ _ => rfl, fun y' a b' => absurd (show y' < (0 : Int) from b') (by omega)⟩, ?_⟩
  rintro y X1 ⟨y0, y1, f1', k1, k2⟩
  rw [eW, eL]
  refine ⟨by omega, fun z => q X1 f1' (fun y' a b' => k2 y' a (by omega)), fun z => ⟨by omega, by omega, by omega, fun J hJ => ?_⟩⟩
  have old := hp y y0 (by omega)
  rw [← k1 y (Int.le_refl _) (by omega)] at old
  have put : ∀ v : Int, B24 v → (∀ x : Int, 0 ≤ x → x < 24 → (bt v x = true ↔ (tl - 1 ≥ f / 8 + 8 - y ∧ 0 ≤ f / 8 + 8 - y ∧ f % 8 + 8 - wd + 1 ≤ x ∧ x ≤ f % 8 + 8))) → J v := by
    intro v hv hb
    have o := oAnd_b old.1 hv
    refine hJ v ⟨⟨by omega, by omega, f1'.st rfl, fun y' a b' => ?_, fun y' a b' => ?_⟩, by dsimp only; omega⟩
    · rw [x_st_ne (by omega)]; exact k1 y' (by omega) b'
    · by_cases hq : y' = y
      · rw [hq, x_st_at]
        refine ⟨o.1, fun x x0 x1 => ?_⟩
        rw [o.2, Bool.and_eq_true, old.2 x x0 x1, hb x x0 x1]
        have e1 : (24 * y + x) % 24 = x := by omega
        have e2 : (24 * y + x) / 24 = y := by omega
        unfold shP cvB
        rw [e1, e2, ew, el]
        constructor
        · rintro ⟨pp, a1, a2, a3, a4⟩; exact ⟨pp, by omega, by omega, by omega, by omega, by omega⟩
        · rintro ⟨pp, _, a1, a2, a3, a4⟩; exact ⟨pp, by omega, by omega, by omega, by omega⟩
      · rw [x_st_ne hq]; exact k2 y' a (by omega)
  refine ⟨fun z2 => put 0 (by decide) (fun x x0 x1 => ?_), fun z2 => ?_⟩
  · rw [show bt 0 x = false from Nat.zero_testBit _]
    exact ⟨fun z => absurd z (by decide), fun z => absurd (show f / 8 + 8 - tl + 1 ≤ y ∧ y ≤ f / 8 + 8 by omega) z2⟩
  · have mb := mask_b ⟨(wd - 1).toNat, by omega⟩ ⟨(f % 8).toNat, by omega⟩
    dsimp only at mb
    rw [show (((wd - 1).toNat : Nat) : Int) + 1 = wd by omega, show (((f % 8).toNat : Nat) : Int) = f % 8 by omega] at mb
    refine put _ mb.1 (fun x x0 x1 => ?_)
    have mx := mb.2 ⟨x.toNat, by omega⟩
    dsimp only at mx
    show (oShl ((oShl 1 wd) - 1) (f % 8 + 8 - wd + 1)).toNat.testBit x.toNat = true ↔ _
    rw [mx, decide_eq_true_iff]
    omega
theorem e_empty {X : XT} {P : Int → Prop} {Q : Int → Prop} (hp : PRw (X 66) P) (q1 : (∀ s : Int, 0 ≤ s → s < 576 → ¬ P s) → Q 1) (q0 : (∃ s : Int, (0 ≤ s ∧ s < 576) ∧ P s) → Q 0) : w_X4_rowsAreEmpty X Q := by
  refine ⟨fun a y => 0 ≤ y ∧ y ≤ 24 ∧ B24 a ∧ ∀ j : Int, 0 ≤ j → j < 24 → (bt a j = true ↔ ∃ y' : Int, 0 ≤ y' ∧ y' < y ∧ P (24 * y' + j)), fun _ y => (24 - y).toNat, ⟨by decide, by decide, by decide, fun j j0 j1 => ?_⟩, ?_⟩
  · rw [show bt 0 j = false from Nat.zero_testBit _]
    exact ⟨fun z => absurd z (by decide), fun ⟨y', a, b', _⟩ => absurd (show y' < (0 : Int) from b') (by omega)⟩
  rintro a y ⟨y0, y1, ha, hb⟩
  refine ⟨by omega, fun z => ⟨by omega, fun z2 => q0 ?_, fun z2 => q1 (fun s s0 s1 ps => ?_)⟩, fun z => ⟨by omega, ?_⟩⟩
  · by_cases hq : ∃ s : Int, (0 ≤ s ∧ s < 576) ∧ P s
    · exact hq
    · exfalso
      refine z2 ((b24_0 ha).mpr (fun j j0 j1 => ?_))
      cases hbj : bt a j with
      | false => rfl
      | true =>
        obtain ⟨y', a1, a2, a3⟩ := (hb j j0 j1).mp hbj
        exact absurd ⟨24 * y' + j, by omega, a3⟩ hq
  · have := (b24_0 ha).mp z2 (s % 24) (by omega) (by omega)
    have h2 := (hb (s % 24) (by omega) (by omega)).mpr ⟨s / 24, by omega, by omega, by rw [show 24 * (s / 24) + s % 24 = s by omega]; exact ps⟩
    rw [this] at h2; exact absurd h2 (by decide)
  · have old := hp y y0 (by omega)
    have o := oOr_b ha old.1
    refine ⟨⟨by omega, by omega, o.1, fun j j0 j1 => ?_⟩, by dsimp only; omega⟩
    rw [o.2, Bool.or_eq_true, hb j j0 j1, old.2 j j0 j1]
    constructor
    · rintro (⟨y', a1, a2, a3⟩ | h)
      · exact ⟨y', a1, by omega, a3⟩
      · exact ⟨y, y0, by omega, h⟩
    · rintro ⟨y', a1, a2, a3⟩
      by_cases hq : y' = y
      · rw [hq] at a3; exact Or.inr a3
      · exact Or.inl ⟨y', a1, by omega, a3⟩

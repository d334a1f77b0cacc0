/-! SERVE: the class keeps a set of contracts, or not -/
theorem mem_b {a k : Int} (a0 : 0 ≤ a) (a1 : a < 256) (k0 : 0 ≤ k) (k1 : k < 8) : oAnd (oUshr a k) 1 = (if bt a k = true then 1 else 0) ∧ oAnd (oShr a k) 1 = (if bt a k = true then 1 else 0) := by
  have h := is_b ⟨a.toNat, by omega⟩ ⟨k.toNat, by omega⟩
  dsimp only at h
  rw [show ((a.toNat : Nat) : Int) = a by omega, show ((k.toNat : Nat) : Int) = k by omega] at h
  exact h
theorem svN_s {r : Int → Int} {c a h k s : Int} (k0 : 0 ≤ k) : svN r c a h (k + 1) s ↔ (svN r c a h k s ∧ (bt a k = true → coR r k 1 ≤ h → h ≤ coR r k 2 → shP r c s (coR r k 0))) := by
  constructor
  · exact fun z => ⟨fun j j0 j1 => z j j0 (by omega), z k k0 (by omega)⟩
  · rintro ⟨z1, z2⟩ j j0 j1
    by_cases hq : j = k
    · rw [hq]; exact z2
    · exact z1 j j0 (by omega)
theorem e_stuck {r : Int → Int} {T : TT} {c : Int} {X : XT} {Q : XT → Prop} (mk : MKS r T c X) (q : ∀ X1, Fx [65] X X1 → STU r T c (X 59) (X1 65) → Q X1) : w_X4_drawStuckRows X Q := by
  refine ⟨fun h X1 => 0 ≤ h ∧ h ≤ 12 ∧ Fx [65] X X1 ∧ ∀ h' y : Int, 0 ≤ h' → h' < h → 0 ≤ y → y < 24 → B24 (X1 65 (h' * 24 + y)) ∧ ∀ x : Int, 0 ≤ x → x < 24 → (bt (X1 65 (h' * 24 + y)) x = true ↔ X 59 (h' * 577 + (24 * y + x)) = 2), fun h _ => (12 - h).toNat, ⟨by decide, by decide, Fx.rf, fun h' y a b => absurd (show h' < (0 : Int) from b) (by omega)⟩, ?_⟩
  rintro h X1 ⟨h0, h1, f1, k1⟩
  refine ⟨by omega, fun z => q X1 f1 (fun h' y a b c' d => ?_), fun z => ?_⟩
  · have k := k1 h' y a (by omega) c' d
    refine ⟨k.1, fun x x0 x1 hm => (k.2 x x0 x1).trans ?_⟩
    have m := mk h' (24 * y + x) a b (by omega) (by omega)
    have m2 := m.resolve_left hm
    rw [m2]
    unfold mkV
    by_cases hf : freP r T c (24 * y + x) h'
    · rw [if_pos ⟨by omega, hf⟩]; exact ⟨fun e => absurd e (by decide), fun e => absurd hf e⟩
    · rw [if_neg (fun e => hf e.2)]; exact ⟨fun _ => hf, fun _ => rfl⟩
  · refine ⟨fun y X2 => 0 ≤ y ∧ y ≤ 24 ∧ Fx [65] X X2 ∧ (∀ h' y : Int, 0 ≤ h' → h' < h → 0 ≤ y → y < 24 → B24 (X2 65 (h' * 24 + y)) ∧ ∀ x : Int, 0 ≤ x → x < 24 → (bt (X2 65 (h' * 24 + y)) x = true ↔ X 59 (h' * 577 + (24 * y + x)) = 2)) ∧ ∀ y' : Int, 0 ≤ y' → y' < y → B24 (X2 65 (h * 24 + y')) ∧ ∀ x : Int, 0 ≤ x → x < 24 → (bt (X2 65 (h * 24 + y')) x = true ↔ X 59 (h * 577 + (24 * y' + x)) = 2), fun y _ => (24 - y).toNat, ⟨by decide, by decide, f1, k1, fun y' a b => absurd (show y' < (0 : Int) from b) (by omega)⟩, ?_⟩
    rintro y X2 ⟨y0, y1, f2, k2, k3⟩
    refine ⟨by omega, fun z2 => ⟨⟨by omega, by omega, f2, fun h' y' a b c' d => ?_⟩, by dsimp only; omega⟩, fun z2 => ?_⟩
    · by_cases hq : h' = h
      · rw [hq]; exact k3 y' c' (by omega)
      · exact k2 h' y' a (by omega) c' d
    · refine ⟨fun a x => 0 ≤ x ∧ x ≤ 24 ∧ B24 a ∧ ∀ j : Int, 0 ≤ j → j < 24 → (bt a j = true ↔ (j < x ∧ X 59 (h * 577 + (24 * y + j)) = 2)), fun _ x => (24 - x).toNat, ⟨by decide, by decide, by decide, fun j j0 j1 => ?_⟩, ?_⟩
      · rw [show bt 0 j = false from Nat.zero_testBit _]
        exact ⟨fun z => absurd z (by decide), fun z => absurd z.1 (by omega)⟩
      rintro a x ⟨x0, x1, ha, hb⟩
      refine ⟨by omega, fun z3 => ⟨by omega, ⟨by omega, by omega, f2.st rfl, fun h' y' a1 b1 c' d => ?_, fun y' a1 b1 => ?_⟩, by dsimp only; omega⟩, fun z3 => e_mark h0 (by omega) (by omega) (by omega) ?_⟩
      · rw [x_st_ne (by omega)]; exact k2 h' y' a1 b1 c' d
      · by_cases hq : y' = y
        · rw [hq, x_st_at]
          exact ⟨ha, fun j j0 j1 => by rw [hb j j0 j1]; exact ⟨fun z => z.2, fun z => ⟨by omega, z⟩⟩⟩
        · rw [x_st_ne (by omega)]; exact k3 y' a1 (by omega)
      · have m := mk h (24 * y + x) h0 (by omega) (by omega) (by omega)
        have mr := mkV_r (r := r) (T := T) (c := c) (h := h) (s := 24 * y + x)
        have e59 : X2 59 = X 59 := f2 59 rfl
        rw [e59]
        refine ⟨by omega, fun z4 => ⟨⟨by omega, by omega, ha, fun j j0 j1 => ?_⟩, by dsimp only; omega⟩, fun z4 => ?_⟩
        · rw [hb j j0 j1]
          constructor
          · exact fun z => ⟨by omega, z.2⟩
          · rintro ⟨z5, z6⟩
            by_cases hq : j = x
            · rw [hq] at z6; exact absurd z6 z4
            · exact ⟨by omega, z6⟩
        · have on := one_b x0 (by omega)
          have o := oOr_b ha on.1
          refine ⟨⟨by omega, by omega, o.1, fun j j0 j1 => ?_⟩, by dsimp only; omega⟩
          rw [o.2, Bool.or_eq_true, hb j j0 j1, on.2 j j0]
          constructor
          · rintro (z5 | rfl)
            · exact ⟨by omega, z5.2⟩
            · exact ⟨by omega, z4⟩
          · rintro ⟨z5, z6⟩
            by_cases hq : j = x
            · exact Or.inr hq
            · exact Or.inl ⟨by omega, z6⟩
theorem e_last {K : LK} {B X : XT} {r : Int → Int} {T : TT} {a : Int} {Q : Int → Prop} (b : CE K B r T) (hx : Fx scC B X) (a0 : 0 ≤ a) (a1 : a < 256) (ne : ¬ ovF r a 0) (q : ∀ L : Int, R32 L → (∀ h : Int, 0 ≤ h → (L < h ↔ ovF r a h)) → Q L) : w_X4_lastHourOf a X Q := by
  have wn := b.rw.2.2.2.2.1
  have wn1 := wn.1
  have en : X 1 11 = r 2 := by rw [hx 1 rfl]; exact b.nk
  unfold w_X4_lastHourOf
  rw [en]
  refine ⟨fun L k => 0 ≤ k ∧ k ≤ r 2 ∧ 0 ≤ L ∧ L ≤ 11 ∧ ∀ h : Int, 0 < h → (L < h ↔ ∀ j : Int, 0 ≤ j → j < k → bt a j = true → coR r j 2 < h), fun _ k => (r 2 - k).toNat, ⟨by decide, wn.1.1, by decide, by decide, fun h hh => ⟨fun _ j j0 j1 => absurd (show j < (0 : Int) from j1) (by omega), fun _ => hh⟩⟩, ?_⟩
  rintro L k ⟨k0, k1, L0, L1, hL⟩
  refine ⟨by omega, by omega, fun z => q L (by omega) (fun h h0 => ?_), fun z => ?_⟩
  · by_cases hh : h = 0
    · subst hh; exact ⟨fun y => absurd y (by omega), fun y => absurd y ne⟩
    · rw [hL h (by omega)]
      rw [show k = r 2 by omega]
      exact Iff.rfl
  · have mb := (mem_b a0 a1 k0 (show k < 8 by omega)).1
    have wk := wn.2 k k0 (by omega)
    have ek : X 7 (k * 5 + 2) = coR r k 2 := by rw [hx 7 rfl]; exact b.con k0 (by omega) (by decide) (by decide)
    rw [mb]
    refine ⟨by split <;> decide, fun y => ⟨⟨by omega, by omega, L0, L1, fun h hh => ?_⟩, by dsimp only; omega⟩, fun y => ⟨by omega, by omega, by rw [ek]; unfold coR; omega, ?_⟩⟩
    · have nb : ¬ bt a k = true := fun e => y (if_pos e)
      rw [hL h hh]
      exact ⟨fun g j j0 j1 => if hq : j = k then (fun e => absurd (by rw [← hq]; exact e) nb) else g j j0 (by omega), fun g j j0 j1 => g j j0 (by omega)⟩
    · have yb : bt a k = true := by
        by_cases e : bt a k = true
        · exact e
        · rw [if_neg e] at y; exact absurd y (by decide)
      rw [ek]
      have wk2 : 0 ≤ coR r k 2 ∧ coR r k 2 ≤ 11 := by unfold coR; omega
      refine ⟨⟨by omega, by omega, by omega, by omega, fun h hh => ?_⟩, by dsimp only; omega⟩
      have := hL h hh
      constructor
      · intro g j j0 j1 e
        by_cases hq : j = k
        · rw [hq]; omega
        · exact (this.mp (by omega)) j j0 (by omega) e
      · intro g
        have g1 := this.mpr (fun j j0 j1 => g j j0 (by omega))
        have g2 := g k k0 (by omega) yb
        omega
theorem e_canKeep {K : LK} {B X : XT} {r : Int → Int} {T : TT} {c a : Int} {Q : Int → XT → Prop} (b : CE K B r T) (hx : Fx scC B X) (c0 : 0 ≤ c) (c1 : c < r 0) (p : PTK r c X) (a0 : 0 ≤ a) (a1 : a < 256) (ne : ¬ ovF r a 0) (st : STU r T c (X 59) (X 65)) (s0 : ¬ X 59 (0 * 577 + bgF r c) = 0)
    (clo : ∀ h s d : Int, 0 ≤ h → h < 11 → 0 ≤ s → s ≤ 576 → ¬ X 59 (h * 577 + s) = 0 → 0 ≤ d → d ≤ 4 → ¬ X 59 ((h + 1) * 577 + nxF r T c s h d 0) = 0)
    (q : ∀ (v : Int) (X1 : XT), Fx [66, 67] X X1 → ((v = 1 ∧ canF r T c a 12 (fun s => s = bgF r c)) ∨ (v = 0 ∧ ¬ canF r T c a 12 (fun s => s = bgF r c))) → Q v X1) : w_X4_canKeep a X Q := by
  have w := b.rw
  have wn := w.2.2.2.2.1
  have wn1 := wn.1
  have bg := bgF_r w.2.2.1 c0 c1
  unfold w_X4_canKeep
  rw [p.1]
  refine e_last b hx a0 a1 ne (fun L rL hL => e_start b hx c0 c1 ?_)
  refine ⟨fun y X1 => 0 ≤ y ∧ y ≤ 24 ∧ Fx [66, 67] X X1 ∧ ∀ y' : Int, 0 ≤ y' → y' < y → B24 (X1 66 y') ∧ ∀ x : Int, 0 ≤ x → x < 24 → (bt (X1 66 y') x = true ↔ 24 * y' + x = bgF r c), fun y _ => (24 - y).toNat, ⟨by decide, by decide, Fx.rf, fun y' a b => absurd (show y' < (0 : Int) from b) (by omega)⟩, ?_⟩
  rintro y X1 ⟨y0, y1, f1, k1⟩
  refine ⟨by omega, fun z => ?_, fun z => ⟨by omega, bg.1, by omega, fun z2 => ⟨by omega, ⟨by omega, by omega, f1.st rfl, fun y' a' b' => ?_⟩, by dsimp only; omega⟩, fun z2 => ⟨by omega, ⟨by omega, by omega, f1.st rfl, fun y' a' b' => ?_⟩, by dsimp only; omega⟩⟩⟩
  rotate_left
  · by_cases hq : y' = y
    · rw [hq, x_st_at]
      refine ⟨by decide, fun x x0 x1 => ?_⟩
      rw [show bt 0 x = false from Nat.zero_testBit _]
      exact ⟨fun z => absurd z (by decide), fun z => absurd (show bgF r c / 24 = y by omega) z2⟩
    · rw [x_st_ne hq]; exact k1 y' a' (by omega)
  · by_cases hq : y' = y
    · rw [hq, x_st_at]
      have on := one_b (j := bgF r c % 24) (by omega) (by omega)
      refine ⟨on.1, fun x x0 x1 => ?_⟩
      rw [on.2 x x0]
      omega
    · rw [x_st_ne hq]; exact k1 y' a' (by omega)
  refine ⟨fun h X2 => 0 ≤ h ∧ h ≤ 12 ∧ Fx [66, 67] X X2 ∧ ∃ P : Int → Prop, PRw (X2 66) P ∧ (h ≤ 11 → ∀ s : Int, 0 ≤ s → s < 576 → P s → ¬ X 59 (h * 577 + s) = 0) ∧ (canF r T c a (12 - h).toNat P ↔ canF r T c a 12 (fun s => s = bgF r c)), fun h _ => (12 - h).toNat, ⟨by decide, by decide, f1, fun s => s = bgF r c, fun y' a' b' => k1 y' a' (by omega), fun _ s _ _ e => by rw [e]; exact s0, Iff.rfl⟩, ?_⟩
  rintro h X2 ⟨h0, h1, f2, P, pr, rch, eqv⟩
  refine ⟨by omega, fun z2 => ?_, fun z2 => ⟨rL, fun z3 => ?_, fun z3 => ?_⟩⟩
  · refine q 1 X2 f2 (Or.inl ⟨rfl, eqv.mp ?_⟩)
    rw [show (12 - h).toNat = 0 by omega]; exact True.intro
  · obtain ⟨k5, ek⟩ : ∃ k5 : Nat, (12 - h).toNat = k5 + 1 := ⟨(12 - h).toNat - 1, by omega⟩
    refine q 1 X2 f2 (Or.inl ⟨rfl, eqv.mp ?_⟩)
    rw [ek, canF_s, show 12 - ((k5 + 1 : Nat) : Int) = h by omega]
    exact Or.inl ((hL h h0).mp z3)
  · obtain ⟨k5, ek⟩ : ∃ k5 : Nat, (12 - h).toNat = k5 + 1 := ⟨(12 - h).toNat - 1, by omega⟩
    have no : ¬ ovF r a h := fun y => z3 ((hL h h0).mpr y)
    rw [ek, canF_s, show 12 - ((k5 + 1 : Nat) : Int) = h by omega] at eqv
    refine ⟨fun k X3 => 0 ≤ k ∧ k ≤ r 2 ∧ Fx [66, 67] X X3 ∧ PRw (X3 66) (fun s => P s ∧ svN r c a h k s), fun k _ => (r 2 - k).toNat, ⟨by decide, wn.1.1, f2, pr.cg (fun t _ _ => ⟨fun z => ⟨z, fun j j0 j1 => absurd (show j < (0 : Int) from j1) (by omega)⟩, fun z => z.1⟩)⟩, ?_⟩
    rintro k X3 ⟨k0, k1', f3, pr3⟩
    have hx3 : Fx scC B X3 := hx.trans (f3.sub (by decide))
    have en : X3 1 11 = r 2 := by rw [hx3 1 rfl]; exact b.nk
    rw [en]
    refine ⟨by omega, by omega, fun z4 => ?_, fun z4 => ?_⟩
    · have ekn : k = r 2 := by omega
      subst ekn
      refine e_empty pr3 (fun hall => ⟨by decide, fun z5 => absurd z5 (by decide), fun _ => q 0 X3 f3 (Or.inr ⟨rfl, fun hc => ?_⟩)⟩) (fun hex => ⟨by decide, fun _ => ?_, fun z5 => absurd rfl z5⟩)
      · rcases eqv.mpr hc with y | ⟨⟨s, sr, ps⟩, _⟩
        · exact no y
        · exact hall s sr.1 sr.2 ps
      · refine e_moveRows (P := fun s => P s ∧ svN r c a h (r 2) s) w c0 c1 (p.fx f3 rfl) h0 (by omega) (by rw [f3 59 rfl, f3 65 rfl]; exact st) pr3 (fun s a' b' ps => by rw [f3 59 rfl]; exact rch (by omega) s a' b' ps.1) (fun X4 f4 pr4 => ⟨⟨by omega, by omega, f3.trans f4, _, pr4, fun hh t t0 t1 ht => ?_, ?_⟩, by dsimp only; omega⟩)
        · obtain ⟨s, d, sr, dr, ps, e⟩ := ht
          rw [← e]
          exact clo h s d h0 (by omega) sr.1 (by omega) (rch (by omega) s sr.1 sr.2 ps.1) dr.1 dr.2
        · rw [show (12 - (h + 1)).toNat = k5 by omega, ← eqv]
          constructor
          · intro hc
            obtain ⟨s, sr, ps⟩ := hex
            exact Or.inr ⟨⟨s, sr, ps⟩, hc⟩
          · rintro (y | y)
            · exact absurd y no
            · exact y.2
    · have mb := (mem_b a0 a1 k0 (show k < 8 by omega)).1
      have wk := wn.2 k k0 (by omega)
      have ek0 : X3 7 (k * 5 + 0) = coR r k 0 := by rw [hx3 7 rfl]; exact b.con k0 (by omega) (by decide) (by decide)
      have ek1 : X3 7 (k * 5 + 1) = coR r k 1 := by rw [hx3 7 rfl]; exact b.con k0 (by omega) (by decide) (by decide)
      have ek2 : X3 7 (k * 5 + 2) = coR r k 2 := by rw [hx3 7 rfl]; exact b.con k0 (by omega) (by decide) (by decide)
      rw [mb, ek0]
      have skip : (bt a k = true → coR r k 1 ≤ h → h ≤ coR r k 2 → False) → (0 ≤ k + 1 ∧ k + 1 ≤ r 2 ∧ Fx [66, 67] X X3 ∧ PRw (X3 66) (fun s => P s ∧ svN r c a h (k + 1) s)) := fun hn => ⟨by omega, by omega, f3, pr3.cg (fun t _ _ => ⟨fun z => ⟨z.1, (svN_s k0).mpr ⟨z.2, fun y1 y2 y3 => absurd (hn y1 y2 y3) (fun f => f)⟩⟩, fun z => ⟨z.1, ((svN_s k0).mp z.2).1⟩⟩)⟩
      refine ⟨by split <;> decide, fun y => ⟨skip (fun e => absurd (if_pos e) y), by dsimp only; omega⟩, fun y => ?_⟩
      have yb : bt a k = true := by
        by_cases e : bt a k = true
        · exact e
        · rw [if_neg e] at y; exact absurd y (by decide)
      unfold w_X4_isDue
      rw [ek1, ek2]
      have wk1 : 0 ≤ coR r k 0 ∧ coR r k 0 ≤ 63 ∧ 0 ≤ coR r k 1 ∧ coR r k 1 ≤ 11 ∧ 0 ≤ coR r k 2 ∧ coR r k 2 ≤ 11 := by unfold coR; omega
      refine ⟨by omega, by omega, by omega, by omega, by split <;> decide, fun y2 => ⟨skip (fun _ e1 e2 => ?_), by dsimp only; omega⟩, fun y2 => ⟨by omega, ?_⟩⟩
      · rw [if_pos ⟨e1, e2⟩] at y2; exact absurd y2 (by decide)
      · have du : coR r k 1 ≤ h ∧ h ≤ coR r k 2 := by
          by_cases e : coR r k 1 ≤ h ∧ h ≤ coR r k 2
          · exact e
          · rw [if_neg e] at y2; exact absurd rfl y2
        refine e_keep b hx3 c0 c1 (p.fx f3 rfl) wk1.1 wk1.2.1 pr3 (fun X4 f4 pr4 => ⟨⟨by omega, by omega, f3.trans (f4.sub (by decide)), pr4.cg (fun t _ _ => ⟨fun z => ⟨z.1.1, (svN_s k0).mpr ⟨z.1.2, fun _ _ _ => z.2⟩⟩, fun z => ?_⟩)⟩, by dsimp only; omega⟩)
        have := (svN_s k0).mp z.2
        exact ⟨⟨z.1, this.1⟩, this.2 yb du.1 du.2⟩

/-! PAIRS OF CALLS THAT ONLY ASK: stray, rustled -/
def alB (p : Int → Prop) [DecidablePred p] : Nat → Bool
  | 0 => true
  | m + 1 => alB p m && decide (p (m : Int))
theorem alB_t {p : Int → Prop} [DecidablePred p] : ∀ m : Nat, alB p m = true ↔ ∀ k : Int, 0 ≤ k → k < m → p k := by
  intro m
  induction m with
  | zero => exact ⟨fun _ k k0 k1 => absurd k1 (by omega), fun _ => rfl⟩
  | succ m ih =>
    unfold alB
    rw [Bool.and_eq_true, decide_eq_true_iff, ih]
    constructor
    · rintro ⟨h1, h2⟩ k k0 k1
      by_cases hk : k = (m : Int)
      · rw [hk]; exact h2
      · exact h1 k k0 (by omega)
    · intro h
      exact ⟨fun k k0 k1 => h k k0 (by omega), h m (by omega) (by omega)⟩
def stF (r : Int → Int) (l s : Int) : Nat → Int
  | 0 => s
  | h + 1 => mvF (stF r l s h) (r (9 + 2 * l)) (r (9 + 2 * l + 1))
theorem stF_s {r : Int → Int} {l s : Int} {h : Nat} : stF r l s (h + 1) = mvF (stF r l s h) (r (9 + 2 * l)) (r (9 + 2 * l + 1)) := rfl
theorem stF_r {r : Int → Int} {l s : Int} (s0 : 0 ≤ s ∧ s ≤ 576) : ∀ h : Nat, 0 ≤ stF r l s h ∧ stF r l s h ≤ 576 := by
  intro h
  induction h with
  | zero => exact s0
  | succ h ih => exact mvF_r ih
abbrev seP (r : Int → Int) (wd tl : Int) (pa : Int → Int) (k : Int) : Prop := (¬ pa (r (344 + 3 * k)) = 576 ∧ cvB (pa (r (344 + 3 * k))) wd tl (r (344 + 3 * k + 1))) ↔ r (344 + 3 * k + 2) = 1
def srB (r : Int → Int) (wd tl l s : Int) : Bool := alB (seP r wd tl (fun h => stF r l s h.toNat)) (r 3).toNat
theorem e_drift {K : LK} {B X : XT} {r : Int → Int} {T : TT} {s l : Int} {Q : XT → Prop} (b : CE K B r T) (hx : Fx scC B X) (s0 : 0 ≤ s ∧ s ≤ 576) (l0 : 0 ≤ l) (l1 : l ≤ 2) (q : ∀ X1, Fx [71] X X1 → (∀ h : Nat, h ≤ 11 → X1 71 (h : Int) = stF r l s h) → Q X1) : w_X10_drift s l X Q := by
  have ww := b.rw.2.1 l l0 l1
  unfold w_X10_drift
  rw [hx 3 rfl, hx 4 rfl, b.wx l0 l1, b.wy l0 l1]
  refine ⟨by omega, ?_⟩
  intro J hJ
  refine ⟨fun k => absurd ⟨l0, l1⟩ k, fun _ => ⟨by omega, hJ _ ?_⟩⟩
  intro J2 hJ2
  refine ⟨fun k => absurd ⟨l0, l1⟩ k, fun _ => ⟨by omega, hJ2 _ ?_⟩⟩
  refine ⟨fun v x X1 => 0 ≤ x ∧ x ≤ 12 ∧ v = stF r l s x.toNat ∧ Fx [71] X X1 ∧ ∀ h : Nat, (h : Int) < x → X1 71 (h : Int) = stF r l s h, fun _ x _ => (12 - x).toNat, ⟨by decide, by decide, rfl, Fx.rf, fun h h0 => absurd h0 (by omega)⟩, ?_⟩
  rintro v x X1 ⟨x0, x1, rfl, f1, hh⟩
  have sr := stF_r (r := r) (l := l) s0 x.toNat
  refine ⟨by omega, fun k => q X1 f1 (fun h h0 => hh h (by omega)), fun k => ⟨by omega, by omega, by omega, by omega, ⟨by omega, by omega, ?_, f1.st rfl, fun h h0 => ?_⟩, by dsimp only; omega⟩⟩
  · rw [show (x + 1).toNat = x.toNat + 1 by omega, stF_s]
  · by_cases hq : (h : Int) = x
    · rw [hq, x_st_at, show x.toNat = h by omega]
    · rw [x_st_ne hq]; exact hh h (by omega)
theorem e_seen {K : LK} {B X : XT} {r : Int → Int} {T : TT} {wd tl l s : Int} {Q : Int → Prop} (b : CE K B r T) (hx : Fx scC B X) (s0 : 0 ≤ s ∧ s ≤ 576) (hw : 1 ≤ wd ∧ wd ≤ 3) (ht : 1 ≤ tl ∧ tl ≤ 3) (hh : ∀ h : Nat, h ≤ 11 → X 71 (h : Int) = stF r l s h) (q1 : srB r wd tl l s = true → Q 1) (q0 : ¬ srB r wd tl l s = true → Q 0) : w_X10_isAsSeen wd tl X Q := by
  have w := b.rw
  have ws := w.2.2.2.2.2.1
  have ws1 := ws.1
  refine ⟨fun x => 0 ≤ x ∧ x ≤ r 3 ∧ ∀ k : Int, 0 ≤ k → k < x → seP r wd tl (fun h => stF r l s h.toNat) k, fun x => (r 3 - x).toNat, ⟨by decide, ws1.1, fun k k0 k1 => absurd (show k < (0 : Int) from k1) (by omega)⟩, ?_⟩
  rintro x ⟨x0, x1, hk⟩
  have n3 : X 1 12 = r 3 := by rw [hx 1 rfl, b.ns]
  refine ⟨by omega, by omega, fun c => ?_, fun c => ?_⟩
  · refine q1 ?_
    unfold srB
    rw [alB_t]
    exact fun k k0 k1 => hk k k0 (by omega)
  · have xr : x < r 3 := by omega
    have sx := ws.2 x x0 xr
    rw [hx 8 rfl, b.sgt x0 (by omega) (by omega) (by omega), b.sgt x0 (by omega) (by omega) (by omega), b.sgt x0 (by omega) (by omega) (by omega), Int.add_zero (344 + 3 * x)]
    refine ⟨by omega, by omega, ?_⟩
    have e1 := hh (r (344 + 3 * x)).toNat (by omega)
    rw [show (((r (344 + 3 * x)).toNat : Nat) : Int) = r (344 + 3 * x) by omega] at e1
    have sr := stF_r (r := r) (l := l) s0 (r (344 + 3 * x)).toNat
    intro J hJ
    refine ⟨fun k => absurd (by omega) k, fun _ => ⟨by omega, hJ _ ?_⟩⟩
    rw [e1]
    refine ⟨sr, by omega, by omega, by omega, ?_⟩
    intro J2 hJ2
    have yes : seP r wd tl (fun h => stF r l s h.toNat) x → (0 ≤ x + 1 ∧ x + 1 ≤ r 3 ∧ ∀ k : Int, 0 ≤ k → k < x + 1 → seP r wd tl (fun h => stF r l s h.toNat) k) := fun h => ⟨by omega, by omega, fun k k0 k1 => by
      by_cases hq : k = x
      · rw [hq]; exact h
      · exact hk k k0 (by omega)⟩
    have no : ¬ seP r wd tl (fun h => stF r l s h.toNat) x → Q 0 := fun h => q0 (fun h2 => by
      unfold srB at h2
      rw [alB_t] at h2
      exact h (h2 x x0 (by omega)))
    have key : ∀ v : Int, ((r (344 + 3 * x + 2) = 1 ∧ v = 1) ∨ (¬ r (344 + 3 * x + 2) = 1 ∧ v = 0)) → J2 v := by
      intro v hv
      refine hJ2 v ?_
      by_cases hc : ¬ stF r l s (r (344 + 3 * x)).toNat = 576 ∧ cvB (stF r l s (r (344 + 3 * x)).toNat) wd tl (r (344 + 3 * x + 1))
      · rw [if_pos hc]
        exact ⟨by decide, by omega, fun c2 => ⟨yes ⟨fun _ => by omega, fun _ => hc⟩, by dsimp only; omega⟩, fun c2 => no (fun h => by have := h.mp hc; omega)⟩
      · rw [if_neg hc]
        exact ⟨by decide, by omega, fun c2 => ⟨yes ⟨fun h => absurd h hc, fun h => by omega⟩, by dsimp only; omega⟩, fun c2 => no (fun h => hc (h.mpr (by omega)))⟩
    exact ⟨by omega, fun c => key 0 (Or.inr ⟨c, rfl⟩), fun c => key 1 (Or.inl ⟨c, rfl⟩)⟩
theorem m_stray {r : Int → Int} {X : XT} {wd tl l s : Int} {Q : Int → XT → Prop} (w : RW r) (e : ME r X) (hw : 1 ≤ wd ∧ wd ≤ 3) (ht : 1 ≤ tl ∧ tl ≤ 3) (l0 : 0 ≤ l) (l1 : l ≤ 2) (s0 : 0 ≤ s) (s1 : s ≤ 575) (q1 : srB r wd tl l s = true → ∀ X1, Gx [105] X X1 → Q 1 X1) (q0 : ¬ srB r wd tl l s = true → ∀ X1, Gx [105] X X1 → Q 0 X1) : w_X12_isStray wd tl l s X Q := by
  have ws := w.2.2.2.2.2.1
  have ws1 := ws.1
  have s01 : 0 ≤ s ∧ s ≤ 576 := ⟨s0, by omega⟩
  refine ⟨fun v x X1 => 0 ≤ x ∧ x ≤ 12 ∧ v = gN (stF r l s x.toNat) ∧ Gx [105] X X1 ∧ ∀ h : Nat, (h : Int) < x → X1 105 (h : Int) = gN (stF r l s h), fun _ x _ => (12 - x).toNat, ⟨by decide, by decide, (gN_id (show ¬ s = 576 by omega)).symm, Gx.rf, fun h h0 => absurd h0 (by omega)⟩, ?_⟩
  rintro v x X1 ⟨x0, x1, rfl, g1, hh⟩
  have e1 : ME r X1 := e.go g1 rfl
  have sr := stF_r (r := r) (l := l) s01 x.toNat
  have gr := gN_r sr
  refine ⟨by omega, fun k => ?_, fun k => ?_⟩
  · refine ⟨fun v y => 0 ≤ y ∧ y ≤ r 3 ∧ ((v = 1 ∧ ∀ k : Int, 0 ≤ k → k < y → seP r wd tl (fun h => stF r l s h.toNat) k) ∨ (v = 0 ∧ ¬ srB r wd tl l s = true)), fun _ y => (r 3 - y).toNat, ⟨by decide, ws1.1, Or.inl ⟨rfl, fun k k0 k1 => absurd (show k < (0 : Int) from k1) (by omega)⟩⟩, ?_⟩
    rintro v y ⟨y0, y1, hv⟩
    unfold ME at e1
    rw [e1.1]
    refine ⟨by omega, by omega, fun c => ⟨by omega, ?_⟩, fun c => ?_⟩
    · rcases hv with ⟨rfl, hv⟩ | ⟨rfl, hv⟩
      · refine q1 ?_ X1 g1
        unfold srB
        rw [alB_t]
        exact fun k k0 k1 => hv k k0 (by omega)
      · exact q0 hv X1 g1
    · have yr : y < r 3 := by omega
      have sx := ws.2 y y0 yr
      intro J hJ
      have kJ : ¬ srB r wd tl l s = true → J := fun h => hJ ⟨⟨by omega, by omega, Or.inr ⟨rfl, h⟩⟩, by dsimp only; omega⟩
      refine ⟨by omega, fun k2 => kJ (by rcases hv with hv | hv; omega; exact hv.2), fun k2 => ?_⟩
      have hv : ∀ k : Int, 0 ≤ k → k < y → seP r wd tl (fun h => stF r l s h.toNat) k := by rcases hv with hv | hv; exact hv.2; exact absurd hv.1 k2
      have e2 := hh (r (344 + 3 * y)).toNat (by omega)
      rw [show (((r (344 + 3 * y)).toNat : Nat) : Int) = r (344 + 3 * y) by omega] at e2
      have sr2 := stF_r (r := r) (l := l) s01 (r (344 + 3 * y)).toNat
      have gr2 := gN_r sr2
      rw [e2]
      refine ⟨by omega, by omega, by omega, hw, ht, by omega, by omega, by omega, ?_⟩
      intro J2 hJ2
      have yes : seP r wd tl (fun h => stF r l s h.toNat) y → (0 ≤ y + 1 ∧ y + 1 ≤ r 3 ∧ (((1 : Int) = 1 ∧ ∀ k : Int, 0 ≤ k → k < y + 1 → seP r wd tl (fun h => stF r l s h.toNat) k) ∨ ((1 : Int) = 0 ∧ ¬ srB r wd tl l s = true))) := fun h => ⟨by omega, by omega, Or.inl ⟨rfl, fun k k0 k1 => by
        by_cases hq : k = y
        · rw [hq]; exact h
        · exact hv k k0 (by omega)⟩⟩
      have no : ¬ seP r wd tl (fun h => stF r l s h.toNat) y → J := fun h => kJ (fun h2 => by
        unfold srB at h2
        rw [alB_t] at h2
        exact h (h2 y y0 (by omega)))
      have iff1 : (¬ gN (stF r l s (r (344 + 3 * y)).toNat) = -1 ∧ cvB (gN (stF r l s (r (344 + 3 * y)).toNat)) wd tl (r (344 + 3 * y + 1))) ↔ (¬ stF r l s (r (344 + 3 * y)).toNat = 576 ∧ cvB (stF r l s (r (344 + 3 * y)).toNat) wd tl (r (344 + 3 * y + 1))) := by
        by_cases hs : stF r l s (r (344 + 3 * y)).toNat = 576
        · rw [hs]; exact ⟨fun h => absurd rfl h.1, fun h => absurd rfl h.1⟩
        · rw [gN_id hs]; exact ⟨fun h => ⟨hs, h.2⟩, fun h => ⟨by omega, h.2⟩⟩
      have key : ∀ v : Int, ((r (344 + 3 * y + 2) = 1 ∧ v = 1) ∨ (¬ r (344 + 3 * y + 2) = 1 ∧ v = 0)) → J2 v := by
        intro v hv2
        refine hJ2 v ?_
        by_cases hc : ¬ stF r l s (r (344 + 3 * y)).toNat = 576 ∧ cvB (stF r l s (r (344 + 3 * y)).toNat) wd tl (r (344 + 3 * y + 1))
        · rw [if_pos (iff1.mpr hc)]
          exact ⟨by decide, by omega, fun c2 => no (fun h => by have := h.mp hc; omega), fun c2 => ⟨yes ⟨fun _ => by omega, fun _ => hc⟩, by dsimp only; omega⟩⟩
        · rw [if_neg (fun h => hc (iff1.mp h))]
          exact ⟨by decide, by omega, fun c2 => no (fun h => hc (h.mpr (by omega))), fun c2 => ⟨yes ⟨fun h => absurd h hc, fun h => by omega⟩, by dsimp only; omega⟩⟩
      exact ⟨by omega, fun c => key 0 (Or.inr ⟨c, rfl⟩), fun c => key 1 (Or.inl ⟨c, rfl⟩)⟩
  · have h2 : ∀ h : Nat, (h : Int) < x + 1 → x_st X1 105 x (gN (stF r l s x.toNat)) 105 (h : Int) = gN (stF r l s h) := fun h h0 => by
      by_cases hq : (h : Int) = x
      · rw [hq, x_st_at, show x.toNat = h by omega]
      · rw [x_st_ne hq]; exact hh h (by omega)
    have g2 : Gx [105] X (x_st X1 105 x (gN (stF r l s x.toNat))) := g1.st rfl (by decide)
    refine ⟨by omega, by omega, fun k2 => ?_, fun k2 => ⟨⟨by omega, by omega, ?_, g2, h2⟩, by dsimp only; omega⟩⟩
    · have hs : ¬ stF r l s x.toNat = 576 := fun h => k2 ((gN_no sr).mpr h)
      refine m_goes w (e.go g2 rfl).1 l0 l1 ?_ ?_ (Or.inl rfl) (by decide) (by decide) ⟨⟨by omega, by omega, ?_, g2, h2⟩, by dsimp only; omega⟩
      · rw [gN_id hs]; exact sr.1
      · rw [gN_id hs]; omega
      · rw [show (x + 1).toNat = x.toNat + 1 by omega, stF_s, gN_id hs, show wxF r l 0 + (sxF 4 + sxF 4) = r (9 + 2 * l) from Int.add_zero (r (9 + 2 * l)), show wyF r l 0 + (syF 4 + syF 4) = r (9 + 2 * l + 1) from Int.add_zero (r (9 + 2 * l + 1))]
    · rw [show (x + 1).toNat = x.toNat + 1 by omega, stF_s, (gN_no sr).mp k2]; rfl
theorem q_stray {LW : s_LW} (hW : LWq LW) (hst : LWst LW) (a1 a2 a3 a4 : Int32) : Pair m_X11_stray m_X12_stray 0 0 (INV LW) [.int a1, .int a2, .int a3, .int a4] := by
  obtain ⟨wd, rfl, ra⟩ := iI_of a1
  obtain ⟨tl, rfl, rb⟩ := iI_of a2
  obtain ⟨l, rfl, rl⟩ := iI_of a3
  obtain ⟨i, rfl, ri⟩ := iI_of a4
  refine pair_q hW hst (fun K X Q => w_X11_stray wd tl l i X Q) (fun X Q => w_X12_stray wd tl l i X Q) (by decide) (by decide) (fun hK hn hp hf w => so_X11_stray hn hp w) (fun hn hp w => so_X12_stray hn hp w) (fun K X T b hT e => ?_)
  have w := b.rw
  have bad : ¬ (1 ≤ wd ∧ wd ≤ 3 ∧ 1 ≤ tl ∧ tl ≤ 3 ∧ 0 ≤ l ∧ l ≤ 2) → w_X12_stray wd tl l i X (fun v2 X2 => v2 = -1 ∧ Gx kpL X X2) := fun hb =>
    ⟨ra, rb, rl, fun c => absurd c hb, fun _ => ⟨rfl, Gx_of Fx.rf Gx_th⟩⟩
  refine ⟨ra, rb, rl, fun c => bad c, fun c => ?_⟩
  have mm : ∀ (X1 : XT) (V : Int), Fx scC X X1 → skF (srB (X 79) wd tl l) i 576 0 0 = V → w_X12_stray wd tl l i X1 (fun v2 X2 => v2 = V ∧ Gx kpL X X2) := by
    intro X1 V f1 hV
    refine ⟨ra, rb, rl, fun _ => ?_, fun k => absurd c k⟩
    refine ⟨fun n f X3 => 0 ≤ f ∧ f ≤ 576 ∧ 0 ≤ n ∧ n ≤ f ∧ skF (srB (X 79) wd tl l) i (576 - f).toNat f n = V ∧ Gx scM X1 X3, fun _ f _ => (576 - f).toNat, ⟨by decide, by decide, by decide, by decide, hV, Gx_th⟩, ?_⟩
    rintro n f X3 ⟨f0, f2, n0, n1, hv, g3⟩
    refine ⟨by omega, fun k => ⟨ri, fun k1 => ⟨?_, Gx_of f1 g3⟩, fun k1 => ⟨?_, Gx_of f1 g3⟩⟩, fun k => ?_⟩
    · rw [show (576 - f).toNat = 0 by omega] at hv
      rw [← hv]; exact (if_neg k1).symm
    · rw [show (576 - f).toNat = 0 by omega] at hv
      rw [← hv]; exact (if_pos k1).symm
    · rw [show (576 - f).toNat = (576 - (f + 1)).toNat + 1 by omega, skF_s] at hv
      refine m_stray w ((e.fx f1).go g3 rfl) ⟨c.1, c.2.1⟩ ⟨c.2.2.1, c.2.2.2.1⟩ c.2.2.2.2.1 c.2.2.2.2.2 f0 (by omega) (fun hs X4 g5 => ⟨by decide, fun k => absurd k (by decide), fun _ => ⟨by omega, ri, fun k1 => ⟨⟨by omega, by omega, by omega, by omega, ?_, g3.trans (g5.sub (by decide))⟩, by dsimp only; omega⟩, fun k1 => ⟨?_, Gx_of f1 (g3.trans (g5.sub (by decide)))⟩⟩⟩) (fun hs X4 g5 => ⟨by decide, fun _ => ⟨⟨by omega, by omega, by omega, by omega, ?_, g3.trans (g5.sub (by decide))⟩, by dsimp only; omega⟩, fun k => absurd rfl k⟩)
      · rw [if_pos hs, if_neg k1] at hv; exact hv
      · rw [if_pos hs, if_pos k1] at hv; exact hv
      · rw [if_neg hs] at hv; exact hv
  refine ⟨ri, fun c2 => ?_, fun c2 => mm X _ Fx.rf (skF_neg (by omega) 576 0 0 (by decide))⟩
  refine ⟨fun n f X3 => 0 ≤ f ∧ f ≤ 576 ∧ 0 ≤ n ∧ n ≤ f ∧ skF (srB (X 79) wd tl l) i (576 - f).toNat f n = skF (srB (X 79) wd tl l) i 576 0 0 ∧ Fx scC X X3, fun _ f _ => (576 - f).toNat, ⟨by decide, by decide, by decide, by decide, rfl, Fx.rf⟩, ?_⟩
  rintro n f X3 ⟨f0, f2, n0, n1, hv, f3⟩
  refine ⟨by omega, fun k => ⟨ri, fun k1 => mm X3 _ f3 ?_, fun k1 => mm X3 _ f3 ?_⟩, fun k => ?_⟩
  · rw [show (576 - f).toNat = 0 by omega] at hv
    rw [← hv]; exact if_neg k1
  · rw [show (576 - f).toNat = 0 by omega] at hv
    rw [← hv]; exact if_pos k1
  · rw [show (576 - f).toNat = (576 - (f + 1)).toNat + 1 by omega, skF_s] at hv
    refine e_drift b f3 ⟨f0, by omega⟩ c.2.2.2.2.1 c.2.2.2.2.2 (fun X4 f4 hh => ?_)
    have f5 : Fx scC X X4 := f3.trans (f4.sub (by decide))
    refine e_seen (l := l) (s := f) b f5 ⟨f0, by omega⟩ ⟨c.1, c.2.1⟩ ⟨c.2.2.1, c.2.2.2.1⟩ hh (fun hs => ⟨by decide, fun k => absurd k (by decide), fun _ => ⟨by omega, ri, fun k1 => ⟨⟨by omega, by omega, by omega, by omega, ?_, f5⟩, by dsimp only; omega⟩, fun k1 => mm X4 _ f5 ?_⟩⟩) (fun hs => ⟨by decide, fun _ => ⟨⟨by omega, by omega, by omega, by omega, ?_, f5⟩, by dsimp only; omega⟩, fun k => absurd rfl k⟩)
    · rw [if_pos hs, if_neg k1] at hv; exact hv
    · rw [if_pos hs, if_pos k1] at hv; exact hv.symm
    · rw [if_neg hs] at hv; exact hv

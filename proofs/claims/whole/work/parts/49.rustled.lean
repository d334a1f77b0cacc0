/-! PAIRS OF CALLS THAT ONLY ASK: rustled -/
/-- a cloud's corners by flags d -/
def spG (r : Int → Int) (T : TT) (c : Int) (d : Int → Int) : Nat → Int
  | 0 => bgF r c
  | h + 1 => nxF r T c (spG r T c d h) (h : Int) (d (h : Int)) 0
theorem spG_s {r : Int → Int} {T : TT} {c : Int} {d : Int → Int} {h : Nat} : spG r T c d (h + 1) = nxF r T c (spG r T c d h) (h : Int) (d (h : Int)) 0 := rfl
theorem spG_r {r : Int → Int} {T : TT} {d : Int → Int} (w : W_cld r) {c : Int} (h0 : 0 ≤ c) (h1 : c < r 0) : ∀ h : Nat, 0 ≤ spG r T c d h ∧ spG r T c d h ≤ 576 := by
  intro h
  induction h with
  | zero => have := bgF_r w h0 h1; unfold spG; omega
  | succ h ih => exact nxF_r ih
theorem spF_G {r : Int → Int} {T : TT} {c : Int} : ∀ h : Nat, spF r T c h = spG r T c (fRw r c) h := by
  intro h
  induction h with
  | zero => rfl
  | succ h ih =>
    show nxF r T c (spF r T c h) _ _ 0 = nxF r T c (spG r T c (fRw r c) h) _ _ 0
    rw [ih]
theorem e_follow {K : LK} {B X : XT} {r : Int → Int} {T : TT} {c : Int} {d : Int → Int} {Q : XT → Prop} (b : CE K B r T) (hx : Fx scC B X) (c0 : 0 ≤ c) (c1 : c < r 0) (hd : ∀ h : Int, 0 ≤ h → h ≤ 10 → X 50 (c * 11 + h) = tlF (d h) ∧ -1 ≤ d h ∧ d h ≤ 3) (q : ∀ X1, Fx [46, 48, 51] X X1 → (∀ h : Nat, h ≤ 11 → X1 51 (c * 12 + (h : Int)) = spG r T c d h) → (∀ j : Int, (j < c * 12 ∨ c * 12 + 12 ≤ j) → X1 51 j = X 51 j) → Q X1) : w_X8_follow K 50 51 c X Q := by
  have wc := b.rw.2.2.1
  have wc1 := wc.1
  refine e_start b hx c0 c1 ⟨by omega, fun k => absurd (by omega) k, fun _ => ⟨by decide, fun k => absurd (by decide) k, fun _ => ⟨by omega, ?_⟩⟩⟩
  refine ⟨fun y X3 => 0 ≤ y ∧ y ≤ 11 ∧ Fx [46, 48, 51] X X3 ∧ (∀ h : Nat, (h : Int) ≤ y → X3 51 (c * 12 + (h : Int)) = spG r T c d h) ∧ ∀ j : Int, (j < c * 12 ∨ c * 12 + 12 ≤ j) → X3 51 j = X 51 j, fun y _ => (11 - y).toNat, ⟨by decide, by decide, Fx.rf.st rfl, fun h h3 => ?_, fun j hj => x_st_ne (by omega)⟩, ?_⟩
  · have : h = 0 := by omega
    subst this
    exact x_st_at
  rintro y X3 ⟨y0, y1, f3, m3, o3⟩
  refine ⟨by omega, fun k => q X3 f3 (fun h h0 => m3 h (by omega)) o3, fun k => ?_⟩
  have hx3 : Fx scC B X3 := hx.trans (f3.sub (by decide))
  have ey : ((y.toNat : Nat) : Int) = y := by omega
  have m4 := m3 y.toNat (by omega)
  rw [ey] at m4
  have sr := spG_r (T := T) (d := d) wc c0 c1 y.toNat
  obtain ⟨d1, d2, d3⟩ := hd y y0 (by omega)
  have dr : 0 ≤ tlF (d y) ∧ tlF (d y) ≤ 4 := by unfold tlF; split <;> omega
  refine e_goOn (Or.inl ⟨rfl, rfl⟩) b hx3 c0 c1 y0 (by omega) (Or.inl rfl) m4 (by rw [f3 50 rfl]; exact d1) sr.1 sr.2 dr.1 dr.2 (fun X4 f4 e4 g4 => ?_)
  refine ⟨⟨by omega, by omega, f3.trans f4, fun h h5 => ?_, fun j hj => by rw [g4 _ (by omega)]; exact o3 j hj⟩, by dsimp only; omega⟩
  by_cases hq : (h : Int) = y + 1
  · rw [hq, e4]
    have eh : h = y.toNat + 1 := by omega
    rw [eh, nxF_tl sr, spG_s, ey]
  · rw [g4 _ (by omega)]; exact m3 h (by omega)
theorem m_layWith {r : Int → Int} {T : TT} {X : XT} {c hr d : Int} {dd : Int → Int} {Q : XT → Prop} (w : RW r) (hT : HRt r T) (tr : TR T) (e : ME r X) (c0 : 0 ≤ c) (c1 : c < r 0) (rh : -1 ≤ hr ∧ hr ≤ 10) (rd : -1 ≤ d ∧ d ≤ 3) (hd : ∀ h : Int, 0 ≤ h → dd h = if h = hr then d else fRw r c h) (q : ∀ X1, Gx [91, 93, 94] X X1 → (∀ h : Nat, h ≤ 11 → X1 94 (12 * c + (h : Int)) = gN (spG r T c dd h)) → (∀ j : Int, (j < 12 * c ∨ 12 * c + 12 ≤ j) → X1 94 j = X 94 j) → Q X1) : w_X12_layWith c hr d X Q := by
  have wc := w.2.2.1
  have wc1 := wc.1
  refine m_begins w e.1 c0 c1 ?_
  refine ⟨fun a y X2 => 0 ≤ y ∧ y ≤ 12 ∧ (y ≤ 11 → a = gN (spG r T c dd y.toNat)) ∧ R32 a ∧ Gx [91, 93, 94] X X2 ∧ (∀ h : Nat, (h : Int) < y → X2 94 (12 * c + (h : Int)) = gN (spG r T c dd h)) ∧ ∀ j : Int, (j < 12 * c ∨ 12 * c + 12 ≤ j) → X2 94 j = X 94 j, fun _ y _ => (12 - y).toNat, ⟨by decide, by decide, fun _ => ?_, ?_, Gx.rf, fun h h1 => absurd h1 (by omega), fun _ _ => rfl⟩, ?_⟩
  · have b := bgF_r wc c0 c1
    show bgF r c = gN (bgF r c)
    rw [gN_id (by omega)]
  · have b := bgF_r wc c0 c1
    omega
  rintro a y X2 ⟨y0, y1, ea, ra, g2, m2, o2⟩
  refine ⟨by omega, fun k => q X2 g2 (fun h h0 => m2 h (by omega)) o2, fun k => ⟨by omega, ra, ?_⟩⟩
  have ea := ea (by omega)
  have sr := spG_r (T := T) (d := dd) wc c0 c1 y.toNat
  have gr := gN_r sr
  have ey : ((y.toNat : Nat) : Int) = y := by omega
  have ey1 : (y + 1).toNat = y.toNat + 1 := by omega
  generalize hX3 : x_st X2 94 (12 * c + y) a = X3
  have g3 : Gx [91, 93, 94] X X3 := by rw [← hX3]; exact g2.st rfl (by decide)
  have m3 : ∀ h : Nat, (h : Int) < y + 1 → X3 94 (12 * c + (h : Int)) = gN (spG r T c dd h) := fun h h1 => by
    rw [← hX3]
    by_cases hq : (h : Int) = y
    · rw [hq, x_st_at, ea, show y.toNat = h by omega]
    · rw [x_st_ne (by omega)]; exact m2 h (by omega)
  have o3 : ∀ j : Int, (j < 12 * c ∨ 12 * c + 12 ≤ j) → X3 94 j = X 94 j := fun j hj => by rw [← hX3, x_st_ne (by omega)]; exact o2 j hj
  have e3 : ME r X3 := e.go g3 rfl
  refine ⟨fun k1 => ?_, fun k1 => ⟨⟨by omega, by omega, fun _ => ?_, by decide, g3, m3, o3⟩, by dsimp only; omega⟩⟩
  · have hs : ¬ spG r T c dd y.toNat = 576 := fun h => k1 (by rw [ea]; exact (gN_no sr).mpr h)
    have es : a = spG r T c dd y.toNat := by rw [ea, gN_id hs]
    have fr := fRw_r w.2.2.2.1 c y
    intro J hJ
    have key : ∀ v : Int, v = dd y → J v := by
      rintro v rfl
      refine hJ _ ?_
      rw [es]
      have rdd : -1 ≤ dd y ∧ dd y ≤ 3 := by rw [hd y y0]; split <;> omega
      refine m_goOn w hT tr e3 c0 c1 sr.1 (by omega) y0 (by omega) (Or.inl rfl) rdd.1 (by omega) (fun X4 g4 => ?_)
      have nr := nxF_r (r := r) (T := T) (c := c) (h := y) (d := dd y) (tu := 0) sr
      have gr2 := gN_r nr
      refine ⟨⟨by omega, by omega, fun _ => ?_, by omega, g3.trans (g4.sub rfl), fun h h1 => by rw [g4.1 94 rfl (by decide)]; exact m3 h h1, fun j hj => by rw [g4.1 94 rfl (by decide)]; exact o3 j hj⟩, by dsimp only; omega⟩
      rw [ey1, spG_s, ey]
    rw [e3.1]
    refine ⟨by omega, fun k2 => ⟨by omega, w.2.2.2.1.1, key _ ?_⟩, fun k2 => key _ ?_⟩
    · rw [hd y y0, if_neg k2]
    · rw [hd y y0, if_pos k2]
  · have hs : spG r T c dd y.toNat = 576 := (gN_no sr).mp (ea.symm.trans k1)
    rw [ey1, spG_s, hs]; rfl
/-- whether all sights are so -/
abbrev sgP (r : Int → Int) (sp : Int → Int → Int) (k : Int) : Prop := 0 < shG r sp (r (344 + 3 * k + 1)) (r (344 + 3 * k)) ↔ r (344 + 3 * k + 2) = 1
def sgB (r : Int → Int) (sp : Int → Int → Int) : Bool := alB (sgP r sp) (r 3).toNat
theorem e_so {K : LK} {B X : XT} {r : Int → Int} {T : TT} {sp : Int → Int → Int} {Q : Int → Prop} (b : CE K B r T) (hx : Fx scC B X) (hs : SPX r 51 sp X) (q1 : sgB r sp = true → Q 1) (q0 : ¬ sgB r sp = true → Q 0) : w_X8_sightsAreSo 50 51 X Q := by
  have w := b.rw
  have ws := w.2.2.2.2.2.1
  have ws1 := ws.1
  refine ⟨fun x => 0 ≤ x ∧ x ≤ r 3 ∧ ∀ k : Int, 0 ≤ k → k < x → sgP r sp k, fun x => (r 3 - x).toNat, ⟨by decide, ws1.1, fun k k0 k1 => absurd (show k < (0 : Int) from k1) (by omega)⟩, ?_⟩
  rintro x ⟨x0, x1, hk⟩
  have n3 : X 1 12 = r 3 := by rw [hx 1 rfl, b.ns]
  refine ⟨by omega, by omega, fun c => ?_, fun c => ?_⟩
  · refine q1 ?_
    unfold sgB
    rw [alB_t]
    exact fun k k0 k1 => hk k k0 (by omega)
  · have xr : x < r 3 := by omega
    have sx := ws.2 x x0 xr
    rw [hx 8 rfl, b.sgt x0 (by omega) (by omega) (by omega), b.sgt x0 (by omega) (by omega) (by omega), b.sgt x0 (by omega) (by omega) (by omega), Int.add_zero (344 + 3 * x)]
    refine ⟨by omega, e_sh2 b hx hs (by omega) (by omega) (by omega) (by omega) ?_⟩
    have sr := shG_r (sp := sp) (f := r (344 + 3 * x + 1)) (h := r (344 + 3 * x)) w
    have yes : sgP r sp x → (0 ≤ x + 1 ∧ x + 1 ≤ r 3 ∧ ∀ k : Int, 0 ≤ k → k < x + 1 → sgP r sp k) := fun h => ⟨by omega, by omega, fun k k0 k1 => by
      by_cases hq : k = x
      · rw [hq]; exact h
      · exact hk k k0 (by omega)⟩
    have no : ¬ sgP r sp x → Q 0 := fun h => q0 (fun h2 => by
      unfold sgB at h2
      rw [alB_t] at h2
      exact h (h2 x x0 (by omega)))
    intro J hJ
    have k1 : ∀ u : Int, ((0 < shG r sp (r (344 + 3 * x + 1)) (r (344 + 3 * x)) ∧ u = 1) ∨ (¬ 0 < shG r sp (r (344 + 3 * x + 1)) (r (344 + 3 * x)) ∧ u = 0)) → J u := by
      intro u hu
      refine hJ u ?_
      intro J2 hJ2
      have k2 : ∀ v : Int, ((r (344 + 3 * x + 2) = 1 ∧ v = 1) ∨ (¬ r (344 + 3 * x + 2) = 1 ∧ v = 0)) → J2 v := by
        intro v hv
        refine hJ2 v ⟨by omega, by omega, fun c2 => ⟨yes ?_, by dsimp only; omega⟩, fun c2 => no ?_⟩
        · show _ ↔ _
          omega
        · show ¬ (_ ↔ _)
          omega
      exact ⟨by omega, fun c => k2 0 (Or.inr ⟨c, rfl⟩), fun c => k2 1 (Or.inl ⟨c, rfl⟩)⟩
    exact ⟨by omega, fun c => k1 0 (Or.inr ⟨by omega, rfl⟩), fun c => k1 1 (Or.inl ⟨by omega, rfl⟩)⟩
theorem m_so {r : Int → Int} {X : XT} {sp : Int → Int → Int} {Q : Int → Prop} (w : RW r) (e : X 79 = r) (hs : SPM r sp X) (q1 : sgB r sp = true → Q 1) (q0 : ¬ sgB r sp = true → Q 0) : w_X12_areSo X Q := by
  have ws := w.2.2.2.2.2.1
  have ws1 := ws.1
  unfold w_X12_areSo
  rw [e]
  refine ⟨fun v y => 0 ≤ y ∧ y ≤ r 3 ∧ ((v = 1 ∧ ∀ k : Int, 0 ≤ k → k < y → sgP r sp k) ∨ (v = 0 ∧ ¬ sgB r sp = true)), fun _ y => (r 3 - y).toNat, ⟨by decide, ws1.1, Or.inl ⟨rfl, fun k k0 k1 => absurd (show k < (0 : Int) from k1) (by omega)⟩⟩, ?_⟩
  rintro v y ⟨y0, y1, hv⟩
  refine ⟨by omega, by omega, fun c => ⟨by omega, ?_⟩, fun c => ?_⟩
  · rcases hv with ⟨rfl, hv⟩ | ⟨rfl, hv⟩
    · refine q1 ?_
      unfold sgB
      rw [alB_t]
      exact fun k k0 k1 => hv k k0 (by omega)
    · exact q0 hv
  · have yr : y < r 3 := by omega
    have sx := ws.2 y y0 yr
    intro J hJ
    have kJ : ¬ sgB r sp = true → J := fun h => hJ ⟨⟨by omega, by omega, Or.inr ⟨rfl, h⟩⟩, by dsimp only; omega⟩
    refine ⟨by omega, fun k2 => kJ (by rcases hv with hv | hv; omega; exact hv.2), fun k2 => ?_⟩
    have hv : ∀ k : Int, 0 ≤ k → k < y → sgP r sp k := by rcases hv with hv | hv; exact hv.2; exact absurd hv.1 k2
    refine ⟨by omega, by omega, m_sh2 w e hs (by omega) (by omega) (by omega) (by omega) ?_⟩
    have sr := shG_r (sp := sp) (f := r (344 + 3 * y + 1)) (h := r (344 + 3 * y)) w
    have yes : sgP r sp y → (0 ≤ y + 1 ∧ y + 1 ≤ r 3 ∧ (((1 : Int) = 1 ∧ ∀ k : Int, 0 ≤ k → k < y + 1 → sgP r sp k) ∨ ((1 : Int) = 0 ∧ ¬ sgB r sp = true))) := fun h => ⟨by omega, by omega, Or.inl ⟨rfl, fun k k0 k1 => by
      by_cases hq : k = y
      · rw [hq]; exact h
      · exact hv k k0 (by omega)⟩⟩
    have no : ¬ sgP r sp y → J := fun h => kJ (fun h2 => by
      unfold sgB at h2
      rw [alB_t] at h2
      exact h (h2 y y0 (by omega)))
    intro J1 hJ1
    have k1 : ∀ u : Int, ((0 < shG r sp (r (344 + 3 * y + 1)) (r (344 + 3 * y)) ∧ u = 1) ∨ (¬ 0 < shG r sp (r (344 + 3 * y + 1)) (r (344 + 3 * y)) ∧ u = 0)) → J1 u := by
      intro u hu
      refine hJ1 u ⟨by omega, ?_⟩
      intro J2 hJ2
      have k2 : ∀ v : Int, ((r (344 + 3 * y + 2) = 1 ∧ v = 1) ∨ (¬ r (344 + 3 * y + 2) = 1 ∧ v = 0)) → J2 v := by
        intro v hv
        refine hJ2 v ⟨by omega, by omega, fun c2 => no ?_, fun c2 => ⟨yes ?_, by dsimp only; omega⟩⟩
        · show ¬ (_ ↔ _)
          omega
        · show _ ↔ _
          omega
      exact ⟨by omega, fun c => k2 0 (Or.inr ⟨c, rfl⟩), fun c => k2 1 (Or.inl ⟨c, rfl⟩)⟩
    exact ⟨by omega, fun c => k1 0 (Or.inr ⟨by omega, rfl⟩), fun c => k1 1 (Or.inl ⟨by omega, rfl⟩)⟩
/-- the corners of all clouds, one of them with a flag more -/
def spW (r : Int → Int) (T : TT) (c hr d : Int) : Int → Int → Int := fun k h => spG r T k (fun j => if k = c ∧ j = hr then d else fRw r k j) h.toNat
theorem spG_cg {r : Int → Int} {T : TT} {c : Int} {d d2 : Int → Int} : ∀ h : Nat, (∀ j : Int, 0 ≤ j → j < h → d j = d2 j) → spG r T c d h = spG r T c d2 h := by
  intro h
  induction h with
  | zero => intro _; rfl
  | succ h ih =>
    intro e
    rw [spG_s, spG_s, ih (fun j j0 j1 => e j j0 (by omega)), e h (by omega) (by omega)]
def ruB (r : Int → Int) (T : TT) (n : Int) : Bool := decide (n % 20 / 4 < r 0) && (decide (fRw r (n % 20 / 4) (n / 20) = -1) && sgB r (spW r T (n % 20 / 4) (n / 20) (n % 4)))
theorem q_rustled {LW : s_LW} (hW : LWq LW) (hst : LWst LW) (a1 : Int32) : Pair m_X11_rustled m_X12_rustled 0 0 (INV LW) [.int a1] := by
  obtain ⟨i, rfl, ri⟩ := iI_of a1
  refine pair_q hW hst (fun K X Q => w_X11_rustled K i X Q) (fun X Q => w_X12_rustled i X Q) (by decide) (by decide) (fun hK hn hp hf w => so_X11_rustled hK hn hp hf w) (fun hn hp w => so_X12_rustled hn hp w) (fun K X T b hT e => ?_)
  have w := b.rw
  have wc := w.2.2.1
  have wc1 := wc.1
  generalize hr : X 79 = r at *
  have ruf : ∀ n : Int, n % 20 / 4 < r 0 → fRw r (n % 20 / 4) (n / 20) = -1 → (ruB r T n = true ↔ sgB r (spW r T (n % 20 / 4) (n / 20) (n % 4)) = true) := fun n h1 h2 => by
    unfold ruB
    rw [decide_eq_true h1, decide_eq_true h2, Bool.true_and, Bool.true_and]
  have ru0 : ∀ n : Int, (¬ n % 20 / 4 < r 0 ∨ ¬ fRw r (n % 20 / 4) (n / 20) = -1) → ¬ ruB r T n = true := fun n h1 h2 => by
    unfold ruB at h2
    rw [Bool.and_eq_true, Bool.and_eq_true, decide_eq_true_iff, decide_eq_true_iff] at h2
    rcases h1 with h1 | h1
    · exact h1 h2.1
    · exact h1 h2.2.1
  have mm : ∀ (X1 : XT) (V : Int), Fx scC X X1 → skF (ruB r T) i 220 0 0 = V → w_X12_rustled i X1 (fun v2 X2 => v2 = V ∧ Gx kpL X X2) := by
    intro X1 V f1 hV
    refine m_lay0 w hT b.2.2.2 (e.fx f1) (fun X2 e2 g2 l2 => ?_)
    refine ⟨fun n f X3 => 0 ≤ f ∧ f ≤ 220 ∧ 0 ≤ n ∧ n ≤ f ∧ skF (ruB r T) i (220 - f).toNat f n = V ∧ Gx scM X1 X3 ∧ LAID r T X3, fun _ f _ => (220 - f).toNat, ⟨by decide, by decide, by decide, by decide, hV, g2, l2⟩, ?_⟩
    rintro n f X3 ⟨f0, f2, n0, n1, hv, g3, l3⟩
    have e3 : ME r X3 := (e.fx f1).go g3 rfl
    refine ⟨by omega, fun k => ⟨ri, fun k1 => ⟨?_, Gx_of f1 g3⟩, fun k1 => ⟨?_, Gx_of f1 g3⟩⟩, fun k => ?_⟩
    · rw [show (220 - f).toNat = 0 by omega] at hv
      rw [← hv]; exact (if_neg k1).symm
    · rw [show (220 - f).toNat = 0 by omega] at hv
      rw [← hv]; exact (if_pos k1).symm
    · rw [show (220 - f).toNat = (220 - (f + 1)).toNat + 1 by omega, skF_s] at hv
      have ec : (f / 4) % 5 = f % 20 / 4 := by omega
      rw [ec, e3.1]
      have skip : (¬ f % 20 / 4 < r 0 ∨ ¬ fRw r (f % 20 / 4) (f / 20) = -1) → skF (ruB r T) i (220 - (f + 1)).toNat (f + 1) n = V := fun h => by
        rw [if_neg (ru0 f h)] at hv; exact hv
      refine ⟨f0, by omega, by omega, by omega, wc1, fun c => ⟨⟨by omega, by omega, by omega, by omega, skip (Or.inl (by omega)), g3, l3⟩, by dsimp only; omega⟩, fun c => ?_⟩
      have fr := fRw_r w.2.2.2.1 (f % 20 / 4) (f / 20)
      refine ⟨by omega, w.2.2.2.1.1, by omega, fun c2 => ⟨⟨by omega, by omega, by omega, by omega, skip (Or.inr c2), g3, l3⟩, by dsimp only; omega⟩, fun c2 => ?_⟩
      refine m_layWith (dd := fun j => if f % 20 / 4 = f % 20 / 4 ∧ j = f / 20 then f % 4 else fRw r (f % 20 / 4) j) w hT b.2.2.2 e3 c.1 (by omega) (by omega) (by omega) (fun h h0 => ?_) (fun X4 g4 m4 o4 => ?_)
      · by_cases hq : h = f / 20
        · rw [if_pos ⟨rfl, hq⟩, if_pos hq]
        · rw [if_neg (fun z => hq z.2), if_neg hq]
      · have e4 : ME r X4 := e3.go g4 rfl
        have s4 : SPM r (spW r T (f % 20 / 4) (f / 20) (f % 4)) X4 := by
          intro c' h c0 c1 h0 h1
          have sr := spG_r (T := T) (d := fun j => if c' = f % 20 / 4 ∧ j = f / 20 then f % 4 else fRw r c' j) wc c0 c1 h.toNat
          refine ⟨?_, sr⟩
          by_cases hc : c' = f % 20 / 4
          · have := m4 h.toNat (by omega)
            rw [show ((h.toNat : Nat) : Int) = h by omega] at this
            rw [hc]; exact this
          · rw [o4 _ (by omega)]
            have := l3 c' c0 c1 h.toNat (by omega)
            rw [show ((h.toNat : Nat) : Int) = h by omega, spF_G] at this
            rw [this]
            show gN _ = gN (spG r T c' (fun j => if c' = f % 20 / 4 ∧ j = f / 20 then f % 4 else fRw r c' j) h.toNat)
            rw [spG_cg (d2 := fun j => if c' = f % 20 / 4 ∧ j = f / 20 then f % 4 else fRw r c' j) h.toNat (fun j _ _ => (if_neg (fun z => hc z.1)).symm)]
        have back : ∀ (v : Int) (Q2 : XT → Prop), (∀ X5, Gx scM X1 X5 → LAID r T X5 → Q2 X5) → w_X12_layWith (f % 20 / 4) (-1) (-1) X4 Q2 := by
          intro v Q2 hq
          refine m_layWith (dd := fRw r (f % 20 / 4)) w hT b.2.2.2 e4 c.1 (by omega) (by omega) (by omega) (fun h h0 => by rw [if_neg (by omega)]) (fun X5 g5 m5 o5 => ?_)
          refine hq X5 (g3.trans ((g4.trans g5).sub (by decide))) (fun c' c0 c1 h h0 => ?_)
          by_cases hc : c' = f % 20 / 4
          · rw [hc, m5 h h0, spF_G]
          · rw [o5 _ (by omega), o4 _ (by omega)]; exact l3 c' c0 c1 h h0
        refine m_so w e4.1 s4 (fun hs => back 1 _ (fun X5 g5 l5 => ⟨by decide, fun k => absurd k (by decide), fun _ => ⟨by omega, ri, fun k1 => ⟨⟨by omega, by omega, by omega, by omega, ?_, g5, l5⟩, by dsimp only; omega⟩, fun k1 => ⟨?_, Gx_of f1 g5⟩⟩⟩)) (fun hs => back 0 _ (fun X5 g5 l5 => ⟨by decide, fun _ => ⟨⟨by omega, by omega, by omega, by omega, ?_, g5, l5⟩, by dsimp only; omega⟩, fun k => absurd rfl k⟩))
        · rw [if_pos ((ruf f (by omega) c2).mpr hs), if_neg k1] at hv; exact hv
        · rw [if_pos ((ruf f (by omega) c2).mpr hs), if_pos k1] at hv; exact hv
        · rw [if_neg (fun z => hs ((ruf f (by omega) c2).mp z))] at hv; exact hv
  refine ⟨ri, fun c => ?_, fun c => mm X _ Fx.rf (skF_neg (by omega) 220 0 0 (by decide))⟩
  refine e_look0 b (fun X1 f1 h1 l1 => ?_)
  refine ⟨fun n f X3 => 0 ≤ f ∧ f ≤ 220 ∧ 0 ≤ n ∧ n ≤ f ∧ skF (ruB r T) i (220 - f).toNat f n = skF (ruB r T) i 220 0 0 ∧ Fx scC X X3 ∧ HEAR r 50 X3 ∧ LOOK r T 51 X3, fun _ f _ => (220 - f).toNat, ⟨by decide, by decide, by decide, by decide, rfl, f1, h1, l1⟩, ?_⟩
  rintro n f X3 ⟨f0, f2, n0, n1, hv, f3, h3, l3⟩
  refine ⟨by omega, fun k => ⟨ri, fun k1 => mm X3 _ f3 ?_, fun k1 => mm X3 _ f3 ?_⟩, fun k => ?_⟩
  · rw [show (220 - f).toNat = 0 by omega] at hv
    rw [← hv]; exact if_neg k1
  · rw [show (220 - f).toNat = 0 by omega] at hv
    rw [← hv]; exact if_pos k1
  rw [show (220 - f).toNat = (220 - (f + 1)).toNat + 1 by omega, skF_s] at hv
  have skip : (¬ f % 20 / 4 < r 0 ∨ ¬ fRw r (f % 20 / 4) (f / 20) = -1) → skF (ruB r T) i (220 - (f + 1)).toNat (f + 1) n = skF (ruB r T) i 220 0 0 := fun h => by
    rw [if_neg (ru0 f h)] at hv; exact hv
  rw [f3 1 rfl, b.nc]
  refine ⟨f0, by omega, by omega, by omega, by omega, fun c => ⟨⟨by omega, by omega, by omega, by omega, skip (Or.inl (by omega)), f3, h3, l3⟩, by dsimp only; omega⟩, fun c => ?_⟩
  have fr := fRw_r w.2.2.2.1 (f % 20 / 4) (f / 20)
  have hh := h3 (f % 20 / 4) (f / 20) c.1 (by omega) (by omega) (by omega)
  refine ⟨by omega, fun k => absurd (by omega) k, fun _ => ⟨by omega, fun _ => ⟨by omega, ?_⟩, fun k => absurd (by omega) k⟩⟩
  rw [hh]
  have tr := tlF_r w.2.2.2.1 (f % 20 / 4) (f / 20)
  have t4 : tlF (fRw r (f % 20 / 4) (f / 20)) = 4 ↔ fRw r (f % 20 / 4) (f / 20) = -1 := by unfold tlF; split <;> omega
  refine ⟨by omega, fun k2 => ⟨⟨by omega, by omega, by omega, by omega, skip (Or.inr (fun z => k2 (t4.mpr z))), f3, h3, l3⟩, by dsimp only; omega⟩, fun k2 => ?_⟩
  have c2 := t4.mp k2
  refine ⟨by omega, fun k => absurd (by omega) k, fun _ => ⟨by omega, fun k => absurd (by omega) k, fun _ => ⟨by omega, ?_⟩⟩⟩
  generalize hX4 : x_st X3 50 ((f % 20 / 4) * 11 + f / 20) (f % 4) = X4
  have f4 : Fx [50] X3 X4 := by rw [← hX4]; exact Fx.rf.st rfl
  have f34 : Fx scC X X4 := f3.trans (f4.sub (by decide))
  refine e_follow (d := fun j => if f % 20 / 4 = f % 20 / 4 ∧ j = f / 20 then f % 4 else fRw r (f % 20 / 4) j) b f34 c.1 (by omega) (fun h h0 h10 => ?_) (fun X5 f5 m5 o5 => ?_)
  · have fr2 := fRw_r w.2.2.2.1 (f % 20 / 4) h
    by_cases hq : h = f / 20
    · rw [if_pos ⟨rfl, hq⟩, hq, ← hX4, x_st_at]
      unfold tlF
      rw [if_neg (by omega)]; omega
    · rw [if_neg (fun z => hq z.2), ← hX4, x_st_ne (by omega)]
      exact ⟨h3 _ _ c.1 (by omega) h0 h10, fr2⟩
  have f35 : Fx scC X X5 := f34.trans (f5.sub (by decide))
  have s5 : SPX r 51 (spW r T (f % 20 / 4) (f / 20) (f % 4)) X5 := by
    intro c' h c0 c1 h0 h10
    have sr := spG_r (T := T) (d := fun j => if c' = f % 20 / 4 ∧ j = f / 20 then f % 4 else fRw r c' j) wc c0 c1 h.toNat
    refine ⟨?_, sr⟩
    by_cases hc : c' = f % 20 / 4
    · have := m5 h.toNat (by omega)
      rw [show ((h.toNat : Nat) : Int) = h by omega] at this
      rw [hc]; exact this
    · rw [o5 _ (by omega), f4 51 rfl]
      have := l3 c' c0 c1 h.toNat (by omega)
      rw [show ((h.toNat : Nat) : Int) = h by omega, spF_G] at this
      rw [this]
      exact spG_cg (d2 := fun j => if c' = f % 20 / 4 ∧ j = f / 20 then f % 4 else fRw r c' j) h.toNat (fun j _ _ => (if_neg (fun z => hc z.1)).symm)
  have back : ∀ (Q2 : XT → Prop), (∀ X7, Fx scC X X7 → HEAR r 50 X7 → LOOK r T 51 X7 → Q2 X7) → w_X8_tell 50 51 (f % 20 / 4) (f / 20) 4 X5 (fun X6 => w_X8_follow K 50 51 (f % 20 / 4) X6 Q2) := by
    intro Q2 hq
    refine ⟨by omega, fun k => absurd (by omega) k, fun _ => ⟨by omega, fun k => absurd (by omega) k, fun _ => ⟨by omega, ?_⟩⟩⟩
    generalize hX6 : x_st X5 50 ((f % 20 / 4) * 11 + f / 20) 4 = X6
    have f6 : Fx [50] X5 X6 := by rw [← hX6]; exact Fx.rf.st rfl
    have hh6 : HEAR r 50 X6 := by
      intro c' h c0 c1 h0 h10
      rw [← hX6]
      by_cases hq : c' = f % 20 / 4 ∧ h = f / 20
      · rw [hq.1, hq.2, x_st_at, k2]
      · rw [x_st_ne (by omega), f5 50 rfl, ← hX4, x_st_ne (by omega)]; exact h3 c' h c0 c1 h0 h10
    refine e_follow (d := fRw r (f % 20 / 4)) b (f35.trans (f6.sub (by decide))) c.1 (by omega) (fun h h0 h10 => ⟨hh6 _ _ c.1 (by omega) h0 h10, fRw_r w.2.2.2.1 _ _⟩) (fun X7 f7 m7 o7 => ?_)
    refine hq X7 (f35.trans ((f6.sub (by decide)).trans (f7.sub (by decide)))) (fun c' h c0 c1 h0 h10 => by rw [f7 50 rfl]; exact hh6 c' h c0 c1 h0 h10) (fun c' c0 c1 h h0 => ?_)
    by_cases hc : c' = f % 20 / 4
    · rw [hc, m7 h h0, spF_G]
    · rw [o7 _ (by omega), f6 51 rfl, o5 _ (by omega), f4 51 rfl]; exact l3 c' c0 c1 h h0
  refine e_so b f35 s5 (fun hs => back _ (fun X7 f7 h7 l7 => ?_)) (fun hs => back _ (fun X7 f7 h7 l7 => ?_))
  · rw [if_pos ((ruf f (by omega) c2).mpr hs)] at hv
    intro J hJ
    refine ⟨by decide, fun k => absurd k (by decide), fun _ => ⟨by omega, ri, fun k1 => hJ ?_, fun k1 => mm X7 _ f7 ?_⟩⟩
    · intro J2 hJ2
      refine ⟨by decide, fun k => absurd k (by decide), fun _ => hJ2 1 ⟨⟨by omega, by omega, by omega, by omega, ?_, f7, h7, l7⟩, by dsimp only; omega⟩⟩
      rw [if_neg k1] at hv; exact hv
    · rw [if_pos k1] at hv; exact hv.symm
  · rw [if_neg (fun z => hs ((ruf f (by omega) c2).mp z))] at hv
    intro J hJ
    refine ⟨by decide, fun _ => hJ ?_, fun k => absurd rfl k⟩
    intro J2 hJ2
    refine ⟨by decide, fun _ => hJ2 0 ⟨⟨by omega, by omega, by omega, by omega, ?_, f7, h7, l7⟩, by dsimp only; omega⟩, fun k => absurd rfl k⟩
    rw [Int.add_zero]; exact hv

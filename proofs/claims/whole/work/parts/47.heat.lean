/-! PAIRS OF CALLS THAT ONLY ASK: heat, scorched -/
def SPX (r : Int → Int) (sb : Nat) (sp : Int → Int → Int) (X : XT) : Prop := ∀ c h : Int, 0 ≤ c → c < r 0 → 0 ≤ h → h ≤ 11 → X sb (c * 12 + h) = sp c h ∧ 0 ≤ sp c h ∧ sp c h ≤ 576
def SPM (r : Int → Int) (sp : Int → Int → Int) (X : XT) : Prop := ∀ c h : Int, 0 ≤ c → c < r 0 → 0 ≤ h → h ≤ 11 → X 94 (12 * c + h) = gN (sp c h) ∧ 0 ≤ sp c h ∧ sp c h ≤ 576
def shG (r : Int → Int) (sp : Int → Int → Int) (f h : Int) : Int := sdF r (fun c => sp c h) f (r 0).toNat
theorem shG_r {r : Int → Int} {sp : Int → Int → Int} {f h : Int} (w : RW r) : 0 ≤ shG r sp f h ∧ shG r sp f h ≤ 5 := by
  have h1 := sdF_r (r := r) (s := fun c => sp c h) (f := f) (r 0).toNat
  have := w.2.2.1.1
  unfold shG; omega
theorem LOOK.spx {r : Int → Int} {T : TT} {sb : Nat} {X : XT} (w : RW r) (l : LOOK r T sb X) : SPX r sb (fun c h => spF r T c h.toNat) X := fun c h c0 c1 h0 h1 => by
  have e := l c c0 c1 h.toNat (by omega)
  rw [show ((h.toNat : Nat) : Int) = h by omega] at e
  exact ⟨e, spF_r w.2.2.1 c0 c1 _⟩
theorem LAID.spm {r : Int → Int} {T : TT} {X : XT} (w : RW r) (l : LAID r T X) : SPM r (fun c h => spF r T c h.toNat) X := fun c h c0 c1 h0 h1 => by
  have e := l c c0 c1 h.toNat (by omega)
  rw [show ((h.toNat : Nat) : Int) = h by omega] at e
  exact ⟨e, spF_r w.2.2.1 c0 c1 _⟩
theorem e_sh2 {K : LK} {B X : XT} {r : Int → Int} {T : TT} {ta sb : Nat} {sp : Int → Int → Int} {f h : Int} {Q : Int → Prop} (b : CE K B r T) (hx : Fx scC B X) (hl : SPX r sb sp X) (f0 : 0 ≤ f) (f1 : f ≤ 63) (h0 : 0 ≤ h) (h1 : h ≤ 11) (q : Q (shG r sp f h)) : w_X8_shadeOf ta sb f h X Q :=
  e_shade b hx (s := fun c => sp c h) (fun c c0 c1 => hl c h c0 c1 h0 h1) f0 f1 h0 h1 q
theorem m_sh2 {r : Int → Int} {X : XT} {sp : Int → Int → Int} {f h : Int} {Q : Int → Prop} (w : RW r) (e : X 79 = r) (hl : SPM r sp X) (f0 : 0 ≤ f) (f1 : f ≤ 63) (h0 : 0 ≤ h) (h1 : h ≤ 11) (q : Q (shG r sp f h)) : w_X12_shadeOf f h X Q :=
  m_shade w e (s := fun c => sp c h) (fun c c0 c1 => hl c h c0 c1 h0 h1) f0 f1 h0 h1 q
/-- what a field's heat changes by in an hour -/
def chF (r : Int → Int) (T : TT) (f h s : Int) : Int := if s = 0 then T 0 (f % 8) (f / 8) h (-1) (-1) 0 5 else -(T 1 (f % 8) (f / 8) h (-1) (-1) s 3)
theorem chF_r {r : Int → Int} {T : TT} {f h s : Int} (t : TR T) : -99 ≤ chF r T f h s ∧ chF r T f h s ≤ 99 := by
  have h1 := t 0 (f % 8) (f / 8) h (-1) (-1) 0 5 (by decide) (by decide)
  have h2 := t 1 (f % 8) (f / 8) h (-1) (-1) s 3 (by decide) (by decide)
  unfold chF; split <;> omega
def htF (r : Int → Int) (T : TT) (sp : Int → Int → Int) (f : Int) : Nat → Int
  | 0 => r (40 + 3 * f + 0)
  | h + 1 => max 0 (htF r T sp f h + chF r T f (h : Int) (shG r sp f (h : Int)))
theorem htF_s {r : Int → Int} {T : TT} {sp : Int → Int → Int} {f : Int} {h : Nat} : htF r T sp f (h + 1) = max 0 (htF r T sp f h + chF r T f (h : Int) (shG r sp f (h : Int))) := rfl
theorem htF_r {r : Int → Int} {T : TT} {sp : Int → Int → Int} {f : Int} (t : TR T) (w : RW r) (f0 : 0 ≤ f) (f1 : f ≤ 63) : ∀ h : Nat, 0 ≤ htF r T sp f h ∧ htF r T sp f h ≤ 99 + 99 * (h : Int) := by
  intro h
  induction h with
  | zero =>
    have h1 := w.1 f 0 f0 f1 (by decide) (by decide)
    have h2 := h1.2.2.1 rfl
    show 0 ≤ r (40 + 3 * f + 0) ∧ r (40 + 3 * f + 0) ≤ 99 + 99 * ((0 : Nat) : Int)
    omega
  | succ h ih =>
    have := chF_r (r := r) (f := f) (h := (h : Int)) (s := shG r sp f (h : Int)) t
    rw [htF_s]; omega
/-- whether it is scorched by some hour -/
def scF (r : Int → Int) (T : TT) (sp : Int → Int → Int) (f : Int) : Nat → Bool
  | 0 => decide (r (40 + 3 * f + 1) < htF r T sp f 0)
  | h + 1 => scF r T sp f h || decide (r (40 + 3 * f + 1) < htF r T sp f (h + 1))
theorem scF_t {r : Int → Int} {T : TT} {sp : Int → Int → Int} {f : Int} : ∀ n : Nat, scF r T sp f n = true ↔ ∃ h : Nat, h ≤ n ∧ r (40 + 3 * f + 1) < htF r T sp f h := by
  intro n
  induction n with
  | zero =>
    unfold scF
    rw [decide_eq_true_iff]
    exact ⟨fun h => ⟨0, Nat.le_refl _, h⟩, fun ⟨h, h0, h1⟩ => by rw [Nat.le_zero.mp h0] at h1; exact h1⟩
  | succ n ih =>
    unfold scF
    rw [Bool.or_eq_true, decide_eq_true_iff, ih]
    constructor
    · rintro (⟨h, h0, h1⟩ | h)
      · exact ⟨h, Nat.le_succ_of_le h0, h1⟩
      · exact ⟨n + 1, Nat.le_refl _, h⟩
    · rintro ⟨h, h0, h1⟩
      rcases Nat.lt_or_ge h (n + 1) with h2 | h2
      · exact Or.inl ⟨h, Nat.le_of_lt_succ h2, h1⟩
      · exact Or.inr (by rw [show h = n + 1 by omega] at h1; exact h1)
def CHG (r : Int → Int) (T : TT) (X : XT) : Prop := ∀ h f s : Int, 0 ≤ h → h ≤ 11 → 0 ≤ f → f ≤ 63 → 0 ≤ s → s ≤ 5 → X 53 (((h * 64) + f) * 6 + s) = -2147483648 ∨ X 53 (((h * 64) + f) * 6 + s) = chF r T f h s
theorem e_begin {X : XT} {r : Int → Int} {T : TT} {Q : XT → Prop} (q : ∀ X1, Fx [53] X X1 → CHG r T X1 → Q X1) : w_X9_begin X Q := by
  refine ⟨fun x X1 => 0 ≤ x ∧ x ≤ 4608 ∧ Fx [53] X X1 ∧ ∀ j : Int, 0 ≤ j → j < x → X1 53 j = -2147483648, fun x _ => (4608 - x).toNat, ⟨by decide, by decide, Fx.rf, fun j j0 j1 => absurd (show j < (0 : Int) from j1) (by omega)⟩, ?_⟩
  rintro x X1 ⟨x0, x1, f1, hj⟩
  refine ⟨by omega, fun k => q X1 f1 (fun h f s h0 h1 f0 f1 s0 s1 => Or.inl (hj _ (by omega) (by omega))), fun k => ⟨by omega, ⟨by omega, by omega, f1.st rfl, fun j j0 j1 => ?_⟩, by dsimp only; omega⟩⟩
  by_cases hq : j = x
  · rw [hq, x_st_at]
  · rw [x_st_ne hq]; exact hj j j0 (by omega)
theorem SPX.fx {r : Int → Int} {sb : Nat} {sp : Int → Int → Int} {X X1 : XT} {l : List Nat} (s : SPX r sb sp X) (f : Fx l X X1) (h : l.elem sb = false) : SPX r sb sp X1 := fun c k c0 c1 k0 k1 => by rw [f sb h]; exact s c k c0 c1 k0 k1
theorem e_change {K : LK} {B X : XT} {r : Int → Int} {T : TT} {ta sb : Nat} {sp : Int → Int → Int} {f h : Int} {Q : Int → XT → Prop} (b : CE K B r T) (hx : Fx scC B X) (hs : SPX r sb sp X) (hc : CHG r T X) (f0 : 0 ≤ f) (f1 : f ≤ 63) (h0 : 0 ≤ h) (h1 : h ≤ 11) (q : ∀ X1, Fx [46, 48, 53] X X1 → CHG r T X1 → Q (chF r T f h (shG r sp f h)) X1) : w_X9_changeOf K ta sb f h X Q := by
  have w := b.rw
  refine e_sh2 b hx hs f0 f1 h0 h1 ?_
  have sr := shG_r (sp := sp) (f := f) (h := h) w
  have cr := chF_r (r := r) (f := f) (h := h) (s := shG r sp f h) b.2.2.2
  have kn := hc h f (shG r sp f h) h0 h1 f0 f1 sr.1 sr.2
  generalize es : shG r sp f h = s at *
  refine ⟨by omega, fun k => absurd k (by omega), fun _ => ⟨fun _ => ⟨by omega, by omega, fun k => ?_, fun k => ?_⟩, fun k => absurd k (by omega)⟩⟩
  · rcases kn with kn | kn
    · exact absurd kn k
    · rw [kn]; exact q X Fx.rf hc
  · intro J hJ
    have key : ∀ X1 : XT, Fx [46, 48] X X1 → J (chF r T f h s) X1 := by
      intro X1 g1
      refine hJ _ X1 ?_
      rw [x_st_at]
      refine q _ ((g1.sub (by decide)).st rfl) (fun h' f' s' a0 a1 b0 b1 d0 d1 => ?_)
      by_cases hq : ((h' * 64) + f') * 6 + s' = (((h * 64) + f) * 6) + s
      · rw [hq, x_st_at]
        obtain ⟨rfl, rfl, rfl⟩ : h' = h ∧ f' = f ∧ s' = s := by omega
        exact Or.inr rfl
      · rw [x_st_ne hq, g1 53 rfl]; exact hc h' f' s' a0 a1 b0 b1 d0 d1
    refine ⟨by omega, fun k2 => ?_, fun k2 => ?_⟩
    · refine e_ftold (hd := 1) b hx f0 f1 h0 h1 (by omega) (by omega) (by decide) (by decide) (by decide) (by decide) rfl (fun X1 g1 => ?_)
      have := key X1 g1
      rw [chF, if_neg k2] at this; exact this
    · refine e_ftold (hd := 0) b hx f0 f1 h0 h1 (by omega) (by omega) (by decide) (by decide) (by decide) (by decide) rfl (fun X1 g1 => ?_)
      have := key X1 g1
      rw [chF, if_pos k2] at this
      rw [k2]; exact this
theorem sub53 : [46, 48, 53].all (fun c => scC.elem c) = true := rfl
theorem e_heatOf {K : LK} {B X : XT} {r : Int → Int} {T : TT} {ta sb : Nat} {sp : Int → Int → Int} {f t : Int} {Q : Int → XT → Prop} (hi : (ta = 50 ∧ sb = 51) ∨ (ta = 56 ∧ sb = 57)) (b : CE K B r T) (hx : Fx scC B X) (hs : SPX r sb sp X) (hc : CHG r T X) (f0 : 0 ≤ f) (f1 : f ≤ 63) (t0 : 0 ≤ t) (t1 : t ≤ 12) (q : ∀ X1, Fx [46, 48, 53] X X1 → CHG r T X1 → Q (htF r T sp f t.toNat) X1) : w_X9_heatOf K ta sb f t X Q := by
  have w := b.rw
  have sbe : [46, 48, 53].elem sb = false := by rcases hi with ⟨_, rfl⟩ | ⟨_, rfl⟩ <;> rfl
  unfold w_X9_heatOf
  rw [hx 2 rfl, b.fld f0 f1 (by decide) (by decide)]
  refine ⟨by omega, fun v x X1 => 0 ≤ x ∧ x ≤ t ∧ v = htF r T sp f x.toNat ∧ Fx [46, 48, 53] X X1 ∧ CHG r T X1, fun _ x _ => (12 - x).toNat, ⟨by decide, t0, rfl, Fx.rf, hc⟩, ?_⟩
  rintro v x X1 ⟨x0, x1, rfl, g1, c1⟩
  have ht := htF_r (sp := sp) b.2.2.2 w f0 f1 x.toNat
  have ex : ((x.toNat : Nat) : Int) = x := by omega
  refine ⟨by omega, fun k => ?_, fun k => ⟨by omega, fun k2 => ?_, fun k2 => ?_⟩⟩
  · have := q X1 g1 c1
    rw [show t.toNat = x.toNat by omega] at this; exact this
  · have := q X1 g1 c1
    rw [show t.toNat = x.toNat by omega] at this; exact this
  · refine e_change b (hx.trans (g1.sub sub53)) (hs.fx g1 sbe) c1 f0 f1 x0 (by omega) (fun X2 g2 c2 => ?_)
    have cr := chF_r (r := r) (f := f) (h := x) (s := shG r sp f x) b.2.2.2
    refine ⟨by omega, ⟨by omega, by omega, ?_, g1.trans g2, c2⟩, by dsimp only; omega⟩
    rw [show (x + 1).toNat = x.toNat + 1 by omega, htF_s, ex]
theorem e_scor {K : LK} {B X : XT} {r : Int → Int} {T : TT} {ta sb : Nat} {sp : Int → Int → Int} {f : Int} {Q : Int → XT → Prop} (hi : (ta = 50 ∧ sb = 51) ∨ (ta = 56 ∧ sb = 57)) (b : CE K B r T) (hx : Fx scC B X) (hs : SPX r sb sp X) (hc : CHG r T X) (f0 : 0 ≤ f) (f1 : f ≤ 63) (q1 : scF r T sp f 12 = true → ∀ X1, Fx [46, 48, 53] X X1 → CHG r T X1 → Q 1 X1) (q0 : ¬ scF r T sp f 12 = true → ∀ X1, Fx [46, 48, 53] X X1 → CHG r T X1 → Q 0 X1) : w_X9_isScorched K ta sb f X Q := by
  have w := b.rw
  have wl := w.1 f 1 f0 f1 (by decide) (by decide)
  have sbe : [46, 48, 53].elem sb = false := by rcases hi with ⟨_, rfl⟩ | ⟨_, rfl⟩ <;> rfl
  unfold w_X9_isScorched
  rw [hx 2 rfl, b.fld f0 f1 (by decide) (by decide), b.fld f0 f1 (by decide) (by decide)]
  refine ⟨by omega, fun v x X1 => 0 ≤ x ∧ x ≤ 12 ∧ v = htF r T sp f x.toNat ∧ (∀ j : Nat, (j : Int) < x → htF r T sp f j ≤ r (40 + 3 * f + 1)) ∧ Fx [46, 48, 53] X X1 ∧ CHG r T X1, fun _ x _ => (12 - x).toNat, ⟨by decide, by decide, rfl, fun j hj => absurd hj (by omega), Fx.rf, hc⟩, ?_⟩
  rintro v x X1 ⟨x0, x1, rfl, hj, g1, c1⟩
  have ht := htF_r (sp := sp) b.2.2.2 w f0 f1 x.toNat
  have ex : ((x.toNat : Nat) : Int) = x := by omega
  intro J hJ
  have kJ : (x = 12 ∨ r (40 + 3 * f + 1) < htF r T sp f x.toNat) → J := by
    intro hk
    refine hJ ⟨by omega, by omega, fun k => q0 ?_ X1 g1 c1, fun k => q1 ?_ X1 g1 c1⟩
    · rw [scF_t]
      rintro ⟨h, h0, h1⟩
      rcases Nat.lt_or_ge h x.toNat with h2 | h2
      · have := hj h (by omega); omega
      · rw [show h = x.toNat by omega] at h1; omega
    · rw [scF_t]
      exact ⟨x.toNat, by omega, by omega⟩
  refine ⟨by omega, fun k => kJ (Or.inl (by omega)), fun k => ⟨by omega, by omega, fun k2 => kJ (Or.inr k2), fun k2 => ?_⟩⟩
  refine e_change b (hx.trans (g1.sub sub53)) (hs.fx g1 sbe) c1 f0 f1 x0 (by omega) (fun X2 g2 c2 => ?_)
  have cr := chF_r (r := r) (f := f) (h := x) (s := shG r sp f x) b.2.2.2
  refine ⟨by omega, ⟨by omega, by omega, ?_, fun j hj2 => ?_, g1.trans g2, c2⟩, by dsimp only; omega⟩
  · rw [show (x + 1).toNat = x.toNat + 1 by omega, htF_s, ex]
  · by_cases hq : (j : Int) = x
    · rw [show j = x.toNat by omega]; omega
    · exact hj j (by omega)
theorem SPM.gx {r : Int → Int} {sp : Int → Int → Int} {X X1 : XT} {l : List Nat} (s : SPM r sp X) (f : Gx l X X1) (h : l.elem 94 = false) : SPM r sp X1 := fun c k c0 c1 k0 k1 => by rw [f.1 94 h (by decide)]; exact s c k c0 c1 k0 k1
theorem m_layheat {r : Int → Int} {T : TT} {X : XT} {sp : Int → Int → Int} {f : Int} {Q : XT → Prop} (w : RW r) (hT : HRt r T) (tr : TR T) (e : ME r X) (hs : SPM r sp X) (f0 : 0 ≤ f) (f1 : f ≤ 63) (q : ∀ X1, Gx [91, 93, 95] X X1 → (∀ h : Nat, h ≤ 12 → X1 95 (h : Int) = htF r T sp f h) → Q X1) : w_X12_layHeat f X Q := by
  refine ⟨by omega, fun x X1 => 0 ≤ x ∧ x ≤ 12 ∧ Gx [91, 93, 95] X X1 ∧ ∀ h : Nat, (h : Int) ≤ x → X1 95 (h : Int) = htF r T sp f h, fun x _ => (12 - x).toNat, ⟨by decide, by decide, Gx.rf.st rfl (by decide), fun h h0 => ?_⟩, ?_⟩
  · rw [show h = 0 by omega, e.1]
    exact x_st_at
  rintro x X1 ⟨x0, x1, g1, hh⟩
  have e1 : ME r X1 := e.go g1 rfl
  have ht := htF_r (sp := sp) tr w f0 f1 x.toNat
  have ex : ((x.toNat : Nat) : Int) = x := by omega
  have hx := hh x.toNat (by omega)
  rw [ex] at hx
  have sr := shG_r (sp := sp) (f := f) (h := x) w
  refine ⟨by omega, fun k => q X1 g1 (fun h h0 => hh h (by omega)), fun k => ?_⟩
  refine m_sh2 w e1.1 (hs.gx g1 rfl) f0 f1 x0 (by omega) ?_
  intro J hJ
  have cr := chF_r (r := r) (f := f) (h := x) (s := shG r sp f x) tr
  have key : ∀ X2 : XT, Gx [91, 93] X1 X2 → J (htF r T sp f x.toNat + chF r T f x (shG r sp f x)) X2 := by
    intro X2 g2
    have hs2 : ∀ v : Int, v = htF r T sp f (x.toNat + 1) → (0 ≤ x + 1 ∧ x + 1 ≤ 12 ∧ Gx [91, 93, 95] X (x_st X2 95 (x + 1) v) ∧ ∀ h : Nat, (h : Int) ≤ x + 1 → (x_st X2 95 (x + 1) v) 95 (h : Int) = htF r T sp f h) := by
      rintro v rfl
      refine ⟨by omega, by omega, (g1.trans (g2.sub (by decide))).st rfl (by decide), fun h h0 => ?_⟩
      by_cases hq : (h : Int) = x + 1
      · rw [hq, x_st_at, show h = x.toNat + 1 by omega]
      · rw [x_st_ne hq, g2.1 95 rfl (by decide)]; exact hh h (by omega)
    refine hJ _ X2 ⟨by omega, fun k => ⟨by omega, hs2 _ ?_, by dsimp only; omega⟩, fun k => ⟨by omega, hs2 _ ?_, by dsimp only; omega⟩⟩
    · rw [htF_s, ex]; omega
    · rw [htF_s, ex]; omega
  refine ⟨by omega, fun k2 => ⟨by omega, ?_⟩, fun k2 => ⟨by omega, ?_⟩⟩
  · refine m_ftold hT tr e1 f0 f1 x0 (by omega) (by omega) (by omega) (by decide) (by decide) (by decide) (by decide) (fun X2 g2 => ?_)
    have := key X2 g2
    rw [chF, if_neg k2] at this
    rw [hx]; exact this
  · refine m_ftold hT tr e1 f0 f1 x0 (by omega) (by omega) (by omega) (by decide) (by decide) (by decide) (by decide) (fun X2 g2 => ?_)
    have := key X2 g2
    rw [chF, if_pos k2] at this
    rw [hx]; exact this
theorem m_scor {r : Int → Int} {T : TT} {X : XT} {sp : Int → Int → Int} {f : Int} {Q : Int → XT → Prop} (w : RW r) (hT : HRt r T) (tr : TR T) (e : ME r X) (hs : SPM r sp X) (f0 : 0 ≤ f) (f1 : f ≤ 63) (q1 : scF r T sp f 12 = true → ∀ X1, Gx [91, 93, 95] X X1 → Q 1 X1) (q0 : ¬ scF r T sp f 12 = true → ∀ X1, Gx [91, 93, 95] X X1 → Q 0 X1) : w_X12_isScorched f X Q := by
  have wl := w.1 f 1 f0 f1 (by decide) (by decide)
  refine m_layheat w hT tr e hs f0 f1 (fun X1 g1 hh => ?_)
  refine ⟨fun v x => 0 ≤ x ∧ x ≤ 13 ∧ ((v = 1 ∧ scF r T sp f 12 = true) ∨ (v = 0 ∧ ∀ j : Nat, (j : Int) < x → htF r T sp f j ≤ r (40 + 3 * f + 1))), fun _ x => (13 - x).toNat, ⟨by decide, by decide, Or.inr ⟨rfl, fun j hj => absurd hj (by omega)⟩⟩, ?_⟩
  rintro v x ⟨x0, x1, hv⟩
  refine ⟨by omega, fun k => ⟨by omega, ?_⟩, fun k => ?_⟩
  · rcases hv with ⟨rfl, hv⟩ | ⟨rfl, hv⟩
    · exact q1 hv X1 g1
    · refine q0 ?_ X1 g1
      rw [scF_t]
      rintro ⟨h, h0, h1⟩
      have := hv h (by omega); omega
  · have ht := htF_r (sp := sp) tr w f0 f1 x.toNat
    have hx := hh x.toNat (by omega)
    rw [show ((x.toNat : Nat) : Int) = x by omega] at hx
    intro J hJ
    have kJ : scF r T sp f 12 = true → J := fun h => hJ ⟨⟨by omega, by omega, Or.inl ⟨rfl, h⟩⟩, by dsimp only; omega⟩
    rw [hx, (e.go g1 rfl).1]
    refine ⟨by omega, fun k2 => kJ (by rcases hv with hv | hv; exact hv.2; exact absurd hv.1 k2), fun k2 => ⟨by omega, by omega, by omega, by omega, fun k3 => ⟨⟨by omega, by omega, Or.inr ⟨rfl, fun j hj => ?_⟩⟩, by dsimp only; omega⟩, fun k3 => kJ ?_⟩⟩
    · rcases hv with hv | hv
      · omega
      · by_cases hq : (j : Int) = x
        · rw [show j = x.toNat by omega]; exact k3
        · exact hv.2 j (by omega)
    · rw [scF_t]; exact ⟨x.toNat, by omega, by omega⟩
theorem q_heat {LW : s_LW} (hW : LWq LW) (hst : LWst LW) (a1 a2 : Int32) : Pair m_X11_heat m_X12_heat 0 0 (INV LW) [.int a1, .int a2] := by
  obtain ⟨a, rfl, ra⟩ := iI_of a1
  obtain ⟨h, rfl, rh⟩ := iI_of a2
  refine pair_q hW hst (fun K X Q => w_X11_heat K a h X Q) (fun X Q => w_X12_heat a h X Q) (by decide) (by decide) (fun hK hn hp hf w => so_X11_heat hK hn hp hf w) (fun hn hp w => so_X12_heat hn hp w) (fun K X T b hT e => ?_)
  have w := b.rw
  have bad : ¬ (0 ≤ a ∧ a ≤ 63) ∨ ¬ (0 ≤ h ∧ h ≤ 12) → w_X12_heat a h X (fun v2 X2 => v2 = -1 ∧ Gx kpL X X2) := fun hb =>
    ⟨ra, fun _ => ⟨rfl, Gx_of Fx.rf Gx_th⟩, fun c1 => ⟨rh, fun c2 => absurd hb (by omega), fun _ => ⟨rfl, Gx_of Fx.rf Gx_th⟩⟩⟩
  refine ⟨ra, fun c => bad (Or.inl c), fun c1 => ⟨rh, fun c2 => ?_, fun c => bad (Or.inr c)⟩⟩
  refine e_look0 b (fun X1 f1 _ l1 => e_begin (r := X 79) (T := T) (fun X2 f2 c3 => ?_))
  have f3 : Fx scC X X2 := f1.trans (f2.sub (by decide))
  refine e_heatOf (Or.inl ⟨rfl, rfl⟩) b f3 ((l1.spx w).fx f2 rfl) c3 c1.1 c1.2 c2.1 c2.2 (fun X3 f4 _ => ?_)
  have f5 : Fx scC X X3 := f3.trans (f4.sub sub53)
  refine ⟨ra, fun c => absurd c1 c, fun _ => ⟨rh, fun _ => ?_, fun c => absurd c2 c⟩⟩
  refine m_lay0 w hT b.2.2.2 (e.fx f5) (fun X4 e4 g4 l4 => m_layheat w hT b.2.2.2 e4 (l4.spm w) c1.1 c1.2 (fun X5 g5 hh => ⟨by omega, ?_, Gx_of f5 (g4.trans (g5.sub (by decide)))⟩))
  have := hh h.toNat (by omega)
  rw [show ((h.toNat : Nat) : Int) = h by omega] at this
  exact this
def skF (p : Int → Bool) (i : Int) : Nat → Int → Int → Int
  | 0, _, n => if i = -1 then n else -1
  | m + 1, f, n => if p f = true then (if n = i then f else skF p i m (f + 1) (n + 1)) else skF p i m (f + 1) n
theorem skF_s {p : Int → Bool} {i : Int} {m : Nat} {f n : Int} : skF p i (m + 1) f n = if p f = true then (if n = i then f else skF p i m (f + 1) (n + 1)) else skF p i m (f + 1) n := rfl
theorem skF_neg {p : Int → Bool} {i : Int} (h : i < -1) : ∀ (m : Nat) (f n : Int), 0 ≤ n → skF p i m f n = -1 := by
  intro m
  induction m with
  | zero => intro f n _; exact if_neg (by omega)
  | succ m ih =>
    intro f n n0
    rw [skF_s]
    split
    · rw [if_neg (by omega)]; exact ih _ _ (by omega)
    · exact ih _ _ n0
theorem q_scorched {LW : s_LW} (hW : LWq LW) (hst : LWst LW) (a1 : Int32) : Pair m_X11_scorched m_X12_scorched 0 0 (INV LW) [.int a1] := by
  obtain ⟨a, rfl, ra⟩ := iI_of a1
  refine pair_q hW hst (fun K X Q => w_X11_scorched K a X Q) (fun X Q => w_X12_scorched a X Q) (by decide) (by decide) (fun hK hn hp hf w => so_X11_scorched hK hn hp hf w) (fun hn hp w => so_X12_scorched hn hp w) (fun K X T b hT e => ?_)
  have w := b.rw
  generalize hp : (fun f => scF (X 79) T (fun c h => spF (X 79) T c h.toNat) f 12) = p
  have hpp : ∀ f, p f = scF (X 79) T (fun c h => spF (X 79) T c h.toNat) f 12 := fun f => by rw [← hp]
  have mm : ∀ (X1 : XT) (V : Int), Fx scC X X1 → skF p a 64 0 0 = V → w_X12_scorched a X1 (fun v2 X2 => v2 = V ∧ Gx kpL X X2) := by
    intro X1 V f1 hV
    refine m_lay0 w hT b.2.2.2 (e.fx f1) (fun X2 e2 g2 l2 => ?_)
    refine ⟨fun n f X3 => 0 ≤ f ∧ f ≤ 64 ∧ 0 ≤ n ∧ n ≤ f ∧ skF p a (64 - f).toNat f n = V ∧ Gx [91, 93, 95] X2 X3, fun _ f _ => (64 - f).toNat, ⟨by decide, by decide, by decide, by decide, hV, Gx.rf⟩, ?_⟩
    rintro n f X3 ⟨f0, f2, n0, n1, hv, g3⟩
    have g4 : Gx scM X1 X3 := g2.trans (g3.sub (by decide))
    refine ⟨by omega, fun k => ⟨ra, fun k1 => ⟨?_, Gx_of f1 g4⟩, fun k1 => ⟨?_, Gx_of f1 g4⟩⟩, fun k => ?_⟩
    · rw [show (64 - f).toNat = 0 by omega] at hv
      rw [← hv]; exact (if_neg k1).symm
    · rw [show (64 - f).toNat = 0 by omega] at hv
      rw [← hv]; exact (if_pos k1).symm
    · rw [show (64 - f).toNat = (64 - (f + 1)).toNat + 1 by omega, skF_s] at hv
      refine m_scor w hT b.2.2.2 (e2.go g3 rfl) ((l2.spm w).gx g3 rfl) f0 (by omega) (fun hs X4 g5 => ⟨by decide, fun k => absurd k (by decide), fun _ => ⟨by omega, ra, fun k1 => ⟨⟨by omega, by omega, by omega, by omega, ?_, g3.trans g5⟩, by dsimp only; omega⟩, fun k1 => ⟨?_, Gx_of f1 (g4.trans (g5.sub (by decide)))⟩⟩⟩) (fun hs X4 g5 => ⟨by decide, fun _ => ⟨⟨by omega, by omega, by omega, by omega, ?_, g3.trans g5⟩, by dsimp only; omega⟩, fun k => absurd rfl k⟩)
      · rw [if_pos (by rw [hpp]; exact hs), if_neg k1] at hv; exact hv
      · rw [if_pos (by rw [hpp]; exact hs), if_pos k1] at hv; exact hv
      · rw [if_neg (by rw [hpp]; exact hs)] at hv; exact hv
  refine ⟨ra, fun c => ?_, fun c => mm X _ Fx.rf (skF_neg (by omega) 64 0 0 (by decide))⟩
  refine e_look0 b (fun X1 f1 _ l1 => e_begin (r := X 79) (T := T) (fun X2 f2 c3 => ?_))
  have f3 : Fx scC X X2 := f1.trans (f2.sub (by decide))
  have s3 := (l1.spx w).fx f2 rfl
  refine ⟨fun n f X3 => 0 ≤ f ∧ f ≤ 64 ∧ 0 ≤ n ∧ n ≤ f ∧ skF p a (64 - f).toNat f n = skF p a 64 0 0 ∧ Fx [46, 48, 53] X2 X3 ∧ CHG (X 79) T X3, fun _ f _ => (64 - f).toNat, ⟨by decide, by decide, by decide, by decide, rfl, Fx.rf, c3⟩, ?_⟩
  rintro n f X3 ⟨f0, f2, n0, n1, hv, g3, c4⟩
  have f5 : Fx scC X X3 := f3.trans (g3.sub sub53)
  refine ⟨by omega, fun k => ⟨fun k1 => mm X3 _ f5 ?_, fun k1 => mm X3 _ f5 ?_⟩, fun k => ?_⟩
  · rw [show (64 - f).toNat = 0 by omega] at hv
    rw [← hv]; exact if_neg k1
  · rw [show (64 - f).toNat = 0 by omega] at hv
    rw [← hv]; exact if_pos k1
  · rw [show (64 - f).toNat = (64 - (f + 1)).toNat + 1 by omega, skF_s] at hv
    refine e_scor (Or.inl ⟨rfl, rfl⟩) b f5 (s3.fx g3 rfl) c4 f0 (by omega) (fun hs X4 g5 c5 => ⟨by decide, fun k => absurd k (by decide), fun _ => ⟨by omega, fun k1 => ⟨⟨by omega, by omega, by omega, by omega, ?_, g3.trans g5, c5⟩, by dsimp only; omega⟩, fun k1 => mm X4 _ (f5.trans (g5.sub sub53)) ?_⟩⟩) (fun hs X4 g5 c5 => ⟨by decide, fun _ => ⟨⟨by omega, by omega, by omega, by omega, ?_, g3.trans g5, c5⟩, by dsimp only; omega⟩, fun k => absurd rfl k⟩)
    · rw [if_pos (by rw [hpp]; exact hs), if_neg k1] at hv; exact hv
    · rw [if_pos (by rw [hpp]; exact hs), if_pos k1] at hv; exact hv.symm
    · rw [if_neg (by rw [hpp]; exact hs)] at hv; exact hv

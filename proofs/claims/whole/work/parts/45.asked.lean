/-! PAIRS OF CALLS THAT ONLY ASK: at, broken, judge, cross -/
theorem m_corner {r : Int → Int} {T : TT} {X : XT} {c h : Int} {Q : Int → XT → Prop} (w : RW r) (hT : HRt r T) (tr : TR T) (e : ME r X) (c0 : 0 ≤ c) (c1 : c < r 0) (h0 : 0 ≤ h) (h1 : h ≤ 11) (q : ∀ X1, Gx [91, 93] X X1 → Q (gN (spF r T c h.toNat)) X1) : w_X12_cornerOf c h X Q := by
  have wc := w.2.2.1
  have wc1 := wc.1
  refine m_begins w e.1 c0 c1 ?_
  refine ⟨fun a y X2 => 0 ≤ y ∧ y ≤ h ∧ a = gN (spF r T c y.toNat) ∧ Gx [91, 93] X X2, fun _ y _ => (h - y).toNat, ⟨by decide, h0, ?_, Gx.rf⟩, ?_⟩
  · have b := bgF_r wc c0 c1
    show bgF r c = gN (bgF r c)
    rw [gN_id (by omega)]
  rintro a y X2 ⟨y0, y1, rfl, g2⟩
  have sr := spF_r (T := T) wc c0 c1 y.toNat
  have gr := gN_r sr
  have e2 : ME r X2 := e.go g2 rfl
  have ey : ((y.toNat : Nat) : Int) = y := by omega
  have ey1 : (y + 1).toNat = y.toNat + 1 := by omega
  refine ⟨by omega, by omega, fun k => ?_, fun k => ⟨by omega, fun k1 => ?_, fun k1 => ⟨by omega, by rw [e2.1]; exact w.2.2.2.1.1, ?_⟩⟩⟩
  · rw [show y = h by omega]; exact q X2 g2
  · have h5 : ∀ j : Nat, spF r T c (y.toNat + j) = 576 := by
      intro j
      induction j with
      | zero => exact (gN_no sr).mp k1
      | succ j ih =>
        show nxF r T c (spF r T c (y.toNat + j)) _ _ 0 = 576
        rw [ih]; rfl
    have q1 := q X2 g2
    rw [show h.toNat = y.toNat + (h.toNat - y.toNat) by omega, h5] at q1
    rw [k1]; exact q1
  · rw [e2.1]
    have hs : ¬ spF r T c y.toNat = 576 := fun h => k1 ((gN_no sr).mpr h)
    have fr := fRw_r w.2.2.2.1 c y
    rw [gN_id hs]
    refine m_goOn w hT tr e2 c0 c1 sr.1 (by omega) y0 (by omega) (Or.inl rfl) (by omega) (by omega) (fun X4 g4 => ⟨⟨by omega, by omega, ?_, g2.trans g4⟩, by dsimp only; omega⟩)
    rw [ey1]
    show gN (nxF r T c (spF r T c y.toNat) y (fRw r c y) 0) = gN (nxF r T c (spF r T c y.toNat) ((y.toNat : Nat) : Int) (fRw r c ((y.toNat : Nat) : Int)) 0)
    rw [ey]
theorem e_spot {K : LK} {B X : XT} {r : Int → Int} {T : TT} {c h : Int} {Q : Int → Prop} (b : CE K B r T) (hl : LOOK r T 51 X) (c0 : 0 ≤ c) (c1 : c < r 0) (h0 : 0 ≤ h) (h1 : h ≤ 11) (q : Q (spF r T c h.toNat)) : w_X8_spotOf 50 51 c h X Q := by
  have wc := b.rw.2.2.1.1
  have e := hl c c0 c1 h.toNat (by omega)
  rw [show ((h.toNat : Nat) : Int) = h by omega] at e
  refine ⟨by omega, fun k => absurd (by omega) k, fun _ => ⟨by omega, fun _ => ⟨by omega, by rw [e]; exact q⟩, fun k => absurd ⟨h0, h1⟩ k⟩⟩
theorem q_at {LW : s_LW} (hW : LWq LW) (hst : LWst LW) (a1 a2 a3 : Int32) : Pair m_X11_at m_X12_at 0 0 (INV LW) [.int a1, .int a2, .int a3] := by
  obtain ⟨a, rfl, ra⟩ := iI_of a1
  obtain ⟨h, rfl, rh⟩ := iI_of a2
  obtain ⟨k, rfl, rk⟩ := iI_of a3
  refine pair_q hW hst (fun K X Q => w_X11_at K a h k X Q) (fun X Q => w_X12_at a h k X Q) (by decide) (by decide) (fun hK hn hp hf w => so_X11_at hK hn hp hf w) (fun hn hp w => so_X12_at hn hp w) (fun K X T b hT e => ?_)
  have w := b.rw
  have tr := b.2.2.2
  have wc := w.2.2.1
  have wc1 := wc.1
  have n9 : X 1 9 = X 79 0 := b.nc
  have e0 : ∀ X1 : XT, ME (X 79) X1 → x_st X1 77 0 0 79 0 = X 79 0 := fun X1 m => by rw [x_st_c (by decide), m.1]
  have bad : ¬ (0 ≤ a ∧ a < X 79 0) ∨ ¬ (0 ≤ h ∧ h ≤ 11) ∨ ¬ (0 ≤ k ∧ k ≤ 2) → w_X12_at a h k X (fun v2 X2 => v2 = -1000 ∧ Gx kpL X X2) := fun hb => by
    unfold w_X12_at
    rw [e0 X e]
    refine ⟨ra, wc1, fun _ => ⟨rfl, Gx_of Fx.rf Gx_th⟩, fun c1 => ⟨rh, fun _ => ⟨rfl, Gx_of Fx.rf Gx_th⟩, fun c2 => ⟨rk, fun c3 => absurd hb (by omega), fun _ => ⟨rfl, Gx_of Fx.rf Gx_th⟩⟩⟩⟩
  unfold w_X11_at
  rw [n9]
  refine ⟨ra, by omega, fun c => bad (Or.inl c), fun c1 => ⟨rh, fun c => bad (Or.inr (Or.inl c)), fun c2 => ⟨rk, fun c3 => ?_, fun c => bad (Or.inr (Or.inr c))⟩⟩⟩
  have sr := spF_r (T := T) wc c1.1 c1.2 h.toNat
  have mm : ∀ (X1 : XT) (V : Int), Fx scC X X1 → (spF (X 79) T a h.toNat = 576 → V = -1000) → (¬ spF (X 79) T a h.toNat = 576 → (k = 0 → V = spF (X 79) T a h.toNat % 24 - 8) ∧ (k = 1 → V = spF (X 79) T a h.toNat / 24 - 8) ∧ (k = 2 → V = hinF (X 79) T a (spF (X 79) T a h.toNat) h)) → w_X12_at a h k X1 (fun v2 X2 => v2 = V ∧ Gx kpL X X2) := by
    intro X1 V f1 hg hn
    unfold w_X12_at
    rw [e0 X1 (e.fx f1)]
    refine ⟨ra, wc1, fun c => absurd (by omega) c, fun _ => ⟨rh, fun c => absurd c2 c, fun _ => ⟨rk, fun _ => ?_, fun c => absurd c3 c⟩⟩⟩
    refine m_corner w hT tr (e.fx f1).th c1.1 c1.2 c2.1 c2.2 (fun X2 g2 => ?_)
    have g3 : Gx scM X1 X2 := Gx_th.trans (g2.sub (by decide))
    have e2 : ME (X 79) X2 := (e.fx f1).th.go g2 rfl
    have gr := gN_r sr
    refine ⟨by omega, fun q => ?_, fun q => ⟨(hg ((gN_no sr).mp q)).symm, Gx_of f1 g3⟩⟩
    have hs : ¬ spF (X 79) T a h.toNat = 576 := fun h => q ((gN_no sr).mpr h)
    obtain ⟨v0, v1, v2⟩ := hn hs
    rw [gN_id hs]
    refine ⟨fun q0 => ⟨fun q1 => ?_, fun q1 => ⟨by omega, (v1 q1).symm, Gx_of f1 g3⟩⟩, fun q0 => ⟨by omega, (v0 q0).symm, Gx_of f1 g3⟩⟩
    have v2 := v2 (by omega)
    refine m_bar w hT tr e2 c1.1 c1.2 sr.1 (by omega) c2.1 c2.2 (fun z X3 g4 => ⟨by decide, fun k => absurd k (by decide), fun _ => ⟨?_, Gx_of f1 (g3.trans (g4.sub (by decide)))⟩⟩) (fun z X3 g4 => ⟨by decide, fun _ => ?_, fun k => absurd rfl k⟩)
    · rw [v2, hinF, if_pos z]
    · refine m_wet w (e2.go g4 rfl).1 sr.1 (by omega) (fun y => ⟨by decide, fun k => absurd k (by decide), fun _ => ⟨?_, Gx_of f1 (g3.trans (g4.sub (by decide)))⟩⟩) (fun y => ⟨by decide, fun _ => ⟨?_, Gx_of f1 (g3.trans (g4.sub (by decide)))⟩, fun k => absurd rfl k⟩)
      · rw [v2, hinF, if_neg z, if_pos y]
      · rw [v2, hinF, if_neg z, if_neg y]
  refine e_look0 b (fun X1 f1 _ l1 => e_spot b l1 c1.1 c1.2 c2.1 c2.2 ⟨by omega, fun q => ⟨fun q2 => ⟨fun q0 => ⟨by omega, ?_⟩, fun q0 => ⟨by omega, ?_⟩⟩, fun q2 => ?_⟩, fun q => ?_⟩)
  · exact mm X1 _ f1 (fun z => absurd z q) (fun _ => ⟨fun z => absurd z q0, fun _ => rfl, fun z => absurd z q2⟩)
  · exact mm X1 _ f1 (fun z => absurd z q) (fun _ => ⟨fun _ => rfl, fun z => by omega, fun z => absurd z q2⟩)
  · exact e_hind b f1 c1.1 c1.2 c2.1 c2.2 sr.1 (by omega) (fun X2 f2 => mm X2 _ (f1.trans (f2.sub (by decide))) (fun z => absurd z q) (fun _ => ⟨fun z => by omega, fun z => by omega, fun _ => rfl⟩))
  · exact mm X1 _ f1 (fun _ => rfl) (fun z => absurd q z)
-- contracts
/-- the first of m places from h on at which p holds; -1 -/
def fsF (p : Int → Prop) [DecidablePred p] : Nat → Int → Int
  | 0, _ => -1
  | m + 1, h => if p h then h else fsF p m (h + 1)
theorem fsF_s {p : Int → Prop} [DecidablePred p] {m : Nat} {h : Int} : fsF p (m + 1) h = if p h then h else fsF p m (h + 1) := rfl
def brF (r : Int → Int) (T : TT) (k : Int) : Int := fsF (fun h => ¬ (0 < shF r T (r (304 + 5 * k + 0)) h ↔ r (304 + 5 * k + 3) = 1)) (r (304 + 5 * k + 2) + 1 - r (304 + 5 * k + 1)).toNat (r (304 + 5 * k + 1))
theorem fsF_r {p : Int → Prop} [DecidablePred p] : ∀ (m : Nat) (h : Int), 0 ≤ h → fsF p m h = -1 ∨ (h ≤ fsF p m h ∧ fsF p m h < h + m) := by
  intro m
  induction m with
  | zero => intro h _; exact Or.inl rfl
  | succ m ih =>
    intro h h0
    rw [fsF_s]
    split
    · omega
    · have := ih (h + 1) (by omega); omega
theorem brF_r {r : Int → Int} {T : TT} {k : Int} (w : RW r) (k0 : 0 ≤ k) (k1 : k < r 2) : -1 ≤ brF r T k ∧ brF r T k ≤ 11 := by
  have h := w.2.2.2.2.1.2 k k0 k1
  have := fsF_r (p := fun h => ¬ (0 < shF r T (r (304 + 5 * k + 0)) h ↔ r (304 + 5 * k + 3) = 1)) (r (304 + 5 * k + 2) + 1 - r (304 + 5 * k + 1)).toNat (r (304 + 5 * k + 1)) (by omega)
  unfold brF; omega
theorem e_break {K : LK} {B X : XT} {r : Int → Int} {T : TT} {k : Int} {Q : Int → Prop} (b : CE K B r T) (hx : Fx scC B X) (hl : LOOK r T 51 X) (k0 : 0 ≤ k) (k1 : k < r 2) (q : Q (brF r T k)) : w_X8_breakOf 50 51 k X Q := by
  have w := b.rw
  have wk := w.2.2.2.2.1.1
  have h := w.2.2.2.2.1.2 k k0 k1
  unfold w_X8_breakOf
  rw [hx 7 rfl, b.con k0 (by omega) (by omega) (by omega), b.con k0 (by omega) (by omega) (by omega), b.con k0 (by omega) (by omega) (by omega), b.con k0 (by omega) (by omega) (by omega)]
  refine ⟨by omega, ?_⟩
  intro J hJ
  have key : ∀ v : Int, ((r (304 + 5 * k + 3) = 1 ∧ v = 1) ∨ (¬ r (304 + 5 * k + 3) = 1 ∧ v = 0)) → J v := by
    intro v hv
    refine hJ v ?_
    refine ⟨fun y => r (304 + 5 * k + 1) ≤ y ∧ y ≤ r (304 + 5 * k + 2) + 1 ∧ fsF (fun h => ¬ (0 < shF r T (r (304 + 5 * k + 0)) h ↔ r (304 + 5 * k + 3) = 1)) (r (304 + 5 * k + 2) + 1 - y).toNat y = brF r T k, fun y => (r (304 + 5 * k + 2) + 1 - y).toNat, ⟨by omega, by omega, rfl⟩, ?_⟩
    rintro y ⟨y0, y1, ey⟩
    refine ⟨by omega, by omega, fun c => ?_, fun c => ?_⟩
    · rw [show (r (304 + 5 * k + 2) + 1 - y).toNat = 0 by omega] at ey
      rw [show (-1 : Int) = brF r T k from ey]; exact q
    · rw [show (r (304 + 5 * k + 2) + 1 - y).toNat = (r (304 + 5 * k + 2) + 1 - (y + 1)).toNat + 1 by omega, fsF_s] at ey
      have sr := shF_r (T := T) (f := r (304 + 5 * k + 0)) (h := y) w
      refine e_sh b hx hl (by omega) (by omega) (by omega) (by omega) ?_
      intro J2 hJ2
      have k2 : ∀ u : Int, ((0 < shF r T (r (304 + 5 * k + 0)) y ∧ u = 1) ∨ (¬ 0 < shF r T (r (304 + 5 * k + 0)) y ∧ u = 0)) → J2 u := by
        intro u hu
        refine hJ2 u ⟨by omega, by omega, fun c2 => ⟨⟨by omega, by omega, ?_⟩, by dsimp only; omega⟩, fun c2 => ?_⟩
        · rw [if_neg (by omega)] at ey; exact ey
        · rw [if_pos (by omega)] at ey
          rw [ey]; exact q
      exact ⟨by omega, fun c2 => k2 0 (Or.inr ⟨by omega, rfl⟩), fun c2 => k2 1 (Or.inl ⟨by omega, rfl⟩)⟩
  exact ⟨by omega, fun c => key 0 (Or.inr ⟨c, rfl⟩), fun c => key 1 (Or.inl ⟨c, rfl⟩)⟩
theorem m_break {r : Int → Int} {T : TT} {X : XT} {k : Int} {Q : Int → Prop} (w : RW r) (e : X 79 = r) (hl : LAID r T X) (k0 : 0 ≤ k) (k1 : k < r 2) (q : Q (brF r T k)) : w_X12_brokenIn k X Q := by
  have wk := w.2.2.2.2.1.1
  have h := w.2.2.2.2.1.2 k k0 k1
  unfold w_X12_brokenIn
  rw [e]
  refine ⟨by omega, ?_⟩
  refine ⟨fun y => r (304 + 5 * k + 1) ≤ y ∧ y ≤ r (304 + 5 * k + 2) + 1 ∧ fsF (fun h => ¬ (0 < shF r T (r (304 + 5 * k + 0)) h ↔ r (304 + 5 * k + 3) = 1)) (r (304 + 5 * k + 2) + 1 - y).toNat y = brF r T k, fun y => (r (304 + 5 * k + 2) + 1 - y).toNat, ⟨by omega, by omega, rfl⟩, ?_⟩
  rintro y ⟨y0, y1, ey⟩
  refine ⟨by omega, by omega, fun c => ?_, fun c => ?_⟩
  · rw [show (r (304 + 5 * k + 2) + 1 - y).toNat = 0 by omega] at ey
    rw [show (-1 : Int) = brF r T k from ey]; exact q
  · rw [show (r (304 + 5 * k + 2) + 1 - y).toNat = (r (304 + 5 * k + 2) + 1 - (y + 1)).toNat + 1 by omega, fsF_s] at ey
    have sr := shF_r (T := T) (f := r (304 + 5 * k + 0)) (h := y) w
    refine m_sh w e hl (by omega) (by omega) (by omega) (by omega) ?_
    intro J2 hJ2
    have k2 : ∀ u : Int, ((0 < shF r T (r (304 + 5 * k + 0)) y ∧ u = 1) ∨ (¬ 0 < shF r T (r (304 + 5 * k + 0)) y ∧ u = 0)) → J2 u := by
      intro u hu
      refine hJ2 u ?_
      intro J3 hJ3
      have k3 : ∀ v : Int, ((r (304 + 5 * k + 3) = 1 ∧ v = 1) ∨ (¬ r (304 + 5 * k + 3) = 1 ∧ v = 0)) → J3 v := by
        intro v hv
        refine hJ3 v ⟨by omega, by omega, fun c2 => ⟨⟨by omega, by omega, ?_⟩, by dsimp only; omega⟩, fun c2 => ?_⟩
        · rw [if_neg (by omega)] at ey; exact ey
        · rw [if_pos (by omega)] at ey
          rw [ey]; exact q
      exact ⟨by omega, fun c => k3 0 (Or.inr ⟨c, rfl⟩), fun c => k3 1 (Or.inl ⟨c, rfl⟩)⟩
    exact ⟨by omega, fun c2 => k2 0 (Or.inr ⟨by omega, rfl⟩), fun c2 => k2 1 (Or.inl ⟨by omega, rfl⟩)⟩
theorem q_broken {LW : s_LW} (hW : LWq LW) (hst : LWst LW) (a1 : Int32) : Pair m_X11_broken m_X12_broken 0 0 (INV LW) [.int a1] := by
  obtain ⟨a, rfl, ra⟩ := iI_of a1
  refine pair_q hW hst (fun K X Q => w_X11_broken K a X Q) (fun X Q => w_X12_broken a X Q) (by decide) (by decide) (fun hK hn hp hf w => so_X11_broken hK hn hp hf w) (fun hn hp w => so_X12_broken hn hp w) (fun K X T b hT e => ?_)
  have w := b.rw
  have wk := w.2.2.2.2.1.1
  have e0 : ∀ X1 : XT, ME (X 79) X1 → x_st X1 77 0 0 79 2 = X 79 2 := fun X1 m => by rw [x_st_c (by decide), m.1]
  unfold w_X11_broken
  rw [b.nk]
  refine ⟨ra, by omega, fun c => ?_, fun c => ?_⟩
  · refine e_look0 b (fun X1 f1 _ l1 => e_break b f1 l1 c.1 (by omega) ?_)
    unfold w_X12_broken
    dsimp only
    rw [e0 X1 (e.fx f1)]
    exact ⟨ra, by omega, by omega, fun _ => m_lay0 w hT b.2.2.2 (e.fx f1) (fun X2 e2 g2 l2 => m_break w e2.1 l2 c.1 (by omega) ⟨rfl, Gx_of f1 g2⟩), fun k => absurd c k⟩
  · unfold w_X12_broken
    dsimp only
    rw [e0 X e]
    exact ⟨ra, by omega, by omega, fun k => absurd k c, fun _ => ⟨rfl, Gx_of Fx.rf Gx_th⟩⟩
-- the first contract that is broken, the fees of those that are not
def jH (r : Int → Int) (T : TT) : Nat → Int
  | 0 => 12
  | m + 1 => if ¬ brF r T (m : Int) = -1 ∧ brF r T (m : Int) < jH r T m then brF r T (m : Int) else jH r T m
def jA (r : Int → Int) (T : TT) : Nat → Int
  | 0 => -1
  | m + 1 => if ¬ brF r T (m : Int) = -1 ∧ brF r T (m : Int) < jH r T m then (m : Int) else jA r T m
def jS (r : Int → Int) (T : TT) : Nat → Int
  | 0 => 0
  | m + 1 => jS r T m + if brF r T (m : Int) = -1 then r (304 + 5 * (m : Int) + 4) else 0
theorem jH_s {r : Int → Int} {T : TT} {m : Nat} : jH r T (m + 1) = if ¬ brF r T (m : Int) = -1 ∧ brF r T (m : Int) < jH r T m then brF r T (m : Int) else jH r T m := rfl
theorem jA_s {r : Int → Int} {T : TT} {m : Nat} : jA r T (m + 1) = if ¬ brF r T (m : Int) = -1 ∧ brF r T (m : Int) < jH r T m then (m : Int) else jA r T m := rfl
theorem jS_s {r : Int → Int} {T : TT} {m : Nat} : jS r T (m + 1) = jS r T m + if brF r T (m : Int) = -1 then r (304 + 5 * (m : Int) + 4) else 0 := rfl
theorem jH_r {r : Int → Int} {T : TT} (w : RW r) : ∀ m : Nat, (m : Int) ≤ r 2 → -1 ≤ jH r T m ∧ jH r T m ≤ 12 := by
  intro m
  induction m with
  | zero => intro _; exact ⟨(show (-1 : Int) ≤ 12 by decide), (show (12 : Int) ≤ 12 by decide)⟩
  | succ m ih =>
    intro hm
    have := ih (by omega)
    have := brF_r (T := T) (k := (m : Int)) w (by omega) (by omega)
    rw [jH_s]; split <;> omega
theorem q_judge {LW : s_LW} (hW : LWq LW) (hst : LWst LW) (a1 : Int32) : Pair m_X11_judge m_X12_judge 0 0 (INV LW) [.int a1] := by
  obtain ⟨a, rfl, ra⟩ := iI_of a1
  refine pair_q hW hst (fun K X Q => w_X11_judge K a X Q) (fun X Q => w_X12_judge a X Q) (by decide) (by decide) (fun hK hn hp hf w => so_X11_judge hK hn hp hf w) (fun hn hp w => so_X12_judge hn hp w) (fun K X T b hT e => ?_)
  have w := b.rw
  have wk := w.2.2.2.2.1.1
  generalize hr : X 79 = r at *
  have hnn : ∀ y : Int, 0 ≤ y → (y + 1).toNat = y.toNat + 1 ∧ ((y.toNat : Nat) : Int) = y := fun y _ => by omega
  refine ⟨ra, fun c => ?_, fun c => ⟨ra, fun k => absurd k c, fun _ => ⟨rfl, Gx_of Fx.rf Gx_th⟩⟩⟩
  refine e_look0 b (fun X1 f1 _ l1 => ?_)
  have mm : ∀ V : Int, (a = 0 → V = jA r T (r 2).toNat) → (¬ a = 0 → V = jS r T (r 2).toNat) → w_X12_judge a X1 (fun v2 X2 => v2 = V ∧ Gx kpL X X2) := by
    intro V v0 v1
    refine ⟨ra, fun _ => m_lay0 w hT b.2.2.2 (e.fx f1) (fun X2 e2 g2 l2 => ?_), fun k => absurd c k⟩
    refine ⟨fun f fh s y => 0 ≤ y ∧ y ≤ r 2 ∧ f = jA r T y.toNat ∧ fh = (if jH r T y.toNat = 12 then 100000000 else jH r T y.toNat) ∧ s = jS r T y.toNat, fun _ _ _ y => (r 2 - y).toNat, ⟨by decide, wk.1, rfl, rfl, rfl⟩, ?_⟩
    rintro f fh s y ⟨y0, y1, rfl, rfl, rfl⟩
    have n2 : X2 79 2 = r 2 := by rw [e2.1]
    obtain ⟨ey1, ey⟩ := hnn y y0
    refine ⟨by omega, by omega, fun k => ?_, fun k => ?_⟩
    · rw [show y = r 2 by omega]
      exact ⟨fun q => ⟨(v1 q).symm, Gx_of f1 g2⟩, fun q => ⟨(v0 q).symm, Gx_of f1 g2⟩⟩
    · have br := brF_r (T := T) w y0 (show y < r 2 by omega)
      have jr := jH_r (T := T) w y.toNat (by omega)
      have ck := w.2.2.2.2.1.2 y y0 (by omega)
      refine m_break w e2.1 l2 y0 (by omega) ?_
      intro J1 hJ1
      have k1 : ∀ v : Int, jS r T (y.toNat + 1) = jS r T y.toNat + v → J1 v := by
        intro v hv
        refine hJ1 v ?_
        intro J2 hJ2
        have k2 : ∀ u : Int, u = jA r T (y.toNat + 1) → J2 u := by
          intro u hu
          refine hJ2 u ?_
          intro J3 hJ3
          have k3 : ¬ (¬ brF r T y = -1 ∧ brF r T y < jH r T y.toNat) → J3 := fun hc => by
            refine hJ3 ⟨⟨by omega, by omega, by rw [ey1]; exact hu, ?_, by rw [ey1]; exact hv.symm⟩, by dsimp only; omega⟩
            rw [ey1, jH_s, ey, if_neg hc]
          have g : ∀ P : Prop, (100000000 : Int) ≤ brF r T y → P := fun P h => absurd h (by omega)
          refine ⟨by omega, fun k4 => k3 (by omega), fun k4 => ⟨by split <;> omega, fun k5 => k3 ?_, fun k5 => ?_⟩⟩
          · split at k5 <;> omega
          · have hc : ¬ brF r T y = -1 ∧ brF r T y < jH r T y.toNat := ⟨k4, by split at k5 <;> omega⟩
            refine ⟨⟨by omega, by omega, by rw [ey1]; exact hu, ?_, by rw [ey1]; exact hv.symm⟩, by dsimp only; omega⟩
            rw [ey1, jH_s, ey, if_pos hc, if_neg (by omega)]
        refine ⟨by omega, fun k4 => k2 _ ?_, fun k4 => ⟨by split <;> omega, fun k5 => k2 _ ?_, fun k5 => k2 _ ?_⟩⟩
        · rw [jA_s, ey, if_neg (by omega)]
        · rw [jA_s, ey, if_neg (by split at k5 <;> omega)]
        · rw [jA_s, ey, if_pos (by split at k5 <;> omega)]
      rw [n2] at k
      refine ⟨by omega, fun k4 => k1 0 ?_, fun k4 => ⟨by omega, k1 _ ?_⟩⟩
      · rw [jS_s, ey, if_neg k4]
      · rw [jS_s, ey, if_pos k4, e2.1]
  refine ⟨fun f fh s y => 0 ≤ y ∧ y ≤ r 2 ∧ f = jA r T y.toNat ∧ fh = jH r T y.toNat ∧ s = jS r T y.toNat, fun _ _ _ y => (r 2 - y).toNat, ⟨by decide, wk.1, rfl, rfl, rfl⟩, ?_⟩
  rintro f fh s y ⟨y0, y1, rfl, rfl, rfl⟩
  have n2 : X1 1 11 = r 2 := by rw [f1 1 rfl, b.nk]
  obtain ⟨ey1, ey⟩ := hnn y y0
  refine ⟨by omega, by omega, fun k => ?_, fun k => ?_⟩
  · rw [show y = r 2 by omega]
    exact ⟨fun q => mm _ (fun z => absurd z q) (fun _ => rfl), fun q => mm _ (fun _ => rfl) (fun z => absurd q z)⟩
  · have br := brF_r (T := T) w y0 (show y < r 2 by omega)
    have jr := jH_r (T := T) w y.toNat (by omega)
    refine e_break b f1 l1 y0 (by omega) ⟨by omega, fun k1 => ⟨by omega, fun k2 => ⟨⟨by omega, by omega, ?_, ?_, ?_⟩, by dsimp only; omega⟩, fun k2 => ⟨⟨by omega, by omega, ?_, ?_, ?_⟩, by dsimp only; omega⟩⟩, fun k1 => ⟨by omega, ⟨by omega, by omega, ?_, ?_, ?_⟩, by dsimp only; omega⟩⟩
    · rw [ey1, jA_s, ey, if_neg (by omega)]
    · rw [ey1, jH_s, ey, if_neg (by omega)]
    · rw [ey1, jS_s, ey, if_neg k1, Int.add_zero]
    · rw [ey1, jA_s, ey, if_pos (by omega)]
    · rw [ey1, jH_s, ey, if_pos (by omega)]
    · rw [ey1, jS_s, ey, if_neg k1, Int.add_zero]
    · rw [ey1, jA_s, ey, if_neg (by omega)]
    · rw [ey1, jH_s, ey, if_neg (by omega)]
    · rw [ey1, jS_s, ey, if_pos k1, f1 7 rfl, b.con y0 (by omega) (by omega) (by omega)]

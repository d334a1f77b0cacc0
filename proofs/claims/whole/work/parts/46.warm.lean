/-! PAIRS OF CALLS THAT ONLY ASK: cross, heat, scorched -/
def smF (p : Int → Prop) [DecidablePred p] : Nat → Int
  | 0 => 0
  | m + 1 => smF p m + if p (m : Int) then 1 else 0
theorem smF_s {p : Int → Prop} [DecidablePred p] {m : Nat} : smF p (m + 1) = smF p m + if p (m : Int) then 1 else 0 := rfl
theorem smF_r {p : Int → Prop} [DecidablePred p] : ∀ m : Nat, 0 ≤ smF p m ∧ smF p m ≤ m := by
  intro m
  induction m with
  | zero => exact ⟨Int.le_refl _, Int.le_refl _⟩
  | succ m ih => rw [smF_s]; split <;> omega
theorem sm_len (a b c d : Int) : ∀ m : Nat, smF (fun x => (0 ≤ x - a ∧ x - a ≤ b - 1) ∧ 0 ≤ x - c ∧ x - c ≤ d - 1) m = max 0 (min (m : Int) (min (a + b) (c + d)) - max 0 (max a c)) := by
  intro m
  induction m with
  | zero => show (0 : Int) = _; omega
  | succ m ih =>
    rw [smF_s, ih]
    split <;> omega
theorem sm_row {p px py : Int → Prop} [DecidablePred p] [DecidablePred px] [DecidablePred py] (k : Nat) (h : ∀ j : Nat, j < 8 → (p (((8 * k + j : Nat) : Nat) : Int) ↔ px (j : Int) ∧ py (k : Int))) : ∀ j : Nat, j ≤ 8 → smF p (8 * k + j) = smF p (8 * k) + (if py (k : Int) then smF px j else 0) := by
  intro j
  induction j with
  | zero => intro _; show smF p (8 * k) = _; split <;> (show _ = _ + (0 : Int)) <;> omega
  | succ j ih =>
    intro hj
    have e := h j (by omega)
    rw [show 8 * k + (j + 1) = (8 * k + j) + 1 from rfl, smF_s, ih (by omega)]
    by_cases hy : py (k : Int)
    · rw [if_pos hy, if_pos hy, smF_s]
      by_cases hx : px (j : Int)
      · rw [if_pos (e.mpr ⟨hx, hy⟩), if_pos hx]; omega
      · rw [if_neg (fun q => hx (e.mp q).1), if_neg hx]; omega
    · rw [if_neg hy, if_neg hy, if_neg (fun q => hy (e.mp q).2)]; omega
theorem sm_all {p px py : Int → Prop} [DecidablePred p] [DecidablePred px] [DecidablePred py] (h : ∀ k j : Nat, j < 8 → (p (((8 * k + j : Nat) : Nat) : Int) ↔ px (j : Int) ∧ py (k : Int))) : ∀ m : Nat, smF p (8 * m) = smF px 8 * smF py m := by
  intro m
  induction m with
  | zero => show (0 : Int) = _ * 0; rw [Int.mul_zero]
  | succ m ih =>
    rw [show 8 * (m + 1) = 8 * m + 8 from rfl, sm_row m (h m) 8 (Nat.le_refl _), ih, smF_s (p := py)]
    split
    · rw [Int.mul_add, Int.mul_one]
    · rw [Int.add_zero, Int.add_zero]
/-- how many fields two shadows have in common -/
def cmF (r : Int → Int) (c s c2 s2 : Int) : Int := smF (fun f => shP r c s f ∧ shP r c2 s2 f) 64
theorem cmF_r {r : Int → Int} {c s c2 s2 : Int} : 0 ≤ cmF r c s c2 s2 ∧ cmF r c s c2 s2 ≤ 64 := smF_r 64
theorem smF_no {p : Int → Prop} [DecidablePred p] (h : ∀ f, ¬ p f) : ∀ m : Nat, smF p m = 0 := by
  intro m
  induction m with
  | zero => rfl
  | succ m ih => rw [smF_s, if_neg (h _), ih]; rfl
theorem cmF_no {r : Int → Int} {c s c2 s2 : Int} (h : s = 576 ∨ s2 = 576) : cmF r c s c2 s2 = 0 := smF_no (fun f q => by rcases h with h | h; exact q.1.1 h; exact q.2.1 h) 64
theorem cmF_go {r : Int → Int} {c s c2 s2 : Int} (h : ¬ s = 576) (h2 : ¬ s2 = 576) : cmF r c s c2 s2 = (max 0 (min 8 (min ((s % 24 - 8) + r (15 + 5 * c + 0)) ((s2 % 24 - 8) + r (15 + 5 * c2 + 0))) - max 0 (max (s % 24 - 8) (s2 % 24 - 8)))) * (max 0 (min 8 (min ((s / 24 - 8) + r (15 + 5 * c + 1)) ((s2 / 24 - 8) + r (15 + 5 * c2 + 1))) - max 0 (max (s / 24 - 8) (s2 / 24 - 8)))) := by
  have e := sm_all (p := fun f => shP r c s f ∧ shP r c2 s2 f) (px := fun x => (0 ≤ x - (s % 24 - 8) ∧ x - (s % 24 - 8) ≤ r (15 + 5 * c + 0) - 1) ∧ 0 ≤ x - (s2 % 24 - 8) ∧ x - (s2 % 24 - 8) ≤ r (15 + 5 * c2 + 0) - 1) (py := fun x => (0 ≤ x - (s / 24 - 8) ∧ x - (s / 24 - 8) ≤ r (15 + 5 * c + 1) - 1) ∧ 0 ≤ x - (s2 / 24 - 8) ∧ x - (s2 / 24 - 8) ≤ r (15 + 5 * c2 + 1) - 1) (fun k j hj => by
    have e1 : (((8 * k + j : Nat) : Nat) : Int) % 8 = (j : Int) := by omega
    have e2 : (((8 * k + j : Nat) : Nat) : Int) / 8 = (k : Int) := by omega
    unfold shP cvB
    rw [e1, e2]
    constructor
    · rintro ⟨⟨_, a⟩, _, b⟩; exact ⟨⟨⟨a.1, a.2.1⟩, b.1, b.2.1⟩, ⟨a.2.2.1, a.2.2.2⟩, b.2.2.1, b.2.2.2⟩
    · rintro ⟨⟨⟨a, a1⟩, b, b1⟩, ⟨a2, a3⟩, b2, b3⟩; exact ⟨⟨h, a, a1, a2, a3⟩, h2, b, b1, b2, b3⟩) 8
  rw [sm_len, sm_len] at e
  exact e
theorem e_common {K : LK} {B X : XT} {r : Int → Int} {T : TT} {c s c2 s2 : Int} {Q : Int → Prop} (b : CE K B r T) (hx : Fx scC B X) (c0 : 0 ≤ c) (c1 : c < r 0) (d0 : 0 ≤ c2) (d1 : c2 < r 0) (s0 : 0 ≤ s) (s1 : s ≤ 576) (t0 : 0 ≤ s2) (t1 : s2 ≤ 576) (q : Q (cmF r c s c2 s2)) : w_X3_commonFields c s c2 s2 X Q := by
  have w := b.rw.2.2.1
  have wc := w.1
  have h1 := w.2 c c0 c1
  have h2 := w.2 c2 d0 d1
  unfold w_X3_commonFields
  rw [hx 1 rfl, hx 5 rfl, b.nc, b.cld c0 (by omega) (by omega) (by omega), b.cld c0 (by omega) (by omega) (by omega), b.cld d0 (by omega) (by omega) (by omega), b.cld d0 (by omega) (by omega) (by omega)]
  refine ⟨by omega, fun k => ?_, fun k => ⟨by omega, fun k2 => ⟨by omega, by omega, by omega, by omega, by omega, by omega, by omega, by omega, by omega, by omega, by omega, by omega, ?_⟩, fun k2 => ?_⟩⟩
  · rw [cmF_no (Or.inl k)] at q; exact q
  · rw [cmF_go k k2] at q; exact q
  · rw [cmF_no (Or.inr k2)] at q; exact q
theorem m_common {r : Int → Int} {X : XT} {c s c2 s2 : Int} {Q : Int → Prop} (w : RW r) (e : X 79 = r) (c0 : 0 ≤ c) (c1 : c < r 0) (d0 : 0 ≤ c2) (d1 : c2 < r 0) (s0 : 0 ≤ s) (s1 : s ≤ 576) (t0 : 0 ≤ s2) (t1 : s2 ≤ 576) (q : Q (cmF r c s c2 s2)) : w_X12_common c (gN s) c2 (gN s2) X Q := by
  refine ⟨fun n f => 0 ≤ f ∧ f ≤ 64 ∧ n = smF (fun f => shP r c s f ∧ shP r c2 s2 f) f.toNat, fun _ f => (64 - f).toNat, ⟨by decide, by decide, rfl⟩, ?_⟩
  rintro n f ⟨f0, f1, rfl⟩
  refine ⟨by omega, fun k => ?_, fun k => ?_⟩
  · rw [show f = 64 by omega]; exact q
  · have ef : ((f.toNat : Nat) : Int) = f := by omega
    have ef1 : (f + 1).toNat = f.toNat + 1 := by omega
    have key : ∀ J : Int → Prop, (∀ v : Int, (0 ≤ f + 1 ∧ f + 1 ≤ 64 ∧ smF (fun f => shP r c s f ∧ shP r c2 s2 f) f.toNat + v = smF (fun f => shP r c s f ∧ shP r c2 s2 f) (f + 1).toNat) → J v) → ((shP r c s f ∧ shP r c2 s2 f) → J 1) ∧ (¬ (shP r c s f ∧ shP r c2 s2 f) → J 0) := fun J hJ => ⟨fun g => hJ 1 ⟨by omega, by omega, by rw [ef1, smF_s, ef, if_pos g]⟩, fun g => hJ 0 ⟨by omega, by omega, by rw [ef1, smF_s, ef, if_neg g]⟩⟩
    refine m_shades w e c0 c1 s0 s1 f0 (by omega) (fun g => ?_) (fun g => ?_)
    · intro J hJ
      have kk := key J (fun v hv => hJ v ⟨⟨by omega, by omega, hv.2.2⟩, by dsimp only; omega⟩)
      refine ⟨by decide, fun k => absurd k (by decide), fun _ => m_shades w e d0 d1 t0 t1 f0 (by omega) (fun g2 => ⟨by decide, fun k => absurd k (by decide), fun _ => kk.1 ⟨g, g2⟩⟩) (fun g2 => ⟨by decide, fun _ => kk.2 (fun z => g2 z.2), fun k => absurd rfl k⟩)⟩
    · intro J hJ
      have kk := key J (fun v hv => hJ v ⟨⟨by omega, by omega, hv.2.2⟩, by dsimp only; omega⟩)
      exact ⟨by decide, fun _ => kk.2 (fun z => g z.1), fun k => absurd rfl k⟩
theorem q_cross {LW : s_LW} (hW : LWq LW) (hst : LWst LW) (a1 a2 a3 : Int32) : Pair m_X11_cross m_X12_cross 0 0 (INV LW) [.int a1, .int a2, .int a3] := by
  obtain ⟨a, rfl, ra⟩ := iI_of a1
  obtain ⟨h, rfl, rh⟩ := iI_of a2
  obtain ⟨k, rfl, rk⟩ := iI_of a3
  refine pair_q hW hst (fun K X Q => w_X11_cross K a h k X Q) (fun X Q => w_X12_cross a h k X Q) (by decide) (by decide) (fun hK hn hp hf w => so_X11_cross hK hn hp hf w) (fun hn hp w => so_X12_cross hn hp w) (fun K X T b hT e => ?_)
  have w := b.rw
  have wc := w.2.2.1
  have wc1 := wc.1
  have n9 : X 1 9 = X 79 0 := b.nc
  have e0 : ∀ X1 : XT, ME (X 79) X1 → x_st X1 77 0 0 79 0 = X 79 0 := fun X1 m => by rw [x_st_c (by decide), m.1]
  have bad : ¬ (0 ≤ a ∧ a < X 79 0) ∨ ¬ (0 ≤ h ∧ h < X 79 0) ∨ a = h ∨ ¬ (0 ≤ k ∧ k ≤ 1) → w_X12_cross a h k X (fun v2 X2 => v2 = -1 ∧ Gx kpL X X2) := fun hb => by
    unfold w_X12_cross
    rw [e0 X e]
    exact ⟨ra, wc1, fun _ => ⟨rfl, Gx_of Fx.rf Gx_th⟩, fun c1 => ⟨rh, fun _ => ⟨rfl, Gx_of Fx.rf Gx_th⟩, fun c2 => ⟨fun _ => ⟨rfl, Gx_of Fx.rf Gx_th⟩, fun c3 => ⟨rk, fun c4 => absurd hb (by omega), fun _ => ⟨rfl, Gx_of Fx.rf Gx_th⟩⟩⟩⟩⟩
  unfold w_X11_cross
  rw [n9]
  refine ⟨ra, by omega, fun c => bad (Or.inl c), fun c1 => ⟨rh, fun c => bad (Or.inr (Or.inl c)), fun c2 => ⟨fun c => bad (Or.inr (Or.inr (Or.inl c))), fun c3 => ⟨rk, fun c4 => ?_, fun c => bad (Or.inr (Or.inr (Or.inr c)))⟩⟩⟩⟩
  refine e_look0 b (fun X1 f1 _ l1 => ?_)
  generalize hr : X 79 = r at *
  have hV0 : ∀ y : Int, 0 ≤ y → y ≤ 11 → (0 ≤ spF r T a y.toNat ∧ spF r T a y.toNat ≤ 576) ∧ (0 ≤ spF r T h y.toNat ∧ spF r T h y.toNat ≤ 576) := fun y _ _ => ⟨spF_r wc c1.1 c1.2 _, spF_r wc c2.1 c2.2 _⟩
  generalize hp : (fun y : Int => 0 < cmF r a (spF r T a y.toNat) h (spF r T h y.toNat)) = p
  have dp : DecidablePred p := by subst hp; exact fun y => inferInstance
  have hpp : ∀ y : Int, p y ↔ 0 < cmF r a (spF r T a y.toNat) h (spF r T h y.toNat) := fun y => by rw [← hp]
  have mm : ∀ V : Int, (∀ y : Int, 0 ≤ y → y ≤ 11 → fsF p 12 0 = y → V = if k = 0 then y else cmF r a (spF r T a y.toNat) h (spF r T h y.toNat)) → (fsF p 12 0 = -1 → V = -1) → w_X12_cross a h k X1 (fun v2 X2 => v2 = V ∧ Gx kpL X X2) := by
    intro V v0 v1
    unfold w_X12_cross
    rw [e0 X1 (e.fx f1)]
    refine ⟨ra, wc1, fun c => absurd (by omega) c, fun _ => ⟨rh, fun c => absurd (by omega) c, fun _ => ⟨fun c => absurd c c3, fun _ => ⟨rk, fun _ => ?_, fun c => absurd c4 c⟩⟩⟩⟩
    refine m_lay0 w hT b.2.2.2 (e.fx f1) (fun X2 e2 g2 l2 => ?_)
    refine ⟨fun y => 0 ≤ y ∧ y ≤ 12 ∧ fsF p (12 - y).toNat y = fsF p 12 0, fun y => (12 - y).toNat, ⟨by decide, by decide, rfl⟩, ?_⟩
    rintro y ⟨y0, y1, ey⟩
    refine ⟨by omega, fun c => ?_, fun c => ⟨by omega, by omega, ?_⟩⟩
    · rw [show y = 12 by omega] at ey
      exact ⟨(v1 ey.symm).symm, Gx_of f1 g2⟩
    · have l3 := l2 a c1.1 c1.2 y.toNat (by omega)
      have l4 := l2 h c2.1 c2.2 y.toNat (by omega)
      rw [show ((y.toNat : Nat) : Int) = y by omega] at l3 l4
      rw [l3, l4]
      obtain ⟨s1, s2⟩ := hV0 y y0 (by omega)
      have cr := cmF_r (r := r) (c := a) (s := spF r T a y.toNat) (c2 := h) (s2 := spF r T h y.toNat)
      rw [show (12 - y).toNat = (12 - (y + 1)).toNat + 1 by omega, fsF_s] at ey
      refine m_common w e2.1 c1.1 c1.2 c2.1 c2.2 s1.1 s1.2 s2.1 s2.2 ⟨by omega, fun k1 => ⟨⟨by omega, by omega, ?_⟩, by dsimp only; omega⟩, fun k1 => ?_⟩
      · rw [if_neg (fun z => by have := (hpp y).mp z; omega)] at ey; exact ey
      · rw [if_pos ((hpp y).mpr (by omega))] at ey
        have vv := v0 y y0 (by omega) ey.symm
        refine ⟨fun k2 => ⟨?_, Gx_of f1 g2⟩, fun k2 => ⟨?_, Gx_of f1 g2⟩⟩
        · rw [vv, if_neg k2]
        · rw [vv, if_pos k2]
  refine ⟨fun y => 0 ≤ y ∧ y ≤ 12 ∧ fsF p (12 - y).toNat y = fsF p 12 0, fun y => (12 - y).toNat, ⟨by decide, by decide, rfl⟩, ?_⟩
  rintro y ⟨y0, y1, ey⟩
  refine ⟨by omega, fun c => ?_, fun c => ?_⟩
  · rw [show y = 12 by omega] at ey
    have ey : -1 = fsF p 12 0 := ey
    exact mm _ (fun z z0 z1 ez => by omega) (fun _ => rfl)
  · refine e_spot b l1 c1.1 c1.2 y0 (by omega) (e_spot b l1 c2.1 c2.2 y0 (by omega) ?_)
    obtain ⟨s1, s2⟩ := hV0 y y0 (by omega)
    have cr := cmF_r (r := r) (c := a) (s := spF r T a y.toNat) (c2 := h) (s2 := spF r T h y.toNat)
    rw [show (12 - y).toNat = (12 - (y + 1)).toNat + 1 by omega, fsF_s] at ey
    refine e_common b f1 c1.1 c1.2 c2.1 c2.2 s1.1 s1.2 s2.1 s2.2 ⟨by omega, fun k1 => ⟨⟨by omega, by omega, ?_⟩, by dsimp only; omega⟩, fun k1 => ?_⟩
    · rw [if_neg (fun z => by have := (hpp y).mp z; omega)] at ey; exact ey
    · rw [if_pos ((hpp y).mpr (by omega))] at ey
      refine ⟨fun k2 => mm _ (fun z _ _ ez => ?_) (fun z => by omega), fun k2 => mm _ (fun z _ _ ez => ?_) (fun z => by omega)⟩
      · rw [if_neg k2, show z = y by omega]
      · rw [if_pos k2]; omega

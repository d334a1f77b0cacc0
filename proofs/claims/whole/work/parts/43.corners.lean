/-! THE REFERENCE'S: where corners go -/
abbrev kpf (f : Int) : Prop := f = 1 ∨ f = 6 ∨ f = 8 ∨ f = 13 ∨ f = 15 ∨ f = 59 ∨ f = 63 ∨ f = 61 ∨ f = 16 ∨ f = 57 ∨ f = 58
def Gx (l : List Nat) (X X1 : XT) : Prop := (∀ c, l.elem c = false → ¬ c = 77 → X1 c = X c) ∧ ∀ f, kpf f → X1 77 f = X 77 f
theorem Gx.rf {l : List Nat} {X : XT} : Gx l X X := ⟨fun _ _ _ => rfl, fun _ _ => rfl⟩
theorem Gx.trans {l : List Nat} {X X1 X2 : XT} (a : Gx l X X1) (b : Gx l X1 X2) : Gx l X X2 := ⟨fun c h k => (b.1 c h k).trans (a.1 c h k), fun f h => (b.2 f h).trans (a.2 f h)⟩
theorem Gx.sub {l l2 : List Nat} {X X1 : XT} (a : Gx l X X1) (h : l.all (fun c => l2.elem c) = true) : Gx l2 X X1 := ⟨fun c hc k => a.1 c (el_sub h hc) k, a.2⟩
theorem Gx.st {l : List Nat} {X X1 : XT} {c : Nat} {i v : Int} (a : Gx l X X1) (h : l.elem c = true) (h7 : ¬ 77 = c) : Gx l X (x_st X1 c i v) := ⟨fun d hd k => by
  have hne : ¬ d = c := fun e => by rw [e, h] at hd; cases hd
  rw [x_st_c hne]; exact a.1 d hd k, fun f hf => by rw [x_st_c h7]; exact a.2 f hf⟩
theorem Gx.st7 {l : List Nat} {X X1 : XT} {i v : Int} (a : Gx l X X1) (h : ¬ kpf i) : Gx l X (x_st X1 77 i v) := ⟨fun d hd k => by rw [x_st_c k]; exact a.1 d hd k, fun f hf => by rw [x_st_ne (show ¬ f = i from fun e => h (by rw [← e]; exact hf))]; exact a.2 f hf⟩
/-- the reference's scratch cells -/
def scM : List Nat := [91, 93, 94, 95, 96, 97, 98, 99, 100, 101, 102, 103, 104, 105, 106, 107, 108, 109, 110, 111, 112]
def ME (r : Int → Int) (X : XT) : Prop := X 79 = r ∧ X 77 15 = 0
theorem ME.go {r : Int → Int} {l : List Nat} {X X1 : XT} (m : ME r X) (g : Gx l X X1) (h : l.elem 79 = false) : ME r X1 := ⟨(g.1 79 h (by decide)).trans m.1, (g.2 15 (by decide)).trans m.2⟩
def clF (v : Int) : Int := if v < 0 then 0 else if 99 < v then 99 else v
/-- the reference tells of the law in force what T says -/
def HRt (r : Int → Int) (T : TT) : Prop := ∀ (X : XT) (hd x y h c l s wo : Int) (Q : Int → XT → Prop), ME r X → 0 ≤ hd → hd ≤ 3 → (-1000 ≤ x ∧ x ≤ 1000) → (-1000 ≤ y ∧ y ≤ 1000) → (-1000 ≤ h ∧ h ≤ 1000) → (-1000 ≤ c ∧ c ≤ 1000) → (-1000 ≤ l ∧ l ≤ 1000) → (-1000 ≤ s ∧ s ≤ 1000) → 0 ≤ wo → wo ≤ 99 → (∀ v X1, Gx [91, 93] X X1 → R64 v → clF v = T hd x y h c l s wo → (hd = 3 → wo = 0 → v = T hd x y h c l s wo) → Q v X1) → w_X12_tells hd x y h c l s wo X Q
theorem m_wet {r : Int → Int} {X : XT} {s : Int} {Q : Int → Prop} (w : RW r) (e : X 79 = r) (s0 : 0 ≤ s) (s1 : s < 576) (q1 : wetP r s → Q 1) (q0 : ¬ wetP r s → Q 0) : w_X12_isWet s X Q := by
  unfold w_X12_isWet
  rw [e]
  refine ⟨by omega, by omega, fun k => q0 (fun g => k (by omega)), fun k => ⟨by omega, fun k1 => q0 (fun g => k1 (by omega)), fun k1 => ?_⟩⟩
  have rg := w.1 (8 * (s / 24 - 8) + (s % 24 - 8)) 2 (by omega) (by omega) (by decide) (by decide)
  exact ⟨by omega, by omega, fun k2 => q0 (fun g => k2 g.2.2.2.2), fun k2 => q1 ⟨k.1, k.2, k1.1, k1.2, k2⟩⟩
theorem m_bar {r : Int → Int} {T : TT} {X : XT} {c s h : Int} {Q : Int → XT → Prop} (w : RW r) (hT : HRt r T) (tr : TR T) (e : ME r X) (c0 : 0 ≤ c) (c1 : c < r 0) (s0 : 0 ≤ s) (s1 : s < 576) (h0 : 0 ≤ h) (h1 : h ≤ 11) (q1 : barP r T c s h → ∀ X1, Gx [91, 93] X X1 → Q 1 X1) (q0 : ¬ barP r T c s h → ∀ X1, Gx [91, 93] X X1 → Q 0 X1) : w_X12_isBarred c s h X Q := by
  have wc := w.2.2.1.1
  have hc := w.2.2.1.2 c c0 c1
  unfold w_X12_isBarred
  rw [e.1]
  refine ⟨by omega, by omega, hT X 3 _ _ h c _ (-1) 0 _ e (by decide) (by decide) (by omega) (by omega) (by omega) (by omega) (by omega) (by decide) (by decide) (by decide) (fun v X1 g rv _ ev => ?_)⟩
  have ev := ev rfl rfl
  rw [ev]
  have rg := tr 3 (s % 24 - 8) (s / 24 - 8) h c (r (15 + 5 * c + 2)) (-1) 0 (by decide) (by decide)
  exact ⟨by omega, fun k => q0 k X1 g, fun k => q1 k X1 g⟩
theorem m_helps {r : Int → Int} {T : TT} {X : XT} {c s h : Int} {Q : Int → XT → Prop} (w : RW r) (hT : HRt r T) (tr : TR T) (e : ME r X) (c0 : 0 ≤ c) (c1 : c < r 0) (s0 : 0 ≤ s) (s1 : s < 576) (h0 : 0 ≤ h) (h1 : h ≤ 11) (q1 : freP r T c s h → ∀ X1, Gx [91, 93] X X1 → Q 1 X1) (q0 : ¬ freP r T c s h → ∀ X1, Gx [91, 93] X X1 → Q 0 X1) : w_X12_helps c s h X Q := by
  refine m_wet w e.1 s0 s1 (fun g => ⟨by decide, fun _ => q0 (fun f => f.1 g) X Gx.rf, fun k => absurd k (by decide)⟩) (fun g => ⟨by decide, fun k => absurd rfl k, fun _ => ?_⟩)
  refine m_bar w hT tr e c0 c1 s0 s1 h0 h1 (fun k X1 f => ⟨by decide, fun _ => q0 (fun f => f.2 k) X1 f, fun k => absurd k (by decide)⟩) (fun k X1 f => ⟨by decide, fun k => absurd rfl k, fun _ => q1 ⟨g, k⟩ X1 f⟩)
def gN (s : Int) : Int := if s = 576 then -1 else s
theorem gN_r {s : Int} (h : 0 ≤ s ∧ s ≤ 576) : -1 ≤ gN s ∧ gN s ≤ 575 := by unfold gN; split <;> omega
theorem gN_no {s : Int} (h : 0 ≤ s ∧ s ≤ 576) : gN s = -1 ↔ s = 576 := by unfold gN; split <;> omega
theorem gN_id {s : Int} (h : ¬ s = 576) : gN s = s := if_neg h
theorem caF_mv {s x y : Int} (h0 : 0 ≤ s) (h1 : s < 576) : caF ((s % 24 - 8) + x) ((s / 24 - 8) + y) = gN (mvF s x y) := by
  unfold caF mvF gN
  by_cases h : s = 576 ∨ s % 24 + x < 0 ∨ s % 24 + x ≥ 24 ∨ s / 24 + y < 0 ∨ s / 24 + y ≥ 24
  · rw [if_pos h, if_neg (by omega), if_pos rfl]
  · rw [if_neg h, if_pos (by omega), if_neg (by omega)]; omega
theorem m_goes {r : Int → Int} {X : XT} {l s tu d1 d2 : Int} {Q : Int → Prop} (w : RW r) (e : X 79 = r) (l0 : 0 ≤ l) (l1 : l ≤ 2) (s0 : 0 ≤ s) (s1 : s < 576) (rt : tu = 0 ∨ tu = 1) (r1 : R32 d1) (r2 : R32 d2) (q : Q (gN (mvF s (wxF r l tu + (sxF d1 + sxF d2)) (wyF r l tu + (syF d1 + syF d2))))) : w_X12_goes l s tu d1 d2 X Q := by
  have ww := w.2.1 l l0 l1
  unfold w_X12_goes
  rw [e]
  refine ⟨by omega, by omega, by omega, ?_⟩
  intro J hJ
  have a1 := sx_r d1
  have a2 := sx_r d2
  have a3 := sy_r d1
  have a4 := sy_r d2
  have k2 : ∀ gx gy : Int, gx = wxF r l tu → gy = wyF r l tu → (R32 ((((s % 24 - 8) + gx) + (sxF d1)) + (sxF d2)) ∧ R32 ((((s / 24 - 8) + gy) + (syF d1)) + (syF d2)) ∧ Q (caF ((((s % 24 - 8) + gx) + (sxF d1)) + (sxF d2)) ((((s / 24 - 8) + gy) + (syF d1)) + (syF d2)))) := by
    rintro gx gy rfl rfl
    have b1 := wx_r w.2.1 (l := l) (tu := tu) l0 l1
    have b2 := wy_r w.2.1 (l := l) (tu := tu) l0 l1
    refine ⟨by omega, by omega, ?_⟩
    rw [show (((s % 24 - 8) + wxF r l tu) + (sxF d1)) + (sxF d2) = (s % 24 - 8) + (wxF r l tu + (sxF d1 + sxF d2)) by omega, show (((s / 24 - 8) + wyF r l tu) + (syF d1)) + (syF d2) = (s / 24 - 8) + (wyF r l tu + (syF d1 + syF d2)) by omega, caF_mv s0 s1]
    exact q
  have k3 : ∀ gx : Int, gx = wxF r l tu → J gx := by
    intro gx hg
    refine hJ gx ⟨r1, r2, ?_⟩
    intro J2 hJ2
    rcases rt with rfl | rfl
    · exact ⟨by decide, fun _ => hJ2 _ (k2 _ _ hg rfl), fun k => absurd rfl k⟩
    · exact ⟨by decide, fun k => absurd k (by decide), fun _ => hJ2 _ (k2 _ _ hg rfl)⟩
  rcases rt with rfl | rfl
  · exact ⟨by decide, fun _ => k3 _ rfl, fun k => absurd rfl k⟩
  · exact ⟨by decide, fun k => absurd k (by decide), fun _ => k3 _ rfl⟩
theorem m_goOn {r : Int → Int} {T : TT} {X : XT} {c s h tu d : Int} {Q : Int → XT → Prop} (w : RW r) (hT : HRt r T) (tr : TR T) (e : ME r X) (c0 : 0 ≤ c) (c1 : c < r 0) (s0 : 0 ≤ s) (s1 : s < 576) (h0 : 0 ≤ h) (h1 : h ≤ 11) (rt : tu = 0 ∨ tu = 1) (d0 : -1 ≤ d) (d1 : d ≤ 4) (q : ∀ X1, Gx [91, 93] X X1 → Q (gN (nxF r T c s h d tu)) X1) : w_X12_goOn c s h tu d X Q := by
  have wc := w.2.2.1.1
  have hc := w.2.2.1.2 c c0 c1
  intro J hJ
  have key : ∀ (v : Int) (X1 : XT), Gx [91, 93] X X1 → ((v = 0 ∧ (d = 4 ∨ d = -1 ∨ ¬ freP r T c s h)) ∨ (v = 1 ∧ freP r T c s h)) → J v X1 := by
    intro v X1 g hv
    have e1 : ME r X1 := e.go g rfl
    refine hJ v X1 ⟨by omega, by omega, fun k => ?_, fun k => ?_⟩
    · rw [e1.1]
      refine m_goes w e1.1 (by omega) (by omega) s0 s1 rt (by decide) (by decide) ?_
      have q1 := q X1 g
      rw [nxF_no (fun _ => by rcases hv with hv | hv; exact hv.2; omega) ⟨s0, by omega⟩] at q1
      rw [show sxF 4 = 0 from rfl, show syF 4 = 0 from rfl, Int.add_zero, Int.add_zero, Int.add_zero]
      exact q1
    · rw [e1.1]
      refine m_goes w e1.1 (by omega) (by omega) s0 s1 rt (by omega) (by decide) ?_
      have q1 := q X1 g
      rw [nxF_go (by omega) (by rcases hv with hv | hv; omega; exact hv.2)] at q1
      rw [show sxF 4 = 0 from rfl, show syF 4 = 0 from rfl, Int.add_zero, Int.add_zero]
      exact q1
  refine ⟨by omega, fun k => key 0 X Gx.rf (Or.inl ⟨rfl, by omega⟩), fun k => ⟨fun k1 => key 0 X Gx.rf (Or.inl ⟨rfl, by omega⟩), fun k1 => ?_⟩⟩
  refine m_helps w hT tr e c0 c1 s0 s1 h0 h1 (fun g X1 f => ⟨by decide, fun k => absurd k (by decide), fun _ => key 1 X1 f (Or.inr ⟨rfl, g⟩)⟩) (fun g X1 f => ⟨by decide, fun _ => key 0 X1 f (Or.inl ⟨rfl, by omega⟩), fun k => absurd rfl k⟩)
theorem m_begins {r : Int → Int} {X : XT} {c : Int} {Q : Int → Prop} (w : RW r) (e : X 79 = r) (c0 : 0 ≤ c) (c1 : c < r 0) (q : Q (bgF r c)) : w_X12_beginsAt c X Q := by
  have wc := w.2.2.1.1
  have hc := w.2.2.1.2 c c0 c1
  unfold w_X12_beginsAt
  rw [e]
  refine ⟨by omega, by omega, by omega, ?_⟩
  unfold caF
  rw [if_pos (by omega)]
  exact q
/-- what layCorners() makes -/
def LAID (r : Int → Int) (T : TT) (X : XT) : Prop := ∀ c : Int, 0 ≤ c → c < r 0 → ∀ h : Nat, h ≤ 11 → X 94 (12 * c + (h : Int)) = gN (spF r T c h)
theorem m_lay {r : Int → Int} {T : TT} {X : XT} {Q : XT → Prop} (w : RW r) (hT : HRt r T) (tr : TR T) (e : ME r X) (q : ∀ X1, Gx [91, 93, 94] X X1 → LAID r T X1 → Q X1) : w_X12_layCorners X Q := by
  have wc := w.2.2.1
  have wc1 := wc.1
  refine ⟨fun x X1 => 0 ≤ x ∧ x ≤ r 0 ∧ Gx [91, 93, 94] X X1 ∧ ∀ c : Int, 0 ≤ c → c < x → ∀ h : Nat, h ≤ 11 → X1 94 (12 * c + (h : Int)) = gN (spF r T c h), fun x _ => (r 0 - x).toNat, ⟨by decide, wc1.1, Gx.rf, fun c c0 c1 => absurd (show c < (0 : Int) from c1) (by omega)⟩, ?_⟩
  rintro x X1 ⟨x0, x1, g1, l1⟩
  have e1 : ME r X1 := e.go g1 rfl
  have n0 : X1 79 0 = r 0 := by rw [e1.1]
  refine ⟨by omega, by omega, fun k => q X1 g1 (fun c c0 c1 => l1 c c0 (by omega)), fun k => ?_⟩
  have xr : x < r 0 := by omega
  refine m_begins w e1.1 x0 xr ?_
  refine ⟨fun a y X2 => 0 ≤ y ∧ y ≤ 12 ∧ (y ≤ 11 → a = gN (spF r T x y.toNat)) ∧ R32 a ∧ Gx [91, 93, 94] X X2 ∧ (∀ c : Int, 0 ≤ c → c < x → ∀ h : Nat, h ≤ 11 → X2 94 (12 * c + (h : Int)) = gN (spF r T c h)) ∧ ∀ h : Nat, (h : Int) < y → X2 94 (12 * x + (h : Int)) = gN (spF r T x h), fun _ y _ => (12 - y).toNat, ⟨by decide, by decide, fun _ => ?_, ?_, g1, l1, fun h h1 => absurd h1 (by omega)⟩, ?_⟩
  · have b := bgF_r wc x0 xr
    show bgF r x = gN (bgF r x)
    rw [gN_id (by omega)]
  · have b := bgF_r wc x0 xr
    omega
  rintro a y X2 ⟨y0, y1, ea, ra, g2, l2, m2⟩
  refine ⟨by omega, fun k => ⟨⟨by omega, by omega, g2, fun c c0 c1 h h1 => ?_⟩, by dsimp only; omega⟩, fun k => ⟨by omega, ra, ?_⟩⟩
  · by_cases hc : c = x
    · rw [hc]; exact m2 h (by omega)
    · exact l2 c c0 (by omega) h h1
  have ea := ea (by omega)
  have sr := spF_r (T := T) wc x0 xr y.toNat
  have gr := gN_r sr
  have ey : ((y.toNat : Nat) : Int) = y := by omega
  have ey1 : (y + 1).toNat = y.toNat + 1 := by omega
  generalize hX3 : x_st X2 94 (12 * x + y) a = X3
  have g3 : Gx [91, 93, 94] X X3 := by rw [← hX3]; exact g2.st rfl (by decide)
  have l3 : ∀ c : Int, 0 ≤ c → c < x → ∀ h : Nat, h ≤ 11 → X3 94 (12 * c + (h : Int)) = gN (spF r T c h) := fun c c0 c1 h h1 => by rw [← hX3, x_st_ne (by omega)]; exact l2 c c0 c1 h h1
  have m3 : ∀ h : Nat, (h : Int) < y + 1 → X3 94 (12 * x + (h : Int)) = gN (spF r T x h) := fun h h1 => by
    rw [← hX3]
    by_cases hq : (h : Int) = y
    · rw [hq, x_st_at, ea, show y.toNat = h by omega]
    · rw [x_st_ne (by omega)]; exact m2 h (by omega)
  have e3 : ME r X3 := e.go g3 rfl
  refine ⟨fun k1 => ⟨by rw [e3.1]; exact w.2.2.2.1.1, ?_⟩, fun k1 => ⟨⟨by omega, by omega, fun _ => ?_, by decide, g3, l3, m3⟩, by dsimp only; omega⟩⟩
  · rw [e3.1]
    have hs : ¬ spF r T x y.toNat = 576 := fun h => k1 (by rw [ea]; exact (gN_no sr).mpr h)
    have es : a = spF r T x y.toNat := by rw [ea, gN_id hs]
    have fr := fRw_r w.2.2.2.1 x y
    rw [es]
    refine m_goOn w hT tr e3 x0 xr sr.1 (by omega) y0 (by omega) (Or.inl rfl) (by omega) (by omega) (fun X4 g4 => ?_)
    have nr := nxF_r (r := r) (T := T) (c := x) (h := y) (d := fRw r x y) (tu := 0) sr
    have gr2 := gN_r nr
    refine ⟨⟨by omega, by omega, fun _ => ?_, by omega, g3.trans (g4.sub rfl), fun c c0 c1 h h1 => by rw [g4.1 94 rfl (by decide)]; exact l3 c c0 c1 h h1, fun h h1 => by rw [g4.1 94 rfl (by decide)]; exact m3 h h1⟩, by dsimp only; omega⟩
    rw [ey1]
    show gN (nxF r T x (spF r T x y.toNat) y (fRw r x y) 0) = gN (nxF r T x (spF r T x y.toNat) ((y.toNat : Nat) : Int) (fRw r x ((y.toNat : Nat) : Int)) 0)
    rw [ey]
  · have hs : spF r T x y.toNat = 576 := (gN_no sr).mp (ea.symm.trans k1)
    rw [ey1]
    show -1 = gN (nxF r T x (spF r T x y.toNat) ((y.toNat : Nat) : Int) (fRw r x ((y.toNat : Nat) : Int)) 0)
    rw [hs]; rfl
theorem m_shades {r : Int → Int} {X : XT} {c s f : Int} {Q : Int → Prop} (w : RW r) (e : X 79 = r) (c0 : 0 ≤ c) (c1 : c < r 0) (s0 : 0 ≤ s) (s1 : s ≤ 576) (f0 : 0 ≤ f) (f1 : f ≤ 63) (q1 : shP r c s f → Q 1) (q0 : ¬ shP r c s f → Q 0) : w_X12_shades c (gN s) f X Q := by
  have wc := w.2.2.1.1
  have hc := w.2.2.1.2 c c0 c1
  have gr := gN_r ⟨s0, s1⟩
  unfold w_X12_shades
  rw [e]
  refine ⟨by omega, by omega, by omega, by omega, by omega, ?_⟩
  have k : (¬ gN s = -1 ∧ cvB (gN s) (r (15 + 5 * c + 0)) (r (15 + 5 * c + 1)) f) ↔ shP r c s f := by
    by_cases hs : s = 576
    · rw [hs]; exact ⟨fun h => absurd rfl h.1, fun h => absurd rfl h.1⟩
    · rw [gN_id hs]; exact ⟨fun h => ⟨hs, h.2⟩, fun h => ⟨by omega, h.2⟩⟩
  by_cases h : shP r c s f
  · rw [if_pos (k.mpr h)]; exact q1 h
  · rw [if_neg (fun h1 => h (k.mp h1))]; exact q0 h
theorem m_shade {r : Int → Int} {X : XT} {f h : Int} {s : Int → Int} {Q : Int → Prop} (w : RW r) (e : X 79 = r) (hs : ∀ c : Int, 0 ≤ c → c < r 0 → X 94 (12 * c + h) = gN (s c) ∧ 0 ≤ s c ∧ s c ≤ 576) (f0 : 0 ≤ f) (f1 : f ≤ 63) (h0 : 0 ≤ h) (h1 : h ≤ 11) (q : Q (sdF r s f (r 0).toNat)) : w_X12_shadeOf f h X Q := by
  have wc := w.2.2.1.1
  refine ⟨fun n x => 0 ≤ x ∧ x ≤ r 0 ∧ n = sdF r s f x.toNat, fun _ x => (r 0 - x).toNat, ⟨by decide, wc.1, rfl⟩, ?_⟩
  rintro n x ⟨x0, x1, rfl⟩
  have n9 : X 79 0 = r 0 := by rw [e]
  refine ⟨by omega, by omega, fun k => ?_, fun k => ⟨by omega, ?_⟩⟩
  · have e : x = r 0 := by omega
    rw [e]; exact q
  · have xr : x < r 0 := by omega
    obtain ⟨e1, e2, e3⟩ := hs x x0 xr
    have ex : (x + 1).toNat = x.toNat + 1 := by omega
    have exx : ((x.toNat : Nat) : Int) = x := by omega
    rw [e1]
    refine m_shades w e x0 xr e2 e3 f0 f1 (fun g => ?_) (fun g => ?_)
    · intro J hJ
      refine ⟨by decide, fun k2 => absurd k2 (by decide), fun _ => hJ 1 ⟨⟨by omega, by omega, ?_⟩, by dsimp only; omega⟩⟩
      rw [ex, sdF_s, exx, if_pos g]
    · intro J hJ
      refine ⟨by decide, fun _ => hJ 0 ⟨⟨by omega, by omega, ?_⟩, by dsimp only; omega⟩, fun k2 => absurd rfl k2⟩
      rw [ex, sdF_s, exx, if_neg g, Int.add_zero]

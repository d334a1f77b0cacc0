/-! PAIRS OF CALLS THAT ONLY ASK: drive -/
abbrev okD (r : Int → Int) (c f from1 : Int) : Int → Int → Bool := fun h s => decide (h < from1 ∨ shP r c s f)
theorem okD_t {r : Int → Int} {c f from1 h s : Int} : okD r c f from1 h s = true ↔ (h < from1 ∨ shP r c s f) := decide_eq_true_iff
theorem nxF_576 {r : Int → Int} {T : TT} {c h d tu : Int} : nxF r T c 576 h d tu = 576 := rfl
theorem coD_576 {r : Int → Int} {T : TT} {c f from1 till : Int} (h : from1 ≤ till) : ∀ k : Nat, coF r T c (okD r c f from1) till k 576 = 1000 := by
  intro k
  have ns : ¬ shP r c 576 f := fun z => z.1 rfl
  induction k with
  | zero => rw [coF_0, if_neg (fun z => by have := okD_t.mp z; rcases this with z | z; omega; exact ns z)]
  | succ k ih =>
    rw [coF_s]
    split
    · have key : ∀ m : Nat, mnF (fun d => coF r T c (okD r c f from1) till k (nxF r T c 576 (till - ((k + 1 : Nat) : Int)) d 0) + oneF d) m = 1000 := by
        intro m
        induction m with
        | zero => rfl
        | succ m ihm =>
          rw [mnF_s, ihm, nxF_576, ih]
          have : 0 ≤ oneF (m : Int) := by unfold oneF; split <;> omega
          omega
      exact key 5
    · rfl
def gF (r : Int → Int) (T : TT) (c : Int) (ok : Int → Int → Bool) (till h s d : Int) : Int := coF r T c ok till (till - (h + 1)).toNat (nxF r T c s h d 0) + oneF d
/-- the first direction that is as good as can be -/
def stepF (r : Int → Int) (T : TT) (c : Int) (ok : Int → Int → Bool) (till h s : Int) : Int := if fsF (fun d => gF r T c ok till h s d = coF r T c ok till (till - h).toNat s) 4 0 = -1 then 4 else fsF (fun d => gF r T c ok till h s d = coF r T c ok till (till - h).toNat s) 4 0
def pthF (r : Int → Int) (T : TT) (c : Int) (ok : Int → Int → Bool) (till : Int) : Nat → Int
  | 0 => bgF r c
  | h + 1 => nxF r T c (pthF r T c ok till h) (h : Int) (stepF r T c ok till (h : Int) (pthF r T c ok till h)) 0
theorem pthF_s {r : Int → Int} {T : TT} {c : Int} {ok : Int → Int → Bool} {till : Int} {h : Nat} : pthF r T c ok till (h + 1) = nxF r T c (pthF r T c ok till h) (h : Int) (stepF r T c ok till (h : Int) (pthF r T c ok till h)) 0 := rfl
theorem pthF_r {r : Int → Int} {T : TT} {c till : Int} {ok : Int → Int → Bool} (w : W_cld r) (c0 : 0 ≤ c) (c1 : c < r 0) : ∀ h : Nat, 0 ≤ pthF r T c ok till h ∧ pthF r T c ok till h ≤ 576 := by
  intro h
  induction h with
  | zero => have := bgF_r w c0 c1; unfold pthF; omega
  | succ h ih => exact nxF_r ih
theorem fsF_at {p : Int → Prop} [DecidablePred p] : ∀ (m : Nat) (h : Int), ¬ fsF p m h = -1 → 0 ≤ h → p (fsF p m h) ∧ (∀ j : Int, h ≤ j → j < fsF p m h → ¬ p j) ∧ h ≤ fsF p m h ∧ fsF p m h < h + m := by
  intro m
  induction m with
  | zero => intro h hn _; exact absurd rfl hn
  | succ m ih =>
    intro h hn h0
    rw [fsF_s] at hn ⊢
    by_cases hp : p h
    · rw [if_pos hp]; exact ⟨hp, fun j a b => absurd a (by omega), Int.le_refl _, by omega⟩
    · rw [if_neg hp] at hn ⊢
      obtain ⟨a, b, c, d⟩ := ih (h + 1) hn (by omega)
      refine ⟨a, fun j j0 j1 => ?_, by omega, by omega⟩
      by_cases hj : j = h
      · rw [hj]; exact hp
      · exact b j (by omega) j1
theorem fsF_none {p : Int → Prop} [DecidablePred p] : ∀ (m : Nat) (h : Int), 0 ≤ h → fsF p m h = -1 → ∀ j : Int, h ≤ j → j < h + m → ¬ p j := by
  intro m
  induction m with
  | zero => intro h _ _ j a b; omega
  | succ m ih =>
    intro h h0 hn j a b
    rw [fsF_s] at hn
    by_cases hp : p h
    · rw [if_pos hp] at hn; omega
    · rw [if_neg hp] at hn
      by_cases hj : j = h
      · rw [hj]; exact hp
      · exact ih (h + 1) (by omega) hn j (by omega) (by omega)
theorem stepF_at {r : Int → Int} {T : TT} {c till h s : Int} {ok : Int → Int → Bool} (h0 : 0 ≤ h) (h1 : h < till) (hc : coF r T c ok till (till - h).toNat s < 1000) : ok h s = true ∧ (0 ≤ stepF r T c ok till h s ∧ stepF r T c ok till h s ≤ 4) ∧ gF r T c ok till h s (stepF r T c ok till h s) = coF r T c ok till (till - h).toNat s ∧ ∀ d : Int, 0 ≤ d → d < stepF r T c ok till h s → ¬ gF r T c ok till h s d = coF r T c ok till (till - h).toNat s := by
  obtain ⟨k, ek⟩ : ∃ k : Nat, (till - h).toNat = k + 1 := ⟨(till - h).toNat - 1, by omega⟩
  have eh : till - ((k + 1 : Nat) : Int) = h := by omega
  have el : (till - (h + 1)).toNat = k := by omega
  have hc2 := hc
  rw [ek, coF_s, eh] at hc2
  by_cases hok : ok h s = true
  · rw [if_pos hok] at hc2
    have e5 : coF r T c ok till (till - h).toNat s = mnF (fun d => coF r T c ok till k (nxF r T c s h d 0) + oneF d) 5 := by rw [ek, coF_s, eh, if_pos hok]
    refine ⟨hok, ?_⟩
    by_cases hs : fsF (fun d => gF r T c ok till h s d = coF r T c ok till (till - h).toNat s) 4 0 = -1
    · have e4 : stepF r T c ok till h s = 4 := by unfold stepF; rw [if_pos hs]
      have nn := fsF_none 4 0 (by decide) hs
      rw [e4]
      refine ⟨by omega, ?_, fun d d0 d1 => nn d d0 (by omega)⟩
      rcases mnF_at (g := fun d => coF r T c ok till k (nxF r T c s h d 0) + oneF d) 5 with z | ⟨d, d0, d1, z⟩
      · omega
      · by_cases hd : d = 4
        · rw [hd] at z
          unfold gF; rw [el, e5]; exact z
        · exfalso
          refine nn d d0 (by omega) ?_
          unfold gF; rw [el, e5]; exact z
    · have e4 : stepF r T c ok till h s = fsF (fun d => gF r T c ok till h s d = coF r T c ok till (till - h).toNat s) 4 0 := by unfold stepF; rw [if_neg hs]
      obtain ⟨a, b, c2, d2⟩ := fsF_at 4 0 hs (by decide)
      rw [← e4] at a b c2 d2
      exact ⟨by omega, a, b⟩
  · rw [if_neg hok] at hc2; omega
theorem oneF_r (d : Int) : 0 ≤ oneF d ∧ oneF d ≤ 1 := by unfold oneF; split <;> omega
theorem pth_cost {r : Int → Int} {T : TT} {c till : Int} {ok : Int → Int → Bool} (hc : coF r T c ok till till.toNat (bgF r c) < 1000) : ∀ h : Nat, (h : Int) ≤ till → coF r T c ok till (till - (h : Int)).toNat (pthF r T c ok till h) < 1000 := by
  intro h
  induction h with
  | zero => intro _; rw [show till - ((0 : Nat) : Int) = till by omega]; exact hc
  | succ h ih =>
    intro hh
    have i := ih (by omega)
    obtain ⟨a, b, e, f⟩ := stepF_at (by omega) (by omega) i
    have o := oneF_r (stepF r T c ok till (h : Int) (pthF r T c ok till h))
    unfold gF at e
    rw [pthF_s, show till - ((h + 1 : Nat) : Int) = till - ((h : Int) + 1) by omega]
    omega
/-- the class: the step, and the steps in a row -/
theorem e_cheapStep {r : Int → Int} {T : TT} {c till h s : Int} {ok : Int → Int → Bool} {X : XT} {Q : Int → Prop} (w : RW r) (p : PTK r c X) (c0 : 0 ≤ c) (c1 : c < r 0) (m : MKS r T c X) (h0 : 0 ≤ h) (h1 : h < till) (t1 : till ≤ 11) (s0 : 0 ≤ s) (s1 : s ≤ 576) (hm : ¬ X 59 (h * 577 + s) = 0) (hv : X 61 (h * 577 + s) = coF r T c ok till (till - h).toNat s) (hn : ∀ d : Int, 0 ≤ d → d ≤ 4 → X 61 ((h + 1) * 577 + nxF r T c s h d 0) = coF r T c ok till (till - (h + 1)).toNat (nxF r T c s h d 0)) (q : Q (stepF r T c ok till h s)) : w_X4_cheapStep h s X Q := by
  refine ⟨fun d => 0 ≤ d ∧ d ≤ 4 ∧ fsF (fun d => gF r T c ok till h s d = coF r T c ok till (till - h).toNat s) (4 - d).toNat d = fsF (fun d => gF r T c ok till h s d = coF r T c ok till (till - h).toNat s) 4 0, fun d => (4 - d).toNat, ⟨by decide, by decide, rfl⟩, ?_⟩
  rintro d ⟨d0, d1, ed⟩
  refine ⟨by omega, fun k => ?_, fun k => ?_⟩
  · rw [show (4 - d).toNat = 0 by omega] at ed
    have ed : -1 = fsF (fun d => gF r T c ok till h s d = coF r T c ok till (till - h).toNat s) 4 0 := ed
    unfold stepF at q
    rw [if_pos ed.symm] at q; exact q
  · rw [show (4 - d).toNat = (4 - (d + 1)).toNat + 1 by omega, fsF_s] at ed
    refine e_costBy w p c0 c1 m h0 (by omega) s0 s1 hm ⟨d0, by omega⟩ (e_costOf h0 (by omega) s0 s1 ?_)
    rw [hn d d0 (by omega), hv]
    have g : coF r T c ok till (till - (h + 1)).toNat (nxF r T c s h d 0) + oneF d = gF r T c ok till h s d := rfl
    have r1 := coF_r (r := r) (T := T) (c := c) (ok := ok) (till := till) (till - (h + 1)).toNat (nxF r T c s h d 0)
    have r2 := coF_r (r := r) (T := T) (c := c) (ok := ok) (till := till) (till - h).toNat s
    have o := oneF_r d
    refine ⟨by omega, by omega, fun k2 => ⟨⟨by omega, by omega, ?_⟩, by dsimp only; omega⟩, fun k2 => ?_⟩
    · rw [g] at k2; rw [if_neg k2] at ed; exact ed
    · rw [g] at k2; rw [if_pos k2] at ed
      unfold stepF at q
      rw [← ed, if_neg (by omega)] at q; exact q
theorem e_cheapIn {r : Int → Int} {T : TT} {c till i : Int} {ok : Int → Int → Bool} {RS : Int → Int → Prop} {X : XT} {Q : Int → Prop} (w : RW r) (p : PTK r c X) (c0 : 0 ≤ c) (c1 : c < r 0) (m : MKS r T c X) (i0 : 0 ≤ i) (i1 : i < till) (t1 : till ≤ 11)
    (hr : ∀ h s : Int, 0 ≤ h → h ≤ till → 0 ≤ s → s ≤ 576 → RS h s → (¬ X 59 (h * 577 + s) = 0 ↔ ok h s = true))
    (hb : RS 0 (bgF r c))
    (hcl : ∀ h s d : Int, 0 ≤ h → h < till → 0 ≤ s → s ≤ 576 → RS h s → 0 ≤ d → d ≤ 4 → RS (h + 1) (nxF r T c s h d 0))
    (hv : ∀ h s : Int, 0 ≤ h → h ≤ till → 0 ≤ s → s ≤ 576 → RS h s → X 61 (h * 577 + s) = coF r T c ok till (till - h).toNat s)
    (hc : coF r T c ok till till.toNat (bgF r c) < 1000)
    (q : Q (stepF r T c ok till i (pthF r T c ok till i.toNat))) : w_X4_cheapStepIn i (bgF r c) X Q := by
  refine ⟨fun s st h => 0 ≤ h ∧ h ≤ i + 1 ∧ s = pthF r T c ok till h.toNat ∧ RS h s ∧ (h = i + 1 → st = stepF r T c ok till i (pthF r T c ok till i.toNat)), fun _ _ h => (i + 1 - h).toNat, ⟨by decide, by omega, rfl, hb, fun z => absurd z (by omega)⟩, ?_⟩
  rintro s st h ⟨h0, h1, rfl, rs, hst⟩
  have sr := pthF_r (T := T) (ok := ok) (till := till) w.2.2.1 c0 c1 h.toNat
  refine ⟨by omega, by omega, fun k => ?_, fun k => ?_⟩
  · rw [hst (by omega)]; exact q
  · have eh : ((h.toNat : Nat) : Int) = h := by omega
    have pc := pth_cost (r := r) (T := T) (c := c) (ok := ok) hc h.toNat (by omega)
    rw [eh] at pc
    obtain ⟨okh, sp, _, _⟩ := stepF_at h0 (by omega) pc
    have hm := (hr h _ h0 (by omega) sr.1 sr.2 rs).mpr okh
    refine e_cheapStep w p c0 c1 m h0 (by omega) t1 sr.1 sr.2 hm (hv h _ h0 (by omega) sr.1 sr.2 rs) (fun d d0 d1 => ?_) ?_
    · have nr := nxF_r (r := r) (T := T) (c := c) (h := h) (d := d) (tu := 0) sr
      exact hv (h + 1) _ (by omega) (by omega) nr.1 nr.2 (hcl h _ d h0 (by omega) sr.1 sr.2 rs d0 d1)
    · refine e_onward w p c0 c1 m h0 (by omega) sr.1 sr.2 hm sp (by omega) (Or.inl rfl) ?_
      rw [nyF_4]
      refine ⟨⟨by omega, by omega, ?_, hcl h _ _ h0 (by omega) sr.1 sr.2 rs sp.1 sp.2, fun z => ?_⟩, by dsimp only; omega⟩
      · rw [show (h + 1).toNat = h.toNat + 1 by omega, pthF_s, eh]
      · rw [show i = h by omega]
/-- the reference's costs -/
def fw (v : Int) : Int := if v = 1000 then 100000000 else v
def FWS (r : Int → Int) (T : TT) (c : Int) (ok : Int → Int → Bool) (till h : Int) (X : XT) : Prop := ∀ s : Int, 0 ≤ s → s < 576 → X 97 (576 * h + s) = fw (coF r T c ok till (till - h).toNat s)
theorem m_fewBy {r : Int → Int} {T : TT} {X : XT} {c till h s d : Int} {ok : Int → Int → Bool} {Q : Int → Prop} (w : RW r) (e : X 79 = r) (k : WKS r T c X) (c0 : 0 ≤ c) (c1 : c < r 0) (h0 : 0 ≤ h) (h1 : h < till) (t1 : till ≤ 11) (s0 : 0 ≤ s) (s1 : s < 576) (d0 : 0 ≤ d) (d1 : d ≤ 4) (hf : FWS r T c ok till (h + 1) X) (hg : coF r T c ok till (till - (h + 1)).toNat 576 = 1000) (q : Q (if coF r T c ok till (till - (h + 1)).toNat (nxF r T c s h d 0) = 1000 then 100000000 else gF r T c ok till h s d)) : w_X12_fewestBy c h s d X Q := by
  have nr := nxF_r (r := r) (T := T) (c := c) (h := h) (d := d) (tu := 0) ⟨s0, show s ≤ 576 by omega⟩
  have gr := gN_r nr
  refine m_next w e k c0 c1 h0 (by omega) s0 s1 (Or.inl rfl) d0 d1 ?_
  intro J hJ
  have r1 := coF_r (r := r) (T := T) (c := c) (ok := ok) (till := till) (till - (h + 1)).toNat (nxF r T c s h d 0)
  have o := oneF_r d
  have key : ∀ v : Int, v = fw (coF r T c ok till (till - (h + 1)).toNat (nxF r T c s h d 0)) → J v := by
    rintro v rfl
    refine hJ _ ?_
    unfold fw
    by_cases hc : coF r T c ok till (till - (h + 1)).toNat (nxF r T c s h d 0) = 1000
    · rw [if_pos hc] at q ⊢
      exact ⟨by omega, fun z => absurd z (by decide), fun _ => q⟩
    · rw [if_neg hc] at q ⊢
      refine ⟨by omega, fun _ => ⟨by omega, fun z => ?_, fun z => ?_⟩, fun z => absurd (by omega) z⟩
      · rw [show coF r T c ok till (till - (h + 1)).toNat (nxF r T c s h d 0) + 0 = gF r T c ok till h s d by unfold gF oneF; rw [if_neg (by omega)]]; exact q
      · rw [show coF r T c ok till (till - (h + 1)).toNat (nxF r T c s h d 0) + 1 = gF r T c ok till h s d by unfold gF oneF; rw [if_pos (by omega)]]; exact q
  refine ⟨by omega, fun z => ?_, fun z => ?_⟩
  · have hs : ¬ nxF r T c s h d 0 = 576 := fun y => z ((gN_no nr).mpr y)
    rw [gN_id hs]
    exact ⟨by omega, key _ (hf _ nr.1 (by omega))⟩
  · have hs := (gN_no nr).mp z
    refine key _ ?_
    rw [hs, hg]; rfl
theorem m_findDrive {r : Int → Int} {T : TT} {X : XT} {c f from1 till : Int} {Q : XT → Prop} (w : RW r) (e : X 79 = r) (k : WKS r T c X) (c0 : 0 ≤ c) (c1 : c < r 0) (f0 : 0 ≤ f) (f1 : f ≤ 63) (a0 : 0 ≤ from1) (a1 : from1 ≤ till) (t1 : till ≤ 11) (q : ∀ X1, Fx [97] X X1 → (∀ h : Int, 0 ≤ h → h ≤ till → FWS r T c (okD r c f from1) till h X1) → Q X1) : w_X12_findDrive c f from1 till X Q := by
  refine ⟨fun x X1 => -1 ≤ x ∧ x ≤ till ∧ Fx [97] X X1 ∧ ∀ h : Int, x < h → h ≤ till → FWS r T c (okD r c f from1) till h X1, fun x _ => (x + 1).toNat, ⟨by omega, Int.le_refl _, Fx.rf, fun h a b => absurd b (by omega)⟩, ?_⟩
  rintro x X1 ⟨x0, x1, g1, k1⟩
  refine ⟨by omega, fun z => q X1 g1 (fun h a b => k1 h (by omega) b), fun z => ?_⟩
  refine ⟨fun s X2 => 0 ≤ s ∧ s ≤ 576 ∧ Fx [97] X X2 ∧ (∀ h : Int, x < h → h ≤ till → FWS r T c (okD r c f from1) till h X2) ∧ ∀ s' : Int, 0 ≤ s' → s' < s → X2 97 (576 * x + s') = fw (coF r T c (okD r c f from1) till (till - x).toNat s'), fun s _ => (576 - s).toNat, ⟨by decide, by decide, g1, k1, fun s' a b => absurd (show s' < (0 : Int) from b) (by omega)⟩, ?_⟩
  rintro s X2 ⟨s0, s1, g2, k2, k3⟩
  refine ⟨by omega, fun z2 => ⟨⟨by omega, by omega, g2, fun h a b => ?_⟩, by dsimp only; omega⟩, fun z2 => ?_⟩
  · by_cases hq : h = x
    · rw [hq]; exact fun s' c d => k3 s' c (by omega)
    · exact k2 h (by omega) b
  · have st : ∀ v : Int, v = fw (coF r T c (okD r c f from1) till (till - x).toNat s) → (0 ≤ s + 1 ∧ s + 1 ≤ 576 ∧ Fx [97] X (x_st X2 97 ((576 * x) + s) v) ∧ (∀ h : Int, x < h → h ≤ till → FWS r T c (okD r c f from1) till h (x_st X2 97 ((576 * x) + s) v)) ∧ ∀ s' : Int, 0 ≤ s' → s' < s + 1 → (x_st X2 97 ((576 * x) + s) v) 97 (576 * x + s') = fw (coF r T c (okD r c f from1) till (till - x).toNat s')) := by
      rintro v rfl
      refine ⟨by omega, by omega, g2.st rfl, fun h a b s' d e => ?_, fun s' a b => ?_⟩
      · rw [x_st_ne (by omega)]; exact k2 h a b s' d e
      · by_cases hq : s' = s
        · rw [hq, x_st_at]
        · rw [x_st_ne (by omega)]; exact k3 s' a (by omega)
    have e2 : X2 79 = r := by rw [g2 79 rfl]; exact e
    have kw : WKS r T c X2 := fun h s a b c d => by rw [g2 96 rfl]; exact k h s a b c d
    intro J hJ
    have key : ∀ v : Int, ((x = till ∧ v = 0) ∨ (x < till ∧ v = 100000000)) → J v := by
      intro v hv
      refine hJ v ?_
      refine ⟨fun u d => 0 ≤ d ∧ d ≤ 5 ∧ ((x = till ∧ u = 0) ∨ (x < till ∧ u = fw (mnF (fun d => gF r T c (okD r c f from1) till x s d) d.toNat))), fun _ d => (5 - d).toNat, ⟨by decide, by decide, by rcases hv with hv | hv; exact Or.inl hv; exact Or.inr hv⟩, ?_⟩
      rintro u d ⟨d0, d1, hu⟩
      intro J2 hJ2
      have fin : (x = till ∨ d = 5) → J2 := by
        intro hd
        refine hJ2 ?_
        -- the cost, if it may be there
        have cv : okD r c f from1 x s = true → u = fw (coF r T c (okD r c f from1) till (till - x).toNat s) := by
          intro ok
          rcases hu with ⟨hx, rfl⟩ | ⟨hx, rfl⟩
          · rw [show (till - x).toNat = 0 by omega, coF_0, if_pos (by rw [← hx]; exact ok)]; rfl
          · obtain ⟨k5, ek⟩ : ∃ k5 : Nat, (till - x).toNat = k5 + 1 := ⟨(till - x).toNat - 1, by omega⟩
            have eh : till - ((k5 + 1 : Nat) : Int) = x := by omega
            rw [ek, coF_s, eh, if_pos ok, show d.toNat = 5 by omega]
            have el : (till - (x + 1)).toNat = k5 := by omega
            unfold gF; rw [el]
        have no : ¬ okD r c f from1 x s = true → coF r T c (okD r c f from1) till (till - x).toNat s = 1000 := by
          intro ok
          rcases Nat.eq_zero_or_pos (till - x).toNat with h | h
          · rw [h, coF_0, if_neg (by rw [show till = x by omega]; exact ok)]
          · obtain ⟨k5, ek⟩ : ∃ k5 : Nat, (till - x).toNat = k5 + 1 := ⟨(till - x).toNat - 1, by omega⟩
            rw [ek, coF_s, show till - ((k5 + 1 : Nat) : Int) = x by omega, if_neg ok]
        intro J3 hJ3
        have f3 : okD r c f from1 x s = true → J3 := fun ok => hJ3 ⟨by omega, st u (cv ok), by dsimp only; omega⟩
        refine ⟨by omega, fun z3 => f3 (okD_t.mpr (Or.inl z3)), fun z3 => ?_⟩
        have hsh := m_shades (r := r) (X := X2) (c := c) (s := s) (f := f) (Q := fun (v56 : Int) => R32 v56 ∧ (¬ v56 = 0 → J3) ∧ (v56 = 0 → (0 ≤ ((576 * x) + s) ∧ ((576 * x) + s) < 6912) ∧ (0 ≤ s + 1 ∧ s + 1 ≤ 576 ∧ Fx [97] X (x_st X2 97 ((576 * x) + s) 100000000) ∧ (∀ h : Int, x < h → h ≤ till → FWS r T c (okD r c f from1) till h (x_st X2 97 ((576 * x) + s) 100000000)) ∧ ∀ s' : Int, 0 ≤ s' → s' < s + 1 → (x_st X2 97 ((576 * x) + s) 100000000) 97 (576 * x + s') = fw (coF r T c (okD r c f from1) till (till - x).toNat s')) ∧ (576 - (s + 1)).toNat < (576 - s).toNat)) w e2 c0 c1 s0 (by omega) f0 f1 (fun hs => ⟨by decide, fun _ => f3 (okD_t.mpr (Or.inr hs)), fun z => absurd z (by decide)⟩) (fun hs => ⟨by decide, fun z => absurd rfl z, fun _ => ⟨by omega, st _ (by rw [no (fun z => by rcases okD_t.mp z with z | z; exact z3 z; exact hs z)]; rfl), by omega⟩⟩)
        rw [gN_id (show ¬ s = 576 by omega)] at hsh
        exact hsh
      refine ⟨by omega, fun z3 => fin (Or.inr (by omega)), fun z3 => ⟨by omega, fun z4 => fin (Or.inl (by omega)), fun z4 => ?_⟩⟩
      have hx : x < till := by omega
      have hu : u = fw (mnF (fun d => gF r T c (okD r c f from1) till x s d) d.toNat) := by rcases hu with hu | hu; omega; exact hu.2
      refine m_fewBy (ok := okD r c f from1) w e2 kw c0 c1 (by omega) hx t1 s0 (by omega) d0 (by omega) (k2 (x + 1) (by omega) (by omega)) (coD_576 a1 _) ?_
      have r1 := coF_r (r := r) (T := T) (c := c) (ok := okD r c f from1) (till := till) (till - (x + 1)).toNat (nxF r T c s x d 0)
      have o := oneF_r d
      have ge : gF r T c (okD r c f from1) till x s d = coF r T c (okD r c f from1) till (till - (x + 1)).toNat (nxF r T c s x d 0) + oneF d := rfl
      have mle := mnF_m (g := fun d => gF r T c (okD r c f from1) till x s d) d.toNat
      have mlo : 0 ≤ mnF (fun d => gF r T c (okD r c f from1) till x s d) d.toNat := by
        rcases mnF_at (g := fun d => gF r T c (okD r c f from1) till x s d) d.toNat with h | ⟨d', _, _, e'⟩
        · rw [h]; decide
        · rw [← e']
          have := coF_r (r := r) (T := T) (c := c) (ok := okD r c f from1) (till := till) (till - (x + 1)).toNat (nxF r T c s x d' 0)
          have o' := oneF_r d'
          show 0 ≤ gF r T c (okD r c f from1) till x s d'
          unfold gF; omega
      have ms : mnF (fun d => gF r T c (okD r c f from1) till x s d) (d + 1).toNat = min (mnF (fun d => gF r T c (okD r c f from1) till x s d) d.toNat) (gF r T c (okD r c f from1) till x s d) := by
        rw [show (d + 1).toNat = d.toNat + 1 by omega, mnF_s, show ((d.toNat : Nat) : Int) = d by omega]
      generalize mnF (fun d => gF r T c (okD r c f from1) till x s d) d.toNat = M at hu mle mlo ms
      have fwM : fw M = if M = 1000 then 100000000 else M := rfl
      by_cases hc : coF r T c (okD r c f from1) till (till - (x + 1)).toNat (nxF r T c s x d 0) = 1000
      · rw [if_pos hc]
        have keep : u = fw (mnF (fun d => gF r T c (okD r c f from1) till x s d) (d + 1).toNat) := by
          rw [ms, show min M (gF r T c (okD r c f from1) till x s d) = M by omega]; exact hu
        refine ⟨by omega, by rw [hu, fwM]; split <;> omega, fun _ => ⟨⟨by omega, by omega, Or.inr ⟨hx, keep⟩⟩, by dsimp only; omega⟩, fun z5 => absurd z5 (by rw [hu, fwM]; split <;> omega)⟩
      · rw [if_neg hc]
        have g12 : 0 ≤ gF r T c (okD r c f from1) till x s d ∧ gF r T c (okD r c f from1) till x s d ≤ 12 := by omega
        refine ⟨by omega, by rw [hu, fwM]; split <;> omega, fun z5 => ⟨⟨by omega, by omega, Or.inr ⟨hx, ?_⟩⟩, by dsimp only; omega⟩, fun z5 => ⟨⟨by omega, by omega, Or.inr ⟨hx, ?_⟩⟩, by dsimp only; omega⟩⟩
        · rw [hu, fwM] at z5
          rw [ms, hu]
          split at z5
          · omega
          · rw [show min M (gF r T c (okD r c f from1) till x s d) = M by omega]
        · rw [hu, fwM] at z5
          have : min M (gF r T c (okD r c f from1) till x s d) = gF r T c (okD r c f from1) till x s d := by split at z5 <;> omega
          rw [ms, this]
          unfold fw; rw [if_neg (by omega)]
    exact ⟨by omega, fun z3 => key _ (Or.inr ⟨by omega, rfl⟩), fun z3 => key _ (Or.inl ⟨z3, rfl⟩)⟩
theorem q_drive {LW : s_LW} (hW : LWq LW) (hst : LWst LW) (a1 a2 a3 a4 a5 : Int32) : Pair m_X11_drive m_X12_drive 0 0 (INV LW) [.int a1, .int a2, .int a3, .int a4, .int a5] := by
  obtain ⟨c, rfl, rc⟩ := iI_of a1
  obtain ⟨f, rfl, rf⟩ := iI_of a2
  obtain ⟨fr, rfl, rfr⟩ := iI_of a3
  obtain ⟨tl, rfl, rtl⟩ := iI_of a4
  obtain ⟨i, rfl, ri⟩ := iI_of a5
  refine pair_q hW hst (fun K X Q => w_X11_drive K c f fr tl i X Q) (fun X Q => w_X12_drive c f fr tl i X Q) (by decide) (by decide) (fun hK hn hp hf w => so_X11_drive hK hn hp hf w) (fun hn hp w => so_X12_drive hn hp w) (fun K X T b hT e => ?_)
  have w := b.rw
  have wc := w.2.2.1
  have wc1 := wc.1
  obtain ⟨r, hr⟩ : ∃ r, X 79 = r := ⟨_, rfl⟩
  rw [hr] at b hT e w wc wc1
  have e0 : ∀ X1 : XT, ME r X1 → x_st X1 77 0 0 79 0 = r 0 := fun X1 m => by rw [x_st_c (by decide), m.1]
  have bad : ¬ (0 ≤ c ∧ c < r 0) ∨ ¬ (0 ≤ f ∧ f ≤ 63) ∨ ¬ (0 ≤ fr ∧ fr ≤ 11 ∧ 0 ≤ tl ∧ tl ≤ 11 ∧ fr ≤ tl) ∨ ¬ (-1 ≤ i ∧ i ≤ tl - 1) → w_X12_drive c f fr tl i X (fun v2 X2 => v2 = -1 ∧ Gx kpL X X2) := fun hb => by
    have B : ((-1 : Int) = -1 ∧ Gx kpL X (x_st X 77 0 0)) := ⟨rfl, Gx_of Fx.rf Gx_th⟩
    unfold w_X12_drive
    rw [e0 X e]
    exact ⟨rc, wc1, fun _ => B, fun z1 => ⟨rf, fun _ => B, fun z2 => ⟨rfr, fun _ => B, fun z3 => ⟨rtl, fun _ => B, fun z4 => ⟨fun _ => B, fun z5 => ⟨ri, by omega, fun z6 => absurd hb (by omega), fun _ => B⟩⟩⟩⟩⟩⟩
  unfold w_X11_drive w_X11_isOver
  rw [b.nc]
  refine ⟨rc, by omega, fun z => ⟨by decide, fun _ => bad (Or.inl z), fun z2 => absurd rfl z2⟩, fun z1 => ⟨rf, fun z => ⟨by decide, fun _ => bad (Or.inr (Or.inl z)), fun z2 => absurd rfl z2⟩, fun z2 => ⟨by decide, fun z => absurd z (by decide), fun _ => ⟨rfr, rtl, fun z => bad (Or.inr (Or.inr (Or.inl z))), fun z3 => ⟨ri, by omega, fun z4 => ?_, fun z => bad (Or.inr (Or.inr (Or.inr z)))⟩⟩⟩⟩⟩
  obtain ⟨z3a, z3b, z3c, z3d, z3e⟩ := z3
  -- the reference's answer
  have mm : ∀ (X1 : XT) (V : Int), Fx scC X X1 → (coF r T c (okD r c f fr) tl tl.toNat (bgF r c) = 1000 → V = -1) → (coF r T c (okD r c f fr) tl tl.toNat (bgF r c) < 1000 → V = if i = -1 then coF r T c (okD r c f fr) tl tl.toNat (bgF r c) else stepF r T c (okD r c f fr) tl i (pthF r T c (okD r c f fr) tl i.toNat)) → w_X12_drive c f fr tl i X1 (fun v2 X2 => v2 = V ∧ Gx kpL X X2) := by
    intro X1 V f1 v0 v1
    have e1 : ME r X1 := e.fx f1
    have bg := bgF_r wc z1.1 z1.2
    unfold w_X12_drive
    rw [e0 X1 e1]
    refine ⟨rc, wc1, fun z => absurd (by omega) z, fun _ => ⟨rf, fun z => absurd z2 z, fun _ => ⟨rfr, fun z => absurd ⟨z3a, z3b⟩ z, fun _ => ⟨rtl, fun z => absurd ⟨z3c, z3d⟩ z, fun _ => ⟨fun z => absurd z (by omega), fun _ => ⟨ri, by omega, fun _ => ?_, fun z => absurd z4 z⟩⟩⟩⟩⟩⟩
    refine m_works w hT b.2.2.2 e1.th z1.1 z1.2 (fun X2 g2 k2 => ?_)
    have e2 : ME r X2 := e1.th.go g2 rfl
    refine m_findDrive w e2.1 k2 z1.1 z1.2 z2.1 z2.2 z3a z3e z3d (fun X3 f3 k3 => ?_)
    have g3 : Gx scM X1 X3 := (Gx_th.trans (g2.sub (by decide))).trans ⟨fun d hd k => f3 d (el_sub (l2 := scM) (by decide) hd), fun _ _ => by rw [f3 77 rfl]⟩
    have e3 : X3 79 = r := by rw [f3 79 rfl]; exact e2.1
    have kw : WKS r T c X3 := fun h s a b c d => by rw [f3 96 rfl]; exact k2 h s a b c d
    refine m_begins w e3 z1.1 z1.2 ?_
    have fv := k3 0 (by decide) z3c (bgF r c) bg.1 (by omega)
    rw [show 576 * 0 + bgF r c = bgF r c by omega, show tl - 0 = tl by omega] at fv
    have cr := coF_r (r := r) (T := T) (c := c) (ok := okD r c f fr) (till := tl) tl.toNat (bgF r c)
    rw [fv]
    by_cases hc : coF r T c (okD r c f fr) tl tl.toNat (bgF r c) = 1000
    · refine ⟨by omega, by unfold fw; rw [if_pos hc]; decide, fun z => absurd z (by unfold fw; rw [if_pos hc]; decide), fun _ => ⟨(v0 hc).symm, Gx_of f1 g3⟩⟩
    · have hc2 : coF r T c (okD r c f fr) tl tl.toNat (bgF r c) < 1000 := by omega
      have vv := v1 hc2
      have fe : fw (coF r T c (okD r c f fr) tl tl.toNat (bgF r c)) = coF r T c (okD r c f fr) tl tl.toNat (bgF r c) := if_neg hc
      rw [fe]
      refine ⟨by omega, by omega, fun _ => ⟨fun hi => ?_, fun hi => ⟨by rw [vv, if_pos hi], Gx_of f1 g3⟩⟩, fun z => absurd (by omega) z⟩
      refine ⟨fun at_ its h => 0 ≤ h ∧ h ≤ i + 1 ∧ (h ≤ i → at_ = pthF r T c (okD r c f fr) tl h.toNat) ∧ (h = i + 1 → its = stepF r T c (okD r c f fr) tl i (pthF r T c (okD r c f fr) tl i.toNat)), fun _ _ h => (i + 1 - h).toNat, ⟨by decide, by omega, fun _ => rfl, fun z => absurd z (by omega)⟩, ?_⟩
      rintro at_ its h ⟨h0, h1, ha, hs⟩
      refine ⟨by omega, fun z => ⟨by rw [hs (by omega), vv, if_neg hi], Gx_of f1 g3⟩, fun z => ?_⟩
      have ha := ha (by omega)
      have eh : ((h.toNat : Nat) : Int) = h := by omega
      have pr := pthF_r (T := T) (ok := okD r c f fr) (till := tl) wc z1.1 z1.2 h.toNat
      have pc := pth_cost (r := r) (T := T) (c := c) (ok := okD r c f fr) hc2 h.toNat (by omega)
      rw [eh] at pc
      have pn : ¬ pthF r T c (okD r c f fr) tl h.toNat = 576 := fun z => by
        rw [z, coD_576 z3e] at pc; omega
      obtain ⟨_, sp, sg, sn⟩ := stepF_at h0 (by omega) pc
      subst ha
      have fp := k3 h h0 (by omega) _ pr.1 (show pthF r T c (okD r c f fr) tl h.toNat < 576 by omega)
      have cr2 := coF_r (r := r) (T := T) (c := c) (ok := okD r c f fr) (till := tl) (tl - h).toNat (pthF r T c (okD r c f fr) tl h.toNat)
      have fpe : fw (coF r T c (okD r c f fr) tl (tl - h).toNat (pthF r T c (okD r c f fr) tl h.toNat)) = coF r T c (okD r c f fr) tl (tl - h).toNat (pthF r T c (okD r c f fr) tl h.toNat) := if_neg (by omega)
      rw [fpe] at fp
      refine ⟨fun d => 0 ≤ d ∧ d ≤ stepF r T c (okD r c f fr) tl h (pthF r T c (okD r c f fr) tl h.toNat), fun d => (5 - d).toNat, ⟨by decide, sp.1⟩, ?_⟩
      rintro d ⟨d0, d1⟩
      refine m_fewBy (ok := okD r c f fr) w e3 kw z1.1 z1.2 h0 (by omega) z3d pr.1 (by omega) d0 (by omega) (k3 (h + 1) (by omega) (by omega)) (coD_576 z3e _) ?_
      have r1 := coF_r (r := r) (T := T) (c := c) (ok := okD r c f fr) (till := tl) (tl - (h + 1)).toNat (nxF r T c (pthF r T c (okD r c f fr) tl h.toNat) h d 0)
      have o := oneF_r d
      have ge : gF r T c (okD r c f fr) tl h (pthF r T c (okD r c f fr) tl h.toNat) d = coF r T c (okD r c f fr) tl (tl - (h + 1)).toNat (nxF r T c (pthF r T c (okD r c f fr) tl h.toNat) h d 0) + oneF d := rfl
      rw [fp]
      have eqv : ((if coF r T c (okD r c f fr) tl (tl - (h + 1)).toNat (nxF r T c (pthF r T c (okD r c f fr) tl h.toNat) h d 0) = 1000 then 100000000 else gF r T c (okD r c f fr) tl h (pthF r T c (okD r c f fr) tl h.toNat) d) = coF r T c (okD r c f fr) tl (tl - h).toNat (pthF r T c (okD r c f fr) tl h.toNat)) ↔ gF r T c (okD r c f fr) tl h (pthF r T c (okD r c f fr) tl h.toNat) d = coF r T c (okD r c f fr) tl (tl - h).toNat (pthF r T c (okD r c f fr) tl h.toNat) := by
        by_cases hcc : coF r T c (okD r c f fr) tl (tl - (h + 1)).toNat (nxF r T c (pthF r T c (okD r c f fr) tl h.toNat) h d 0) = 1000
        · rw [if_pos hcc]; constructor <;> intro y <;> omega
        · rw [if_neg hcc]
      refine ⟨by omega, by split <;> omega, by omega, fun y => ?_, fun y => ⟨⟨by omega, ?_⟩, by dsimp only; omega⟩⟩
      · have hd : d = stepF r T c (okD r c f fr) tl h (pthF r T c (okD r c f fr) tl h.toNat) := by
          by_cases hq : d = stepF r T c (okD r c f fr) tl h (pthF r T c (okD r c f fr) tl h.toNat)
          · exact hq
          · exact absurd (eqv.mp y) (sn d d0 (by omega))
        refine m_next w e3 kw z1.1 z1.2 h0 (by omega) pr.1 (by omega) (Or.inl rfl) d0 (by omega) ⟨⟨by omega, by omega, fun y2 => ?_, fun y2 => ?_⟩, by dsimp only; omega⟩
        · have pc2 := pth_cost (r := r) (T := T) (c := c) (ok := okD r c f fr) hc2 (h.toNat + 1) (by omega)
          have pn2 : ¬ pthF r T c (okD r c f fr) tl (h.toNat + 1) = 576 := fun z => by
            rw [z, coD_576 z3e] at pc2; omega
          rw [show (h + 1).toNat = h.toNat + 1 by omega]
          rw [pthF_s, eh, ← hd] at pn2 ⊢
          exact gN_id pn2
        · rw [show i = h by omega]; exact hd
      · by_cases hq : d = stepF r T c (okD r c f fr) tl h (pthF r T c (okD r c f fr) tl h.toNat)
        · exact absurd (eqv.mpr (by rw [hq]; exact sg)) y
        · omega
  -- the class's
  have bg := bgF_r wc z1.1 z1.2
  refine e_start b Fx.rf z1.1 z1.2 (e_take b Fx.rf z1.1 z1.2 (fun X1 f1 p1 => ?_))
  have f1b : Fx scC X X1 := f1.sub (by decide)
  refine e_spread b f1b z1.1 z1.2 p1 (by decide) z3c z3d bg.1 (by omega) (Or.inl rfl) (Or.inl rfl) (fun X2 f2 sp2 => ?_)
  have f2b : Fx scC X X2 := f1b.trans (f2.sub (by decide))
  obtain ⟨mk2, p2, st2, _, cl2⟩ := sp2
  have hx59 : ∀ j : Int, 0 ≤ j → j < 6924 → 0 ≤ j / 577 ∧ j / 577 ≤ 11 ∧ 0 ≤ j % 577 ∧ j % 577 ≤ 576 ∧ j = j / 577 * 577 + j % 577 := fun j _ _ => by omega
  -- what is struck
  refine ⟨fun x X3 => fr ≤ x ∧ x ≤ tl + 1 ∧ Fx [59] X2 X3 ∧ ∀ h s : Int, 0 ≤ h → h ≤ 11 → 0 ≤ s → s ≤ 576 → X3 59 (h * 577 + s) = if fr ≤ h ∧ h < x ∧ ¬ shP r c s f then 0 else X2 59 (h * 577 + s), fun x _ => (tl + 1 - x).toNat, ⟨Int.le_refl _, by omega, Fx.rf, fun h s _ _ _ _ => (if_neg (by omega)).symm⟩, ?_⟩
  rintro x X3 ⟨x0, x1, f3, k3⟩
  refine ⟨by omega, rtl, fun y => ?_, fun y => ?_⟩
  · have ex : x = tl + 1 := by omega
    subst ex
    have f3b : Fx scC X X3 := f2b.trans (f3.sub (by decide))
    have mk3 : MKS r T c X3 := fun h s a b c d => by
      rw [k3 h s a b c d]
      split
      · exact Or.inl rfl
      · exact mk2 h s a b c d
    have hr3 : ∀ h s : Int, 0 ≤ h → h ≤ tl → 0 ≤ s → s ≤ 576 → ¬ X2 59 (h * 577 + s) = 0 → (¬ X3 59 (h * 577 + s) = 0 ↔ okD r c f fr h s = true) := fun h s a b c' d hm => by
      rw [k3 h s a (by omega) c' d, okD_t]
      by_cases hq : fr ≤ h ∧ h < tl + 1 ∧ ¬ shP r c s f
      · rw [if_pos hq]
        exact ⟨fun z => absurd rfl z, fun z => by rcases z with z | z; omega; exact absurd z hq.2.2⟩
      · rw [if_neg hq]
        refine ⟨fun _ => ?_, fun _ => hm⟩
        by_cases hs : shP r c s f
        · exact Or.inr hs
        · exact Or.inl (by
            by_cases h2 : h < fr
            · exact h2
            · exact absurd ⟨by omega, by omega, hs⟩ hq)
    have hn3 : ∀ h s : Int, 0 ≤ h → h < tl → 0 ≤ s → s ≤ 576 → ¬ X3 59 (h * 577 + s) = 0 → ¬ X2 59 (h * 577 + s) = 0 := fun h s a b c' d hm hz => by
      rw [k3 h s a (by omega) c' d] at hm
      split at hm
      · exact hm rfl
      · exact hm hz
    have hc3 : ∀ h s d : Int, 0 ≤ h → h < tl → 0 ≤ s → s ≤ 576 → ¬ X2 59 (h * 577 + s) = 0 → 0 ≤ d → d ≤ 4 → ¬ X2 59 ((h + 1) * 577 + nxF r T c s h d 0) = 0 := fun h s d a b c' d' hm d0 d1 => by
      have := cl2 h s a b c' d' hm d 4 0 ⟨d0, d1, Or.inl ⟨rfl, rfl⟩, Or.inl rfl⟩
      rw [nyF_4] at this; exact this
    refine e_costs (RS := fun h s => ¬ X2 59 (h * 577 + s) = 0) (ok := okD r c f fr) w (p2.fx f3 rfl) z1.1 z1.2 mk3 z3c z3d hr3 hn3 hc3 (fun X4 f4 k4 => ?_)
    have f4b : Fx scC X X4 := f3b.trans (f4.sub (by decide))
    have mk4 : MKS r T c X4 := fun h s a b c d => by rw [f4 59 rfl]; exact mk3 h s a b c d
    refine e_costOf (by decide) (by decide) bg.1 (by omega) ?_
    have v0 := k4 0 (bgF r c) (by decide) z3c bg.1 (by omega) st2
    rw [show tl - 0 = tl by omega] at v0
    rw [v0]
    have cr := coF_r (r := r) (T := T) (c := c) (ok := okD r c f fr) (till := tl) tl.toNat (bgF r c)
    refine ⟨by omega, fun hc => ⟨ri, fun hi => ?_, fun hi => mm X4 _ f4b (fun z => by omega) (fun _ => by rw [if_pos hi])⟩, fun hc => mm X4 _ f4b (fun _ => rfl) (fun z => absurd z hc)⟩
    refine e_cheapIn (RS := fun h s => ¬ X2 59 (h * 577 + s) = 0) (ok := okD r c f fr) w ((p2.fx f3 rfl).fx f4 rfl) z1.1 z1.2 mk4 (by omega) (by omega) z3d (fun h s a b c' d hm => by rw [f4 59 rfl]; exact hr3 h s a b c' d hm) st2 hc3 k4 hc ?_
    exact mm X4 _ f4b (fun z => by omega) (fun _ => by rw [if_neg hi])
  · refine ⟨fun s X4 => 0 ≤ s ∧ s ≤ 577 ∧ Fx [59] X2 X4 ∧ ∀ h s' : Int, 0 ≤ h → h ≤ 11 → 0 ≤ s' → s' ≤ 576 → X4 59 (h * 577 + s') = if fr ≤ h ∧ (h < x ∨ (h = x ∧ s' < s)) ∧ ¬ shP r c s' f then 0 else X2 59 (h * 577 + s'), fun s _ => (577 - s).toNat, ⟨by decide, by decide, f3, fun h s' a b c' d => ?_⟩, ?_⟩
    · rw [k3 h s' a b c' d]
      by_cases hq : fr ≤ h ∧ h < x ∧ ¬ shP r c s' f
      · rw [if_pos hq, if_pos ⟨hq.1, Or.inl hq.2.1, hq.2.2⟩]
      · rw [if_neg hq, if_neg]
        rintro ⟨a1, a2, a3⟩
        exact hq ⟨a1, by omega, a3⟩
    rintro s X4 ⟨s0, s1, f4, k4⟩
    have f4b : Fx scC X X4 := f2b.trans (f4.sub (by decide))
    refine ⟨by omega, fun y2 => ⟨⟨by omega, by omega, f4, fun h s' a b c' d => ?_⟩, by dsimp only; omega⟩, fun y2 => ?_⟩
    · rw [k4 h s' a b c' d]
      by_cases hq : fr ≤ h ∧ h < x + 1 ∧ ¬ shP r c s' f
      · rw [if_pos hq, if_pos ⟨hq.1, by omega, hq.2.2⟩]
      · rw [if_neg hq, if_neg]
        rintro ⟨a1, a2, a3⟩
        exact hq ⟨a1, by omega, a3⟩
    · have pc4 : X4 58 3 = c := by rw [f4 58 rfl]; exact p2.1
      unfold w_X2_shades
      rw [pc4]
      refine e_covers b f4b z1.1 z1.2 s0 (by omega) z2.1 z2.2 (fun hs => ⟨by decide, by decide, fun _ => ⟨⟨by omega, by omega, f4, fun h s' a b c' d => ?_⟩, by dsimp only; omega⟩, fun z => absurd z (by decide)⟩) (fun hs => ⟨by decide, by decide, fun z => absurd rfl z, fun _ => ⟨by omega, fun z => absurd z (by omega), fun _ => ⟨fun z => absurd z (by omega), fun _ => ⟨by omega, ⟨by omega, by omega, f4.st rfl, fun h s' a b c' d => ?_⟩, by dsimp only; omega⟩⟩⟩⟩)
      · rw [k4 h s' a b c' d]
        by_cases hq : h = x ∧ s' = s
        · obtain ⟨rfl, rfl⟩ := hq
          rw [if_neg (fun z => z.2.2 hs), if_neg (fun z => z.2.2 hs)]
        · by_cases hq2 : fr ≤ h ∧ (h < x ∨ h = x ∧ s' < s) ∧ ¬ shP r c s' f
          · rw [if_pos hq2, if_pos ⟨hq2.1, by omega, hq2.2.2⟩]
          · rw [if_neg hq2, if_neg]
            rintro ⟨a1, a2, a3⟩
            exact hq2 ⟨a1, by omega, a3⟩
      · by_cases hq : h * 577 + s' = x * 577 + s
        · obtain ⟨rfl, rfl⟩ : h = x ∧ s' = s := by omega
          rw [x_st_at, if_pos ⟨x0, by omega, hs⟩]
        · rw [x_st_ne hq, k4 h s' a b c' d]
          by_cases hq2 : fr ≤ h ∧ (h < x ∨ h = x ∧ s' < s) ∧ ¬ shP r c s' f
          · rw [if_pos hq2, if_pos ⟨hq2.1, by omega, hq2.2.2⟩]
          · rw [if_neg hq2, if_neg]
            rintro ⟨a1, a2, a3⟩
            exact hq2 ⟨a1, by omega, a3⟩

/-! TEXTS: the reference reads a law -/
def zQS (f : Int → Int) (n M : Int) (pl : Int → Int) (X : XT) (i v : Int) (c : zCD) : Prop := zAT f n M pl X i ∧ X 77 14 = 0 ∧ X 77 21 = v ∧ (X 84 = c.1 ∧ X 85 = c.2.1 ∧ X 77 18 = c.2.2) ∧ (0 ≤ c.2.2 ∧ c.2.2 ≤ i) ∧ (0 ≤ v ∧ v ≤ 50)
def zBd (M : Int) (pl : Int → Int) (X : XT) (i : Int) : Prop := X 77 14 = 1 ∧ X 77 13 = pl i ∧ i ≤ M - 1
def LFr (X X1 : XT) : Prop := Fx [77, 83, 84, 85, 86, 87, 113] X X1 ∧ ∀ f : Int, (f < 9 ∨ f = 15 ∨ f = 17 ∨ f = 19 ∨ f = 20 ∨ f = 22 ∨ f = 23 ∨ 25 < f) → X1 77 f = X 77 f
theorem LFr.rf {X : XT} : LFr X X := ⟨Fx.rf, fun _ _ => rfl⟩
theorem LFr.tr {X X1 X2 : XT} (a : LFr X X1) (b : LFr X1 X2) : LFr X X2 := ⟨a.1.trans b.1, fun f h => (b.2 f h).trans (a.2 f h)⟩
theorem LFr.ofM {X X1 : XT} (a : MFr X X1) : LFr X X1 := ⟨a.1.sub (by decide), fun f h => a.2 f (by omega)⟩
theorem LFr.ar {X X1 : XT} {c : Nat} {f v : Int} (a : LFr X X1) (h : c = 83 ∨ c = 113) : LFr X (x_st X1 c f v) := ⟨a.1.st (by rcases h with rfl | rfl <;> rfl), fun g hg => by rw [x_st_c (by omega)]; exact a.2 g hg⟩
theorem LFr.f7 {X X1 : XT} {f v : Int} (a : LFr X X1) (h : f = 13 ∨ f = 14 ∨ f = 16) : LFr X (x_st X1 77 f v) := ⟨a.1.st rfl, fun g hg => by rw [x_st_ne (by omega)]; exact a.2 g hg⟩
theorem zQS.ar {f : Int → Int} {n M : Int} {pl : Int → Int} {X : XT} {i v : Int} {c : zCD} (h : zQS f n M pl X i v c) {k : Nat} {j w : Int} (hk : k = 83 ∨ k = 113) : zQS f n M pl (x_st X k j w) i v c := by
  have e : ∀ m : Nat, ¬ m = 83 → ¬ m = 113 → x_st X k j w m = X m := fun m a b => x_st_c (by omega)
  obtain ⟨h1, h2, h3, h4, h5⟩ := h
  refine ⟨h1.go (fun g hg => by rw [e 77 (by decide) (by decide)]) (e 82 (by decide) (by decide)), ?_, ?_, ?_, h5⟩
  · rw [e 77 (by decide) (by decide)]; exact h2
  · rw [e 77 (by decide) (by decide)]; exact h3
  · rw [e 77 (by decide) (by decide), e 84 (by decide) (by decide), e 85 (by decide) (by decide)]; exact h4
theorem zQS.f16 {f : Int → Int} {n M : Int} {pl : Int → Int} {X : XT} {i v : Int} {c : zCD} (h : zQS f n M pl X i v c) {w : Int} : zQS f n M pl (x_st X 77 16 w) i v c := by
  obtain ⟨h1, h2, h3, h4, h5⟩ := h
  refine ⟨h1.go (fun g hg => x_st_ne (by omega)) (x_st_c (by decide)), ?_, ?_, ?_, h5⟩
  · rw [x_st_ne (by decide)]; exact h2
  · rw [x_st_ne (by decide)]; exact h3
  · rw [x_st_ne (by decide), x_st_c (by decide), x_st_c (by decide)]; exact h4
theorem zQS.nx {f : Int → Int} {n M : Int} {pl : Int → Int} {X X1 : XT} {i v : Int} {c : zCD} (h : zQS f n M pl X i v c) (a : NFr X X1) (a1 : zAT f n M pl X1 (i + 1)) : zQS f n M pl X1 (i + 1) v c := by
  obtain ⟨h1, h2, h3, h4, h5, h6⟩ := h
  exact ⟨a1, (a.2 14 (by decide)).trans h2, (a.2 21 (by decide)).trans h3, ⟨(a.1 84 rfl).trans h4.1, (a.1 85 rfl).trans h4.2.1, (a.2 18 (by decide)).trans h4.2.2⟩, by omega, h6⟩
theorem m_readE {f : Int → Int} {n M : Int} {tk pl bh : Int → Int} {lw test : Bool} {a0 : Int} {X : XT} {i v : Int} {c : zCD} {Q : XT → Prop} (s : zRS f n M tk pl bh) (ho : X 77 15 = if lw = true then 0 else 1) (h88 : X 88 = X0 88) (h89 : X 89 = X0 89) (ra : R32 a0) (ha : test = false ↔ a0 = 0) (z : zQS f n M pl X i v c) (i1 : 1 ≤ i) {fu : Nat} (hfu : 28 ≤ fu) {r : zRT} (er : zrd lw tk fu (if test = true then 0 else 2) 0 i v = r) (q : ∀ X1, MFr X X1 → (r.1 = true → ∃ c' : zCD, zQS f n M pl X1 r.2.1 r.2.2.1 c' ∧ zEX c c' ∧ zRP lw c' c.2.2 c'.2.2 r.2.2.2 (r.2.2.1 - v) ∧ (test = true → zTB r.2.2.2)) → (r.1 = false → zBd M pl X1 r.2.1) → Q X1) : w_X12_readExpression a0 X Q := by
  obtain ⟨h1, h2, h3, h4, h5, h6⟩ := z
  refine m_readExpr s ho h88 h89 ra ha h1 i1 h2 h3 h4 h5 h6 hfu er (fun X1 f1 y1 y2 => q X1 f1 (fun hr => ?_) y2)
  obtain ⟨c', ms, mb, ex, rp, tb⟩ := y1 hr
  have pe : pend ([] : zPL) = 0 := rfl
  exact ⟨c', ⟨ms.1, ms.2.1, ms.2.2.1, ms.2.2.2.1.1, ⟨mb.1.1.1, by have := mb.1.1.2; omega⟩, mb.2.1⟩, ex, rp, tb⟩
def zRow (X : XT) (m k a b e g : Int) : Prop := X 83 (8 * m) = k ∧ (X 83 (8 * m + 1) = 0 ∧ X 83 (8 * m + 2) = 0) ∧ X 83 (8 * m + 3) = a ∧ X 83 (8 * m + 4) = b ∧ X 83 (8 * m + 5) = e ∧ X 83 (8 * m + 6) = g ∧ X 83 (8 * m + 7) = 0
/-- what a law's clause is over the picture -/
def zLwR (f : Int → Int) (n M : Int) (tk pl : Int → Int) (lw : Bool) (fu : Nat) (X : XT) (i v : Int) (c : zCD) (X1 : XT) : Prop :=
  (¬ ((15 ≤ tk i ∧ tk i ≤ 18) ∧ X 77 16 < 12) → zBd M pl X1 i) ∧ (((15 ≤ tk i ∧ tk i ≤ 18) ∧ X 77 16 < 12) → ∀ S : zRT, S = (if tk i = 18 then (true, i + 1, v, dNo) else zrd lw tk fu 2 0 (i + 1) v) → (S.1 = false → zBd M pl X1 S.2.1) ∧ (S.1 = true → ∃ c1 : zCD, zEX c c1 ∧ (tk i = 18 → c1 = c) ∧ (¬ tk i = 18 → zRP lw c1 c.2.2 c1.2.2 S.2.2.2 (S.2.2.1 - v)) ∧ (¬ tk S.2.1 = 24 → zQS f n M pl X1 S.2.1 S.2.2.1 c1 ∧ X1 77 16 = X 77 16 + 1 ∧ zRow X1 (X 77 16) (tk i - 15) c.2.2 c1.2.2 c1.2.2 c1.2.2) ∧ (tk S.2.1 = 24 → ∀ T : zRT, T = zrd lw tk fu 0 0 (S.2.1 + 1) S.2.2.1 → (T.1 = false → zBd M pl X1 T.2.1) ∧ (T.1 = true → ∃ c2 : zCD, zQS f n M pl X1 T.2.1 T.2.2.1 c2 ∧ zEX c1 c2 ∧ zRP lw c2 c1.2.2 c2.2.2 T.2.2.2 (T.2.2.1 - S.2.2.1) ∧ zTB T.2.2.2 ∧ X1 77 16 = X 77 16 + 1 ∧ zRow X1 (X 77 16) (tk i - 15) c.2.2 c1.2.2 c1.2.2 c2.2.2)))) ∧ ∀ j : Int, j < 8 * X 77 16 → X1 83 j = X 83 j
/-- the kind's word -/
theorem m_kind {t : Int} {X : XT} {Q : Int → Prop} (o : zOb t X) (h : X 90 = X0 90) (q1 : (15 ≤ t ∧ t ≤ 18) → Q (t - 15)) (q0 : ¬ (15 ≤ t ∧ t ≤ 18) → Q (-1)) : ∃ (I3 : Int → Int → Prop) (m4 : Int → Int → Nat), I3 (-1) 0 ∧ ∀ (x1 : Int) (x2 : Int), I3 x1 x2 → R32 x2 ∧ (4 ≤ x2 → Q x1) ∧ (¬ 4 ≤ x2 → (0 ≤ x2 ∧ x2 < 4) ∧ w_X12_isWord (X 90 x2) X (fun (v126 : Int) => R32 v126 ∧ (v126 = 0 → I3 x1 (x2 + 1) ∧ m4 x1 (x2 + 1) < m4 x1 x2) ∧ (¬ v126 = 0 → I3 x2 (x2 + 1) ∧ m4 x2 (x2 + 1) < m4 x1 x2))) := by
  have hw : ∀ k : Nat, k < 4 → X 90 (k : Int) = zwc (15 + k) := by
    rw [h]
    decide +kernel
  refine ⟨fun its x => ∃ k : Nat, x = (k : Int) ∧ k ≤ 4 ∧ ((its = -1 ∧ ¬ (15 ≤ t ∧ t < 15 + k)) ∨ (15 ≤ t ∧ t < 15 + k ∧ its = t - 15)), fun _ x => (4 - x).toNat, ⟨0, rfl, by decide, Or.inl ⟨rfl, by omega⟩⟩, ?_⟩
  rintro its x ⟨k, rfl, k1, hk⟩
  refine ⟨by omega, fun z => ?_, fun z => ⟨by omega, ?_⟩⟩
  · rcases hk with ⟨rfl, h⟩ | ⟨h1, h2, rfl⟩
    · exact q0 (by omega)
    · exact q1 (by omega)
  · rw [hw k (by omega)]
    refine m_isWord o (by omega) (fun y => ⟨by decide, fun z => absurd z (by decide), fun _ => ⟨⟨k + 1, by omega, by omega, Or.inr ⟨by omega, by omega, by omega⟩⟩, by dsimp only; omega⟩⟩) (fun y => ⟨by decide, fun _ => ⟨⟨k + 1, by omega, by omega, ?_⟩, by dsimp only; omega⟩, fun z => absurd rfl z⟩)
    rcases hk with ⟨rfl, h⟩ | ⟨h1, h2, rfl⟩
    · exact Or.inl ⟨rfl, by omega⟩
    · exact Or.inr ⟨by omega, by omega, rfl⟩

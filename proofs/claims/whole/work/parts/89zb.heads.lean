/-! TEXTS: the class reads a sum of a clause, and a test -/
def kQS (lw : Bool) (tk : Int → Int) (X : XT) (i v : Int) : Prop := TKX lw tk X ∧ X 33 6 = i ∧ X 33 7 = v ∧ (0 ≤ i ∧ i ≤ 400) ∧ (0 ≤ v ∧ v ≤ 50) ∧ (0 ≤ X 37 3 ∧ X 37 3 % 2 = 0 ∧ zNC X) ∧ X 37 3 ≤ 2 * i
/-- code below s and heads outside k .. e are kept -/
def kKp (s k e : Int) (X X1 : XT) : Prop := Fx [33, 37, 38, 39] X X1 ∧ (∀ f : Int, ¬ f = 6 → ¬ f = 7 → X1 33 f = X 33 f) ∧ (∀ f : Int, ¬ f = 3 → ¬ f = 4 → X1 37 f = X 37 f) ∧ (∀ j : Int, j < s → X1 39 j = X 39 j) ∧ (∀ j : Int, (j < k ∨ e ≤ j) → X1 38 j = X 38 j) ∧ X 37 3 ≤ X1 37 3
theorem kKp.rf {s k e : Int} {X : XT} : kKp s k e X X := ⟨Fx.rf, fun _ _ _ => rfl, fun _ _ _ => rfl, fun _ _ => rfl, fun _ _ => rfl, Int.le_refl _⟩
theorem kKp.tr {s k e s' k' e' : Int} {X X1 X2 : XT} (a : kKp s k e X X1) (b : kKp s' k' e' X1 X2) {s2 k2 e2 : Int} (h : (s2 ≤ s ∧ s2 ≤ s') ∧ k2 ≤ k ∧ k2 ≤ k' ∧ e ≤ e2 ∧ e' ≤ e2) : kKp s2 k2 e2 X X2 := ⟨a.1.trans b.1, fun f h1 h2 => (b.2.1 f h1 h2).trans (a.2.1 f h1 h2), fun f h1 h2 => (b.2.2.1 f h1 h2).trans (a.2.2.1 f h1 h2), fun j hj => (b.2.2.2.1 j (by omega)).trans (a.2.2.2.1 j (by omega)), fun j hj => (b.2.2.2.2.1 j (by omega)).trans (a.2.2.2.2.1 j (by omega)), Int.le_trans a.2.2.2.2.2 b.2.2.2.2.2⟩
theorem kKp.of {s k e : Int} {X X1 : XT} (a : CFr X X1) (h : ∀ j : Int, j < s → X1 39 j = X 39 j) (g : X 37 3 ≤ X1 37 3) : kKp s k e X X1 := ⟨a.1.sub (by decide), a.2.1, a.2.2.1, h, fun j _ => by rw [a.1 38 rfl], g⟩
theorem kKp.hd {s k e j w : Int} {X : XT} (h : k ≤ j ∧ j < e) : kKp s k e X (x_st X 38 j w) := ⟨Fx.rf.st rfl, fun f _ _ => by rw [x_st_c (by decide)], fun f _ _ => by rw [x_st_c (by decide)], fun f _ => by rw [x_st_c (by decide)], fun f hf => x_st_ne (by omega), by rw [x_st_c (by decide)]; exact Int.le_refl _⟩
theorem kKp.nx {s k e w : Int} {X : XT} : kKp s k e X (x_st X 33 6 w) := ⟨Fx.rf.st rfl, fun f h _ => x_st_ne h, fun f _ _ => by rw [x_st_c (by decide)], fun f _ => by rw [x_st_c (by decide)], fun f _ => by rw [x_st_c (by decide)], by rw [x_st_c (by decide)]; exact Int.le_refl _⟩
theorem TKX.kp {lw : Bool} {tk : Int → Int} {X X1 : XT} {s k e : Int} (h : TKX lw tk X) (a : kKp s k e X X1) : TKX lw tk X1 := by
  unfold TKX
  rw [a.2.1 5 (by decide) (by decide), a.2.1 9 (by decide) (by decide), a.1 35 rfl]
  exact h
theorem TKX.h400 {lw : Bool} {tk : Int → Int} {X : XT} (h : TKX lw tk X) : ∀ j : Int, 400 ≤ j → tk j = 29 := fun j hj => h.2.2.1 j (by have := h.1; omega)
/-- the code of a head -/
def kSm (lw : Bool) (X : XT) (k : Int) (D : zDT) (L : Int) : Prop := 0 ≤ X 38 k ∧ ∃ e : Int, zRC lw (X 39) (X 38 k) e D L ∧ X 39 e = 0 ∧ e + 2 ≤ X 37 3
theorem kSm.kp {lw : Bool} {X X1 : XT} {k s k' e' L : Int} {D : zDT} (h : kSm lw X k D L) (a : kKp s k' e' X X1) (hs : X 37 3 ≤ s) (hk : k < k' ∨ e' ≤ k) : kSm lw X1 k D L := by
  obtain ⟨h0, e, h1, h2, h3⟩ := h
  have hd := a.2.2.2.2.1 k hk
  refine ⟨by rw [hd]; exact h0, e, ?_, (a.2.2.2.1 e (by omega)).trans h2, by have := a.2.2.2.2.2; omega⟩
  rw [hd]
  exact h1.cg (fun j _ j1 => a.2.2.2.1 j (by omega))
theorem e_setHead {m k w : Int} {X : XT} {Q : XT → Prop} (h : 0 ≤ m * 6 + k ∧ m * 6 + k < 72) (q : Q (x_st X 38 (m * 6 + k) w)) : w_X7_setHead m k w X Q := ⟨by omega, fun z => absurd z (by omega), fun _ => ⟨fun z => absurd z (by omega), fun _ => ⟨h, q⟩⟩⟩
theorem e_code {lw : Bool} {tk : Int → Int} {X : XT} {m k i v : Int} {sel : Nat} {P : Int → XT → Prop} (hs : sel = 2 ∨ sel = 0) (h : 0 ≤ m * 6 + k ∧ m * 6 + k < 72) (z : kQS lw tk X i v) (i1 : 1 ≤ i) (sz : X 37 3 + 2 ≤ 2 * i) {r : zRT} (er : zrd lw tk 60 sel 0 i v = r) (q : ∀ X1, kKp (X 37 3) (m * 6 + k) (m * 6 + k + 1) X X1 → kQS lw tk X1 r.2.1 r.2.2.1 → (r.1 = true → i < r.2.1 ∧ kSm lw X1 (m * 6 + k) r.2.2.2 (r.2.2.1 - v)) → P (if r.1 = true then 1 else 0) X1) : w_X7_setHead m k (X 37 3) X (fun X2 => w_parse 60 sel 0 X2 (fun v7 X8 => w_X7_emit 0 0 X8 (fun X14 => P v7 X14))) := by
  obtain ⟨z1, z2, z3, z4, z5, z6⟩ := z
  refine e_setHead h ?_
  generalize hX2 : x_st X 38 (m * 6 + k) (X 37 3) = X2
  have a0 : kKp (X 37 3) (m * 6 + k) (m * 6 + k + 1) X X2 := by rw [← hX2]; exact kKp.hd (by omega)
  have n2 : X2 37 3 = X 37 3 := by rw [← hX2, x_st_c (by decide)]
  have hd : X2 38 (m * 6 + k) = X 37 3 := by rw [← hX2, x_st_at]
  have c33 : X2 33 = X 33 := by rw [← hX2, x_st_c (by decide)]
  have nc2 : zNC X2 := by rw [← hX2]; exact z6.1.2.2.cg (by rw [x_st_c (by decide)]) (by rw [x_st_c (by decide)]) (x_st_c (by decide))
  have mo := rd_mov (lw := lw) z1.h400 60 sel 0 i v z4.1 z4.2
  rw [er] at mo
  obtain ⟨⟨m1, m2⟩, m3, m4, m5⟩ := mo
  have cr : zCR lw tk (w_parse 60 sel 0) (zrd lw tk 60 sel 0) := by
    have := e_all (lw := lw) (tk := tk) 60 0 (by decide) (by decide)
    rcases hs with rfl | rfl
    · exact this.2.1 (by decide)
    · exact this.2.2.2 (by decide)
  refine cr i v X2 _ (z1.kp a0) (by rw [c33]; exact z2) (by rw [c33]; exact z3) i1 z4.2 z5.1 z5.2 (by omega) (by omega) (fun X8 p8 => ?_)
  rw [er] at p8 ⊢
  obtain ⟨f1, f2, f3, f4, f5, f6, f7⟩ := p8
  rw [n2] at f4 f5 f6 f7
  have a8 : kKp (X 37 3) (m * 6 + k) (m * 6 + k + 1) X2 X8 := kKp.of f1 f6 (by omega)
  refine e_emit rfl (by omega) (by omega) (Or.inl (by decide)) (fun X9 g1 g2 g3 g4 g5 g6 => q X9 ?_ ?_ ?_)
  · exact (a0.tr a8 (s2 := X 37 3) (k2 := m * 6 + k) (e2 := m * 6 + k + 1) (by omega)).tr (kKp.of (s := X8 37 3) (k := m * 6 + k) (e := m * 6 + k + 1) g1 g5 (by omega)) (by omega)
  · have a9 : kKp (X8 37 3) (m * 6 + k) (m * 6 + k + 1) X8 X9 := kKp.of g1 g5 (by omega)
    exact ⟨((z1.kp a0).kp a8).kp a9, by rw [g6]; exact f2, by rw [g6]; exact f3, by omega, by omega, ⟨by omega, by omega, g1.2.2.2 (f1.2.2.2 nc2)⟩, by omega⟩
  · intro hr
    have e38 : X9 38 = X2 38 := (g1.1 38 rfl).trans (f1.1 38 rfl)
    refine ⟨m3 hr, ?_⟩
    unfold kSm
    rw [e38, hd]
    exact ⟨z6.1.1, X8 37 3, (f7 hr).cg (fun j _ j1 => g5 j j1), g3, by omega⟩
theorem e_sumOf {lw : Bool} {tk : Int → Int} {X : XT} {m k i v : Int} {Q : Int → XT → Prop} (h : 0 ≤ m * 6 + k ∧ m * 6 + k < 72) (z : kQS lw tk X i v) (i1 : 1 ≤ i) (sz : X 37 3 + 2 ≤ 2 * i) {r : zRT} (er : zrd lw tk 60 2 0 i v = r) (q : ∀ X1, kKp (X 37 3) (m * 6 + k) (m * 6 + k + 1) X X1 → kQS lw tk X1 r.2.1 r.2.2.1 → (r.1 = true → i < r.2.1 ∧ kSm lw X1 (m * 6 + k) r.2.2.2 (r.2.2.1 - v)) → Q (if r.1 = true then 1 else 0) X1) : w_X5_readSumOf m k X Q :=
  e_code (P := fun v7 X14 => (v7 = 0 ∨ v7 = 1) ∧ Q v7 X14) (Or.inl rfl) h z i1 sz er (fun X1 a b c => ⟨by cases r.1 <;> decide, q X1 a b c⟩)

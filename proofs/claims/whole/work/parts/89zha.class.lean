/-! TEXTS: the class reads a whole text -/
theorem kAll.cg {lw : Bool} {tk : Int → Int} {m : Nat} {X X1 : XT} (h : kAll lw tk m X) (a : X1 37 = X 37) (b : X1 38 = X 38) (c : X1 39 = X 39) : kAll lw tk m X1 := by
  unfold kAll kCl kHd kSm zNC at *
  rw [a, b, c]
  exact h
theorem e_readText {lw : Bool} {X : XT} {Q : Int → XT → Prop} (h : zTP X) (q : ∀ (tk pl bh : Int → Int) (M : Int) (X1 : XT), Fx [33, 35, 36, 37, 38, 39] X X1 → (∀ f : Int, (f < 5 ∨ 9 < f) → X1 33 f = X 33 f) → zLX (X 34) (X 33 4) M tk pl bh → (∀ j : Int, 0 ≤ tk j ∧ tk j ≤ 3001) → ((ztx lw tk 12 0 0).1 = true → X1 33 8 = -1 ∧ ∃ m : Nat, (1 ≤ m ∧ m ≤ 12) ∧ kAll lw tk m X1 ∧ tk (zrx lw tk (zsx lw tk (m - 1)).1 (zsx lw tk (m - 1)).2).2.1 = 29 ∧ ∀ j : Nat, j + 1 < m → zfo lw tk j = 1059) → ((ztx lw tk 12 0 0).1 = false → (ztx lw tk 12 0 0).2 ≤ M - 1 → X1 33 8 = pl (ztx lw tk 12 0 0).2) → Q (if (ztx lw tk 12 0 0).1 = true then 1 else 0) X1) : w_X5_readText (if lw = true then 1 else 0) X Q := by
  refine ⟨by cases lw <;> decide, ?_⟩
  generalize hX0 : x_st X 33 9 (if lw = true then 1 else 0) = Y0
  have y9 : Y0 33 9 = if lw = true then 1 else 0 := by rw [← hX0, x_st_at]
  have yf : ∀ f : Int, ¬ f = 9 → Y0 33 f = X 33 f := fun f hf => by rw [← hX0, x_st_ne hf]
  have f0 : Fx [33] X Y0 := by rw [← hX0]; exact Fx.rf.st rfl
  have h0 : zTP Y0 := by
    unfold zTP
    rw [yf 4 (by decide), f0 34 rfl]
    exact h
  refine e_split h0 (fun X8 f8 g8 ⟨tk, pl, bh, lx, tp, tr⟩ => ?_)
  rw [f0 34 rfl, yf 4 (by decide)] at lx
  unfold w_X7_clear
  generalize hZ : x_st (x_st (x_st (x_st (x_st X8 33 6 0) 33 7 0) 37 2 0) 37 3 0) 37 4 0 = Z
  have z33 : ∀ f : Int, ¬ f = 6 → ¬ f = 7 → Z 33 f = X8 33 f := fun f a b => by rw [← hZ, x_st_c (by decide), x_st_c (by decide), x_st_c (by decide), x_st_ne b, x_st_ne a]
  have z6 : Z 33 6 = 0 := by rw [← hZ, x_st_c (by decide), x_st_c (by decide), x_st_c (by decide), x_st_ne (by decide), x_st_at]
  have z7 : Z 33 7 = 0 := by rw [← hZ, x_st_c (by decide), x_st_c (by decide), x_st_c (by decide), x_st_at]
  have z2 : Z 37 2 = 0 := by rw [← hZ, x_st_ne (by decide), x_st_ne (by decide), x_st_at]
  have z3 : Z 37 3 = 0 := by rw [← hZ, x_st_ne (by decide), x_st_at]
  have z4 : Z 37 4 = 0 := by rw [← hZ, x_st_at]
  have fZ : Fx [33, 37] X8 Z := by rw [← hZ]; exact ((((Fx.rf.st rfl).st rfl).st rfl).st rfl).st rfl
  have hM := lx.1
  have hn := h.1
  have tok : TKX lw tk Z := by
    unfold TKX
    rw [z33 5 (by decide) (by decide), z33 9 (by decide) (by decide), fZ 35 rfl, g8 9 (by decide), y9]
    refine ⟨by omega, fun j a b => (tp j a b).1, lx.2.2.2.2.2.1, fun j a b => ?_, tr, rfl⟩
    have tt := lx.2.1 j a b
    exact (zTok_r (h.2 _ tt.1.1 (by have := tt.1; omega)) tt).2
  have qs : kQS lw tk Z 0 0 := ⟨tok, z6, z7, by decide, by decide, ⟨by rw [z3]; decide, by rw [z3]; decide, ⟨Or.inl z4, by rw [z3]; decide, by rw [z3]; decide⟩, fun _ j a b => absurd b (by rw [z3]; omega)⟩, by rw [z3]; decide⟩
  refine e_loop qs z2 (fun X1 F1 G1 i0 hm => ?_)
  have Ff : Fx [33, 35, 36, 37, 38, 39] X (x_st X1 33 8 (if (ztx lw tk 12 0 0).1 = true then -1 else Z 36 (ztx lw tk 12 0 0).2)) := ((((f0.sub (by decide)).trans (f8.sub (by decide))).trans (fZ.sub (by decide))).trans (F1.sub (by decide))).st rfl
  refine q tk pl bh (X8 33 5) _ Ff (fun f hf => ?_) lx tr (fun ht => ⟨?_, ?_⟩) (fun ht le => ?_)
  · rw [x_st_ne (by omega), G1 f (by omega) (by omega), z33 f (by omega) (by omega), g8 f (by omega), yf f (by omega)]
  · rw [x_st_at, if_pos ht]
  · obtain ⟨m, m1, m2, m3⟩ := hm ht
    exact ⟨m, m1, m2.cg (x_st_c (by decide)) (x_st_c (by decide)) (x_st_c (by decide)), m3⟩
  · rw [x_st_at, if_neg (by rw [ht]; decide), fZ 36 rfl]
    exact (tp _ (i0 ht) (by omega)).2

/-! LAW: what is kept of a text that was read -/
/-- the cells in which reading and keeping write -/
def zTL : List Nat := [0, 1, 10, 33, 35, 36, 37, 38, 39, 76, 77, 78, 79, 83, 84, 85, 86, 87, 113]
theorem RR_txt {X Y : XT} (hR : RR X) (c : Fx zTL X Y) (pl : Pln (Y 1) (X 2) (X 3) (X 4) (X 5) (X 6) (X 7) (X 8) (X 9) (Y 79)) (st : R_sts (Y 0) (Y 77)) (tp : R_tap (Y 33) (Y 77) (X 34) (X 82)) (rf : R_ref (Y 76) (Y 78)) (f63 : Y 77 63 = X 77 63) (f15 : Y 77 15 = X 77 15) : RR Y := by
  obtain ⟨_, _, _, _, sm, kp, i0, i1, cs⟩ := hR
  unfold RR
  rw [c 2 rfl, c 3 rfl, c 4 rfl, c 5 rfl, c 6 rfl, c 7 rfl, c 8 rfl, c 9 rfl, c 34 rfl, c 82 rfl, c 52 rfl, c 54 rfl, c 114 rfl, c 32 rfl, c 81 rfl, c 12 rfl, c 13 rfl, c 14 rfl, c 15 rfl, c 16 rfl, c 17 rfl, c 18 rfl, c 19 rfl, c 20 rfl, c 80 rfl, c 22 rfl, c 23 rfl, c 24 rfl, c 25 rfl, c 26 rfl, c 27 rfl, c 28 rfl, c 29 rfl, c 30 rfl, c 11 rfl, c 88 rfl, c 89 rfl, c 90 rfl]
  exact ⟨pl, st, tp, rf, sm.cg f63, kp, i0, i1, cs.cg f15⟩
theorem zfo_one {lw : Bool} {tk : Int → Int} {m m' : Nat} (h0 : 1 ≤ m) (h0' : 1 ≤ m') (h : zfo lw tk (m - 1) = 29 ∧ ∀ j : Nat, j + 1 < m → zfo lw tk j = 1059) (h' : zfo lw tk (m' - 1) = 29 ∧ ∀ j : Nat, j + 1 < m' → zfo lw tk j = 1059) : m = m' := by
  by_cases a : m < m'
  · have := h'.2 (m - 1) (by omega)
    rw [h.1] at this; omega
  · by_cases b : m' < m
    · have := h.2 (m' - 1) (by omega)
      rw [h'.1] at this; omega
    · omega
/-- the meaning of a law's text -/
def zZt (tk : Int → Int) : zLM := (fun k => tk (zsx true tk k).1, fun k => (zhd true tk (zsx true tk k).1 (zsx true tk k).2).2.2.2, fun k => decide (tk (zhd true tk (zsx true tk k).1 (zsx true tk k).2).2.1 = 24), fun k => (zrx true tk (zsx true tk k).1 (zsx true tk k).2).2.2.2)
theorem keep_R {tk : Int → Int} {m : Nat} {op ar row r : Int → Int} {N b : Int} (h : rAll true tk (rCl tk) m op ar row N) (hN : N ≤ 400) (h1 : r (b + 1) = (m : Int)) (h2 : ∀ j : Int, 0 ≤ j → j < 8 * (m : Int) → r (b + 2 + j) = row j) (h3 : ∀ j : Int, 0 ≤ j → j < N → r (b + 98 + 2 * j) = op j ∧ r (b + 98 + 2 * j + 1) = ar j) : zRl (zZt tk) m r b := by
  refine ⟨h1, fun k hk => ?_⟩
  obtain ⟨p, q, u, a1, a2, a3, a4, a5, a6, a7, a8, a9, a10, a11⟩ := h k hk
  have g : ∀ j : Int, 0 ≤ j → j < 8 → r (b + 2 + 8 * (k : Int) + j) = row (8 * (k : Int) + j) := fun j j0 j1 => by
    have := h2 (8 * (k : Int) + j) (by omega) (by omega)
    rw [← this]; congr 1; omega
  have g0 : r (b + 2 + 8 * (k : Int)) = row (8 * (k : Int)) := by
    have := g 0 (by decide) (by decide)
    rw [Int.add_zero, Int.add_zero] at this; exact this
  have ag : ∀ x y : Int, 0 ≤ x → y ≤ N → zAG x y op (fun j => r (b + 98 + 2 * j)) := fun x y x0 y1 j j0 j1 => (h3 j (by omega) (by omega)).1
  have ah : ∀ x y : Int, 0 ≤ x → y ≤ N → zAG x y ar (fun j => r (b + 98 + 2 * j + 1)) := fun x y x0 y1 j j0 j1 => (h3 j (by omega) (by omega)).2
  refine ⟨p, q, u, by omega, g0.trans a4, (g 3 (by decide) (by decide)).trans a5, (g 4 (by decide) (by decide)).trans a6, (g 5 (by decide) (by decide)).trans a7, (g 6 (by decide) (by decide)).trans a8, fun z => ?_, fun z => ?_, fun z => ?_⟩
  · exact ⟨_, by omega, (a9 z).cg (ag p q (by omega) (by omega)) (ah p q (by omega) (by omega))⟩
  · have t24 := of_decide_eq_true z
    obtain ⟨b1, b2, b3⟩ := a10 t24
    exact ⟨b3, _, by omega, b2.cg (ag q u (by omega) (by omega)) (ah q u (by omega) (by omega))⟩
  · exact a11 (of_decide_eq_false z)
theorem keep_K {tk : Int → Int} {m : Nat} {op ar row : Int → Int} {N : Int} {X : XT} {zk zg : Int → Int} {s : Int} (hR : rAll true tk (rCl tk) m op ar row N) (h : kAll true tk m X) (hk : ∀ j : Int, 0 ≤ j → j < 6 * (m : Int) → zk j = X 38 j) (hg : ∀ j : Int, 0 ≤ j → j < s → zg j = X 39 j) (hs : X 37 3 = s) : zKl (zZt tk) m zk zg s := by
  intro k hkm
  obtain ⟨p, q, u, a1, a2, a3, a4, _⟩ := hR k hkm
  obtain ⟨p', q', u', _, _, _, _, _, _, _, _, _, a10, _⟩ := hR k hkm
  obtain ⟨⟨hd, _⟩, c2, c3⟩ := h.2 k hkm
  obtain ⟨d1, d2, d3⟩ := hd rfl
  have sec : ∀ (x : Int) (D : zDT) (L : Int), 0 ≤ x → x < 6 * (m : Int) → L ≤ 63 → kSm true X x D L → zSe zg s (zk x) D := by
    intro x D L x0 x1 L1 hh
    obtain ⟨y0, e, y1, y2, y3⟩ := hh
    rw [hk x x0 x1]
    have y4 := y1.2.1
    exact ⟨y0, e, L, y1.cg (fun j j0 j1 => hg j (by omega) (by omega)), L1, by rw [hg e (by omega) (by omega)]; exact y2, by omega⟩
  have g : ∀ x : Int, 0 ≤ x → x < 6 → zk ((k : Int) * 6 + x) = X 38 ((k : Int) * 6 + x) := fun x x0 x1 => hk _ (by omega) (by omega)
  refine ⟨a3, ?_, fun z => (g 1 (by decide) (by decide)).trans (d2 z), fun z => sec _ _ _ (by omega) (by omega) (by omega) (d3 z), fun z => ?_, fun z => (g 5 (by decide) (by decide)).trans (c3 (of_decide_eq_false z))⟩
  · rw [g 0 (by decide) (by decide), Int.add_zero]; exact d1
  · have t24 := of_decide_eq_true z
    obtain ⟨b1, b2, b3⟩ := a10 t24
    exact sec _ (zrx true tk (zsx true tk k).1 (zsx true tk k).2).2.2.2 ((zrx true tk (zsx true tk k).1 (zsx true tk k).2).2.2.1 - (zhd true tk (zsx true tk k).1 (zsx true tk k).2).2.2.1) (by omega) (by omega) (by omega) (c2 t24)
/-- the reference keeps a law -/
theorem m_keepLaw {A : XT} {m : Nat} {N a b : Int} {Q : Int → XT → Prop} (ha : A 79 4 = a) (a0 : 0 ≤ a ∧ a ≤ 5) (hb : b = 380 + 900 * a) (h16 : A 77 16 = (m : Int)) (hm : m ≤ 12) (h18 : A 77 18 = N) (hN : 0 ≤ N ∧ N ≤ 400) (q : ∀ Y, (∀ c, ¬ c = 79 → Y c = A c) → Y 79 (b + 1) = (m : Int) → (∀ j : Int, 0 ≤ j → j < 8 * (m : Int) → Y 79 (b + 2 + j) = A 83 j) → (∀ j : Int, 0 ≤ j → j < N → Y 79 (b + 98 + 2 * j) = A 84 j ∧ Y 79 (b + 98 + 2 * j + 1) = A 85 j) → (∀ j : Int, (j < b ∨ b + 900 ≤ j) → ¬ j = 4 → Y 79 j = A 79 j) → Y 79 4 = a + 1 → w_X12_tell a Y Q) : (0 ≤ ((380 + (900 * (A 79 4))) + 1) ∧ ((380 + (900 * (A 79 4))) + 1) < 5780) ∧ ∃ (I50 : Int → XT → Prop) (m51 : Int → XT → Nat), I50 0 (x_st A 79 ((380 + (900 * (A 79 4))) + 1) (A 77 16)) ∧ ∀ (x48 : Int) (X49 : XT), I50 x48 X49 → R32 x48 ∧ R32 (8 * (X49 77 16)) ∧ ((8 * (X49 77 16)) ≤ x48 → ∃ (I67 : Int → XT → Prop) (m68 : Int → XT → Nat), I67 0 X49 ∧ ∀ (x65 : Int) (X66 : XT), I67 x65 X66 → R32 x65 ∧ R32 (X66 77 18) ∧ ((X66 77 18) ≤ x65 → w_X12_tell (((x_st X66 79 4 ((X66 79 4) + 1)) 79 4) - 1) (x_st X66 79 4 ((X66 79 4) + 1)) Q) ∧ (¬ (X66 77 18) ≤ x65 → (0 ≤ x65 ∧ x65 < 400) ∧ (0 ≤ (((380 + (900 * (A 79 4))) + 98) + (2 * x65)) ∧ (((380 + (900 * (A 79 4))) + 98) + (2 * x65)) < 5780) ∧ (0 ≤ ((((380 + (900 * (A 79 4))) + 98) + (2 * x65)) + 1) ∧ ((((380 + (900 * (A 79 4))) + 98) + (2 * x65)) + 1) < 5780) ∧ I67 (x65 + 1) (x_st (x_st X66 79 (((380 + (900 * (A 79 4))) + 98) + (2 * x65)) (X66 84 x65)) 79 ((((380 + (900 * (A 79 4))) + 98) + (2 * x65)) + 1) ((x_st X66 79 (((380 + (900 * (A 79 4))) + 98) + (2 * x65)) (X66 84 x65)) 85 x65)) ∧ m68 (x65 + 1) (x_st (x_st X66 79 (((380 + (900 * (A 79 4))) + 98) + (2 * x65)) (X66 84 x65)) 79 ((((380 + (900 * (A 79 4))) + 98) + (2 * x65)) + 1) ((x_st X66 79 (((380 + (900 * (A 79 4))) + 98) + (2 * x65)) (X66 84 x65)) 85 x65)) < m68 x65 X66)) ∧ (¬ (8 * (X49 77 16)) ≤ x48 → (0 ≤ x48 ∧ x48 < 96) ∧ (0 ≤ (((380 + (900 * (A 79 4))) + 2) + x48) ∧ (((380 + (900 * (A 79 4))) + 2) + x48) < 5780) ∧ I50 (x48 + 1) (x_st X49 79 (((380 + (900 * (A 79 4))) + 2) + x48) (X49 83 x48)) ∧ m51 (x48 + 1) (x_st X49 79 (((380 + (900 * (A 79 4))) + 2) + x48) (X49 83 x48)) < m51 x48 X49) := by
  rw [ha, ← hb]
  refine ⟨by omega, fun k Y => (0 ≤ k ∧ k ≤ 8 * (m : Int)) ∧ (∀ c, ¬ c = 79 → Y c = A c) ∧ Y 79 (b + 1) = (m : Int) ∧ (∀ j : Int, 0 ≤ j → j < k → Y 79 (b + 2 + j) = A 83 j) ∧ ∀ j : Int, (j < b ∨ b + 98 ≤ j) → Y 79 j = A 79 j, fun k _ => (8 * (m : Int) - k).toNat, ⟨by omega, fun c hc => x_st_c hc, by rw [x_st_at]; exact h16, fun j a b => absurd b (by omega), fun j hj => x_st_ne (by omega)⟩, ?_⟩
  rintro k Y ⟨hk, yc, y1, y2, y3⟩
  have y16 : Y 77 16 = (m : Int) := by rw [yc 77 (by decide)]; exact h16
  rw [y16]
  refine ⟨by omega, by omega, fun z => ?_, fun z => ⟨by omega, by omega, ⟨by omega, fun c hc => (x_st_c hc).trans (yc c hc), by rw [x_st_ne (by omega)]; exact y1, fun j j0 j1 => ?_, fun j hj => by rw [x_st_ne (by omega)]; exact y3 j hj⟩, by dsimp only; omega⟩⟩
  rotate_left
  · by_cases e : j = k
    · rw [e, x_st_at, yc 83 (by decide)]
    · rw [x_st_ne (by omega)]; exact y2 j j0 (by omega)
  have ek : k = 8 * (m : Int) := by omega
  subst ek
  refine ⟨fun k Y => (0 ≤ k ∧ k ≤ N) ∧ (∀ c, ¬ c = 79 → Y c = A c) ∧ Y 79 (b + 1) = (m : Int) ∧ (∀ j : Int, 0 ≤ j → j < 8 * (m : Int) → Y 79 (b + 2 + j) = A 83 j) ∧ (∀ j : Int, 0 ≤ j → j < k → Y 79 (b + 98 + 2 * j) = A 84 j ∧ Y 79 (b + 98 + 2 * j + 1) = A 85 j) ∧ ∀ j : Int, (j < b ∨ b + 900 ≤ j) → Y 79 j = A 79 j, fun k _ => (N - k).toNat, ⟨by omega, yc, y1, y2, fun j a b => absurd b (by omega), fun j hj => y3 j (by omega)⟩, ?_⟩
  rintro k Y ⟨hk, yc, y1, y2, y4, y3⟩
  have y18 : Y 77 18 = N := by rw [yc 77 (by decide)]; exact h18
  rw [y18]
  refine ⟨by omega, by omega, fun z => ?_, fun z => ⟨by omega, by omega, by omega, ⟨by omega, fun c hc => by rw [x_st_c hc, x_st_c hc]; exact yc c hc, by rw [x_st_ne (by omega), x_st_ne (by omega)]; exact y1, fun j j0 j1 => by rw [x_st_ne (by omega), x_st_ne (by omega)]; exact y2 j j0 j1, fun j j0 j1 => ?_, fun j hj => by rw [x_st_ne (by omega), x_st_ne (by omega)]; exact y3 j hj⟩, by dsimp only; omega⟩⟩
  rotate_left
  · by_cases e : j = k
    · rw [e, x_st_at, x_st_ne (by omega), x_st_at, x_st_c (by decide), yc 84 (by decide), yc 85 (by decide)]
      exact ⟨rfl, rfl⟩
    · rw [x_st_ne (by omega), x_st_ne (by omega), x_st_ne (by omega), x_st_ne (by omega)]; exact y4 j j0 (by omega)
  have ek : k = N := by omega
  subst ek
  have e4 : Y 79 4 = a := (y3 4 (by omega)).trans ha
  have e5 : (x_st Y 79 4 (Y 79 4 + 1)) 79 4 - 1 = a := by rw [x_st_at, e4]; omega
  rw [e5]
  refine q _ (fun c hc => (x_st_c hc).trans (yc c hc)) ?_ (fun j j0 j1 => ?_) (fun j j0 j1 => ?_) (fun j hj h4 => ?_) ?_
  · rw [x_st_ne (by omega)]; exact y1
  · rw [x_st_ne (by omega)]; exact y2 j j0 j1
  · rw [x_st_ne (by omega), x_st_ne (by omega)]; exact y4 j j0 j1
  · rw [x_st_ne h4]; exact y3 j hj
  · rw [x_st_at, e4]

/-! COPIES: what copyFrom does to the picture; the reference's rows -/
theorem x_cp_c {X : XT} {b c d : Nat} {N : Int} (h : ¬ d = c) : x_cp X b c N d = X d := if_neg h
theorem x_cp_at {X : XT} {b c : Nat} {N j : Int} (h : 0 ≤ j ∧ j < N) : x_cp X b c N c j = X b j := by
  show (if c = c then _ else _ : Int → Int) j = _
  rw [if_pos rfl, if_pos h]
def CPD (X X1 : XT) (a b : Nat) : Prop := (∀ j : Int, 0 ≤ j → j < 192 → X1 (a + 1) j = X (b + 1) j) ∧ (∀ j : Int, 0 ≤ j → j < 3 → X1 (a + 2) j = X (b + 2) j) ∧ (∀ j : Int, 0 ≤ j → j < 3 → X1 (a + 3) j = X (b + 3) j) ∧ (∀ j : Int, 0 ≤ j → j < 25 → X1 (a + 4) j = X (b + 4) j) ∧ (∀ j : Int, 0 ≤ j → j < 72 → X1 (a + 5) j = X (b + 5) j) ∧ (∀ j : Int, 0 ≤ j → j < 40 → X1 (a + 6) j = X (b + 6) j) ∧ (∀ j : Int, 0 ≤ j → j < 30 → X1 (a + 7) j = X (b + 7) j) ∧ (∀ j : Int, 0 ≤ j → j < 3 → X1 (a + 8) j = X (b + 8) j) ∧ (∀ j : Int, 0 ≤ j → j < 6 → X1 (a + 9) j = X (b + 9) j) ∧ ∀ f : Int, 9 ≤ f → f ≤ 14 → X1 a f = X b f
theorem e_copy {KQ : Int → Prop} {X : XT} {Q : XT → Prop} (a b : Nat) (hab : a + 10 ≤ b ∨ b + 10 ≤ a) (kq : ∀ j : Int, 0 ≤ j → j < 6 → KQ (X (b + 9) j)) (q : ∀ X1, (∀ c : Nat, (c < a ∨ a + 9 < c) → X1 c = X c) → CPD X X1 a b → Q X1) : w_X3_copyFrom KQ a (a + 1) (a + 2) (a + 3) (a + 4) (a + 5) (a + 6) (a + 7) (a + 8) (a + 9) b (b + 1) (b + 2) (b + 3) (b + 4) (b + 5) (b + 6) (b + 7) (b + 8) (b + 9) X Q := by
  unfold w_X3_copyFrom
  generalize hZ : x_cp (x_cp (x_cp (x_cp (x_cp (x_cp (x_cp (x_cp X (b + 1) (a + 1) 192) (b + 2) (a + 2) 3) (b + 3) (a + 3) 3) (b + 4) (a + 4) 25) (b + 5) (a + 5) 72) (b + 6) (a + 6) 40) (b + 7) (a + 7) 30) (b + 8) (a + 8) 3 = Z
  have zo : ∀ c : Nat, (c < a + 1 ∨ a + 8 < c) → Z c = X c := fun c hc => by
    rw [← hZ, x_cp_c (by omega), x_cp_c (by omega), x_cp_c (by omega), x_cp_c (by omega), x_cp_c (by omega), x_cp_c (by omega), x_cp_c (by omega), x_cp_c (by omega)]
  have z1 : ∀ j : Int, 0 ≤ j → j < 192 → Z (a + 1) j = X (b + 1) j := fun j j0 j1 => by
    rw [← hZ, x_cp_c (by omega), x_cp_c (by omega), x_cp_c (by omega), x_cp_c (by omega), x_cp_c (by omega), x_cp_c (by omega), x_cp_c (by omega), x_cp_at ⟨j0, j1⟩]
  have z2 : ∀ j : Int, 0 ≤ j → j < 3 → Z (a + 2) j = X (b + 2) j := fun j j0 j1 => by
    rw [← hZ, x_cp_c (by omega), x_cp_c (by omega), x_cp_c (by omega), x_cp_c (by omega), x_cp_c (by omega), x_cp_c (by omega), x_cp_at ⟨j0, j1⟩, x_cp_c (by omega)]
  have z3 : ∀ j : Int, 0 ≤ j → j < 3 → Z (a + 3) j = X (b + 3) j := fun j j0 j1 => by
    rw [← hZ, x_cp_c (by omega), x_cp_c (by omega), x_cp_c (by omega), x_cp_c (by omega), x_cp_c (by omega), x_cp_at ⟨j0, j1⟩, x_cp_c (by omega), x_cp_c (by omega)]
  have z4 : ∀ j : Int, 0 ≤ j → j < 25 → Z (a + 4) j = X (b + 4) j := fun j j0 j1 => by
    rw [← hZ, x_cp_c (by omega), x_cp_c (by omega), x_cp_c (by omega), x_cp_c (by omega), x_cp_at ⟨j0, j1⟩, x_cp_c (by omega), x_cp_c (by omega), x_cp_c (by omega)]
  have z5 : ∀ j : Int, 0 ≤ j → j < 72 → Z (a + 5) j = X (b + 5) j := fun j j0 j1 => by
    rw [← hZ, x_cp_c (by omega), x_cp_c (by omega), x_cp_c (by omega), x_cp_at ⟨j0, j1⟩, x_cp_c (by omega), x_cp_c (by omega), x_cp_c (by omega), x_cp_c (by omega)]
  have z6 : ∀ j : Int, 0 ≤ j → j < 40 → Z (a + 6) j = X (b + 6) j := fun j j0 j1 => by
    rw [← hZ, x_cp_c (by omega), x_cp_c (by omega), x_cp_at ⟨j0, j1⟩, x_cp_c (by omega), x_cp_c (by omega), x_cp_c (by omega), x_cp_c (by omega), x_cp_c (by omega)]
  have z7 : ∀ j : Int, 0 ≤ j → j < 30 → Z (a + 7) j = X (b + 7) j := fun j j0 j1 => by
    rw [← hZ, x_cp_c (by omega), x_cp_at ⟨j0, j1⟩, x_cp_c (by omega), x_cp_c (by omega), x_cp_c (by omega), x_cp_c (by omega), x_cp_c (by omega), x_cp_c (by omega)]
  have z8 : ∀ j : Int, 0 ≤ j → j < 3 → Z (a + 8) j = X (b + 8) j := fun j j0 j1 => by
    rw [← hZ, x_cp_at ⟨j0, j1⟩, x_cp_c (by omega), x_cp_c (by omega), x_cp_c (by omega), x_cp_c (by omega), x_cp_c (by omega), x_cp_c (by omega), x_cp_c (by omega)]
  clear hZ
  refine ⟨fun x Y => 0 ≤ x ∧ x ≤ 6 ∧ (∀ c : Nat, ¬ c = a + 9 → Y c = Z c) ∧ ∀ j : Int, 0 ≤ j → j < x → Y (a + 9) j = X (b + 9) j, fun x _ => (6 - x).toNat, ⟨by decide, by decide, fun _ _ => rfl, fun j j0 j1 => absurd (show j < (0 : Int) from j1) (by omega)⟩, ?_⟩
  rintro x Y ⟨x0, x1, yo, y9⟩
  have eb : ∀ j, Y b j = X b j := fun j => by rw [yo b (by omega), zo b (by omega)]
  refine ⟨by omega, fun k => ?_, fun k => ⟨by omega, ?_, ⟨by omega, by omega, fun c hc => by rw [x_st_c hc]; exact yo c hc, fun j j0 j1 => ?_⟩, by dsimp only; omega⟩⟩
  rotate_left
  · rw [yo (b + 9) (by omega), zo (b + 9) (by omega)]; exact kq x x0 (by omega)
  · by_cases hj : j = x
    · rw [hj, x_st_at, yo (b + 9) (by omega), zo (b + 9) (by omega)]
    · rw [x_st_ne hj]; exact y9 j j0 (by omega)
  have nb : ¬ b = a := by omega
  repeat rw [x_st_c nb]
  rw [eb, eb, eb, eb, eb, eb]
  have oc : ∀ c : Nat, ¬ c = a → (x_st (x_st (x_st (x_st (x_st (x_st Y a 9 (X b 9)) a 10 (X b 10)) a 11 (X b 11)) a 12 (X b 12)) a 13 (X b 13)) a 14 (X b 14)) c = Y c := fun c hc => by
    rw [x_st_c hc, x_st_c hc, x_st_c hc, x_st_c hc, x_st_c hc, x_st_c hc]
  refine q _ (fun c hc => ?_) ⟨fun j j0 j1 => ?_, fun j j0 j1 => ?_, fun j j0 j1 => ?_, fun j j0 j1 => ?_, fun j j0 j1 => ?_, fun j j0 j1 => ?_, fun j j0 j1 => ?_, fun j j0 j1 => ?_, fun j j0 j1 => ?_, fun f f0 f1 => ?_⟩
  · rw [oc c (by omega), yo c (by omega), zo c (by omega)]
  · rw [oc _ (by omega), yo _ (by omega)]; exact z1 j j0 j1
  · rw [oc _ (by omega), yo _ (by omega)]; exact z2 j j0 j1
  · rw [oc _ (by omega), yo _ (by omega)]; exact z3 j j0 j1
  · rw [oc _ (by omega), yo _ (by omega)]; exact z4 j j0 j1
  · rw [oc _ (by omega), yo _ (by omega)]; exact z5 j j0 j1
  · rw [oc _ (by omega), yo _ (by omega)]; exact z6 j j0 j1
  · rw [oc _ (by omega), yo _ (by omega)]; exact z7 j j0 j1
  · rw [oc _ (by omega), yo _ (by omega)]; exact z8 j j0 j1
  · rw [oc _ (by omega)]; exact y9 j j0 (by omega)
  · rcases (show f = 9 ∨ f = 10 ∨ f = 11 ∨ f = 12 ∨ f = 13 ∨ f = 14 by omega) with rfl | rfl | rfl | rfl | rfl | rfl
    · rw [x_st_ne (by decide), x_st_ne (by decide), x_st_ne (by decide), x_st_ne (by decide), x_st_ne (by decide), x_st_at]
    · rw [x_st_ne (by decide), x_st_ne (by decide), x_st_ne (by decide), x_st_ne (by decide), x_st_at]
    · rw [x_st_ne (by decide), x_st_ne (by decide), x_st_ne (by decide), x_st_at]
    · rw [x_st_ne (by decide), x_st_ne (by decide), x_st_at]
    · rw [x_st_ne (by decide), x_st_at]
    · rw [x_st_at]
theorem Pln.cp {o f2 f3 f4 f5 f6 f7 f8 f9 r o' g2 g3 g4 g5 g6 g7 g8 g9 r' : Int → Int} (p : Pln o f2 f3 f4 f5 f6 f7 f8 f9 r) (ho : ∀ f : Int, 9 ≤ f → f ≤ 14 → o' f = o f) (h2 : ∀ j : Int, 0 ≤ j → j < 192 → g2 j = f2 j) (h3 : ∀ j : Int, 0 ≤ j → j < 3 → g3 j = f3 j) (h4 : ∀ j : Int, 0 ≤ j → j < 3 → g4 j = f4 j) (h5 : ∀ j : Int, 0 ≤ j → j < 25 → g5 j = f5 j) (h6 : ∀ j : Int, 0 ≤ j → j < 72 → g6 j = f6 j) (h7 : ∀ j : Int, 0 ≤ j → j < 40 → g7 j = f7 j) (h8 : ∀ j : Int, 0 ≤ j → j < 30 → g8 j = f8 j) (h9 : ∀ j : Int, 0 ≤ j → j < 3 → g9 j = f9 j) (hr : ∀ j : Int, 0 ≤ j → j < 5780 → r' j = r j) : Pln o' g2 g3 g4 g5 g6 g7 g8 g9 r' := by
  obtain ⟨p1, p2, p3, p4, p5, p6, p7, p8⟩ := p
  have c3 := p3.1
  have c4 := p4.1
  have c5 := p5.1
  have c6 := p6.1
  refine ⟨fun a b a0 a1 b0 b1 => ?_, fun l l0 l1 => ?_, ⟨?_, fun j j0 j1 => ?_, fun c c0 c1 => ?_⟩, ⟨?_, fun j j0 j1 => ?_, fun k k0 k1 => ?_, fun k l k0 k1 k2 => ?_⟩, ⟨?_, fun j j0 j1 => ?_, fun k k0 k1 => ?_⟩, ⟨?_, fun j j0 j1 => ?_, fun k k0 k1 => ?_⟩, fun j j0 j1 => ?_, ?_⟩
  · rw [h2 _ (by omega) (by omega), hr _ (by omega) (by omega)]; exact p1 a b a0 a1 b0 b1
  · rw [h3 _ l0 (by omega), h4 _ l0 (by omega), hr _ (by omega) (by omega), hr _ (by omega) (by omega)]; exact p2 l l0 l1
  · rw [ho 9 (by decide) (by decide), hr 0 (by decide) (by decide)]; exact p3.1
  · rw [h5 j j0 j1, hr _ (by omega) (by omega)]; exact p3.2.1 j j0 j1
  · rw [ho 9 (by decide) (by decide)] at c1
    rw [h5 _ (by omega) (by omega), h5 _ (by omega) (by omega), h5 _ (by omega) (by omega), h5 _ (by omega) (by omega), h5 _ (by omega) (by omega)]; exact p3.2.2 c c0 c1
  · rw [ho 10 (by decide) (by decide), hr 1 (by decide) (by decide)]; exact p4.1
  · rw [h6 j j0 j1, hr _ (by omega) (by omega)]; exact p4.2.1 j j0 j1
  · rw [ho 10 (by decide) (by decide)] at k1
    rw [ho 9 (by decide) (by decide), h6 _ (by omega) (by omega), h6 _ (by omega) (by omega), h6 _ (by omega) (by omega)]; exact p4.2.2.1 k k0 k1
  · rw [ho 10 (by decide) (by decide)] at k2
    rw [h6 _ (by omega) (by omega), h6 _ (by omega) (by omega), h6 _ (by omega) (by omega), h6 _ (by omega) (by omega)]; exact p4.2.2.2 k l k0 k1 k2
  · rw [ho 11 (by decide) (by decide), hr 2 (by decide) (by decide)]; exact p5.1
  · rw [h7 j j0 j1, hr _ (by omega) (by omega)]; exact p5.2.1 j j0 j1
  · rw [ho 11 (by decide) (by decide)] at k1
    rw [h7 _ (by omega) (by omega), h7 _ (by omega) (by omega), h7 _ (by omega) (by omega), h7 _ (by omega) (by omega), h7 _ (by omega) (by omega)]; exact p5.2.2 k k0 k1
  · rw [ho 12 (by decide) (by decide), hr 3 (by decide) (by decide)]; exact p6.1
  · rw [h8 j j0 j1, hr _ (by omega) (by omega)]; exact p6.2.1 j j0 j1
  · rw [ho 12 (by decide) (by decide)] at k1
    rw [h8 _ (by omega) (by omega), h8 _ (by omega) (by omega), h8 _ (by omega) (by omega)]; exact p6.2.2 k k0 k1
  · rw [h9 j j0 (by omega), hr _ (by omega) (by omega)]; exact p7 j j0 j1
  · unfold P_law
    rw [ho 13 (by decide) (by decide), ho 14 (by decide) (by decide), hr 4 (by decide) (by decide), hr 5 (by decide) (by decide)]; exact p8
theorem m_image {k : Int} {X : XT} {Q : Int → XT → Prop} (k0 : 0 ≤ k) (k1 : k ≤ 1) (q : ∀ X1, (∀ c : Nat, ¬ c = 77 → ¬ c = 80 → ¬ c = 81 → X1 c = X c) → (∀ f : Int, ¬ f = 0 → ¬ f = 1 → X1 77 f = X 77 f) → X1 77 1 = 0 → (∀ j : Int, 0 ≤ j → j < 5780 → X1 80 (5780 * k + j) = X 79 j) → (∀ j : Int, (j < 5780 * k ∨ 5780 * k + 5780 ≤ j) → X1 80 j = X 80 j) → X1 81 k = 1 → (∀ j : Int, ¬ j = k → X1 81 j = X 81 j) → Q 0 X1) : w_X12_image k X Q := by
  refine ⟨by omega, fun _ => ?_, fun z => absurd ⟨k0, k1⟩ z⟩
  refine ⟨fun x Y => 0 ≤ x ∧ x ≤ 5780 ∧ (∀ c : Nat, ¬ c = 80 → Y c = (x_st X 77 0 0) c) ∧ (∀ j : Int, 0 ≤ j → j < x → Y 80 (5780 * k + j) = X 79 j) ∧ ∀ j : Int, (j < 5780 * k ∨ 5780 * k + 5780 ≤ j) → Y 80 j = X 80 j, fun x _ => (5780 - x).toNat, ⟨by decide, by decide, fun _ _ => rfl, fun j j0 j1 => absurd (show j < (0 : Int) from j1) (by omega), fun j _ => by rw [x_st_c (by decide)]⟩, ?_⟩
  rintro x Y ⟨x0, x1, yo, y1, y2⟩
  refine ⟨by omega, fun z => ⟨by omega, m_tellP (by decide) (by decide) (q _ (fun c c1 c2 c3 => ?_) (fun f f0 f1 => ?_) ?_ (fun j j0 j1 => ?_) (fun j hj => ?_) ?_ (fun j hj => ?_))⟩, fun z => ⟨by omega, by omega, ⟨by omega, by omega, fun c hc => by rw [x_st_c hc]; exact yo c hc, fun j j0 j1 => ?_, fun j hj => by rw [x_st_ne (by omega)]; exact y2 j hj⟩, by dsimp only; omega⟩⟩
  · rw [x_st_c c1, x_st_c c3, yo c c2, x_st_c c1]
  · rw [x_st_ne f1, x_st_c (by decide), yo 77 (by decide), x_st_ne f0]
  · rw [x_st_at]
  · rw [x_st_c (by decide), x_st_c (by decide)]; exact y1 j j0 (by omega)
  · rw [x_st_c (by decide), x_st_c (by decide)]; exact y2 j hj
  · rw [x_st_c (by decide), x_st_at]
  · rw [x_st_c (by decide), x_st_ne hj, yo 81 (by decide), x_st_c (by decide)]
  · by_cases hj : j = x
    · rw [hj, x_st_at, yo 79 (by decide), x_st_c (by decide)]
    · rw [x_st_ne (by omega)]; exact y1 j j0 (by omega)
theorem m_back {k : Int} {X : XT} {Q : Int → XT → Prop} (k0 : 0 ≤ k) (k1 : k ≤ 1) (hk : X 81 k = 1) (q : ∀ X1, (∀ c : Nat, ¬ c = 77 → ¬ c = 79 → X1 c = X c) → (∀ f : Int, ¬ f = 0 → ¬ f = 1 → X1 77 f = X 77 f) → X1 77 1 = 0 → (∀ j : Int, 0 ≤ j → j < 5780 → X1 79 j = X 80 (5780 * k + j)) → Q 0 X1) : w_X12_back k X Q := by
  have e81 : (x_st X 77 0 0) 81 k = 1 := by rw [x_st_c (by decide)]; exact hk
  refine ⟨by omega, fun _ => ⟨by omega, by rw [e81]; decide, fun _ => ?_, fun z => absurd z (by rw [e81]; decide)⟩, fun z => absurd ⟨k0, k1⟩ z⟩
  refine ⟨fun x Y => 0 ≤ x ∧ x ≤ 5780 ∧ (∀ c : Nat, ¬ c = 79 → Y c = (x_st X 77 0 0) c) ∧ (∀ j : Int, 0 ≤ j → j < x → Y 79 j = X 80 (5780 * k + j)), fun x _ => (5780 - x).toNat, ⟨by decide, by decide, fun _ _ => rfl, fun j j0 j1 => absurd (show j < (0 : Int) from j1) (by omega)⟩, ?_⟩
  rintro x Y ⟨x0, x1, yo, y1⟩
  refine ⟨by omega, fun z => m_tellP (by decide) (by decide) (q _ (fun c c1 c2 => ?_) (fun f f0 f1 => ?_) ?_ (fun j j0 j1 => ?_)), fun z => ⟨by omega, by omega, ⟨by omega, by omega, fun c hc => by rw [x_st_c hc]; exact yo c hc, fun j j0 j1 => ?_⟩, by dsimp only; omega⟩⟩
  · rw [x_st_c c1, yo c c2, x_st_c c1]
  · rw [x_st_ne f1, yo 77 (by decide), x_st_ne f0]
  · rw [x_st_at]
  · rw [x_st_c (by decide)]; exact y1 j j0 (by omega)
  · by_cases hj : j = x
    · rw [hj, x_st_at, yo 80 (by decide), x_st_c (by decide)]
    · rw [x_st_ne hj]; exact y1 j j0 (by omega)

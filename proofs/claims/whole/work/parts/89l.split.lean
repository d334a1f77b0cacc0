/-! TEXTS: the class splits the tape into tokens: all of it -/
def zSP (f : Int → Int) (n T : Int) (tk pl bh : Int → Int) (p : Int) : Prop := (0 ≤ T ∧ T ≤ p) ∧ (∀ j : Int, 0 ≤ j → j < T → zTok f n (pl j) (bh j) (tk j)) ∧ (∀ j : Int, 0 ≤ j → j < T → bh (j - 1) ≤ pl j ∧ ∀ q : Int, bh (j - 1) ≤ q → q < pl j → f q = 32) ∧ bh (-1) = 0 ∧ (0 ≤ bh (T - 1) ∧ bh (T - 1) ≤ p ∧ ∀ q : Int, bh (T - 1) ≤ q → q < p → f q = 32)
theorem SP_sp {f tk pl bh : Int → Int} {n T p : Int} (h : zSP f n T tk pl bh p) (hp : f p = 32) : zSP f n T tk pl bh (p + 1) := by
  obtain ⟨h1, h2, h3, h4, h5, h6, h7⟩ := h
  refine ⟨by omega, h2, h3, h4, h5, by omega, fun q q0 q1 => ?_⟩
  by_cases z : q = p
  · rw [z]; exact hp
  · exact h7 q q0 (by omega)
theorem SP_tk {f tk pl bh tk' pl' : Int → Int} {n T p e t : Int} (h : zSP f n T tk pl bh p) (ht : zTok f n p e t) (a1 : tk' T = t) (a2 : ∀ j : Int, j < T → tk' j = tk j) (b1 : pl' T = p) (b2 : ∀ j : Int, j < T → pl' j = pl j) : zSP f n (T + 1) tk' pl' (fun j => if j = T then e else bh j) e := by
  obtain ⟨h1, h2, h3, h4, h5, h6, h7⟩ := h
  have te := ht.1
  refine ⟨by omega, fun j j0 j1 => ?_, fun j j0 j1 => ?_, ?_, ?_⟩
  · dsimp only
    by_cases z : j = T
    · rw [if_pos z, z, a1, b1]; exact ht
    · rw [if_neg z, a2 j (by omega), b2 j (by omega)]; exact h2 j j0 (by omega)
  · dsimp only
    rw [if_neg (show ¬ j - 1 = T by omega)]
    by_cases z : j = T
    · rw [z, b1]; exact ⟨h6, h7⟩
    · rw [b2 j (by omega)]; exact h3 j j0 (by omega)
  · dsimp only; rw [if_neg (by omega)]; exact h4
  · dsimp only
    rw [if_pos (show T + 1 - 1 = T by omega)]
    exact ⟨by omega, Int.le_refl _, fun q q0 q1 => absurd q1 (by omega)⟩
theorem e_addT {X : XT} {t p T : Int} {Q : XT → Prop} (hT : X 33 5 = T) (T0 : 0 ≤ T) (T1 : T < 401) (q : ∀ X1, Fx [33, 35, 36] X X1 → (∀ f : Int, ¬ f = 5 → X1 33 f = X 33 f) → X1 33 5 = T + 1 → X1 35 T = t → (∀ j : Int, j < T → X1 35 j = X 35 j) → X1 36 T = p → (∀ j : Int, j < T → X1 36 j = X 36 j) → Q X1) : w_X5_addToken t p X Q := by
  have a1 : (x_st X 35 (X 33 5) t) 33 5 = T := by rw [x_st_c (by decide)]; exact hT
  have a2 : (x_st (x_st X 35 (X 33 5) t) 36 T p) 33 5 = T := by rw [x_st_c (by decide)]; exact a1
  unfold w_X5_addToken
  rw [a1, a2, hT]
  refine ⟨by omega, fun k => absurd k (by omega), fun _ => ⟨by omega, by omega, q _ (((Fx.rf.st rfl).st rfl).st rfl) (fun f hf => by rw [x_st_ne hf, x_st_c (by decide), x_st_c (by decide)]) x_st_at ?_ (fun j hj => ?_) ?_ (fun j hj => ?_)⟩⟩
  · rw [x_st_c (by decide), x_st_c (by decide), x_st_at]
  · rw [x_st_c (by decide), x_st_c (by decide), x_st_ne (by omega)]
  · rw [x_st_c (by decide), x_st_at]
  · rw [x_st_c (by decide), x_st_ne (by omega), x_st_c (by decide)]
theorem zTok_r {f : Int → Int} {n p e t : Int} (hf : 0 ≤ f p ∧ f p ≤ 255) (h : zTok f n p e t) : (0 ≤ t ∧ t ≤ 3001) ∧ ¬ t = 29 := by
  obtain ⟨h1, h2⟩ := h
  rcases h2 with ⟨_, _, _, w⟩ | ⟨_, hd, _, rfl⟩ | ⟨_, _, _, _, rfl⟩
  · rcases w with ⟨rfl, _⟩ | ⟨k, hk, rfl, _⟩ <;> omega
  · have := (zn_eq (f := f) (p := p) (e - p).toNat (fun j a b => hd (p + j) (by omega) (by omega))).1
    omega
  · omega
theorem e_split {X : XT} {Q : XT → Prop} (h : zTP X) (q : ∀ X1, Fx [33, 35, 36] X X1 → (∀ f : Int, ¬ f = 5 → X1 33 f = X 33 f) → (∃ tk pl bh : Int → Int, zLX (X 34) (X 33 4) (X1 33 5) tk pl bh ∧ (∀ j : Int, 0 ≤ j → j < X1 33 5 → X1 35 j = tk j ∧ X1 36 j = pl j) ∧ ∀ j : Int, 0 ≤ tk j ∧ tk j ≤ 3001) → Q X1) : w_X5_split X Q := by
  have hn := h.1
  refine ⟨fun p cnt Y => (0 ≤ cnt ∧ cnt ≤ p) ∧ p ≤ X 33 4 ∧ Fx [33, 35, 36] X Y ∧ (∀ f : Int, ¬ f = 5 → Y 33 f = X 33 f) ∧ ∃ bh : Int → Int, zSP (X 34) (X 33 4) (Y 33 5) (Y 35) (Y 36) bh p, fun p _ _ => (X 33 4 - p).toNat, ⟨⟨by decide, by decide⟩, hn.1, Fx.rf.st rfl, fun f hf => x_st_ne hf, fun _ => 0, ?_⟩, ?_⟩
  · rw [x_st_at]
    exact ⟨⟨by decide, by decide⟩, fun j a b => absurd (show j < (0 : Int) from b) (by omega), fun j a b => absurd (show j < (0 : Int) from b) (by omega), rfl, ⟨by decide, by decide, fun q a b => absurd (show q < (0 : Int) from b) (by have : (0 : Int) ≤ q := a; omega)⟩⟩
  rintro p cnt Y ⟨hc, hp, fY, yf, bh, sp⟩
  have y4 : Y 33 4 = X 33 4 := yf 4 (by decide)
  have y34 : Y 34 = X 34 := fY 34 rfl
  have tY : zTP Y := by unfold zTP; rw [y4, y34]; exact h
  have sT := sp.1
  intro J hJ
  have fin : p = X 33 4 → J := by
    rintro rfl
    refine hJ (e_addT rfl sT.1 (by omega) (fun X1 f1 g5 n5 t1 t2 p1 p2 => q X1 (fY.trans f1) (fun f hf => (g5 f hf).trans (yf f hf)) ?_))
    obtain ⟨s1, s2, s3, s4, s5, s6, s7⟩ := sp
    refine ⟨fun j => if 0 ≤ j ∧ j < Y 33 5 then Y 35 j else 29, fun j => if j = Y 33 5 then X 33 4 else Y 36 j, bh, ⟨?_, ?_, ?_, s4, ?_, ?_, ?_⟩, fun j j0 j1 => ?_, fun j => ?_⟩
    · rw [n5]; omega
    · rw [n5]
      intro j j0 j1
      dsimp only
      rw [if_neg (by omega), if_pos (by omega)]; exact s2 j j0 (by omega)
    · rw [n5]
      intro j j0 j1
      dsimp only
      rw [if_neg (by omega)]; exact s3 j j0 (by omega)
    · rw [n5, show Y 33 5 + 1 - 2 = Y 33 5 - 1 by omega]; exact ⟨s5, s6, s7⟩
    · rw [n5]
      intro j hj
      dsimp only
      rw [if_neg (by omega)]
    · rw [n5, show Y 33 5 + 1 - 1 = Y 33 5 by omega]; exact if_pos rfl
    · rw [n5] at j1
      dsimp only
      by_cases z : j = Y 33 5
      · rw [z, if_neg (by omega), if_pos rfl, t1, p1, y4]; exact ⟨rfl, rfl⟩
      · rw [if_pos (by omega), if_neg z, t2 j (by omega), p2 j (by omega)]; exact ⟨rfl, rfl⟩
    · dsimp only
      split
      · rename_i z
        have tt := s2 j z.1 z.2
        exact (zTok_r (h.2 _ tt.1.1 (by have := tt.1; omega)) tt).1
      · decide
  refine ⟨by omega, fun k => fin (by omega), fun k => ⟨by omega, by omega, fun k2 => fin (by omega), fun k2 => ?_⟩⟩
  have p1 : p < X 33 4 := by omega
  have rb := h.2 p (by omega) p1
  have step : ∀ (t e : Int) (J2 : Int → XT → Prop), zTok (X 34) (X 33 4) p e t → (∀ (v45 : Int) (X46 : XT), (((0 ≤ cnt + 1 ∧ cnt + 1 ≤ v45) ∧ v45 ≤ X 33 4 ∧ Fx [33, 35, 36] X X46 ∧ (∀ f : Int, ¬ f = 5 → X46 33 f = X 33 f) ∧ ∃ bh : Int → Int, zSP (X 34) (X 33 4) (X46 33 5) (X46 35) (X46 36) bh v45) ∧ (X 33 4 - v45).toNat < (X 33 4 - p).toNat) → J2 v45 X46) → w_X5_addToken t p Y (fun X1 => J2 e X1) := by
    intro t e J2 ht hJ2
    have te := ht.1
    refine e_addT rfl sT.1 (by omega) (fun X1 f1 g5 n5 t1 t2 p1 p2 => hJ2 e X1 ⟨⟨by omega, by omega, fY.trans f1, fun f hf => (g5 f hf).trans (yf f hf), (fun j => if j = Y 33 5 then e else bh j), ?_⟩, by omega⟩)
    rw [n5]
    exact SP_tk sp ht t1 t2 p1 p2
  refine e_byte tY (by omega) (by omega) ?_
  rw [y34]
  refine e_let (by omega) (fun l => ?_) (fun l => ?_)
  · intro J2 hJ2
    refine ⟨by decide, fun z => absurd z (by decide), fun _ => ?_⟩
    refine e_bhL tY (by omega) (by omega) (by rw [y34]; exact l) (fun e e0 e1 e2 e3 => ?_)
    rw [y34] at e2 e3
    rw [y4] at e1 e3
    refine e_wordOf tY (by omega) e0 (by omega) (fun t ht => ?_)
    rw [y34] at ht
    exact step t e J2 ⟨by omega, Or.inl ⟨l, e2, e3, ht⟩⟩ hJ2
  · intro J2 hJ2
    refine ⟨by decide, fun _ => e_dig (by omega) (fun dg => ⟨by decide, fun z => absurd z (by decide), fun _ => ?_⟩) (fun dg => ⟨by decide, fun _ => ⟨by omega, fun z => ?_, fun z => ?_⟩, fun z => absurd rfl z⟩), fun z => absurd rfl z⟩
    · refine e_bhD tY (by omega) (by omega) (by rw [y34]; exact dg) (fun e e0 e1 e2 e3 => ?_)
      refine e_numb tY (by omega) (by omega) e1 e2 ?_
      rw [y34] at e2 e3 ⊢
      rw [y4] at e1 e3
      exact step _ e J2 ⟨by omega, Or.inr (Or.inl ⟨dg, e2, e3, rfl⟩)⟩ hJ2
    · exact hJ2 (p + 1) Y ⟨⟨by omega, by omega, fY, yf, bh, SP_sp sp z⟩, by dsimp only; omega⟩
    · exact step _ (p + 1) J2 ⟨by omega, Or.inr (Or.inr ⟨l, dg, z, rfl, rfl⟩)⟩ hJ2

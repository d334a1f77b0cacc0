/-! PAIRS OF CALLS THAT TELL, over the texts: feed, row -/
def LWk (X X2 : XT) : Prop := X2 10 = X 10 ∧ X2 1 13 = X 1 13 ∧ (∀ j : Int, 380 ≤ j → j < 5780 → X2 79 j = X 79 j) ∧ X2 32 = X 32 ∧ X2 21 = X 21 ∧ X2 12 = X 12 ∧ X2 80 = X 80 ∧ X2 31 = X 31 ∧ X2 22 = X 22
theorem pair_t {LW : s_LW} (hW : LWq LW) (hst : LWst LW) {mx mm : s_M} {dx dm : Nat} {as : List Value} (wx : LK → XT → (Int → XT → Prop) → Prop) (wm : XT → (Int → XT → Prop) → Prop) (hdx : dx + 1 ≤ 2048) (hdm : dm + 1 ≤ 2048)
    (sx : ∀ {n : Nat} {h hk : Nat → sE} {X : XT} {K : LK} {Q : Int → XT → Prop}, LKok K n hk → 115 ≤ n → Pic X h → Fr hk h → wx K X Q → Sp mx dx 0 0 (.ref 0 :: as) n h (pIw n h Q))
    (sm : ∀ {n : Nat} {h : Nat → sE} {X : XT} {Q : Int → XT → Prop}, 115 ≤ n → Pic X h → wm X Q → Sp mm dm 0 0 (.ref 77 :: as) n h (pIw n h Q))
    (main : ∀ (K : LK) (X : XT) (T : TT), CE K X (X 79) T → HRt (X 79) T → ME (X 79) X → RR X → wx K X (fun v X1 => wm X1 (fun v2 X2 => v2 = v ∧ RR X2 ∧ LWk X X2))) : Pair mx mm 0 0 (INV LW) as := by
  rintro n h ⟨X, hp, hn, hR, l0, l1, l2⟩
  obtain ⟨K, T, k1, k2, k3⟩ := hW n h X hp hn hR l0
  have hm : ME (X 79) X := ⟨rfl, hR.2.2.2.2.2.2.2.2.2.1⟩
  refine ⟨dx, dm, hdx, hdm, (sx k1 hn hp (fun _ _ => rfl) (main K X T k2 k3 hm hR)).mono ?_⟩
  rintro r n1 h1 ⟨rfl, f1, v, X1, rfl, p1, w1⟩
  refine ⟨iI v, rfl, ⟨hn, _, (p1 77 (by decide)).trans (ent_77 _)⟩, (sm hn p1 w1).mono ?_⟩
  rintro r n2 h2 ⟨rfl, f2, v2, X2, rfl, p2, rfl, hR2, c1, c2, c3, c4, c5, c6, c7, c8, c9⟩
  refine ⟨rfl, rfl, X2, p2, hn, hR2, ?_, ?_, ?_⟩
  · rw [c1]; exact hst n h h2 _ _ _ _ _ l0 (Fr.trans f1 f2) c2 c3
  · rw [c4, c5, c6, c7]; exact fun q => hst n h h2 _ _ _ _ _ (l1 q) (Fr.trans f1 f2) rfl (fun _ _ _ => rfl)
  · rw [c4, c8, c9, c7]; exact fun q => hst n h h2 _ _ _ _ _ (l2 q) (Fr.trans f1 f2) rfl (fun _ _ _ => rfl)
theorem e_refuse {why s : Int} {X : XT} {Q : Int → XT → Prop} (h : (why = -1 ∧ s = 0) ∨ (why = -2 ∧ s = 1) ∨ (why = -3 ∧ s = 2) ∨ (why = -5 ∧ s = 3) ∨ (why = -6 ∧ s = 4)) (q : Q why (x_st (x_st X 0 13 why) 76 s (X 76 s + 1))) : w_X11_refuse why X Q := by
  intro J hJ
  have key : ∀ v : Int, v = s → J v := by
    rintro v rfl
    refine hJ _ ⟨by omega, fun k => absurd k (by omega), fun _ => ⟨fun k => absurd k (by omega), fun _ => ⟨by omega, ?_⟩⟩⟩
    rw [x_st_c (by decide)]; exact q
  exact ⟨by omega, fun k => key _ (by omega), fun k => key _ (by omega)⟩
theorem m_tellN {a : Int} {X : XT} {Q : Int → XT → Prop} (h0 : -6 ≤ a) (h1 : a < 0) (q : Q a (x_st (x_st X 77 1 a) 78 (-a) (X 78 (-a) + 1))) : w_X12_tell a X Q := by
  intro J hJ
  refine ⟨by omega, fun k => absurd k (by omega), fun _ => hJ _ ⟨by omega, fun k => absurd k (by omega), fun _ => ⟨by omega, ?_⟩⟩⟩
  rw [x_st_c (by decide)]; exact q
theorem m_tellP {a : Int} {X : XT} {Q : Int → XT → Prop} (h0 : 0 ≤ a) (h1 : a ≤ 2147483647) (q : Q a (x_st X 77 1 0)) : w_X12_tell a X Q := by
  intro J hJ
  exact ⟨by omega, fun _ => hJ _ ⟨by omega, fun _ => q, fun k => absurd h0 k⟩, fun k => absurd h0 k⟩
theorem RR_tell {X X2 : XT} (hR : RR X) (z : Int) (c : ∀ d, kpL.elem d = false → ¬ d = 0 → ¬ d = 76 → ¬ d = 77 → ¬ d = 78 → X2 d = X d) (s1 : X2 0 13 = z) (s2 : X2 77 1 = z) (k14 : X2 0 14 = X2 77 6) (k15 : X2 0 15 = X2 77 59) (f8 : X2 77 8 = X 77 8) (f13 : X2 77 13 = X 77 13) (f15 : X2 77 15 = X 77 15) (f63 : X2 77 63 = X 77 63) (rf : R_ref (X2 76) (X2 78)) : RR X2 := by
  obtain ⟨p, s, t, _, sm, kp, i0, i1, cs⟩ := hR
  unfold RR
  rw [c 1 rfl (by decide) (by decide) (by decide) (by decide), c 2 rfl (by decide) (by decide) (by decide) (by decide), c 3 rfl (by decide) (by decide) (by decide) (by decide), c 4 rfl (by decide) (by decide) (by decide) (by decide), c 5 rfl (by decide) (by decide) (by decide) (by decide), c 6 rfl (by decide) (by decide) (by decide) (by decide), c 7 rfl (by decide) (by decide) (by decide) (by decide), c 8 rfl (by decide) (by decide) (by decide) (by decide), c 9 rfl (by decide) (by decide) (by decide) (by decide), c 79 rfl (by decide) (by decide) (by decide) (by decide), c 33 rfl (by decide) (by decide) (by decide) (by decide), c 34 rfl (by decide) (by decide) (by decide) (by decide), c 82 rfl (by decide) (by decide) (by decide) (by decide), c 52 rfl (by decide) (by decide) (by decide) (by decide), c 54 rfl (by decide) (by decide) (by decide) (by decide), c 114 rfl (by decide) (by decide) (by decide) (by decide), c 32 rfl (by decide) (by decide) (by decide) (by decide), c 81 rfl (by decide) (by decide) (by decide) (by decide), c 12 rfl (by decide) (by decide) (by decide) (by decide), c 13 rfl (by decide) (by decide) (by decide) (by decide), c 14 rfl (by decide) (by decide) (by decide) (by decide), c 15 rfl (by decide) (by decide) (by decide) (by decide), c 16 rfl (by decide) (by decide) (by decide) (by decide), c 17 rfl (by decide) (by decide) (by decide) (by decide), c 18 rfl (by decide) (by decide) (by decide) (by decide), c 19 rfl (by decide) (by decide) (by decide) (by decide), c 20 rfl (by decide) (by decide) (by decide) (by decide), c 80 rfl (by decide) (by decide) (by decide) (by decide), c 22 rfl (by decide) (by decide) (by decide) (by decide), c 23 rfl (by decide) (by decide) (by decide) (by decide), c 24 rfl (by decide) (by decide) (by decide) (by decide), c 25 rfl (by decide) (by decide) (by decide) (by decide), c 26 rfl (by decide) (by decide) (by decide) (by decide), c 27 rfl (by decide) (by decide) (by decide) (by decide), c 28 rfl (by decide) (by decide) (by decide) (by decide), c 29 rfl (by decide) (by decide) (by decide) (by decide), c 30 rfl (by decide) (by decide) (by decide) (by decide), c 11 rfl (by decide) (by decide) (by decide) (by decide), c 88 rfl (by decide) (by decide) (by decide) (by decide), c 89 rfl (by decide) (by decide) (by decide) (by decide), c 90 rfl (by decide) (by decide) (by decide) (by decide)]
  refine ⟨p, ⟨s1.trans s2.symm, k14, k15⟩, t.cg f13 f8, rf, sm.cg f63, kp, i0, i1, cs.cg f15⟩
-- bytes
theorem bt_nat (y : Int32) : (y.toInt = (y.toBitVec.toNat : Int) ∧ y.toBitVec.toNat < 2147483648) ∨ (y.toInt = (y.toBitVec.toNat : Int) - 4294967296 ∧ 2147483648 ≤ y.toBitVec.toNat ∧ y.toBitVec.toNat < 4294967296) := by
  have h1 : y.toInt = if 2 * y.toBitVec.toNat < 2 ^ 32 then (y.toBitVec.toNat : Int) else (y.toBitVec.toNat : Int) - (2 ^ 32 : Nat) := BitVec.toInt_eq_toNat_cond y.toBitVec
  have h2 : y.toBitVec.toNat < 2 ^ 32 := y.toBitVec.isLt
  split at h1 <;> omega
theorem bt_and (x : Int32) : (x &&& iI 255).toInt = ((x.toBitVec.toNat % 256 : Nat) : Int) := by
  rw [pk_and x (m := iI 255) 8 (by decide)]
  exact nI_toInt (by omega)
theorem bt_eq {a s : Int} (hs : s = 24 ∨ s = 16 ∨ s = 8 ∨ s = 0) : oAnd (oUshr a s) 255 = oAnd (oShr a s) 255 ∧ 0 ≤ oAnd (oShr a s) 255 ∧ oAnd (oShr a s) 255 ≤ 255 := by
  unfold oAnd oUshr oShr
  rw [iI_toInt, iI_toInt, bt_and, bt_and]
  generalize iI a = x
  have hx := bt_nat x
  refine ⟨?_, by omega, by omega⟩
  congr 1
  rcases hs with rfl | rfl | rfl | rfl
  · have e2 := pk_shr x (iI 24 &&& 31) 24 (by decide)
    rw [pk_ushr x (iI 24) 24 (by decide)]
    rw [Int.shiftRight_eq_div_pow] at e2
    have hy := bt_nat (x >>> (iI 24 &&& 31))
    rw [e2] at hy
    omega
  · have e2 := pk_shr x (iI 16 &&& 31) 16 (by decide)
    rw [pk_ushr x (iI 16) 16 (by decide)]
    rw [Int.shiftRight_eq_div_pow] at e2
    have hy := bt_nat (x >>> (iI 16 &&& 31))
    rw [e2] at hy
    omega
  · have e2 := pk_shr x (iI 8 &&& 31) 8 (by decide)
    rw [pk_ushr x (iI 8) 8 (by decide)]
    rw [Int.shiftRight_eq_div_pow] at e2
    have hy := bt_nat (x >>> (iI 8 &&& 31))
    rw [e2] at hy
    omega
  · have e2 := pk_shr x (iI 0 &&& 31) 0 (by decide)
    rw [pk_ushr x (iI 0) 0 (by decide)]
    rw [Int.shiftRight_eq_div_pow] at e2
    have hy := bt_nat (x >>> (iI 0 &&& 31))
    rw [e2] at hy
    omega
/-- the tape with four bytes more -/
def TP4 (a t : Int) (f g : Int → Int) : Prop := (∀ j : Int, j < t → g j = f j) ∧ g t = oAnd (oShr a 24) 255 ∧ g (t + 1) = oAnd (oShr a 16) 255 ∧ g (t + 2) = oAnd (oShr a 8) 255 ∧ g (t + 3) = oAnd (oShr a 0) 255
theorem e_append {a t : Int} {X : XT} {Q : XT → Prop} (ht : X 33 4 = t) (t0 : 0 ≤ t) (t1 : t + 4 ≤ 400) (q : ∀ X1, Fx [33, 34] X X1 → X1 33 4 = t + 4 → (∀ f : Int, ¬ f = 4 → X1 33 f = X 33 f) → TP4 a t (X 34) (X1 34) → Q X1) : w_X5_append a X Q := by
  have b24 := (bt_eq (a := a) (s := 24) (by omega)).1
  have b16 := (bt_eq (a := a) (s := 16) (by omega)).1
  have b8 := (bt_eq (a := a) (s := 8) (by omega)).1
  have b0 := (bt_eq (a := a) (s := 0) (by omega)).1
  refine ⟨fun x X1 => Fx [33, 34] X X1 ∧ (∀ f : Int, ¬ f = 4 → X1 33 f = X 33 f) ∧ (∀ j : Int, j < t → X1 34 j = X 34 j) ∧ ((x = 24 ∧ X1 33 4 = t) ∨ (x = 16 ∧ X1 33 4 = t + 1 ∧ X1 34 t = oAnd (oShr a 24) 255) ∨ (x = 8 ∧ X1 33 4 = t + 2 ∧ X1 34 t = oAnd (oShr a 24) 255 ∧ X1 34 (t + 1) = oAnd (oShr a 16) 255) ∨ (x = 0 ∧ X1 33 4 = t + 3 ∧ X1 34 t = oAnd (oShr a 24) 255 ∧ X1 34 (t + 1) = oAnd (oShr a 16) 255 ∧ X1 34 (t + 2) = oAnd (oShr a 8) 255) ∨ (x = -8 ∧ X1 33 4 = t + 4 ∧ X1 34 t = oAnd (oShr a 24) 255 ∧ X1 34 (t + 1) = oAnd (oShr a 16) 255 ∧ X1 34 (t + 2) = oAnd (oShr a 8) 255 ∧ X1 34 (t + 3) = oAnd (oShr a 0) 255)), fun x _ => (x + 8).toNat, ⟨Fx.rf, fun _ _ => rfl, fun _ _ => rfl, Or.inl ⟨rfl, ht⟩⟩, ?_⟩
  rintro x X1 ⟨f1, g1, o1, hx⟩
  have nx : ∀ (k v : Int), X1 33 4 = k → t ≤ k → Fx [33, 34] X (x_st (x_st X1 34 k v) 33 4 (k + 1)) ∧ (∀ f : Int, ¬ f = 4 → (x_st (x_st X1 34 k v) 33 4 (k + 1)) 33 f = X 33 f) ∧ (∀ j : Int, j < t → (x_st (x_st X1 34 k v) 33 4 (k + 1)) 34 j = X 34 j) ∧ (x_st (x_st X1 34 k v) 33 4 (k + 1)) 33 4 = k + 1 ∧ (x_st (x_st X1 34 k v) 33 4 (k + 1)) 34 k = v ∧ ∀ j : Int, j < k → (x_st (x_st X1 34 k v) 33 4 (k + 1)) 34 j = X1 34 j := by
    intro k v hk tk
    refine ⟨(f1.st rfl).st rfl, fun f hf => by rw [x_st_ne hf, x_st_c (by decide)]; exact g1 f hf, fun j hj => by rw [x_st_c (by decide), x_st_ne (by omega)]; exact o1 j hj, x_st_at, by rw [x_st_c (by decide), x_st_at], fun j hj => by rw [x_st_c (by decide), x_st_ne (by omega)]⟩
  rcases hx with ⟨rfl, e⟩ | ⟨rfl, e, e1⟩ | ⟨rfl, e, e1, e2⟩ | ⟨rfl, e, e1, e2, e3⟩ | ⟨rfl, e, e1, e2, e3, e4⟩
  · obtain ⟨n1, n2, n3, n4, n5, n6⟩ := nx t (oAnd (oUshr a 24) 255) e (by omega)
    refine ⟨by decide, fun k => absurd k (by decide), fun _ => ⟨by omega, fun k => absurd k (by omega), fun _ => ⟨by omega, ?_, by dsimp only; omega⟩⟩⟩
    rw [e, show (x_st X1 34 t (oAnd (oUshr a 24) 255)) 33 4 = t by rw [x_st_c (by decide), e]]
    exact ⟨n1, n2, n3, Or.inr (Or.inl ⟨rfl, n4, n5.trans b24⟩)⟩
  · obtain ⟨n1, n2, n3, n4, n5, n6⟩ := nx (t + 1) (oAnd (oUshr a 16) 255) e (by omega)
    refine ⟨by decide, fun k => absurd k (by decide), fun _ => ⟨by omega, fun k => absurd k (by omega), fun _ => ⟨by omega, ?_, by dsimp only; omega⟩⟩⟩
    rw [e, show (x_st X1 34 (t + 1) (oAnd (oUshr a 16) 255)) 33 4 = t + 1 by rw [x_st_c (by decide), e]]
    exact ⟨n1, n2, n3, Or.inr (Or.inr (Or.inl ⟨rfl, by omega, (n6 t (by omega)).trans e1, n5.trans b16⟩))⟩
  · obtain ⟨n1, n2, n3, n4, n5, n6⟩ := nx (t + 2) (oAnd (oUshr a 8) 255) e (by omega)
    refine ⟨by decide, fun k => absurd k (by decide), fun _ => ⟨by omega, fun k => absurd k (by omega), fun _ => ⟨by omega, ?_, by dsimp only; omega⟩⟩⟩
    rw [e, show (x_st X1 34 (t + 2) (oAnd (oUshr a 8) 255)) 33 4 = t + 2 by rw [x_st_c (by decide), e]]
    exact ⟨n1, n2, n3, Or.inr (Or.inr (Or.inr (Or.inl ⟨rfl, by omega, (n6 t (by omega)).trans e1, (n6 (t + 1) (by omega)).trans e2, n5.trans b8⟩)))⟩
  · obtain ⟨n1, n2, n3, n4, n5, n6⟩ := nx (t + 3) (oAnd (oUshr a 0) 255) e (by omega)
    refine ⟨by decide, fun k => absurd k (by decide), fun _ => ⟨by omega, fun k => absurd k (by omega), fun _ => ⟨by omega, ?_, by dsimp only; omega⟩⟩⟩
    rw [e, show (x_st X1 34 (t + 3) (oAnd (oUshr a 0) 255)) 33 4 = t + 3 by rw [x_st_c (by decide), e]]
    exact ⟨n1, n2, n3, Or.inr (Or.inr (Or.inr (Or.inr ⟨rfl, by omega, (n6 t (by omega)).trans e1, (n6 (t + 1) (by omega)).trans e2, (n6 (t + 2) (by omega)).trans e3, n5.trans b0⟩)))⟩
  · exact ⟨by decide, fun _ => q X1 f1 e g1 ⟨o1, e1, e2, e3, e4⟩, fun k => absurd (by decide) k⟩
theorem m_four {a t : Int} {X : XT} {Q : XT → Prop} (ht : X 77 8 = t) (t0 : 0 ≤ t) (t1 : t + 4 ≤ 400) (q : ∀ X1, Fx [77, 82] X X1 → X1 77 8 = t + 4 → (∀ f : Int, ¬ f = 8 → X1 77 f = X 77 f) → TP4 a t (X 82) (X1 82) → Q X1) : w_X12_four a X Q := by
  refine ⟨fun x X1 => Fx [77, 82] X X1 ∧ (∀ f : Int, ¬ f = 8 → X1 77 f = X 77 f) ∧ (∀ j : Int, j < t → X1 82 j = X 82 j) ∧ ((x = 24 ∧ X1 77 8 = t) ∨ (x = 16 ∧ X1 77 8 = t + 1 ∧ X1 82 t = oAnd (oShr a 24) 255) ∨ (x = 8 ∧ X1 77 8 = t + 2 ∧ X1 82 t = oAnd (oShr a 24) 255 ∧ X1 82 (t + 1) = oAnd (oShr a 16) 255) ∨ (x = 0 ∧ X1 77 8 = t + 3 ∧ X1 82 t = oAnd (oShr a 24) 255 ∧ X1 82 (t + 1) = oAnd (oShr a 16) 255 ∧ X1 82 (t + 2) = oAnd (oShr a 8) 255) ∨ (x = -8 ∧ X1 77 8 = t + 4 ∧ X1 82 t = oAnd (oShr a 24) 255 ∧ X1 82 (t + 1) = oAnd (oShr a 16) 255 ∧ X1 82 (t + 2) = oAnd (oShr a 8) 255 ∧ X1 82 (t + 3) = oAnd (oShr a 0) 255)), fun x _ => (x + 8).toNat, ⟨Fx.rf, fun _ _ => rfl, fun _ _ => rfl, Or.inl ⟨rfl, ht⟩⟩, ?_⟩
  rintro x X1 ⟨f1, g1, o1, hx⟩
  have nx : ∀ (k v : Int), X1 77 8 = k → t ≤ k → Fx [77, 82] X (x_st (x_st X1 82 k v) 77 8 (k + 1)) ∧ (∀ f : Int, ¬ f = 8 → (x_st (x_st X1 82 k v) 77 8 (k + 1)) 77 f = X 77 f) ∧ (∀ j : Int, j < t → (x_st (x_st X1 82 k v) 77 8 (k + 1)) 82 j = X 82 j) ∧ (x_st (x_st X1 82 k v) 77 8 (k + 1)) 77 8 = k + 1 ∧ (x_st (x_st X1 82 k v) 77 8 (k + 1)) 82 k = v ∧ ∀ j : Int, j < k → (x_st (x_st X1 82 k v) 77 8 (k + 1)) 82 j = X1 82 j := by
    intro k v hk tk
    refine ⟨(f1.st rfl).st rfl, fun f hf => by rw [x_st_ne hf, x_st_c (by decide)]; exact g1 f hf, fun j hj => by rw [x_st_c (by decide), x_st_ne (by omega)]; exact o1 j hj, x_st_at, by rw [x_st_c (by decide), x_st_at], fun j hj => by rw [x_st_c (by decide), x_st_ne (by omega)]⟩
  rcases hx with ⟨rfl, e⟩ | ⟨rfl, e, e1⟩ | ⟨rfl, e, e1, e2⟩ | ⟨rfl, e, e1, e2, e3⟩ | ⟨rfl, e, e1, e2, e3, e4⟩
  · obtain ⟨n1, n2, n3, n4, n5, n6⟩ := nx t (oAnd (oShr a 24) 255) e (by omega)
    refine ⟨by decide, fun k => absurd k (by decide), fun _ => ⟨by omega, ?_, by dsimp only; omega⟩⟩
    rw [e, show (x_st X1 82 t (oAnd (oShr a 24) 255)) 77 8 = t by rw [x_st_c (by decide), e]]
    exact ⟨n1, n2, n3, Or.inr (Or.inl ⟨rfl, n4, n5⟩)⟩
  · obtain ⟨n1, n2, n3, n4, n5, n6⟩ := nx (t + 1) (oAnd (oShr a 16) 255) e (by omega)
    refine ⟨by decide, fun k => absurd k (by decide), fun _ => ⟨by omega, ?_, by dsimp only; omega⟩⟩
    rw [e, show (x_st X1 82 (t + 1) (oAnd (oShr a 16) 255)) 77 8 = t + 1 by rw [x_st_c (by decide), e]]
    exact ⟨n1, n2, n3, Or.inr (Or.inr (Or.inl ⟨rfl, by omega, (n6 t (by omega)).trans e1, n5⟩))⟩
  · obtain ⟨n1, n2, n3, n4, n5, n6⟩ := nx (t + 2) (oAnd (oShr a 8) 255) e (by omega)
    refine ⟨by decide, fun k => absurd k (by decide), fun _ => ⟨by omega, ?_, by dsimp only; omega⟩⟩
    rw [e, show (x_st X1 82 (t + 2) (oAnd (oShr a 8) 255)) 77 8 = t + 2 by rw [x_st_c (by decide), e]]
    exact ⟨n1, n2, n3, Or.inr (Or.inr (Or.inr (Or.inl ⟨rfl, by omega, (n6 t (by omega)).trans e1, (n6 (t + 1) (by omega)).trans e2, n5⟩)))⟩
  · obtain ⟨n1, n2, n3, n4, n5, n6⟩ := nx (t + 3) (oAnd (oShr a 0) 255) e (by omega)
    refine ⟨by decide, fun k => absurd k (by decide), fun _ => ⟨by omega, ?_, by dsimp only; omega⟩⟩
    rw [e, show (x_st X1 82 (t + 3) (oAnd (oShr a 0) 255)) 77 8 = t + 3 by rw [x_st_c (by decide), e]]
    exact ⟨n1, n2, n3, Or.inr (Or.inr (Or.inr (Or.inr ⟨rfl, by omega, (n6 t (by omega)).trans e1, (n6 (t + 1) (by omega)).trans e2, (n6 (t + 2) (by omega)).trans e3, n5⟩)))⟩
  · exact ⟨by decide, fun _ => q X1 f1 e g1 ⟨o1, e1, e2, e3, e4⟩, fun k => absurd (by decide) k⟩
/-- two tapes that are alike stay so -/
def TPQ (t : Int) (f g : Int → Int) : Prop := ∀ j : Int, 0 ≤ j → j < t → f j = g j ∧ 0 ≤ f j ∧ f j ≤ 255
theorem TPQ.go {a t : Int} {f g f1 g1 : Int → Int} (t0 : 0 ≤ t) (h : TPQ t f g) (hf : TP4 a t f f1) (hg : TP4 a t g g1) : TPQ (t + 4) f1 g1 := by
  intro j j0 j1
  have b24 := (bt_eq (a := a) (s := 24) (by omega)).2
  have b16 := (bt_eq (a := a) (s := 16) (by omega)).2
  have b8 := (bt_eq (a := a) (s := 8) (by omega)).2
  have b0 := (bt_eq (a := a) (s := 0) (by omega)).2
  by_cases hj : j < t
  · rw [hf.1 j hj, hg.1 j hj]; exact h j j0 hj
  · rcases (show j = t ∨ j = t + 1 ∨ j = t + 2 ∨ j = t + 3 by omega) with rfl | rfl | rfl | rfl
    · rw [hf.2.1, hg.2.1]; exact ⟨rfl, b24⟩
    · rw [hf.2.2.1, hg.2.2.1]; exact ⟨rfl, b16⟩
    · rw [hf.2.2.2.1, hg.2.2.2.1]; exact ⟨rfl, b8⟩
    · rw [hf.2.2.2.2, hg.2.2.2.2]; exact ⟨rfl, b0⟩

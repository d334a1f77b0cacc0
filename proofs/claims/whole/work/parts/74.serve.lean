theorem musts {r : Int → Int} {M : Int} (w : W_con r) (hM : B24 M) (hb : ∀ j : Int, 0 ≤ j → (bt M j = true ↔ (j < r 2 ∧ coR r j 3 = 1))) : M < ((2 ^ (r 2).toNat : Nat) : Int) ∧ ∀ a : Nat, a < 2 ^ (r 2).toNat → (okS r (a : Int) ↔ ∀ j : Nat, a.testBit j = true → M.toNat.testBit j = true) := by
  have w1 := w.1
  have lt : M.toNat < 2 ^ (r 2).toNat := Nat.lt_pow_two_of_testBit _ (fun j hj => by
    cases hq : M.toNat.testBit j with
    | false => rfl
    | true =>
      have := (hb (j : Int) (by omega)).mp (by unfold bt; rw [Int.toNat_natCast]; exact hq)
      omega)
  refine ⟨?_, fun a ha => ⟨fun ok j hj => ?_, fun sub k k0 k1 hk => ?_⟩⟩
  · have : ((M.toNat : Nat) : Int) < ((2 ^ (r 2).toNat : Nat) : Int) := Int.ofNat_lt.mpr lt
    rw [show ((M.toNat : Nat) : Int) = M by omega] at this
    exact this
  · have jn : j < (r 2).toNat := by
      rcases Nat.lt_or_ge j (r 2).toNat with h | h
      · exact h
      · rw [Nat.testBit_lt_two_pow (Nat.lt_of_lt_of_le ha (Nat.pow_le_pow_right (by decide) h))] at hj
        exact absurd hj (by decide)
    have := (hb (j : Int) (by omega)).mpr ⟨by omega, ok (j : Int) (by omega) (by omega) (by unfold bt; rw [Int.toNat_natCast, Int.toNat_natCast]; exact hj)⟩
    unfold bt at this
    rw [Int.toNat_natCast] at this
    exact this
  · unfold bt at hk
    rw [Int.toNat_natCast] at hk
    exact ((hb k k0).mp (sub k.toNat hk)).2
theorem ok_le {r : Int → Int} {M : Int} {a : Nat} (sub : ∀ j : Nat, a.testBit j = true → M.toNat.testBit j = true) : a ≤ M.toNat := by
  have e : a &&& M.toNat = a := Nat.eq_of_testBit_eq (fun j => by
    rw [Nat.testBit_and]
    cases hq : a.testBit j with
    | false => rfl
    | true => rw [sub j hq]; rfl)
  rw [← e]; exact Nat.and_le_right
theorem ne_ov {r : Int → Int} {a : Nat} (w : W_con r) (h1 : 1 ≤ a) (h2 : a < 2 ^ (r 2).toNat) : ¬ ovF r (a : Int) 0 := by
  intro ov
  have w1 := w.1
  obtain ⟨j, hj⟩ := Nat.exists_testBit_of_ne_zero (show a ≠ 0 by omega)
  have jn : j < (r 2).toNat := by
    rcases Nat.lt_or_ge j (r 2).toNat with h | h
    · exact h
    · rw [Nat.testBit_lt_two_pow (Nat.lt_of_lt_of_le h2 (Nat.pow_le_pow_right (by decide) h))] at hj
      exact absurd hj (by decide)
  have := ov (j : Int) (by omega) (by omega) (by unfold bt; rw [Int.toNat_natCast, Int.toNat_natCast]; exact hj)
  have wk := w.2 (j : Int) (by omega) (by omega)
  unfold coR at this
  omega
theorem must_bit {v k : Int} (hv : v = 0 ∨ v = 1) (k0 : 0 ≤ k) (k1 : k ≤ 7) : B24 (oShl v k) ∧ ∀ i : Int, 0 ≤ i → (bt (oShl v k) i = true ↔ (v = 1 ∧ i = k)) := by
  rcases hv with rfl | rfl
  · have e : oShl 0 k = 0 := by
      have hk : k = 0 ∨ k = 1 ∨ k = 2 ∨ k = 3 ∨ k = 4 ∨ k = 5 ∨ k = 6 ∨ k = 7 := by omega
      rcases hk with rfl | rfl | rfl | rfl | rfl | rfl | rfl | rfl <;> decide +kernel
    rw [e]
    refine ⟨by decide, fun i _ => ?_⟩
    rw [show bt 0 i = false from Nat.zero_testBit _]
    exact ⟨fun z => absurd z (by decide), fun z => absurd z.1 (by decide)⟩
  · have o := one_b k0 (show k ≤ 23 by omega)
    refine ⟨o.1, fun i i0 => ?_⟩
    rw [o.2 i i0]
    exact ⟨fun z => ⟨rfl, z⟩, fun z => z.2⟩
theorem q_serve {LW : s_LW} (hW : LWq LW) (hst : LWst LW) (a1 a2 : Int32) : Pair m_X11_serve m_X12_serve 0 0 (INV LW) [.int a1, .int a2] := by
  obtain ⟨c, rfl, rc⟩ := iI_of a1
  obtain ⟨i, rfl, ri⟩ := iI_of a2
  refine pair_q hW hst (fun K X Q => w_X11_serve K c i X Q) (fun X Q => w_X12_serve c i X Q) (by decide) (by decide) (fun hK hn hp hf w => so_X11_serve hK hn hp hf w) (fun hn hp w => so_X12_serve hn hp w) (fun K X T b hT e => ?_)
  have w := b.rw
  have tr := b.2.2.2
  have wc := w.2.2.1
  have wc1 := wc.1
  have wn := w.2.2.2.2.1
  have wn1 := wn.1
  obtain ⟨r, hr⟩ : ∃ r, X 79 = r := ⟨_, rfl⟩
  rw [hr] at b hT e w wc wc1 wn wn1
  have e0 : ∀ X1 : XT, ME r X1 → x_st X1 77 0 0 79 0 = r 0 := fun X1 m => by rw [x_st_c (by decide), m.1]
  have bad : ¬ (0 ≤ c ∧ c < r 0) ∨ ¬ (0 ≤ i ∧ i ≤ 1) → w_X12_serve c i X (fun v2 X2 => v2 = -1 ∧ Gx kpL X X2) := fun hb => by
    have B : ((-1 : Int) = -1 ∧ Gx kpL X (x_st X 77 0 0)) := ⟨rfl, Gx_of Fx.rf Gx_th⟩
    unfold w_X12_serve
    rw [e0 X e]
    exact ⟨rc, wc1, fun _ => B, fun z1 => ⟨ri, fun z2 => absurd hb (by omega), fun _ => B⟩⟩
  unfold w_X11_serve
  rw [b.nc]
  refine ⟨rc, by omega, fun z => bad (Or.inl z), fun z1 => ⟨ri, fun z2 => ?_, fun z => bad (Or.inr z)⟩⟩
  have bg := bgF_r wc z1.1 z1.2
  have mm : ∀ (X1 : XT) (f s : Int), Fx scC X X1 → BST r T c (2 ^ (r 2).toNat) f s → ∀ V : Int, V = (if i = 0 then f else s) → w_X12_serve c i X1 (fun v2 X2 => v2 = V ∧ Gx kpL X X2) := by
    intro X1 f s f1 hB V hV
    have e1 : ME r X1 := e.fx f1
    unfold w_X12_serve
    rw [e0 X1 e1]
    refine ⟨rc, wc1, fun z => absurd (by omega) z, fun _ => ⟨ri, fun _ => ?_, fun z => absurd z2 z⟩⟩
    refine m_works w hT tr e1.th z1.1 z1.2 (fun X2 g2 k2 => ?_)
    have e2 : ME r X2 := e1.th.go g2 rfl
    refine m_serveAll w e2.1 k2 z1.1 z1.2 (fun f2 s2 X3 f3 hB2 => ?_) ri
    obtain ⟨rfl, rfl⟩ := BST_one _ _ _ _ _ hB hB2
    exact ⟨hV.symm, Gx_of f1 ((Gx_th.trans (g2.sub (by decide))).trans ⟨fun d hd k => f3 d (el_sub (l2 := scM) (by decide) hd), fun _ _ => by rw [f3 77 rfl]⟩)⟩
  refine e_take b Fx.rf z1.1 z1.2 (fun X2 f2 p2 => ?_)
  have f2b : Fx scC X X2 := f2.sub (by decide)
  refine e_start b f2b z1.1 z1.2 ?_
  refine e_spread b f2b z1.1 z1.2 p2 (by decide) (by decide) (by decide) bg.1 (by omega) (Or.inl rfl) (Or.inl rfl) (fun X3 f3 sp3 => ?_)
  have f3b : Fx scC X X3 := f2b.trans (f3.sub (by decide))
  obtain ⟨mk3, p3, st3, _, cl3⟩ := sp3
  refine e_stuck mk3 (fun X4 f4 stu4 => ?_)
  have f4b : Fx scC X X4 := f3b.trans (f4.sub (by decide))
  have en : X4 1 11 = r 2 := by rw [f4b 1 rfl]; exact b.nk
  rw [en]
  refine ⟨fun M k => 0 ≤ k ∧ k ≤ r 2 ∧ B24 M ∧ ∀ j : Int, 0 ≤ j → (bt M j = true ↔ (j < k ∧ coR r j 3 = 1)), fun _ k => (r 2 - k).toNat, ⟨by decide, wn1.1, by decide, fun j j0 => ?_⟩, ?_⟩
  · rw [show bt 0 j = false from Nat.zero_testBit _]
    exact ⟨fun z => absurd z (by decide), fun z => absurd z.1 (by omega)⟩
  rintro M k ⟨k0, k1, hM, hb⟩
  refine ⟨by omega, by omega, fun z3 => ?_, fun z3 => ?_⟩
  rotate_left
  · have wk := wn.2 k k0 (by omega)
    have ek : X4 7 (k * 5 + 3) = coR r k 3 := by rw [f4b 7 rfl]; exact b.con k0 (by omega) (by decide) (by decide)
    rw [ek]
    have mbt := must_bit (v := coR r k 3) (k := k) (by unfold coR; omega) k0 (by omega)
    have o := oOr_b hM mbt.1
    refine ⟨by omega, ⟨by omega, by omega, o.1, fun j j0 => ?_⟩, by dsimp only; omega⟩
    rw [o.2, Bool.or_eq_true, hb j j0, mbt.2 j j0]
    constructor
    · rintro (⟨x, y⟩ | ⟨x, rfl⟩)
      · exact ⟨by omega, y⟩
      · exact ⟨by omega, x⟩
    · rintro ⟨x, y⟩
      by_cases hq : j = k
      · rw [hq] at y; exact Or.inr ⟨y, hq⟩
      · exact Or.inl ⟨by omega, y⟩
  have ekn : k = r 2 := by omega
  subst ekn
  obtain ⟨Mlt, okM⟩ := musts wn hM hb
  have sb := (shl_n wn1.1 wn1.2).2
  refine ⟨fun f s a X5 => 1 ≤ a ∧ a ≤ M + 1 ∧ Fx [66, 67] X4 X5 ∧ 0 ≤ f ∧ f ≤ 1000 ∧ BST r T c a.toNat f s, fun _ _ a _ => (M + 1 - a).toNat, ⟨by decide, by omega, Fx.rf, by decide, by decide, BST_1⟩, ?_⟩
  rintro f s a X5 ⟨a0, a1', f5, fl, fu, hB⟩
  have f5b : Fx scC X X5 := f4b.trans (f5.sub (by decide))
  have es : (a + 1).toNat = a.toNat + 1 := by omega
  have ec : ((a.toNat : Nat) : Int) = a := by omega
  refine ⟨by omega, by omega, fun z4 => ?_, fun z4 => ?_⟩
  · have hBN : BST r T c (2 ^ (r 2).toNat) f s := by
      have h1 : a.toNat = M.toNat + 1 := by omega
      have h2 : M.toNat + 1 ≤ 2 ^ (r 2).toNat := by
        have : ((M.toNat : Nat) : Int) < ((2 ^ (r 2).toNat : Nat) : Int) := by rw [show ((M.toNat : Nat) : Int) = M by omega]; exact Mlt
        have := Int.ofNat_lt.mp this
        omega
      obtain ⟨j, ej⟩ : ∃ j : Nat, 2 ^ (r 2).toNat = a.toNat + j := ⟨2 ^ (r 2).toNat - a.toNat, by omega⟩
      rw [ej]
      refine BST_up hB j (fun m m0 m1 ok => ?_)
      have := ok_le (r := r) ((okM m (by omega)).mp ok)
      omega
    exact ⟨ri, fun zi => mm X5 f s f5b hBN _ (by rw [if_neg zi]), fun zi => mm X5 f s f5b hBN _ (by rw [if_pos zi])⟩
  · have aN : a.toNat < 2 ^ (r 2).toNat := by
      have : ((M.toNat : Nat) : Int) < ((2 ^ (r 2).toNat : Nat) : Int) := by rw [show ((M.toNat : Nat) : Int) = M by omega]; exact Mlt
      have := Int.ofNat_lt.mp this
      omega
    have hA : B24 a := by omega
    have n := oNot_b hA hM
    have okA := okM a.toNat aN
    rw [ec] at okA
    have zer : oAnd a (oXor M (-1)) = 0 ↔ okS r a := by
      rw [okA, b24_0 n.1]
      constructor
      · intro h j hj
        have j24 : j < 24 := by
          rcases Nat.lt_or_ge j 24 with g | g
          · exact g
          · rw [b24_big hA g] at hj; exact absurd hj (by decide)
        have h2 := h (j : Int) (by omega) (by omega)
        rw [n.2] at h2
        unfold bt at h2
        rw [Int.toNat_natCast, hj, Bool.true_and, Bool.not_eq_false'] at h2
        exact h2
      · intro h j j0 j1
        rw [n.2]
        unfold bt
        cases hq : a.toNat.testBit j.toNat with
        | false => rfl
        | true => rw [h j.toNat hq]; rfl
    have skip : ∀ X6, Fx [66, 67] X4 X6 → ¬ cndS r T c a f → ((1 ≤ a + 1 ∧ a + 1 ≤ M + 1 ∧ Fx [66, 67] X4 X6 ∧ 0 ≤ f ∧ f ≤ 1000 ∧ BST r T c (a + 1).toNat f s) ∧ (M + 1 - (a + 1)).toNat < (M + 1 - a).toNat) := fun X6 f6 hn => by
      refine ⟨⟨by omega, by omega, f6, fl, fu, ?_⟩, by omega⟩
      rw [es]
      exact ⟨f, s, hB, Or.inr ⟨by rw [ec]; exact hn, rfl, rfl⟩⟩
    have nb := n.1
    refine ⟨by omega, fun z5 => skip X5 f5 (fun y => z5 (zer.mpr y.1)), fun z5 => e_fees b f5b (by omega) (by omega) ?_⟩
    have fr := feF_r (a := a) wn (r 2).toNat (by omega)
    refine ⟨by omega, by omega, fun z6 => skip X5 f5 (fun y => by have := y.2.1; omega), fun z6 => ?_⟩
    have p5 : PTK r c X5 := (p3.fx f4 rfl).fx f5 rfl
    have e59 : X5 59 = X3 59 := (f5 59 rfl).trans (f4 59 rfl)
    have e65 : X5 65 = X4 65 := f5 65 rfl
    have ne := ne_ov (r := r) (a := a.toNat) wn (by omega) aN
    rw [ec] at ne
    refine e_canKeep b f5b z1.1 z1.2 p5 (by omega) (by omega) ne (by rw [e59, e65]; exact stu4) (by rw [e59]; exact st3) (fun h s d x0 x1 y0 y1 hm d0 d1 => by
      rw [e59] at hm ⊢
      have := cl3 h s x0 x1 y0 y1 hm d 4 0 ⟨d0, d1, Or.inl ⟨rfl, rfl⟩, Or.inl rfl⟩
      rw [nyF_4] at this; exact this) (fun v X6 f6 hv => ?_)
    refine ⟨by omega, fun z7 => skip X6 (f5.trans f6) (fun y => ?_), fun z7 => ⟨⟨by omega, by omega, f5.trans f6, by omega, by omega, ?_⟩, by dsimp only; omega⟩⟩
    · rcases hv with hv | hv
      · omega
      · exact hv.2 y.2.2
    · have hc := (hv.resolve_right (fun y => z7 y.1)).2
      rw [es]
      exact ⟨f, s, hB, Or.inl ⟨by rw [ec]; exact ⟨zer.mp z5, by omega, hc⟩, by rw [ec], ec.symm⟩⟩

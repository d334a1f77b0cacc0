/-! TEXTS: the class reads sums and tests: plain tests, tests, all -/
theorem e_plain {lw : Bool} {tk : Int → Int} {fu : Nat} {d : Int} (d0 : 0 ≤ d) (d1 : d ≤ 8) (hS : zCR lw tk (w_parse fu 2 d) (zrd lw tk fu 2 d)) (hTt : d < 8 → zCR lw tk (w_parse fu 0 (d + 1)) (zrd lw tk fu 0 (d + 1))) : zCR lw tk (w_parse (fu + 1) 1 d) (zrd lw tk (fu + 1) 1 d) := by
  intro i v X Q h hi hv i0 i1 v0 v1 s0 s1 q
  have HT := h.ht
  rw [rd_s1] at q
  obtain ⟨k1, k2, k3, k4⟩ := ntF_at HT 400 i i1
  generalize hK : ntF tk 400 i = K at *
  have k5 := k3 (by omega)
  generalize hB : (if tk (i + (K : Int)) = 1040 then (if 8 ≤ d then (false, i + (K : Int), v, dNo) else zcl 1041 tk (zrd lw tk fu 0 (d + 1) (i + (K : Int) + 1) v)) else rdCm (zrd lw tk fu 2 d) tk (i + (K : Int)) v) = B at q
  obtain ⟨tD, t1, ti, tv⟩ := tn_D K B
  generalize ztn K B = R at *
  unfold w_parse
  refine ⟨fun tn cnt Y => ∃ k : Nat, cnt = (k : Int) ∧ k ≤ K ∧ tn = ((k % 2 : Nat) : Int) ∧ CFr X Y ∧ Y 33 6 = i + (k : Int) ∧ Y 33 7 = v ∧ Y 37 = X 37 ∧ Y 39 = X 39, fun _ cnt _ => (400 - cnt).toNat, ⟨0, rfl, Nat.zero_le _, rfl, CFr.rf, by rw [hi]; omega, hv, rfl, rfl⟩, ?_⟩
  rintro tn cnt Y ⟨k, rfl, kK, rfl, fY, y6, y7, y37, y39⟩
  have tY := h.go fY
  intro J hJ
  have stop : k = K → J Y := by
    rintro rfl
    refine hJ Y ?_
    have hk := h.2.2.2.2.1 (i + (k : Int))
    refine e_token tY y6 (by omega) (by omega) ?_
    intro J2 hJ2
    -- the end of it: it is turned, or not
    have fin : ∀ Z : XT, CFr X Z → Z 33 6 = B.2.1 → Z 33 7 = B.2.2.1 → (X 37 3 ≤ Z 37 3 ∧ (Z 37 3 - X 37 3) % 2 = 0) → Z 37 3 - X 37 3 ≤ 2 * (B.2.1 - (i + (k : Int))) → B.2.1 ≤ 400 → (∀ j : Int, j < X 37 3 → Z 39 j = X 39 j) → (B.1 = true → zRC lw (Z 39) (X 37 3) (Z 37 3) B.2.2.2 (B.2.2.1 - v)) → J2 (if B.1 = true then 1 else 0) Z := by
      intro Z fZ z6 z7 z3 z4 z400 zb zr
      have v01 : ((if B.1 = true then (1 : Int) else 0) = 0 ∨ (if B.1 = true then (1 : Int) else 0) = 1) := by split; exact Or.inr rfl; exact Or.inl rfl
      refine hJ2 _ Z ⟨by omega, fun z => ⟨v01, ?_⟩, fun z => ?_⟩
      · have hev : k % 2 = 0 := by omega
        rw [← t1]
        refine q Z ⟨fZ, by rw [ti]; exact z6, by rw [tv]; exact z7, z3, by rw [ti]; omega, zb, fun z => ?_⟩
        rw [tD, tv, dNots_eq, if_neg (by omega)]
        exact zr (by rw [← t1]; exact z)
      · have hod : k % 2 = 1 := by omega
        refine e_emit (X := Z) rfl (by omega) (by omega) (Or.inl (by decide)) (fun Z4 f4 w3 w0 w1 wb w33 => ⟨v01, ?_⟩)
        rw [← t1]
        refine q Z4 ⟨fZ.tr f4, by rw [w33, ti]; exact z6, by rw [w33, tv]; exact z7, by omega, by rw [ti]; omega, fun j hj => by rw [wb j (by omega)]; exact zb j hj, fun z => ?_⟩
        rw [tD, tv, dNots_eq, if_pos hod, w3]
        exact RC_not ((zr (by rw [← t1]; exact z)).cg (fun j j0 j1 => wb j j1)) w0
    -- what fails at once
    have bad : ∀ Z : XT, B.1 = false → CFr X Z → Z 33 6 = B.2.1 → Z 33 7 = B.2.2.1 → (X 37 3 ≤ Z 37 3 ∧ (Z 37 3 - X 37 3) % 2 = 0) → Z 37 3 - X 37 3 ≤ 2 * (B.2.1 - (i + (k : Int))) → (∀ j : Int, j < X 37 3 → Z 39 j = X 39 j) → Q 0 Z := by
      intro Z b fZ z6 z7 z3 z4 zb
      exact CPo.dn q (t1.trans b) fZ (by rw [ti]; exact z6) (by rw [tv]; exact z7) z3 (by rw [ti]; omega) zb
    refine ⟨by omega, fun a => ?_, fun a => ?_⟩
    · rw [if_neg a] at hB
      have mo := rd_mov (lw := lw) HT fu 2 d (i + (k : Int)) v (by omega) (by omega)
      unfold zMO at mo
      refine hS (i + (k : Int)) v Y _ tY y6 y7 (by omega) (by omega) v0 v1 (by rw [y37]; exact s0) (by rw [y37]; omega) (fun Y2 c2 => ?_)
      unfold rdCm at hB
      obtain ⟨f2, b6, b7, b3, b4, b5, b8⟩ := c2
      rw [y37] at b3 b4 b5 b8
      rw [y39] at b5
      generalize zrd lw tk fu 2 d (i + (k : Int)) v = r at *
      have fa := fY.tr f2
      have hk2 := h.2.2.2.2.1 r.2.1
      refine e_token (h.go fa) b6 (by omega) (by omega) (e_relat hk2 ?_)
      by_cases b : r.1 = false
      · rw [if_pos b] at hB
        subst hB
        rw [if_neg (by rw [b]; decide)]
        exact ⟨by decide, fun _ => bad Y2 b fa b6 b7 b3 b4 b5, fun z => absurd rfl z⟩
      rw [if_neg b] at hB
      rw [if_pos (zbF b)]
      have mi := mo.2.1 (zbF b)
      have rr := relOf_r (t := tk r.2.1)
      have rn := relOf_n (t := tk r.2.1)
      refine ⟨by decide, fun z => absurd z (by decide), fun _ => ⟨?_, fun c => ?_, fun c => ?_⟩⟩
      · by_cases z : relOf (tk r.2.1) = -1
        · rw [z]; decide
        · have := rr z; omega
      · rw [if_neg c] at hB
        have lt := tk_lt HT (rn c)
        have rr := rr c
        have mo2 := rd_mov (lw := lw) HT fu 2 d (r.2.1 + 1) r.2.2.1 (by omega) (by omega)
        unfold zMO at mo2
        refine e_pass (h.go fa) b6 (by omega) (rn c) ?_
        obtain ⟨f3, a6, a7, a37, a39⟩ := nx6 (X := Y2) (k := r.2.1 + 1)
        generalize x_st Y2 33 6 (r.2.1 + 1) = Y3 at *
        refine hS (r.2.1 + 1) r.2.2.1 Y3 _ (h.go (fa.tr f3)) a6 (by rw [a7]; exact b7) (by omega) (by omega) (by omega) (by omega) (by rw [a37]; omega) (by rw [a37]; omega) (fun Y4 c4 => ?_)
        obtain ⟨f4, d6, d7, d3, d4, d5, d8⟩ := c4
        rw [a37] at d3 d4 d5 d8
        rw [a39] at d5
        generalize zrd lw tk fu 2 d (r.2.1 + 1) r.2.2.1 = r' at *
        have fb := (fa.tr f3).tr f4
        refine e_emit (X := Y4) rfl (by omega) (by omega) (Or.inl (by omega)) (fun Y5 f5 z3 z0 z1 zb z33 => ?_)
        by_cases b2 : r'.1 = false
        · rw [if_pos b2] at hB
          subst hB
          have := fin Y5 (fb.tr f5) (by rw [z33]; exact d6) (by rw [z33]; exact d7) (by omega) (by omega) (by omega) (fun j hj => by rw [zb j (by omega), d5 j (by omega)]; exact b5 j hj) (fun z => (by rw [b2] at z; cases z))
          rw [if_neg (by rw [b2]; decide)] at this ⊢
          exact this
        · rw [if_neg b2] at hB
          subst hB
          rw [if_pos (zbF b2)]
          have mi2 := mo2.2.1 (zbF b2)
          have bel : ∀ j : Int, j < Y2 37 3 → Y5 39 j = Y2 39 j := fun j hj => by rw [zb j (by omega), d5 j hj]
          refine fin Y5 (fb.tr f5) (by rw [z33]; exact d6) (by rw [z33]; exact d7) (by omega) (by dsimp only; omega) (by dsimp only; omega) (fun j hj => by rw [bel j (by omega)]; exact b5 j hj) (fun _ => ?_)
          rw [z3]
          dsimp only
          have := RC_bin ((b8 (zbF b)).cg (fun j j0 j1 => bel j j1)) ((d8 (zbF b2)).cg (fun j j0 j1 => zb j j1)) (show 7 ≤ relOf (tk r.2.1) by omega) (by omega) z0
          rw [show r.2.2.1 - v + (r'.2.2.1 - r.2.2.1) = r'.2.2.1 - v by omega] at this
          exact this
      · rw [if_pos c] at hB
        subst hB
        exact bad Y2 rfl fa b6 b7 b3 b4 b5
    · rw [if_pos a] at hB
      have lt := tk_lt HT (i := i + (k : Int)) (by omega)
      refine ⟨by omega, fun b => ?_, fun b => ?_⟩
      · rw [if_neg (by omega)] at hB
        refine e_pass tY y6 (by omega) (by omega) ?_
        obtain ⟨f1, a6, a7, a37, a39⟩ := nx6 (X := Y) (k := i + (k : Int) + 1)
        generalize x_st Y 33 6 (i + (k : Int) + 1) = Y2 at *
        have mo := rd_mov (lw := lw) HT fu 0 (d + 1) (i + (k : Int) + 1) v (by omega) (by omega)
        unfold zMO at mo
        have fa := fY.tr f1
        refine hTt b (i + (k : Int) + 1) v Y2 _ (h.go fa) a6 (by rw [a7]; exact y7) (by omega) (by omega) v0 v1 (by rw [a37, y37]; exact s0) (by rw [a37, y37]; omega) (fun Y3 c3 => ?_)
        unfold zcl at hB
        obtain ⟨f3, b6, b7, b3, b4, b5, b8⟩ := c3
        rw [a37, y37] at b3 b4 b5 b8
        rw [a39, y39] at b5
        generalize zrd lw tk fu 0 (d + 1) (i + (k : Int) + 1) v = r at *
        have fb := fa.tr f3
        by_cases b2 : r.1 = false
        · rw [if_pos b2] at hB
          subst hB
          have := fin Y3 fb b6 b7 b3 (by omega) (by omega) b5 (fun z => (by rw [b2] at z; cases z))
          rw [if_neg (by rw [b2]; decide)] at this ⊢
          exact ⟨by decide, fun _ => this, fun z => absurd rfl z⟩
        rw [if_neg b2] at hB
        rw [if_pos (zbF b2)]
        have mi := mo.2.1 (zbF b2)
        refine ⟨by decide, fun z => absurd z (by decide), fun _ => ?_⟩
        refine e_takeT (h.go fb) b6 (by omega) (by omega) (by decide) (by decide) (fun c => ⟨by decide, fun z => absurd z (by decide), fun _ => ?_⟩) (fun c => ⟨by decide, fun _ => ?_, fun z => absurd rfl z⟩)
        · rw [if_pos c] at hB
          subst hB
          have lt2 := tk_lt HT (i := r.2.1) (by omega)
          obtain ⟨f4, c6, c7, c37, c39⟩ := nx6 (X := Y3) (k := r.2.1 + 1)
          exact fin _ (fb.tr f4) c6 (by rw [c7]; exact b7) (by rw [c37]; exact b3) (by rw [c37]; dsimp only; omega) (by dsimp only; omega) (fun j hj => by rw [c39]; exact b5 j hj) (fun _ => by rw [c37, c39]; exact b8 (zbF b2))
        · rw [if_neg c] at hB
          subst hB
          exact fin Y3 fb b6 b7 b3 (by dsimp only; omega) (by dsimp only; omega) b5 (fun z => (by cases z))
      · rw [if_pos (by omega)] at hB
        subst hB
        exact bad Y rfl fY y6 y7 (by rw [y37]; omega) (by rw [y37]; dsimp only; omega) (fun j _ => by rw [y39])
  refine ⟨by omega, fun z => absurd z (by omega), fun _ => ?_⟩
  refine e_takeT tY y6 (by omega) (by omega) (by decide) (by decide) (fun c => ⟨by decide, fun z => absurd z (by decide), fun _ => ?_⟩) (fun c => ⟨by decide, fun _ => stop ?_, fun z => absurd rfl z⟩)
  · have kl : k < K := by
      by_cases z : k < K
      · exact z
      · exact absurd c (by rw [show k = K by omega]; exact k5)
    have lt := tk_lt HT (i := i + (k : Int)) (by omega)
    obtain ⟨f4, c6, c7, c37, c39⟩ := nx6 (X := Y) (k := i + (k : Int) + 1)
    refine ⟨by omega, fun z => ⟨⟨k + 1, by omega, by omega, by omega, fY.tr f4, by rw [c6]; omega, by rw [c7]; exact y7, by rw [c37]; exact y37, by rw [c39]; exact y39⟩, by dsimp only; omega⟩, fun z => ⟨⟨k + 1, by omega, by omega, by omega, fY.tr f4, by rw [c6]; omega, by rw [c7]; exact y7, by rw [c37]; exact y37, by rw [c39]; exact y39⟩, by dsimp only; omega⟩⟩
  · by_cases z : k < K
    · exact absurd (k4 (i + (k : Int)) (by omega) (by omega)) c
    · omega

/-! PAIRS OF CALLS THAT TELL, over the texts: feed, row -/
theorem RR_tape {X X2 : XT} (hR : RR X) (c : ∀ d, ¬ d = 33 → ¬ d = 34 → ¬ d = 77 → ¬ d = 82 → X2 d = X d) (k33 : ∀ f : Int, ¬ f = 4 → X2 33 f = X 33 f) (k77 : ∀ f : Int, ¬ f = 0 → ¬ f = 8 → X2 77 f = X 77 f) (t0 : X2 33 4 = X2 77 8 ∧ 0 ≤ X2 33 4 ∧ X2 33 4 ≤ 400) (tp : TPQ (X2 33 4) (X2 34) (X2 82)) : RR X2 := by
  obtain ⟨p, s, t, rf, sm, kp, i0, i1, cs⟩ := hR
  unfold RR
  rw [c 0 (by decide) (by decide) (by decide) (by decide), c 1 (by decide) (by decide) (by decide) (by decide), c 2 (by decide) (by decide) (by decide) (by decide), c 3 (by decide) (by decide) (by decide) (by decide), c 4 (by decide) (by decide) (by decide) (by decide), c 5 (by decide) (by decide) (by decide) (by decide), c 6 (by decide) (by decide) (by decide) (by decide), c 7 (by decide) (by decide) (by decide) (by decide), c 8 (by decide) (by decide) (by decide) (by decide), c 9 (by decide) (by decide) (by decide) (by decide), c 79 (by decide) (by decide) (by decide) (by decide), c 76 (by decide) (by decide) (by decide) (by decide), c 78 (by decide) (by decide) (by decide) (by decide), c 52 (by decide) (by decide) (by decide) (by decide), c 54 (by decide) (by decide) (by decide) (by decide), c 114 (by decide) (by decide) (by decide) (by decide), c 32 (by decide) (by decide) (by decide) (by decide), c 81 (by decide) (by decide) (by decide) (by decide), c 12 (by decide) (by decide) (by decide) (by decide), c 13 (by decide) (by decide) (by decide) (by decide), c 14 (by decide) (by decide) (by decide) (by decide), c 15 (by decide) (by decide) (by decide) (by decide), c 16 (by decide) (by decide) (by decide) (by decide), c 17 (by decide) (by decide) (by decide) (by decide), c 18 (by decide) (by decide) (by decide) (by decide), c 19 (by decide) (by decide) (by decide) (by decide), c 20 (by decide) (by decide) (by decide) (by decide), c 80 (by decide) (by decide) (by decide) (by decide), c 22 (by decide) (by decide) (by decide) (by decide), c 23 (by decide) (by decide) (by decide) (by decide), c 24 (by decide) (by decide) (by decide) (by decide), c 25 (by decide) (by decide) (by decide) (by decide), c 26 (by decide) (by decide) (by decide) (by decide), c 27 (by decide) (by decide) (by decide) (by decide), c 28 (by decide) (by decide) (by decide) (by decide), c 29 (by decide) (by decide) (by decide) (by decide), c 30 (by decide) (by decide) (by decide) (by decide), c 11 (by decide) (by decide) (by decide) (by decide), c 88 (by decide) (by decide) (by decide) (by decide), c 89 (by decide) (by decide) (by decide) (by decide), c 90 (by decide) (by decide) (by decide) (by decide)]
  refine ⟨p, ?_, ⟨?_, t0, tp⟩, rf, sm.cg (k77 63 (by decide) (by decide)), kp, i0, i1, cs.cg (k77 15 (by decide) (by decide))⟩
  · unfold R_sts
    rw [k77 1 (by decide) (by decide), k77 6 (by decide) (by decide), k77 59 (by decide) (by decide)]; exact s
  · rw [k33 8 (by decide), k77 13 (by decide) (by decide)]; exact t.1
theorem LWk_of {X X2 : XT} (c : ∀ d, d = 10 ∨ d = 1 ∨ d = 79 ∨ d = 32 ∨ d = 21 ∨ d = 12 ∨ d = 80 ∨ d = 31 ∨ d = 22 → X2 d = X d) : LWk X X2 :=
  ⟨c 10 (by omega), by rw [c 1 (by omega)], fun j _ _ => by rw [c 79 (by omega)], c 32 (by omega), c 21 (by omega), c 12 (by omega), c 80 (by omega), c 31 (by omega), c 22 (by omega)⟩
theorem q_feed {LW : s_LW} (hW : LWq LW) (hst : LWst LW) (a1 a2 a3 a4 a5 : Int32) : Pair m_X11_feed m_X12_feed 0 0 (INV LW) [.int a1, .int a2, .int a3, .int a4, .int a5] := by
  obtain ⟨a, rfl, ra⟩ := iI_of a1
  obtain ⟨b, rfl, rb⟩ := iI_of a2
  obtain ⟨c, rfl, rc⟩ := iI_of a3
  obtain ⟨d, rfl, rd⟩ := iI_of a4
  obtain ⟨e, rfl, re⟩ := iI_of a5
  refine pair_t hW hst (fun K X Q => w_X11_feed a b c d e X Q) (fun X Q => w_X12_feed a b c d e X Q) (by decide) (by decide) (fun hK hn hp hf w => so_X11_feed hn hp w) (fun hn hp w => so_X12_feed hn hp w) (fun K X T bb hT em hR => ?_)
  have ht := hR.2.2.1
  have h1 := ht.2.1
  have q0 : TPQ (X 33 4) (X 34) (X 82) := ht.2.2
  obtain ⟨t, et⟩ : ∃ t, X 33 4 = t := ⟨_, rfl⟩
  rw [et] at h1 q0
  refine ⟨by omega, fun k => ?_, fun k => ?_⟩
  · refine e_append et h1.2.1 (by omega) (fun X1 f1 t1 g1 p1 => ?_)
    refine e_append t1 (by omega) (by omega) (fun X2 f2 t2 g2 p2 => ?_)
    refine e_append t2 (by omega) (by omega) (fun X3 f3 t3 g3 p3 => ?_)
    refine e_append t3 (by omega) (by omega) (fun X4 f4 t4 g4 p4 => ?_)
    refine e_append t4 (by omega) (by omega) (fun X5 f5 t5 g5 p5 => ?_)
    have F : Fx [33, 34] X X5 := f1.trans (f2.trans (f3.trans (f4.trans f5)))
    have u0 : x_st X5 77 0 0 77 8 = t := by rw [x_st_ne (by decide), F 77 rfl]; exact h1.1.symm
    have v0 : x_st X5 77 0 0 82 = X 82 := by rw [x_st_c (by decide), F 82 rfl]
    unfold w_X12_feed
    dsimp only
    rw [u0]
    refine ⟨by omega, fun _ => ?_, fun k2 => absurd (show t + 20 ≤ 400 by omega) k2⟩
    refine m_four u0 h1.2.1 (by omega) (fun Y1 e1 s1 r1 o1 => ?_)
    refine m_four s1 (by omega) (by omega) (fun Y2 e2 s2 r2 o2 => ?_)
    refine m_four s2 (by omega) (by omega) (fun Y3 e3 s3 r3 o3 => ?_)
    refine m_four s3 (by omega) (by omega) (fun Y4 e4 s4 r4 o4 => ?_)
    refine m_four s4 (by omega) (by omega) (fun Y5 e5 s5 r5 o5 => ?_)
    have E : Fx [77, 82] (x_st X5 77 0 0) Y5 := e1.trans (e2.trans (e3.trans (e4.trans e5)))
    rw [v0] at o1
    have q5 := TPQ.go (by omega) (TPQ.go (by omega) (TPQ.go (by omega) (TPQ.go (by omega) (TPQ.go h1.2.1 q0 p1 o1) p2 o2) p3 o3) p4 o4) p5 o5
    have c1 : ∀ d, ¬ d = 33 → ¬ d = 34 → ¬ d = 77 → ¬ d = 82 → Y5 d = X d := fun d d1 d2 d3 d4 => by
      rw [E d (by simp [d3, d4]), x_st_c d3, F d (by simp [d1, d2])]
    have y33 : Y5 33 = X5 33 := by rw [E 33 rfl, x_st_c (by decide)]
    have y34 : Y5 34 = X5 34 := by rw [E 34 rfl, x_st_c (by decide)]
    refine ⟨by omega, RR_tape hR c1 (fun f hf => ?_) (fun f f0 f8 => ?_) ⟨by rw [y33]; omega, by rw [y33]; omega, by rw [y33]; omega⟩ (by rw [y33, y34, t5]; exact q5), LWk_of (fun d hd => c1 d (by omega) (by omega) (by omega) (by omega))⟩
    · rw [y33, g5 f hf, g4 f hf, g3 f hf, g2 f hf, g1 f hf]
    · rw [r5 f f8, r4 f f8, r3 f f8, r2 f f8, r1 f f8, x_st_ne f0, F 77 rfl]
  · have u0 : x_st X 77 0 0 77 8 = t := by rw [x_st_ne (by decide)]; exact h1.1.symm
    unfold w_X12_feed
    dsimp only
    rw [u0]
    refine ⟨by omega, fun k2 => absurd (show X 33 4 + 20 ≤ 400 by omega) k, fun _ => ⟨rfl, RR_kp hR (Gx_of Fx.rf Gx_th), LWk_of (fun d hd => x_st_c (by omega))⟩⟩
theorem q_row {LW : s_LW} (hW : LWq LW) (hst : LWst LW) : Pair m_X11_row m_X12_row 0 0 (INV LW) [] := by
  refine pair_t hW hst (fun K X Q => w_X11_row X Q) (fun X Q => w_X12_row X Q) (by decide) (by decide) (fun hK hn hp hf w => so_X11_row hn hp w) (fun hn hp w => so_X12_row hn hp w) (fun K X T bb hT em hR => ?_)
  have ht := hR.2.2.1
  have hr4 := hR.2.2.2.1
  have h1 := ht.2.1
  have u8 : X 77 8 = X 33 4 := h1.1.symm
  have tq : ∀ j : Int, 0 ≤ j → j < X 33 4 → X 34 j = X 82 j ∧ 0 ≤ X 34 j ∧ X 34 j ≤ 255 := ht.2.2
  obtain ⟨t, et⟩ : ∃ t, X 33 4 = t := ⟨_, rfl⟩
  rw [et] at h1 u8 tq
  have u0 : x_st X 77 0 0 77 8 = t := by rw [x_st_ne (by decide)]; exact u8
  -- refused
  have bad : (t = 0 ∨ ¬ X 82 0 ≤ 7) → (t = 0 ∨ R32 (X 82 0)) → w_X11_refuse (-6) (x_st X 33 4 0) (fun v X1 => w_X12_row X1 (fun v2 X2 => v2 = v ∧ RR X2 ∧ LWk X X2)) := by
    intro hb hrr
    refine e_refuse (s := 4) (by omega) ?_
    rw [x_st_c (by decide : ¬ 76 = 33)]
    generalize hX1 : x_st (x_st (x_st X 33 4 0) 0 13 (-6)) 76 4 (X 76 4 + 1) = X1
    have a77 : X1 77 = X 77 := by rw [← hX1, x_st_c (by decide), x_st_c (by decide), x_st_c (by decide)]
    have a82 : X1 82 = X 82 := by rw [← hX1, x_st_c (by decide), x_st_c (by decide), x_st_c (by decide)]
    have a78 : X1 78 = X 78 := by rw [← hX1, x_st_c (by decide), x_st_c (by decide), x_st_c (by decide)]
    have b0 : x_st X1 77 0 0 77 8 = t := by rw [x_st_ne (by decide), a77]; exact u8
    have b1 : x_st (x_st X1 77 0 0) 77 8 0 82 0 = X 82 0 := by rw [x_st_c (by decide), x_st_c (by decide), a82]
    have fin : w_X12_tell (-6) (x_st (x_st X1 77 0 0) 77 8 0) (fun v2 X2 => v2 = -6 ∧ RR X2 ∧ LWk X X2) := by
      refine m_tellN (by decide) (by decide) ?_
      rw [x_st_c (by decide : ¬ 78 = 77), x_st_c (by decide : ¬ 78 = 77), a78]
      generalize hY : x_st (x_st (x_st (x_st X1 77 0 0) 77 8 0) 77 1 (-6)) 78 (- -6) (X 78 (- -6) + 1) = Y
      have yc : ∀ d, ¬ d = 33 → ¬ d = 0 → ¬ d = 76 → ¬ d = 77 → ¬ d = 78 → Y d = X d := fun d d1 d2 d3 d4 d5 => by
        rw [← hY, x_st_c d5, x_st_c d4, x_st_c d4, x_st_c d4, ← hX1, x_st_c d3, x_st_c d2, x_st_c d1]
      have y77 : ∀ f : Int, Y 77 f = if f = 1 then -6 else if f = 8 then 0 else if f = 0 then 0 else X 77 f := fun f => by
        rw [← hY, x_st_c (by decide), x_st_s]; unfold uI; rw [x_st_s]; unfold uI; rw [x_st_s]; unfold uI; rw [a77]
      have y0 : ∀ f : Int, Y 0 f = if f = 13 then -6 else X 0 f := fun f => by
        rw [← hY, x_st_c (by decide), x_st_c (by decide), x_st_c (by decide), x_st_c (by decide), ← hX1, x_st_c (by decide), x_st_s]; unfold uI; rw [x_st_c (by decide)]
      have y33 : ∀ f : Int, Y 33 f = if f = 4 then 0 else X 33 f := fun f => by
        rw [← hY, x_st_c (by decide), x_st_c (by decide), x_st_c (by decide), x_st_c (by decide), ← hX1, x_st_c (by decide), x_st_c (by decide), x_st_s]; rfl
      have y76 : ∀ f : Int, Y 76 f = if f = 4 then X 76 4 + 1 else X 76 f := fun f => by
        rw [← hY, x_st_c (by decide), x_st_c (by decide), x_st_c (by decide), x_st_c (by decide), ← hX1, x_st_s]; unfold uI; rw [x_st_c (by decide), x_st_c (by decide)]
      have y78 : ∀ f : Int, Y 78 f = if f = 6 then X 78 6 + 1 else X 78 f := fun f => by
        rw [← hY, x_st_s, x_st_c (by decide), x_st_c (by decide), x_st_c (by decide), a78]; rfl
      -- first with the tape empty, then refused
      have hR1 : RR (x_st (x_st X 33 4 0) 77 8 0) := by
        refine RR_tape hR (fun d d1 d2 d3 d4 => by rw [x_st_c d3, x_st_c d1]) (fun f hf => by rw [x_st_c (by decide), x_st_ne hf]) (fun f f0 f8 => by rw [x_st_ne f8, x_st_c (by decide)]) ⟨?_, ?_, ?_⟩ (fun j j0 j1 => ?_)
        · rw [x_st_c (by decide), x_st_at, x_st_at]
        · rw [x_st_c (by decide), x_st_at]; omega
        · rw [x_st_c (by decide), x_st_at]; omega
        · rw [x_st_c (by decide), x_st_at] at j1; omega
      have c33 : Y 33 = (x_st (x_st X 33 4 0) 77 8 0) 33 := by
        funext f; rw [y33, x_st_c (by decide), x_st_s]; rfl
      refine ⟨rfl, RR_tell hR1 (-6) (fun d dk d0 d76 d77 d78 => ?_) ?_ ?_ ?_ ?_ ?_ ?_ ?_ ?_ ?_, LWk_of (fun d hd => yc d (by omega) (by omega) (by omega) (by omega) (by omega))⟩
      · by_cases h33 : d = 33
        · rw [h33]; exact c33
        · rw [yc d h33 d0 d76 d77 d78, x_st_c d77, x_st_c h33]
      · rw [y0]; rfl
      · rw [y77]; rfl
      · rw [y0, y77]; exact hR.2.1.2.1
      · rw [y0, y77]; exact hR.2.1.2.2
      · rw [y77, x_st_at]; rfl
      · rw [y77, x_st_ne (by decide), x_st_c (by decide)]; rfl
      · rw [y77, x_st_ne (by decide), x_st_c (by decide)]; rfl
      · rw [y77, x_st_ne (by decide), x_st_c (by decide)]; rfl
      · unfold R_ref
        rw [y76, y76, y76, y76, y76, y78, y78, y78, y78, y78]
        obtain ⟨z0, z1, z2, z3, z4⟩ := hr4
        exact ⟨z0, z1, z2, z3, congrArg (· + 1) z4⟩
    unfold w_X12_row
    dsimp only
    rw [b0, b1]
    refine ⟨by omega, fun _ => fin, fun k => ⟨by omega, fun k2 => absurd hb (by omega), fun _ => fin⟩⟩
  by_cases t0 : t = 0
  · refine ⟨by decide, fun k => absurd k (by decide), fun _ => ?_⟩
    rw [et]
    refine ⟨by omega, fun _ => ?_, fun k => absurd (by omega) k⟩
    intro J hJ
    refine ⟨by omega, fun _ => hJ (bad (Or.inl t0) (Or.inl t0)), fun k => absurd t0 k⟩
  -- a row
  have tq0 := tq 0 (by decide) (by omega)
  refine ⟨by decide, fun k => absurd k (by decide), fun _ => ?_⟩
  rw [et]
  refine ⟨by omega, fun k => absurd k (by omega), fun _ => ⟨fun k => absurd k (by decide), fun _ => ⟨by decide, ?_⟩⟩⟩
  intro J hJ
  refine ⟨by omega, fun k => absurd k t0, fun _ => ⟨by omega, fun ky => ?_, fun ky => hJ (bad (Or.inr (by omega)) (Or.inr (by omega)))⟩⟩
  clear hJ J
  obtain ⟨tp, etp⟩ : ∃ tp, X 34 = tp := ⟨_, rfl⟩
  rw [etp] at tq tq0 ky
  obtain ⟨y, ey⟩ : ∃ y, tp 0 = y := ⟨_, rfl⟩
  rw [ey] at tq0 ky
  rw [etp, ey]
  have fnx : ∀ x : Int, 0 ≤ x → x ≤ 7 → ((x.toNat : Nat) : Int) = x ∧ (x + 1).toNat = x.toNat + 1 := fun x _ _ => by omega
  refine ⟨fun n x X1 => 0 ≤ x ∧ x ≤ 8 ∧ (x = 0 ∨ x < t) ∧ n = smF (fun i => 0 < tp (i + 1)) x.toNat ∧ Fx [2] X X1 ∧ ∀ j : Int, X1 2 j = if 64 + 8 * y ≤ j ∧ j < 64 + 8 * y + x ∧ 0 < tp (j - 64 - 8 * y + 1) then tp (j - 64 - 8 * y + 1) else X 2 j, fun _ x _ => (8 - x).toNat, ⟨by decide, by decide, Or.inl rfl, rfl, Fx.rf, fun j => (if_neg (by omega)).symm⟩, ?_⟩
  rintro n x X1 ⟨x0, x1, xt, rfl, f1, hx⟩
  have fin : (x = 8 ∨ t ≤ x + 1) → w_X11_grant (smF (fun i => 0 < tp (i + 1)) x.toNat) (x_st (x_st X1 0 14 ((t - 1) - smF (fun i => 0 < tp (i + 1)) x.toNat)) 33 4 0) (fun v X1 => w_X12_row X1 (fun v2 X2 => v2 = v ∧ RR X2 ∧ LWk X X2)) := by
    intro hend
    generalize hN : smF (fun i => 0 < tp (i + 1)) x.toNat = N
    have nr := smF_r (p := fun i => 0 < tp (i + 1)) x.toNat
    rw [hN] at nr
    show w_X12_row (x_st (x_st (x_st X1 0 14 ((t - 1) - N)) 33 4 0) 0 13 0) _
    generalize hZ : x_st (x_st (x_st X1 0 14 ((t - 1) - N)) 33 4 0) 0 13 0 = Z
    have a77 : Z 77 = X 77 := by rw [← hZ, x_st_c (by decide), x_st_c (by decide), x_st_c (by decide), f1 77 rfl]
    have a82 : Z 82 = X 82 := by rw [← hZ, x_st_c (by decide), x_st_c (by decide), x_st_c (by decide), f1 82 rfl]
    have a79 : Z 79 = X 79 := by rw [← hZ, x_st_c (by decide), x_st_c (by decide), x_st_c (by decide), f1 79 rfl]
    have b0 : x_st Z 77 0 0 77 8 = t := by rw [x_st_ne (by decide), a77]; exact u8
    have e82 : X 82 0 = y := tq0.1.symm
    have b1 : x_st (x_st Z 77 0 0) 77 8 0 82 0 = y := by rw [x_st_c (by decide), x_st_c (by decide), a82]; exact e82
    unfold w_X12_row
    dsimp only
    rw [b0, b1]
    refine ⟨by omega, fun k => absurd k t0, fun _ => ⟨by omega, fun _ => ?_, fun k => absurd ky.2 k⟩⟩
    intro J hJ
    have key : ∀ hz : Int, hz = (if t ≤ 9 then 0 else t - 9) → J hz := by
      intro hz ehz
      refine hJ hz ?_
      refine ⟨fun m z Y => 0 ≤ z ∧ z ≤ 8 ∧ (z = 0 ∨ z < t) ∧ m = smF (fun i => 0 < tp (i + 1)) z.toNat ∧ Fx [77, 79] Z Y ∧ (∀ f : Int, Y 77 f = if f = 6 then hz + z - smF (fun i => 0 < tp (i + 1)) z.toNat else if f = 8 then 0 else if f = 0 then 0 else X 77 f) ∧ ∀ j : Int, Y 79 j = if 41 + 24 * y ≤ j ∧ j < 41 + 24 * y + 3 * z ∧ (j - 41) % 3 = 0 ∧ 0 < tp ((j - 41) / 3 - 8 * y + 1) then tp ((j - 41) / 3 - 8 * y + 1) else X 79 j, fun _ z _ => (8 - z).toNat, ⟨by decide, by decide, Or.inl rfl, rfl, ((Fx.rf.st rfl).st rfl).st rfl, fun f => ?_, fun j => ?_⟩, ?_⟩
      · rw [x_st_s]; unfold uI; rw [x_st_s]; unfold uI; rw [x_st_s]; unfold uI; rw [a77]
        show _ = if f = 6 then hz + 0 - 0 else _
        rw [Int.add_zero, Int.sub_zero]
      · rw [x_st_c (by decide), x_st_c (by decide), x_st_c (by decide), a79]; exact (if_neg (by omega)).symm
      rintro m z Y ⟨z0, z1, zt, rfl, fY, y77, y79⟩
      have rtell : (z = 8 ∨ t ≤ z + 1) → w_X12_tell (smF (fun i => 0 < tp (i + 1)) z.toNat) Y (fun v2 X2 => v2 = N ∧ RR X2 ∧ LWk X X2) := by
        intro zend
        have ez : z = x := by omega
        have nz : smF (fun i => 0 < tp (i + 1)) z.toNat = N := by rw [ez]; exact hN
        rw [nz]
        refine m_tellP nr.1 (by omega) ⟨rfl, ?_, ?_⟩
        · -- the relation
          generalize hW2 : x_st Y 77 1 0 = W
          have wc : ∀ d, ¬ d = 0 → ¬ d = 2 → ¬ d = 33 → ¬ d = 77 → ¬ d = 79 → W d = X d := fun d d0 d2 d33 d77 d79 => by
            rw [← hW2, x_st_c d77, fY d (by simp [d77, d79]), ← hZ, x_st_c d0, x_st_c d33, x_st_c d0, f1 d (by simp [d2])]
          have w0 : ∀ f : Int, W 0 f = if f = 13 then 0 else if f = 14 then t - 1 - N else X 0 f := fun f => by
            rw [← hW2, x_st_c (by decide), fY 0 rfl, ← hZ, x_st_s]; unfold uI; rw [x_st_c (by decide), x_st_s]; unfold uI; rw [f1 0 rfl]
          have w33 : ∀ f : Int, W 33 f = if f = 4 then 0 else X 33 f := fun f => by
            rw [← hW2, x_st_c (by decide), fY 33 rfl, ← hZ, x_st_c (by decide), x_st_s]; unfold uI; rw [x_st_c (by decide), f1 33 rfl]
          have w2 : ∀ j : Int, W 2 j = if 64 + 8 * y ≤ j ∧ j < 64 + 8 * y + x ∧ 0 < tp (j - 64 - 8 * y + 1) then tp (j - 64 - 8 * y + 1) else X 2 j := fun j => by
            rw [← hW2, x_st_c (by decide), fY 2 rfl, ← hZ, x_st_c (by decide), x_st_c (by decide), x_st_c (by decide)]; exact hx j
          have w79 : ∀ j : Int, W 79 j = if 41 + 24 * y ≤ j ∧ j < 41 + 24 * y + 3 * x ∧ (j - 41) % 3 = 0 ∧ 0 < tp ((j - 41) / 3 - 8 * y + 1) then tp ((j - 41) / 3 - 8 * y + 1) else X 79 j := fun j => by
            rw [← hW2, x_st_c (by decide), y79, ez]
          have w77 : ∀ f : Int, W 77 f = if f = 1 then 0 else if f = 6 then hz + z - N else if f = 8 then 0 else if f = 0 then 0 else X 77 f := fun f => by
            rw [← hW2, x_st_s]; unfold uI; rw [y77, nz]
          obtain ⟨⟨p1, p2, p3, p4, p5, p6, p7, p8⟩, s, t', rf, sm, kp, i0, i1, cs⟩ := hR
          have ko : ∀ j : Int, j < 41 ∨ 232 ≤ j → W 79 j = X 79 j := fun j hj => by rw [w79, if_neg (by omega)]
          unfold RR
          rw [wc 1 (by decide) (by decide) (by decide) (by decide) (by decide), wc 3 (by decide) (by decide) (by decide) (by decide) (by decide), wc 4 (by decide) (by decide) (by decide) (by decide) (by decide), wc 5 (by decide) (by decide) (by decide) (by decide) (by decide), wc 6 (by decide) (by decide) (by decide) (by decide) (by decide), wc 7 (by decide) (by decide) (by decide) (by decide) (by decide), wc 8 (by decide) (by decide) (by decide) (by decide) (by decide), wc 9 (by decide) (by decide) (by decide) (by decide) (by decide), wc 34 (by decide) (by decide) (by decide) (by decide) (by decide), wc 82 (by decide) (by decide) (by decide) (by decide) (by decide), wc 76 (by decide) (by decide) (by decide) (by decide) (by decide), wc 78 (by decide) (by decide) (by decide) (by decide) (by decide), wc 52 (by decide) (by decide) (by decide) (by decide) (by decide), wc 54 (by decide) (by decide) (by decide) (by decide) (by decide), wc 114 (by decide) (by decide) (by decide) (by decide) (by decide), wc 32 (by decide) (by decide) (by decide) (by decide) (by decide), wc 81 (by decide) (by decide) (by decide) (by decide) (by decide), wc 12 (by decide) (by decide) (by decide) (by decide) (by decide), wc 13 (by decide) (by decide) (by decide) (by decide) (by decide), wc 14 (by decide) (by decide) (by decide) (by decide) (by decide), wc 15 (by decide) (by decide) (by decide) (by decide) (by decide), wc 16 (by decide) (by decide) (by decide) (by decide) (by decide), wc 17 (by decide) (by decide) (by decide) (by decide) (by decide), wc 18 (by decide) (by decide) (by decide) (by decide) (by decide), wc 19 (by decide) (by decide) (by decide) (by decide) (by decide), wc 20 (by decide) (by decide) (by decide) (by decide) (by decide), wc 80 (by decide) (by decide) (by decide) (by decide) (by decide), wc 22 (by decide) (by decide) (by decide) (by decide) (by decide), wc 23 (by decide) (by decide) (by decide) (by decide) (by decide), wc 24 (by decide) (by decide) (by decide) (by decide) (by decide), wc 25 (by decide) (by decide) (by decide) (by decide) (by decide), wc 26 (by decide) (by decide) (by decide) (by decide) (by decide), wc 27 (by decide) (by decide) (by decide) (by decide) (by decide), wc 28 (by decide) (by decide) (by decide) (by decide) (by decide), wc 29 (by decide) (by decide) (by decide) (by decide) (by decide), wc 30 (by decide) (by decide) (by decide) (by decide) (by decide), wc 11 (by decide) (by decide) (by decide) (by decide) (by decide), wc 88 (by decide) (by decide) (by decide) (by decide) (by decide), wc 89 (by decide) (by decide) (by decide) (by decide) (by decide), wc 90 (by decide) (by decide) (by decide) (by decide) (by decide)]
          refine ⟨⟨fun c d c0 c1 d0 d1 => ?_, p2.cg (fun j _ _ => ko j (by omega)), p3.cg rfl (ko 0 (by omega)) (fun j _ _ => ko j (by omega)), p4.cg rfl rfl (ko 1 (by omega)) (fun j _ _ => ko j (by omega)), p5.cg rfl (ko 2 (by omega)) (fun j _ _ => ko j (by omega)), p6.cg rfl (ko 3 (by omega)) (fun j _ _ => ko j (by omega)), p7.cg (fun j _ _ => ko j (by omega)), p8.cg rfl rfl (ko 4 (by omega)) (ko 5 (by omega))⟩, ⟨?_, ?_, ?_⟩, ⟨?_, ⟨?_, ?_, ?_⟩, fun j j0 j1 => ?_⟩, rf, sm.cg ?_, kp, i0, i1, cs.cg ?_⟩
          · have old := p1 c d c0 c1 d0 d1
            by_cases hq : d = 1 ∧ 8 * y ≤ c ∧ c < 8 * y + x ∧ 0 < tp (c - 8 * y + 1)
            · obtain ⟨rfl, q1, q2, q3⟩ := hq
              have tb := tq (c - 8 * y + 1) (by omega) (by omega)
              have e1 : W 2 (1 * 64 + c) = tp (c - 8 * y + 1) := by
                have eqa : 1 * 64 + c - 64 - 8 * y + 1 = c - 8 * y + 1 := by omega
                rw [w2, eqa, if_pos (by omega)]
              have e2 : W 79 (40 + 3 * c + 1) = tp (c - 8 * y + 1) := by
                have eqa : (40 + 3 * c + 1 - 41) / 3 - 8 * y + 1 = c - 8 * y + 1 := by omega
                rw [w79, eqa, if_pos (by omega)]
              rw [e1, e2]
              refine ⟨rfl, by omega, by omega, fun h => by omega, fun h => by omega, fun h => by omega⟩
            · have e1 : W 2 (d * 64 + c) = X 2 (d * 64 + c) := by
                rw [w2, if_neg]
                rintro ⟨q1, q2, q3⟩
                have hd : d = 1 := by omega
                subst hd
                have eqa : 1 * 64 + c - 64 - 8 * y + 1 = c - 8 * y + 1 := by omega
                rw [eqa] at q3
                exact hq ⟨rfl, by omega, by omega, q3⟩
              have e2 : W 79 (40 + 3 * c + d) = X 79 (40 + 3 * c + d) := by
                rw [w79, if_neg]
                rintro ⟨q1, q2, q3, q4⟩
                have hd : d = 1 := by omega
                subst hd
                have eqa : (40 + 3 * c + 1 - 41) / 3 - 8 * y + 1 = c - 8 * y + 1 := by omega
                rw [eqa] at q4
                exact hq ⟨rfl, by omega, by omega, q4⟩
              rw [e1, e2]; exact old
          · rw [w0, w77]; rfl
          · rw [w0, w77, if_neg (by decide), if_pos rfl, if_neg (by decide), if_pos rfl, ehz]
            split <;> omega
          · rw [w0, w77]; exact s.2.2
          · rw [w33, w77]; exact t'.1
          · rw [w33, w77]; rfl
          · rw [w33]; exact Int.le_refl _
          · rw [w33]; exact (show (0 : Int) ≤ 400 by decide)
          · rw [w33] at j1; exact absurd (show j < (0 : Int) from j1) (by omega)
          · rw [w77]; rfl
          · rw [w77]; rfl
        · have wcd : ∀ d, ¬ d = 0 → ¬ d = 2 → ¬ d = 33 → ¬ d = 77 → ¬ d = 79 → x_st Y 77 1 0 d = X d := fun d d0 d2 d33 d77 d79 => by
            rw [x_st_c d77, fY d (by simp [d77, d79]), ← hZ, x_st_c d0, x_st_c d33, x_st_c d0, f1 d (by simp [d2])]
          refine ⟨wcd 10 (by decide) (by decide) (by decide) (by decide) (by decide), by rw [wcd 1 (by decide) (by decide) (by decide) (by decide) (by decide)], fun j j0 j1 => ?_, wcd 32 (by decide) (by decide) (by decide) (by decide) (by decide), wcd 21 (by decide) (by decide) (by decide) (by decide) (by decide), wcd 12 (by decide) (by decide) (by decide) (by decide) (by decide), wcd 80 (by decide) (by decide) (by decide) (by decide) (by decide), wcd 31 (by decide) (by decide) (by decide) (by decide) (by decide), wcd 22 (by decide) (by decide) (by decide) (by decide) (by decide)⟩
          rw [x_st_c (by decide), y79, if_neg (by omega)]
      refine ⟨by omega, fun k => rtell (Or.inl (by omega)), fun k => ⟨by omega, fun k2 => rtell (Or.inr k2), fun k2 => ?_⟩⟩
      obtain ⟨ez, ez1⟩ := fnx z z0 (by omega)
      have tb := tq (z + 1) (by omega) (by omega)
      have es0 : ¬ 0 < tp (z + 1) → smF (fun i => 0 < tp (i + 1)) (z + 1).toNat = smF (fun i => 0 < tp (i + 1)) z.toNat := fun h => by rw [ez1, smF_s, ez, if_neg h, Int.add_zero]
      have es1 : 0 < tp (z + 1) → smF (fun i => 0 < tp (i + 1)) (z + 1).toNat = smF (fun i => 0 < tp (i + 1)) z.toNat + 1 := fun h => by rw [ez1, smF_s, ez, if_pos h]
      have yb : Y 82 = X 82 := by rw [fY 82 rfl]; exact a82
      rw [yb, ← tb.1, e82]
      refine ⟨by omega, by omega, fun k3 => ⟨⟨by omega, by omega, Or.inr (by omega), ?_, fY.st rfl, fun f => ?_, fun j => ?_⟩, by dsimp only; omega⟩, fun k3 => ⟨by omega, ⟨by omega, by omega, Or.inr (by omega), ?_, fY.st rfl, fun f => ?_, fun j => ?_⟩, by dsimp only; omega⟩⟩
      · exact (es0 (by omega)).symm
      · rw [es0 (by omega), x_st_s]
        unfold uI
        by_cases hf : f = 6
        · rw [if_pos hf, if_pos hf, y77, if_pos rfl]; omega
        · rw [if_neg hf, if_neg hf, y77, if_neg hf]
      · rw [x_st_c (by decide), y79]
        by_cases hj : 41 + 24 * y ≤ j ∧ j < 41 + 24 * y + 3 * z ∧ (j - 41) % 3 = 0 ∧ 0 < tp ((j - 41) / 3 - 8 * y + 1)
        · rw [if_pos hj, if_pos ⟨hj.1, by omega, hj.2.2⟩]
        · rw [if_neg hj, if_neg]
          rintro ⟨q1, q2, q3, q4⟩
          by_cases hq : j < 41 + 24 * y + 3 * z
          · exact hj ⟨q1, hq, q3, q4⟩
          · have eqa : (j - 41) / 3 - 8 * y + 1 = z + 1 := by omega
            rw [eqa] at q4; omega
      · exact (es1 (by omega)).symm
      · rw [es1 (by omega), x_st_c (by decide), y77]
        by_cases hf : f = 6
        · rw [if_pos hf, if_pos hf]; omega
        · rw [if_neg hf, if_neg hf]
      · rw [x_st_s]
        unfold uI
        by_cases hj : j = 40 + 3 * (8 * y + z) + 1
        · have eqa : (j - 41) / 3 - 8 * y + 1 = z + 1 := by omega
          rw [if_pos hj, eqa, if_pos (by omega)]
        · rw [if_neg hj, y79]
          by_cases hj2 : 41 + 24 * y ≤ j ∧ j < 41 + 24 * y + 3 * z ∧ (j - 41) % 3 = 0 ∧ 0 < tp ((j - 41) / 3 - 8 * y + 1)
          · rw [if_pos hj2, if_pos ⟨hj2.1, by omega, hj2.2.2⟩]
          · rw [if_neg hj2, if_neg]
            rintro ⟨q1, q2, q3, q4⟩
            exact hj2 ⟨q1, by omega, q3, q4⟩
    exact ⟨fun k => key 0 (by rw [if_pos k]), fun k => key _ (by rw [if_neg k])⟩
  intro J hJ
  refine ⟨by omega, fun k => hJ (fin (Or.inl (by omega))), fun k => ⟨by omega, fun k2 => hJ (fin (Or.inr k2)), fun k2 => ?_⟩⟩
  obtain ⟨ex, ex1⟩ := fnx x x0 (by omega)
  have tb := tq (x + 1) (by omega) (by omega)
  refine ⟨by omega, fun k3 => absurd k3 (by omega), fun _ => ?_⟩
  rw [f1 33 rfl, f1 34 rfl, et, etp]
  refine ⟨by omega, fun k3 => absurd k3 (by omega), fun _ => ⟨fun k3 => absurd k3 (by omega), fun _ => ⟨by omega, ?_⟩⟩⟩
  refine ⟨by omega, fun k3 => ⟨⟨by omega, by omega, Or.inr (by omega), ?_, f1, fun j => ?_⟩, by dsimp only; omega⟩, fun k3 => ⟨by omega, fun k4 => absurd (by omega) k4, fun _ => ⟨by decide, fun k4 => absurd (by decide) k4, fun _ => ⟨by omega, ⟨by omega, by omega, Or.inr (by omega), ?_, f1.st rfl, fun j => ?_⟩, by dsimp only; omega⟩⟩⟩⟩
  · rw [ex1, smF_s, ex, if_neg (by omega), Int.add_zero]
  · rw [hx]
    by_cases hj : 64 + 8 * y ≤ j ∧ j < 64 + 8 * y + x ∧ 0 < tp (j - 64 - 8 * y + 1)
    · rw [if_pos hj, if_pos ⟨hj.1, by omega, hj.2.2⟩]
    · rw [if_neg hj, if_neg]
      rintro ⟨q1, q2, q3⟩
      by_cases hq : j < 64 + 8 * y + x
      · exact hj ⟨q1, hq, q3⟩
      · have eqa : j - 64 - 8 * y + 1 = x + 1 := by omega
        rw [eqa] at q3; omega
  · rw [ex1, smF_s, ex, if_pos (by omega)]
  · rw [x_st_s]
    unfold uI
    by_cases hj : j = (1 * 64) + (8 * y + x)
    · have eqa : j - 64 - 8 * y + 1 = x + 1 := by omega
      rw [if_pos hj, eqa, if_pos (by omega)]
    · rw [if_neg hj, hx]
      by_cases hj2 : 64 + 8 * y ≤ j ∧ j < 64 + 8 * y + x ∧ 0 < tp (j - 64 - 8 * y + 1)
      · rw [if_pos hj2, if_pos ⟨hj2.1, by omega, hj2.2.2⟩]
      · rw [if_neg hj2, if_neg]
        rintro ⟨q1, q2, q3⟩
        exact hj2 ⟨q1, by omega, q3⟩

/-! TEXTS: the reference reads a law, all of it -/
theorem m_readLaw {f : Int → Int} {n M : Int} {tk pl bh : Int → Int} {lw : Bool} {X : XT} {i v : Int} {c : zCD} {Q : XT → Prop} (s : zRS f n M tk pl bh) (ho : X 77 15 = if lw = true then 0 else 1) (h88 : X 88 = X0 88) (h89 : X 89 = X0 89) (h90 : X 90 = X0 90) (z : zQS f n M pl X i v c) (n0 : 0 ≤ X 77 16 ∧ X 77 16 ≤ 12) {fu : Nat} (hfu : 28 ≤ fu) (q : ∀ X1, LFr X X1 → zLwR f n M tk pl lw fu X i v c X1 → Q X1) : w_X12_readLaw X Q := by
  have o := (at_obs s z.1).1
  have i0 := z.1.2.2.2.2.1
  have bad : ¬ ((15 ≤ tk i ∧ tk i ≤ 18) ∧ X 77 16 < 12) → Q (x_st (x_st X 77 14 1) 77 13 (X 77 9)) := fun hh => q _ ((LFr.rf.f7 (by decide)).f7 (by decide)) ⟨fun _ => ⟨by rw [x_st_ne (by decide), x_st_at], by rw [x_st_at]; exact z.1.2.2.1, z.1.2.2.2.2.2⟩, fun w => absurd w hh, fun j _ => by rw [x_st_c (by decide), x_st_c (by decide)]⟩
  have badJ : ¬ ((15 ≤ tk i ∧ tk i ≤ 18) ∧ X 77 16 < 12) → R32 ((x_st (x_st X 77 14 1) 77 13 (X 77 9)) 77 14) ∧ ¬ (x_st (x_st X 77 14 1) 77 13 (X 77 9)) 77 14 = 0 := fun _ => by
    rw [x_st_ne (by decide), x_st_at]; decide
  refine m_kind o h90 (fun hk => ?_) (fun hk => ?_)
  rotate_left
  · intro J hJ
    have hh : ¬ ((15 ≤ tk i ∧ tk i ≤ 18) ∧ X 77 16 < 12) := fun w => hk w.1
    exact ⟨by decide, fun _ => hJ 0 (m_mustF z.2.1 ⟨(badJ hh).1, fun w => absurd w (badJ hh).2, fun _ => bad hh⟩), fun w => absurd rfl w⟩
  intro J hJ
  refine ⟨by omega, fun w => absurd w (by omega), fun _ => ⟨by omega, fun w => ?_, fun w => hJ 1 (m_mustT s z.1 z.2.1 (by decide) (by omega) (fun X1 f1 a1 => ?_))⟩⟩
  · have hh : ¬ ((15 ≤ tk i ∧ tk i ≤ 18) ∧ X 77 16 < 12) := fun y => by omega
    exact hJ 0 (m_mustF z.2.1 ⟨(badJ hh).1, fun w => absurd w (badJ hh).2, fun _ => bad hh⟩)
  have hc : (15 ≤ tk i ∧ tk i ≤ 18) ∧ X 77 16 < 12 := ⟨hk, by omega⟩
  have zX := z.nx f1 a1
  have e14 := zX.2.1
  have e16 : X1 77 16 = X 77 16 := f1.2 16 (by decide)
  rw [e16]
  have q' : ∀ X2, LFr X X2 → (∀ S : zRT, S = (if tk i = 18 then (true, i + 1, v, dNo) else zrd lw tk fu 2 0 (i + 1) v) → (S.1 = false → zBd M pl X2 S.2.1) ∧ (S.1 = true → ∃ c1 : zCD, zEX c c1 ∧ (tk i = 18 → c1 = c) ∧ (¬ tk i = 18 → zRP lw c1 c.2.2 c1.2.2 S.2.2.2 (S.2.2.1 - v)) ∧ (¬ tk S.2.1 = 24 → zQS f n M pl X2 S.2.1 S.2.2.1 c1 ∧ X2 77 16 = X 77 16 + 1 ∧ zRow X2 (X 77 16) (tk i - 15) c.2.2 c1.2.2 c1.2.2 c1.2.2) ∧ (tk S.2.1 = 24 → ∀ T : zRT, T = zrd lw tk fu 0 0 (S.2.1 + 1) S.2.2.1 → (T.1 = false → zBd M pl X2 T.2.1) ∧ (T.1 = true → ∃ c2 : zCD, zQS f n M pl X2 T.2.1 T.2.2.1 c2 ∧ zEX c1 c2 ∧ zRP lw c2 c1.2.2 c2.2.2 T.2.2.2 (T.2.2.1 - S.2.2.1) ∧ zTB T.2.2.2 ∧ X2 77 16 = X 77 16 + 1 ∧ zRow X2 (X 77 16) (tk i - 15) c.2.2 c1.2.2 c1.2.2 c2.2.2)))) → (∀ j : Int, j < 8 * X 77 16 → X2 83 j = X 83 j) → Q X2 := fun X2 lf a b => q X2 lf ⟨fun w => absurd hc w, fun _ => a, b⟩
  have o2 : X 77 15 = if lw = true then 0 else 1 := ho
  generalize hm : X 77 16 = m at *
  refine ⟨by rw [e14]; decide, fun _ => ⟨fun x Y => (0 ≤ x ∧ x ≤ 8) ∧ LFr X Y ∧ zQS f n M pl Y (i + 1) v c ∧ Y 77 16 = m ∧ (∀ j : Int, j < 8 * m → Y 83 j = X 83 j) ∧ ∀ j : Int, 8 * m ≤ j → j < 8 * m + x → Y 83 j = 0, fun x _ => (8 - x).toNat, ⟨by decide, LFr.ofM (MFr.ofN f1), zX, e16, fun j _ => by rw [f1.1 83 rfl], fun j a b => absurd a (by omega)⟩, ?_⟩, fun w => absurd e14 w⟩
  rintro x Y ⟨hx, lf, zq, y16, yo, yz⟩
  refine ⟨by omega, fun w => ⟨by omega, by omega, ?_⟩, fun w => ⟨by omega, ⟨by omega, lf.ar (Or.inl rfl), zq.ar (Or.inl rfl), by rw [x_st_c (by decide)]; exact y16, fun j hj => by rw [x_st_ne (by omega)]; exact yo j hj, fun j a b => ?_⟩, by dsimp only; omega⟩⟩
  rotate_left
  · by_cases e : j = 8 * m + x
    · rw [e, x_st_at]
    · rw [x_st_ne e]; exact yz j a (by omega)
  intro J58 hJ58
  have b1 : (x_st Y 83 (8 * m) (tk i - 15)) 77 16 = m := by rw [x_st_c (by decide)]; exact y16
  have b2 : (x_st (x_st Y 83 (8 * m) (tk i - 15)) 77 16 (m + 1)) 77 18 = c.2.2 := by rw [x_st_ne (by decide), x_st_c (by decide)]; exact zq.2.2.2.1.2.2
  rw [b1, b2]
  generalize hR : x_st (x_st (x_st Y 83 (8 * m) (tk i - 15)) 77 16 (m + 1)) 83 (8 * m + 3) c.2.2 = R0
  have lR : LFr X R0 := by rw [← hR]; exact ((lf.ar (Or.inl rfl)).f7 (by decide)).ar (Or.inl rfl)
  have zR : zQS f n M pl R0 (i + 1) v c := by rw [← hR]; exact ((zq.ar (Or.inl rfl)).f16).ar (Or.inl rfl)
  have r16 : R0 77 16 = m + 1 := by rw [← hR, x_st_c (by decide), x_st_at]
  have ro : ∀ j : Int, j < 8 * m → R0 83 j = X 83 j := fun j hj => by rw [← hR, x_st_ne (by omega), x_st_c (by decide), x_st_ne (by omega)]; exact yo j hj
  have rk0 : R0 83 (8 * m) = tk i - 15 := by rw [← hR, x_st_ne (by omega), x_st_c (by decide), x_st_at]
  have r3 : R0 83 (8 * m + 3) = c.2.2 := by rw [← hR, x_st_at]
  have rz : ∀ j : Int, j = 1 ∨ j = 2 ∨ j = 7 → R0 83 (8 * m + j) = 0 := fun j hj => by rw [← hR, x_st_ne (by omega), x_st_c (by decide), x_st_ne (by omega)]; exact yz _ (by omega) (by omega)
  have kb : ∀ (Y : XT) (ib : Int), LFr X Y → Y 83 = R0 83 → zBd M pl Y ib → (∀ X2, zBd M pl X2 ib → (∀ j : Int, j < 8 * m → X2 83 j = X 83 j) → LFr X X2 → Q X2) → J58 Y := by
    intro Y ib lf e83 bd H
    refine hJ58 Y ⟨by omega, by omega, ?_⟩
    intro J75 hJ75
    have e14 : (x_st (x_st Y 83 (8 * m + 4) (Y 77 18)) 83 (8 * m + 5) ((x_st Y 83 (8 * m + 4) (Y 77 18)) 77 18)) 77 14 = 1 := by rw [x_st_c (by decide), x_st_c (by decide)]; exact bd.1
    refine ⟨by rw [e14]; decide, fun _ => hJ75 _ ⟨by omega, H _ ⟨?_, ?_, bd.2.2⟩ (fun j hj => ?_) (((lf.ar (Or.inl rfl)).ar (Or.inl rfl)).ar (Or.inl rfl))⟩, fun w => absurd w (by rw [e14]; decide)⟩
    · rw [x_st_c (by decide), x_st_c (by decide), x_st_c (by decide)]; exact bd.1
    · rw [x_st_c (by decide), x_st_c (by decide), x_st_c (by decide)]; exact bd.2.1
    · rw [x_st_ne (by omega), x_st_ne (by omega), x_st_ne (by omega), e83]; exact ro j hj
  have kg : ∀ (Y : XT) (S : zRT) (c1 : zCD), S = (if tk i = 18 then (true, i + 1, v, dNo) else zrd lw tk fu 2 0 (i + 1) v) → S.1 = true → LFr X Y → Y 83 = R0 83 → Y 77 16 = m + 1 → zQS f n M pl Y S.2.1 S.2.2.1 c1 → zEX c c1 → (tk i = 18 → c1 = c) → (¬ tk i = 18 → zRP lw c1 c.2.2 c1.2.2 S.2.2.2 (S.2.2.1 - v)) → J58 Y := by
    intro Y S c1 eS hS lf e83 y16 zq ex k1 k2
    refine hJ58 Y ⟨by omega, by omega, ?_⟩
    intro J75 hJ75
    have b1 : Y 77 18 = c1.2.2 := zq.2.2.2.1.2.2
    rw [b1]
    have b2 : (x_st Y 83 (8 * m + 4) c1.2.2) 77 18 = c1.2.2 := by rw [x_st_c (by decide)]; exact b1
    rw [b2]
    generalize hE : x_st (x_st Y 83 (8 * m + 4) c1.2.2) 83 (8 * m + 5) c1.2.2 = E
    have zE : zQS f n M pl E S.2.1 S.2.2.1 c1 := by rw [← hE]; exact (zq.ar (Or.inl rfl)).ar (Or.inl rfl)
    have lE : LFr X E := by rw [← hE]; exact (lf.ar (Or.inl rfl)).ar (Or.inl rfl)
    have e16 : E 77 16 = m + 1 := by rw [← hE, x_st_c (by decide), x_st_c (by decide)]; exact y16
    have fin : ∀ (Z : XT) (g : Int), Z 83 = E 83 → Z 77 18 = g → zRow (x_st Z 83 (8 * m + 6) (Z 77 18)) m (tk i - 15) c.2.2 c1.2.2 c1.2.2 g ∧ ∀ j : Int, j < 8 * m → (x_st Z 83 (8 * m + 6) (Z 77 18)) 83 j = X 83 j := by
      intro Z g z83 z18
      have old : ∀ j : Int, (j < 8 * m + 4 ∨ 8 * m + 6 < j) → (x_st Z 83 (8 * m + 6) (Z 77 18)) 83 j = R0 83 j := fun j hj => by rw [x_st_ne (by omega), z83, ← hE, x_st_ne (by omega), x_st_ne (by omega), e83]
      refine ⟨⟨by rw [old _ (by omega)]; exact rk0, ⟨by rw [old _ (by omega)]; exact rz 1 (by decide), by rw [old _ (by omega)]; exact rz 2 (by decide)⟩, by rw [old _ (by omega)]; exact r3, ?_, ?_, by rw [x_st_at]; exact z18, by rw [old _ (by omega)]; exact rz 7 (by decide)⟩, fun j hj => by rw [old j (by omega)]; exact ro j hj⟩
      · rw [x_st_ne (by omega), z83, ← hE, x_st_ne (by omega), x_st_at]
      · rw [x_st_ne (by omega), z83, ← hE, x_st_at]
    refine ⟨by rw [zE.2.1]; decide, fun w => absurd zE.2.1 w, fun _ => ?_⟩
    have oE := (at_obs s zE.1).1
    have w24 : zwc 24 = 294 := by decide +kernel
    have si := zE.1.2.2.2.2.1
    rw [← w24]
    refine m_isWord oE (by decide) (fun e => ⟨by decide, fun w => absurd w (by decide), fun _ => ?_⟩) (fun e => ⟨by decide, fun _ => hJ75 E ⟨by omega, ?_⟩, fun w => absurd rfl w⟩)
    · refine at_next s zE.1 (by omega) (fun E1 g1 a1 => ?_)
      have z1 := zE.nx g1 a1
      have lE1 : LFr X E1 := lE.tr (LFr.ofM (MFr.ofN g1))
      refine m_readE (test := true) (lw := lw) (r := zrd lw tk fu 0 0 (S.2.1 + 1) S.2.2.1) s ((lE1.2 15 (by decide)).trans o2) ((lE1.1 88 rfl).trans h88) ((lE1.1 89 rfl).trans h89) (by decide) (by decide) z1 (by omega) hfu rfl (fun X2 f2 y1 y2 => hJ75 X2 ⟨by omega, ?_⟩)
      have f83 : X2 83 = E 83 := (f2.1 83 rfl).trans (g1.1 83 rfl)
      have lX2 : LFr X X2 := lE1.tr (LFr.ofM f2)
      refine q' _ (lX2.ar (Or.inl rfl)) (fun S' eS' => ?_) (fin X2 _ f83 rfl).2
      have ee : S' = S := eS'.trans eS.symm
      subst ee
      refine ⟨fun w => (by rw [hS] at w; cases w), fun _ => ⟨c1, ex, k1, k2, fun w => absurd e (by omega), fun _ T eT => ?_⟩⟩
      rw [← eT] at y1 y2
      refine ⟨fun w => ?_, fun w => ?_⟩
      · have b := y2 w
        exact ⟨by rw [x_st_c (by decide)]; exact b.1, by rw [x_st_c (by decide)]; exact b.2.1, b.2.2⟩
      · obtain ⟨c2, zz, ex2, rp, tb⟩ := y1 w
        exact ⟨c2, zz.ar (Or.inl rfl), ex2, rp, tb rfl, by rw [x_st_c (by decide), f2.2 16 (by decide), g1.2 16 (by decide)]; exact e16, (fin X2 _ f83 zz.2.2.2.1.2.2).1⟩
    · refine q' _ (lE.ar (Or.inl rfl)) (fun S' eS' => ?_) (fin E _ rfl rfl).2
      have ee : S' = S := eS'.trans eS.symm
      subst ee
      refine ⟨fun w => (by rw [hS] at w; cases w), fun _ => ⟨c1, ex, k1, k2, fun _ => ⟨zE.ar (Or.inl rfl), by rw [x_st_c (by decide)]; exact e16, (fin E _ rfl zE.2.2.2.1.2.2).1⟩, fun w => absurd w (by omega)⟩⟩
  refine ⟨by omega, fun w => ?_, fun w => ?_⟩
  · exact kg R0 (true, i + 1, v, dNo) c (by rw [if_pos (by omega)]) rfl lR rfl r16 zR zEX.rf (fun _ => rfl) (fun y => absurd (by omega) y)
  · refine m_readE (test := false) (lw := lw) (r := zrd lw tk fu 2 0 (i + 1) v) s ((lR.2 15 (by decide)).trans o2) ((lR.1 88 rfl).trans h88) ((lR.1 89 rfl).trans h89) (by decide) (by decide) zR (by omega) hfu rfl (fun X2 f2 y1 y2 => ?_)
    have eS : zrd lw tk fu 2 0 (i + 1) v = (if tk i = 18 then (true, i + 1, v, dNo) else zrd lw tk fu 2 0 (i + 1) v) := by rw [if_neg (by omega)]
    cases hr : (zrd lw tk fu 2 0 (i + 1) v).1
    · refine kb X2 _ (lR.tr (LFr.ofM f2)) (f2.1 83 rfl) (y2 hr) (fun X3 bd old l3 => q' X3 l3 (fun S' eS' => ?_) old)
      have ee : S' = zrd lw tk fu 2 0 (i + 1) v := eS'.trans eS.symm
      rw [ee]
      exact ⟨fun _ => bd, fun w => by rw [hr] at w; cases w⟩
    · obtain ⟨c1, zz, ex, rp, tb⟩ := y1 hr
      exact kg X2 _ c1 eS hr (lR.tr (LFr.ofM f2)) (f2.1 83 rfl) ((f2.2 16 (by decide)).trans r16) zz ex (fun y => absurd y (by omega)) (fun _ => rp)

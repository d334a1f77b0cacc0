/-! LAW: the pair -/
theorem RR_fin {X Y : XT} (hR : RR X) (c : Fx zTL X Y) (e1 : Y 1 = X 1) (e79 : Y 79 = X 79) {z : Int} (s1 : Y 0 13 = z) (s2 : Y 77 1 = z) (k14 : Y 0 14 = X 0 14) (k6 : Y 77 6 = X 77 6) (k15 : Y 0 15 = Y 77 59) (f63 : Y 77 63 = X 77 63) (f15 : Y 77 15 = X 77 15) (t4 : Y 33 4 = 0) (t8 : Y 77 8 = 0) (t13 : Y 33 8 = Y 77 13) (rf : R_ref (Y 76) (Y 78)) : RR Y :=
  RR_txt hR c (by rw [e1, e79]; exact hR.1) ⟨s1.trans s2.symm, k14.trans (hR.2.1.2.1.trans k6.symm), k15⟩ ⟨t13, ⟨t4.trans t8.symm, by rw [t4]; decide, by rw [t4]; decide⟩, fun j a b => absurd b (by rw [t4]; omega)⟩ rf f63 f15
theorem zTL_k {X Y : XT} (c : Fx zTL X Y) (e1 : Y 1 = X 1) (e10 : Y 10 = X 10) (e79 : Y 79 = X 79) : LWk X Y :=
  LWk_of (fun d hd => by
    rcases hd with rfl | rfl | rfl | rfl | rfl | rfl | rfl | rfl | rfl
    · exact e10
    · exact e1
    · exact e79
    · exact c 32 rfl
    · exact c 21 rfl
    · exact c 12 rfl
    · exact c 80 rfl
    · exact c 31 rfl
    · exact c 22 rfl)
theorem law_main {X : XT} {n : Nat} (hR : RR X) : w_lawC X (fun v X1 => w_X12_law X1 (fun v2 X2 => v2 = v ∧ RR X2 ∧ LWk X X2)) (fun v X1 m s h0 h1 X2 => w_X12_law X2 (fun v2 X3 => v2 = v ∧ RR X3 ∧ (∀ j : Int, X3 10 j = if j = X 1 13 then (n : Int) else X 10 j) ∧ (X3 1 13 = X 1 13 + 1 ∧ X 1 13 < 6) ∧ (∀ j : Int, (380 ≤ j ∧ j < 5780) → (j < 380 + 900 * X 1 13 ∨ 380 + 900 * X 1 13 + 900 ≤ j) → X3 79 j = X 79 j) ∧ (∀ c, c = 32 ∨ c = 21 ∨ c = 12 ∨ c = 80 ∨ c = 31 ∨ c = 22 → X3 c = X c) ∧ m ≤ 12 ∧ s ≤ 800 ∧ X1 37 2 = (m : Int) ∧ ∃ Z : zLM, zKl Z m (fun j => if 0 ≤ j ∧ j < ((6 * m : Nat) : Int) then (x_st X1 33 4 0) 38 j else 0) (fun j => if 0 ≤ j ∧ j < (s : Int) then (x_st X1 33 4 0) 39 j else 0) (s : Int) ∧ zRl Z m (X3 79) (380 + 900 * X 1 13))) n := by
  have hpl := hR.1
  obtain ⟨q1, q2, q3, q4⟩ := hpl.2.2.2.2.2.2.2
  have ht := hR.2.2.1
  have hcs := hR.2.2.2.2.2.2.2.2
  have hrf := hR.2.2.2.1
  refine ⟨by omega, fun k => ?_, fun k => ?_⟩
  · refine e_refuse (s := 3) (by omega) ?_
    rw [x_st_c (by decide : ¬ 76 = 33)]
    generalize hX1 : x_st (x_st (x_st X 33 4 0) 0 13 (-5)) 76 3 (X 76 3 + 1) = X1
    have c1 : Fx zTL X X1 := by rw [← hX1]; exact ((Fx.rf.st rfl).st rfl).st rfl
    have a77 : X1 77 = X 77 := by rw [← hX1, x_st_c (by decide), x_st_c (by decide), x_st_c (by decide)]
    have a78 : X1 78 = X 78 := by rw [← hX1, x_st_c (by decide), x_st_c (by decide), x_st_c (by decide)]
    have a79 : X1 79 = X 79 := by rw [← hX1, x_st_c (by decide), x_st_c (by decide), x_st_c (by decide)]
    have a1 : X1 1 = X 1 := by rw [← hX1, x_st_c (by decide), x_st_c (by decide), x_st_c (by decide)]
    have a10 : X1 10 = X 10 := by rw [← hX1, x_st_c (by decide), x_st_c (by decide), x_st_c (by decide)]
    have e4 : (x_st X1 77 0 0) 79 4 = 6 := by rw [x_st_c (by decide), a79]; omega
    refine ⟨by rw [e4]; decide, fun z => absurd e4 z, fun _ => m_tellN (by decide) (by decide) ?_⟩
    rw [x_st_c (by decide : ¬ 78 = 77), x_st_c (by decide : ¬ 78 = 77), a78]
    generalize hY : x_st (x_st (x_st (x_st X1 77 0 0) 77 8 0) 77 1 (-5)) 78 (- -5) (X 78 (- -5) + 1) = Y
    have cY : Fx zTL X Y := by rw [← hY]; exact (((c1.st rfl).st rfl).st rfl).st rfl
    have yc : ∀ c, ¬ c = 77 → ¬ c = 78 → Y c = X1 c := fun c h1 h2 => by rw [← hY, x_st_c h2, x_st_c h1, x_st_c h1, x_st_c h1]
    have y77 : ∀ f : Int, ¬ f = 0 → ¬ f = 8 → ¬ f = 1 → Y 77 f = X 77 f := fun f h0 h8 h1 => by rw [← hY, x_st_c (by decide), x_st_ne h1, x_st_ne h8, x_st_ne h0, a77]
    have y0 : ∀ f : Int, ¬ f = 13 → Y 0 f = X 0 f := fun f h1 => by rw [yc 0 (by decide) (by decide), ← hX1, x_st_c (by decide), x_st_ne h1, x_st_c (by decide)]
    have y33 : ∀ f : Int, ¬ f = 4 → Y 33 f = X 33 f := fun f h1 => by rw [yc 33 (by decide) (by decide), ← hX1, x_st_c (by decide), x_st_c (by decide), x_st_ne h1]
    have y1 := (yc 1 (by decide) (by decide)).trans a1
    have y10 := (yc 10 (by decide) (by decide)).trans a10
    have y79 := (yc 79 (by decide) (by decide)).trans a79
    refine ⟨rfl, RR_fin hR cY y1 y79 (z := -5) ?_ ?_ (y0 14 (by decide)) (y77 6 (by decide) (by decide) (by decide)) ?_ (y77 63 (by decide) (by decide) (by decide)) (y77 15 (by decide) (by decide) (by decide)) ?_ ?_ ?_ ?_, zTL_k cY y1 y10 y79⟩
    · rw [yc 0 (by decide) (by decide), ← hX1, x_st_c (by decide), x_st_at]
    · rw [← hY, x_st_c (by decide), x_st_at]
    · rw [y0 15 (by decide), y77 59 (by decide) (by decide) (by decide)]; exact hR.2.1.2.2
    · rw [yc 33 (by decide) (by decide), ← hX1, x_st_c (by decide), x_st_c (by decide), x_st_at]
    · rw [← hY, x_st_c (by decide), x_st_ne (by decide), x_st_at]
    · rw [y33 8 (by decide), y77 13 (by decide) (by decide) (by decide)]; exact ht.1
    · have e76 : ∀ f : Int, Y 76 f = if f = 3 then X 76 3 + 1 else X 76 f := fun f => by
        rw [yc 76 (by decide) (by decide), ← hX1, x_st_s]; unfold uI; rw [x_st_c (by decide), x_st_c (by decide)]
      have e78 : ∀ f : Int, Y 78 f = if f = 5 then X 78 5 + 1 else X 78 f := fun f => by
        rw [← hY, x_st_s, x_st_c (by decide), x_st_c (by decide), x_st_c (by decide), a78]; rfl
      unfold R_ref
      rw [e76, e76, e76, e76, e76, e78, e78, e78, e78, e78]
      obtain ⟨z0, z1, z2, z3, z4⟩ := hrf
      exact ⟨z0, z1, z2, congrArg (· + 1) z3, z4⟩
  have tp : zTP X := ⟨ht.2.1.2, fun j a b => (ht.2.2 j a b).2⟩
  refine e_readText (lw := true) tp (fun tk pl bh M X1 F1 G1 lx tr htr hfa => ?_)
  have s : zRS (X 34) (X 33 4) M tk pl bh := ⟨lx, ht.2.1.2, tp.2⟩
  have f1c : Fx zTL X X1 := F1.sub (by decide)
  have x1 : X1 1 = X 1 := F1 1 rfl
  -- the reference reads
  have reads : ∀ (Y : XT) (P : XT → Prop), Y 77 = X 77 → Y 82 = X 82 → Y 88 = X 88 → Y 89 = X 89 → Y 90 = X 90 → (∀ Z, zTxR M pl true tk 83 (rCl tk) (x_st Y 77 0 0) Z → P Z) → w_X12_beginText 0 (x_st Y 77 0 0) (fun (X9 : XT) => w_X12_readLaw X9 (fun (X15 : XT) => ∃ (I21 : XT → Prop) (m22 : XT → Nat), I21 X15 ∧ ∀ (X20 : XT), I21 X20 → ∀ J33 : Prop, ((w_X12_endText X20 (fun (X35 : XT) => P X35)) → J33) → R32 (X20 77 14) ∧ (¬ (X20 77 14) = 0 → J33) ∧ ((X20 77 14) = 0 → w_X12_isSign 59 X20 (fun (v121 : Int) => R32 v121 ∧ (v121 = 0 → J33) ∧ (¬ v121 = 0 → w_X12_next X20 (fun (X130 : XT) => w_X12_readLaw X130 (fun (X136 : XT) => I21 X136 ∧ m22 X136 < m22 X20))))))) := by
    intro Y P y77 y82 y88 y89 y90 q
    have e77 : ∀ f : Int, ¬ f = 0 → (x_st Y 77 0 0) 77 f = X 77 f := fun f hf => by rw [x_st_ne hf, y77]
    exact m_text (lw := true) (rc := 83) (wd := 8) (CL := rCl tk) (X := x_st Y 77 0 0) (rd := w_X12_readLaw) s rCl_cg (by decide) (Or.inl rfl) ((e77 8 (by decide)).trans ht.2.1.1.symm) (fun j a b => by rw [x_st_c (by decide), y82]; exact (ht.2.2 j a b).1.symm) (by rw [x_st_c (by decide), y88]; exact hcs.2.2.1) (by rw [x_st_c (by decide), y89]; exact hcs.2.2.2.1) (by rw [x_st_c (by decide), y90]; exact hcs.2.2.2.2) (fun Y i v c Q a1 a2 a3 a4 a5 a6 a7 => rd_law s Y i v c Q a1 a2 a3 a4 a5 a6 a7) q
  cases hb : (ztx true tk 12 0 0).1
  · rw [if_neg (by decide)]
    refine ⟨by decide, fun _ => ?_, fun z => absurd rfl z⟩
    refine e_refuse (s := 4) (by omega) ?_
    rw [x_st_c (by decide : ¬ 76 = 33)]
    generalize hX2 : x_st (x_st (x_st X1 33 4 0) 0 13 (-6)) 76 4 (X1 76 4 + 1) = X2
    have c2 : Fx zTL X X2 := by rw [← hX2]; exact ((f1c.st rfl).st rfl).st rfl
    have b2 : ∀ c, ¬ c = 33 → ¬ c = 0 → ¬ c = 76 → X2 c = X1 c := fun c h1 h2 h3 => by rw [← hX2, x_st_c h3, x_st_c h2, x_st_c h1]
    have a77 : X2 77 = X 77 := (b2 77 (by decide) (by decide) (by decide)).trans (F1 77 rfl)
    have a79 : X2 79 = X 79 := (b2 79 (by decide) (by decide) (by decide)).trans (F1 79 rfl)
    have e4 : (x_st X2 77 0 0) 79 4 = X 1 13 := by rw [x_st_c (by decide), a79]; exact q1.1.symm
    refine ⟨by rw [e4]; omega, fun _ => reads X2 _ a77 ((b2 82 (by decide) (by decide) (by decide)).trans (F1 82 rfl)) ((b2 88 (by decide) (by decide) (by decide)).trans (F1 88 rfl)) ((b2 89 (by decide) (by decide) (by decide)).trans (F1 89 rfl)) ((b2 90 (by decide) (by decide) (by decide)).trans (F1 90 rfl)) (fun Z zt => ?_), fun z => absurd z (by rw [e4]; omega)⟩
    obtain ⟨z1, z2, z3, _, z5⟩ := zt
    obtain ⟨z14, z13, zM⟩ := z5 hb
    refine ⟨by rw [z14]; decide, fun y => absurd y (by rw [z14]; decide), fun _ => m_tellN (by decide) (by decide) ?_⟩
    generalize hY : x_st (x_st Z 77 1 (-6)) 78 (- -6) (Z 78 (- -6) + 1) = Y
    have cZ : Fx zTL X Z := (c2.st rfl).trans (z1.sub (by decide))
    have cY : Fx zTL X Y := by rw [← hY]; exact (cZ.st rfl).st rfl
    have yc : ∀ c, ¬ c = 77 → ¬ c = 78 → Y c = Z c := fun c h1 h2 => by rw [← hY, x_st_c h2, x_st_c h1]
    have zc : ∀ c, [77, 83, 84, 85, 86, 87, 113].elem c = false → ¬ c = 77 → Z c = X2 c := fun c h1 h2 => (z1 c h1).trans (x_st_c h2)
    have y77 : ∀ f : Int, ¬ f = 1 → Y 77 f = Z 77 f := fun f h1 => by rw [← hY, x_st_c (by decide), x_st_ne h1]
    have zk : ∀ f : Int, ¬ f = 0 → (f < 8 ∨ 25 < f) → Z 77 f = X 77 f := fun f h0 h1 => by rw [z2 f (by omega), x_st_ne h0, a77]
    have y0 : ∀ f : Int, ¬ f = 13 → Y 0 f = X 0 f := fun f h1 => by rw [yc 0 (by decide) (by decide), zc 0 rfl (by decide), ← hX2, x_st_c (by decide), x_st_ne h1, x_st_c (by decide), F1 0 rfl]
    have y1 : Y 1 = X 1 := (yc 1 (by decide) (by decide)).trans ((zc 1 rfl (by decide)).trans ((b2 1 (by decide) (by decide) (by decide)).trans x1))
    have y10 : Y 10 = X 10 := (yc 10 (by decide) (by decide)).trans ((zc 10 rfl (by decide)).trans ((b2 10 (by decide) (by decide) (by decide)).trans (F1 10 rfl)))
    have y79 : Y 79 = X 79 := (yc 79 (by decide) (by decide)).trans ((zc 79 rfl (by decide)).trans a79)
    have y33 : ∀ f : Int, ¬ f = 4 → Y 33 f = X1 33 f := fun f h1 => by rw [yc 33 (by decide) (by decide), zc 33 rfl (by decide), ← hX2, x_st_c (by decide), x_st_c (by decide), x_st_ne h1]
    refine ⟨rfl, RR_fin hR cY y1 y79 (z := -6) ?_ ?_ (y0 14 (by decide)) ((y77 6 (by decide)).trans (zk 6 (by decide) (by decide))) ?_ ((y77 63 (by decide)).trans (zk 63 (by decide) (by decide))) ?_ ?_ ?_ ?_ ?_, zTL_k cY y1 y10 y79⟩
    · rw [yc 0 (by decide) (by decide), zc 0 rfl (by decide), ← hX2, x_st_c (by decide), x_st_at]
    · rw [← hY, x_st_c (by decide), x_st_at]
    · rw [y0 15 (by decide), y77 59 (by decide), zk 59 (by decide) (by decide)]; exact hR.2.1.2.2
    · rw [y77 15 (by decide), z3.1]; exact hcs.2.1.symm
    · rw [yc 33 (by decide) (by decide), zc 33 rfl (by decide), ← hX2, x_st_c (by decide), x_st_c (by decide), x_st_at]
    · rw [y77 8 (by decide)]; exact z3.2
    · rw [y33 8 (by decide), y77 13 (by decide), z13]; exact hfa hb zM
    · have e76 : ∀ f : Int, Y 76 f = if f = 4 then X 76 4 + 1 else X 76 f := fun f => by
        rw [yc 76 (by decide) (by decide), zc 76 rfl (by decide), ← hX2, x_st_s, F1 76 rfl]; unfold uI; rw [x_st_c (by decide), x_st_c (by decide), F1 76 rfl]
      have e78 : ∀ f : Int, Y 78 f = if f = 6 then X 78 6 + 1 else X 78 f := fun f => by
        rw [← hY, x_st_s, x_st_c (by decide), zc 78 rfl (by decide), b2 78 (by decide) (by decide) (by decide), F1 78 rfl]; rfl
      unfold R_ref
      rw [e76, e76, e76, e76, e76, e78, e78, e78, e78, e78]
      obtain ⟨z0, z1, z2, z3, z4⟩ := hrf
      exact ⟨z0, z1, z2, z3, congrArg (· + 1) z4⟩
  · rw [if_pos rfl]
    obtain ⟨t8, m, m12, kA, e29, fo⟩ := htr hb
    have nc := kA.1.2
    have x37 : ((X1 37 3).toNat : Int) = X1 37 3 := by have := nc.1.2; omega
    have x113 : X1 1 13 = X 1 13 := by rw [x1]
    refine ⟨by decide, fun z => absurd z (by decide), fun _ => ⟨by omega, m, (X1 37 3).toNat, ⟨kA.1.1, m12.2, x37.symm, by have := nc.1.2; omega, nc.1.1⟩, fun h h1 xc => ?_⟩⟩
    show w_X12_law (x_st (x_st (x_st (x_st X1 33 4 0) 10 (X1 1 13) (n : Int)) 1 13 (X1 1 13 + 1)) 0 13 0) _
    generalize hX2 : x_st (x_st (x_st (x_st X1 33 4 0) 10 (X1 1 13) (n : Int)) 1 13 (X1 1 13 + 1)) 0 13 0 = X2
    have c2 : Fx zTL X X2 := by rw [← hX2]; exact (((f1c.st rfl).st rfl).st rfl).st rfl
    have b2 : ∀ c, ¬ c = 33 → ¬ c = 0 → ¬ c = 1 → ¬ c = 10 → X2 c = X1 c := fun c h1 h2 h3 h4 => by rw [← hX2, x_st_c h2, x_st_c h3, x_st_c h4, x_st_c h1]
    have a77 : X2 77 = X 77 := (b2 77 (by decide) (by decide) (by decide) (by decide)).trans (F1 77 rfl)
    have a79 : X2 79 = X 79 := (b2 79 (by decide) (by decide) (by decide) (by decide)).trans (F1 79 rfl)
    have e4 : (x_st X2 77 0 0) 79 4 = X 1 13 := by rw [x_st_c (by decide), a79]; exact q1.1.symm
    refine ⟨by rw [e4]; omega, fun _ => reads X2 _ a77 ((b2 82 (by decide) (by decide) (by decide) (by decide)).trans (F1 82 rfl)) ((b2 88 (by decide) (by decide) (by decide) (by decide)).trans (F1 88 rfl)) ((b2 89 (by decide) (by decide) (by decide) (by decide)).trans (F1 89 rfl)) ((b2 90 (by decide) (by decide) (by decide) (by decide)).trans (F1 90 rfl)) (fun A zt => ?_), fun z => absurd z (by rw [e4]; omega)⟩
    obtain ⟨z1, z2, z3, z4, _⟩ := zt
    obtain ⟨z14, z13, m', hm', z16, zfo', z18, ra⟩ := z4 hb
    have em : m' = m := zfo_one hm'.1 m12.1 zfo' ⟨e29, fo⟩
    subst em
    have cA : Fx zTL X A := (c2.st rfl).trans (z1.sub (by decide))
    have ac : ∀ c, [77, 83, 84, 85, 86, 87, 113].elem c = false → ¬ c = 77 → A c = X2 c := fun c h1 h2 => (z1 c h1).trans (x_st_c h2)
    have A79 : A 79 = X 79 := (ac 79 rfl (by decide)).trans a79
    refine ⟨by rw [z14]; decide, fun _ => m_keepLaw (a := X 1 13) (b := 380 + 900 * X 1 13) (N := A 77 18) (by rw [A79]; exact q1.1.symm) (by omega) rfl z16 hm'.2 rfl z18 (fun Y yc y1 y2 y3 y4 y5 => ?_), fun y => absurd z14 y⟩
    refine m_tellP (by omega) (by omega) ?_
    generalize hB : x_st Y 77 1 0 = B
    have Bc : ∀ c, ¬ c = 77 → B c = Y c := fun c h1 => by rw [← hB, x_st_c h1]
    have cB : Fx zTL X B := by
      rw [← hB]
      exact (cA.trans (show Fx zTL A Y from fun c hc => yc c (fun e => by rw [e] at hc; cases hc))).st rfl
    have b77 : ∀ f : Int, ¬ f = 1 → B 77 f = A 77 f := fun f h1 => by rw [← hB, x_st_ne h1, yc 77 (by decide)]
    have zk : ∀ f : Int, ¬ f = 0 → (f < 8 ∨ 25 < f) → A 77 f = X 77 f := fun f h0 h1 => by rw [z2 f (by omega), x_st_ne h0, a77]
    have B79 : B 79 = Y 79 := Bc 79 (by decide)
    have r79 : ∀ j : Int, (j < 380 + 900 * X 1 13 ∨ 380 + 900 * X 1 13 + 900 ≤ j) → ¬ j = 4 → B 79 j = X 79 j := fun j h1 h2 => by rw [B79, y4 j h1 h2, A79]
    have lo : ∀ c, ¬ c = 77 → ¬ c = 79 → [77, 83, 84, 85, 86, 87, 113].elem c = false → B c = X2 c := fun c h1 h2 h3 => (Bc c h1).trans ((yc c h2).trans (ac c h3 h1))
    have B1 : ∀ f : Int, B 1 f = if f = 13 then X 1 13 + 1 else X 1 f := fun f => by
      rw [lo 1 (by decide) (by decide) rfl, ← hX2, x_st_c (by decide), x_st_s]; unfold uI; rw [x_st_c (by decide), x_st_c (by decide), x1]
    have B0 : ∀ f : Int, B 0 f = if f = 13 then 0 else X 0 f := fun f => by
      rw [lo 0 (by decide) (by decide) rfl, ← hX2, x_st_s]; unfold uI; rw [x_st_c (by decide), x_st_c (by decide), x_st_c (by decide), F1 0 rfl]
    have B33 : ∀ f : Int, B 33 f = if f = 4 then 0 else X1 33 f := fun f => by
      rw [lo 33 (by decide) (by decide) rfl, ← hX2, x_st_c (by decide), x_st_c (by decide), x_st_c (by decide), x_st_s]; rfl
    refine ⟨x113.symm, RR_txt hR cB ?_ ⟨?_, ?_, ?_⟩ ⟨?_, ⟨?_, ?_, ?_⟩, fun j j0 j1 => absurd j1 (by rw [B33]; omega)⟩ ?_ ?_ ?_, fun j => ?_, ⟨by rw [B1, if_pos rfl], k⟩, fun j hj h2 => r79 j h2 (by omega), fun c hc => ?_, m12.2, by have := nc.1.2; omega, kA.1.1, zZt tk, ?_, ?_⟩
    · obtain ⟨p1, p2, p3, p4, p5, p6, p7, p8⟩ := hpl
      have rl : ∀ j : Int, j < 380 → ¬ j = 4 → B 79 j = X 79 j := fun j h1 h2 => r79 j (by omega) h2
      have o : ∀ f : Int, ¬ f = 13 → B 1 f = X 1 f := fun f hf => by rw [B1, if_neg hf]
      refine ⟨p1.cg (fun j _ _ => rl j (by omega) (by omega)), p2.cg (fun j _ _ => rl j (by omega) (by omega)), p3.cg (o 9 (by decide)) (rl 0 (by decide) (by decide)) (fun j _ _ => rl j (by omega) (by omega)), p4.cg (o 10 (by decide)) (o 9 (by decide)) (rl 1 (by decide) (by decide)) (fun j _ _ => rl j (by omega) (by omega)), p5.cg (o 11 (by decide)) (rl 2 (by decide) (by decide)) (fun j _ _ => rl j (by omega) (by omega)), p6.cg (o 12 (by decide)) (rl 3 (by decide) (by decide)) (fun j _ _ => rl j (by omega) (by omega)), p7.cg (fun j _ _ => rl j (by omega) (by omega)), ⟨?_, ?_, ?_⟩, ?_, ?_, ?_⟩
      · rw [B1, if_pos rfl, B79, y5]
      · rw [B1, if_pos rfl]; omega
      · rw [B1, if_pos rfl]; omega
      · rw [o 14 (by decide), rl 5 (by decide) (by decide)]; exact q2
      · rw [o 14 (by decide)]; exact q3
      · rw [o 14 (by decide), B1, if_pos rfl]; omega
    · rw [B0, if_pos rfl, ← hB, x_st_at]
    · rw [B0, if_neg (by decide), b77 6 (by decide), zk 6 (by decide) (by decide)]; exact hR.2.1.2.1
    · rw [B0, if_neg (by decide), b77 59 (by decide), zk 59 (by decide) (by decide)]; exact hR.2.1.2.2
    · rw [B33, if_neg (by decide), b77 13 (by decide), z13]; exact t8
    · rw [B33, if_pos rfl, b77 8 (by decide), z3.2]
    · rw [B33, if_pos rfl]; decide
    · rw [B33, if_pos rfl]; decide
    · have e76 : B 76 = X 76 := (lo 76 (by decide) (by decide) rfl).trans ((b2 76 (by decide) (by decide) (by decide) (by decide)).trans (F1 76 rfl))
      have e78 : B 78 = X 78 := (lo 78 (by decide) (by decide) rfl).trans ((b2 78 (by decide) (by decide) (by decide) (by decide)).trans (F1 78 rfl))
      rw [e76, e78]; exact hrf
    · rw [b77 63 (by decide), zk 63 (by decide) (by decide)]
    · rw [b77 15 (by decide), z3.1]; exact hcs.2.1.symm
    · rw [lo 10 (by decide) (by decide) rfl, ← hX2, x_st_c (by decide), x_st_c (by decide), x_st_s]
      unfold uI
      rw [x_st_c (by decide), F1 10 rfl, x113]
    · rcases hc with rfl | rfl | rfl | rfl | rfl | rfl
      · exact cB 32 rfl
      · exact cB 21 rfl
      · exact cB 12 rfl
      · exact cB 80 rfl
      · exact cB 31 rfl
      · exact cB 22 rfl
    · refine keep_K ra kA (fun j j0 j1 => ?_) (fun j j0 j1 => ?_) x37.symm
      · rw [if_pos (by omega), x_st_c (by decide)]
      · rw [if_pos (by omega), x_st_c (by decide)]
    · exact keep_R ra z18.2 (by rw [B79]; exact y1) (fun j j0 j1 => by rw [B79]; exact y2 j j0 j1) (fun j j0 j1 => by rw [B79]; exact y3 j j0 j1)
theorem q_law : Pair m_X11_law m_X12_law 3 900 (INV zLW) [] := by
  rintro n h ⟨X, hp, hn, hR, l0, l1, l2⟩
  refine ⟨66, 8, by decide, by decide, (sp_X11_law hn hp (law_main (n := n) hR)).mono ?_⟩
  rintro r n1 h1 ⟨v, X', rfl, p1, c | c⟩
  · obtain ⟨rfl, f1, w⟩ := c
    refine ⟨iI v, rfl, ⟨hn, _, (p1 77 (by decide)).trans (ent_77 _)⟩, (so_X12_law hn p1 w).mono ?_⟩
    rintro r n2 h2 ⟨rfl, f2, v2, X2, rfl, p2, rfl, hR2, c1, c2, c3, c4, c5, c6, c7, c8, c9⟩
    refine ⟨rfl, rfl, X2, p2, hn, hR2, ?_, ?_, ?_⟩
    · rw [c1]; exact zLW_st _ h h2 _ _ _ _ _ l0 (Fr.trans f1 f2) c2 c3
    · rw [c4, c5, c6, c7]; exact fun q => zLW_st _ h h2 _ _ _ _ _ (l1 q) (Fr.trans f1 f2) rfl (fun _ _ _ => rfl)
    · rw [c4, c8, c9, c7]; exact fun q => zLW_st _ h h2 _ _ _ _ _ (l2 q) (Fr.trans f1 f2) rfl (fun _ _ _ => rfl)
  · obtain ⟨rfl, X1, m, s, h0, h3, f0, xc, f3, w⟩ := c
    have hn3 : 115 ≤ n + 3 := by omega
    refine ⟨iI v, rfl, ⟨hn3, _, (p1 77 (by decide)).trans (ent_77 _)⟩, (so_X12_law hn3 p1 w).mono ?_⟩
    rintro r n2 h2 ⟨rfl, f2, v2, X3, rfl, p3, rfl, hR3, e10, e13, er, ec, m12, s8, x2, Z, kl, rl⟩
    have hh : ∀ i, 115 ≤ i → i < n → h2 i = h i := fun i a b => (f2 i a).trans ((f3 i a).trans ((xc.1 i b).trans (f0 i a)))
    have nw : ∀ i, n ≤ i → h2 i = h3 i := fun i a => (f2 i (by omega)).trans (f3 i (by omega))
    have L0 := zLW_up l0 (show n ≤ n + 3 by omega) hh
    have q0 := L0.1
    refine ⟨rfl, rfl, X3, p3, hn3, hR3, ⟨by rw [e13.1]; omega, fun j j0 j1 => ?_, fun j j0 j1 => ?_⟩, ?_, ?_⟩
    · rw [e10]
      by_cases e : j = X 1 13
      · rw [if_pos e]
        exact Or.inr ⟨by omega, _, by rw [Int.toNat_natCast, nw n (Nat.le_refl _)]; exact xc.2.1⟩
      · rw [if_neg e]; exact L0.2.1 j j0 j1
    · rw [e10]
      rw [e13.1] at j1
      by_cases e : j = X 1 13
      · rw [if_pos e, e]
        have e37 : (x_st X1 33 4 0) 37 = X1 37 := x_st_c (by decide)
        refine ⟨by omega, Z, m, n + 1, n + 2, 6 * m, s, _, _, X1 37, m12, ⟨⟨?_, ?_, ?_⟩, ?_, ?_, by omega, by omega⟩, x2, by omega, kl, rl⟩
        · rw [Int.toNat_natCast, nw n (Nat.le_refl _), xc.2.1, e37]
        · rw [nw (n + 1) (by omega)]; exact xc.2.2.1
        · rw [nw (n + 2) (by omega)]; exact xc.2.2.2
        · rw [Int.toNat_natCast]; omega
        · rw [Int.toNat_natCast]; omega
      · rw [if_neg e]
        obtain ⟨y0, Z', m', zh, zb, zM, zN, zk, zg, zf, y1, y2, y3, y4, y5, y6⟩ := L0.2.2 j j0 (by omega)
        exact ⟨y0, Z', m', zh, zb, zM, zN, zk, zg, zf, y1, y2, y3, y4, y5, y6.cg y1 (fun x x0 x1 => er x (by omega) (by omega))⟩
    · rw [ec 32 (by decide), ec 21 (by decide), ec 12 (by decide), ec 80 (by decide)]
      exact fun q => zLW_up (l1 q) (by omega) hh
    · rw [ec 32 (by decide), ec 31 (by decide), ec 22 (by decide), ec 80 (by decide)]
      exact fun q => zLW_up (l2 q) (by omega) hh

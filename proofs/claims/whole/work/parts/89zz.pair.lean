/-! DRIVES: the pair -/
theorem drv_fin {X C Y : XT} (hR : RR X) (hC : Fx zDX X C) (hY : zRd C Y) (pl : Pln (C 1) (X 2) (X 3) (X 4) (X 5) (C 6) (X 7) (X 8) (X 9) (Y 79)) (s13 : C 0 13 = Y 77 1) (s14 : C 0 14 = X 0 14) (s15 : C 0 15 = Y 77 59) (t4 : C 33 4 = 0) (t8 : C 33 8 = Y 77 13) (rf : R_ref (C 76) (Y 78)) (e13 : C 1 13 = X 1 13) (er : ∀ j : Int, 380 ≤ j → j < 5780 → Y 79 j = X 79 j) : RR Y ∧ LWk X Y := by
  obtain ⟨fy, y8, y6, y15, y63⟩ := hY
  have c : ∀ d, (zDX ++ zDM).elem d = false → Y d = X d := fun d h => (fy d (el_sub (l := zDM) (l2 := zDX ++ zDM) (by decide) h)).trans (hC d (el_sub (l := zDX) (l2 := zDX ++ zDM) (by decide) h))
  have x77 : C 77 = X 77 := hC 77 rfl
  refine ⟨?_, c 10 rfl, by rw [fy 1 rfl]; exact e13, er, c 32 rfl, c 21 rfl, c 12 rfl, c 80 rfl, c 31 rfl, c 22 rfl⟩
  obtain ⟨_, st, _, _, sm, kp, i0, i1, cs⟩ := hR
  unfold RR
  rw [c 2 rfl, c 3 rfl, c 4 rfl, c 5 rfl, c 7 rfl, c 8 rfl, c 9 rfl, c 34 rfl, c 82 rfl, c 52 rfl, c 54 rfl, c 114 rfl, c 32 rfl, c 81 rfl, c 12 rfl, c 13 rfl, c 14 rfl, c 15 rfl, c 16 rfl, c 17 rfl, c 18 rfl, c 19 rfl, c 20 rfl, c 80 rfl, c 22 rfl, c 23 rfl, c 24 rfl, c 25 rfl, c 26 rfl, c 27 rfl, c 28 rfl, c 29 rfl, c 30 rfl, c 11 rfl, c 88 rfl, c 89 rfl, c 90 rfl, fy 1 rfl, fy 6 rfl, fy 0 rfl, fy 33 rfl, fy 76 rfl]
  refine ⟨pl, ⟨s13, ?_, s15⟩, ⟨t8, ⟨by rw [t4, y8], by rw [t4]; decide, by rw [t4]; decide⟩, fun j a b => absurd b (by rw [t4]; omega)⟩, rf, sm.cg (by rw [y63, x77]), kp, i0, i1, cs.cg (by rw [y15, x77])⟩
  rw [s14, y6, x77]; exact st.2.1
theorem drives_main {K : LK} {X : XT} {T : TT} (hR : RR X) (b : CE K X (X 79) T) (hT : ∀ r' : Int → Int, (∀ j : Int, ((5 ≤ j ∧ j < 9) ∨ (380 ≤ j ∧ j < 5780)) → r' j = X 79 j) → (0 ≤ r' 0 ∧ r' 0 ≤ 5) → HRt r' T) : w_X11_drives K X (fun v C => w_X12_drives C (fun v2 Y => v2 = v ∧ RR Y ∧ LWk X Y)) := by
  have hpl := hR.1
  have ht := hR.2.2.1
  have hrf := hR.2.2.2.1
  have p4 := hpl.2.2.2.1.1
  have tp0 : zTP X := ⟨ht.2.1.2, fun j a b => (ht.2.2 j a b).2⟩
  have hI : zIv X (X 79, -1, 0, 0) := ⟨⟨X 1, X 6, hpl, fun _ _ => rfl, fun _ _ => rfl⟩, fun _ _ _ => rfl, by dsimp only; omega, by dsimp only; omega, by dsimp only; decide, by dsimp only; decide⟩
  generalize hXs : x_st X 0 15 (-1) = Xs
  have xs : ∀ c, ¬ c = 0 → Xs c = X c := fun c h => by rw [← hXs, x_st_c h]
  have xs0 : ∀ f : Int, Xs 0 f = if f = 15 then -1 else X 0 f := fun f => by rw [← hXs, x_st_s]; rfl
  have tp : zTP Xs := by unfold zTP; rw [xs 33 (by decide), xs 34 (by decide)]; exact tp0
  unfold w_X11_drives
  rw [hXs]
  refine e_readText (lw := false) tp (fun tk pl bh M X1 F1 G1 lx tr htr hfa => ?_)
  rw [xs 34 (by decide), xs 33 (by decide)] at lx
  have s : zRS (X 34) (X 33 4) M tk pl bh := ⟨lx, ht.2.1.2, tp0.2⟩
  have HT : ∀ j : Int, 400 ≤ j → tk j = 29 := fun j hj => lx.2.2.2.2.2.1 j (by have := lx.1; have := ht.2.1.2; omega)
  have f1 : ∀ c, ¬ c = 0 → [33, 35, 36, 37, 38, 39].elem c = false → X1 c = X c := fun c h0 h => (F1 c h).trans (xs c h0)
  have x10 : ∀ f : Int, X1 0 f = if f = 15 then -1 else X 0 f := fun f => by rw [F1 0 rfl]; exact xs0 f
  have x76 : X1 76 = X 76 := f1 76 (by decide) rfl
  cases hb : (ztx false tk 12 0 0).1
  · rw [if_neg (by decide)]
    refine ⟨by decide, fun z => absurd rfl z, fun _ => e_refuse (s := 4) (by omega) ?_⟩
    generalize hC : x_st (x_st (x_st X1 33 4 0) 0 13 (-6)) 76 4 ((x_st X1 33 4 0) 76 4 + 1) = C
    have fC : Fx zDX X C := fun c h => by
      have h0 : ¬ c = 0 := fun e => by rw [e] at h; cases h
      rw [← hC, x_st_c (fun e => by rw [e] at h; cases h), x_st_c h0, x_st_c (fun e => by rw [e] at h; cases h)]
      exact f1 c h0 (el_sub (l := [33, 35, 36, 37, 38, 39]) (l2 := zDX) (by decide) h)
    have c0 : ∀ f : Int, C 0 f = if f = 13 then -6 else X1 0 f := fun f => by rw [← hC, x_st_c (by decide), x_st_s, x_st_c (by decide)]; rfl
    have c1 : C 1 = X 1 := by rw [← hC, x_st_c (by decide), x_st_c (by decide), x_st_c (by decide)]; exact f1 1 (by decide) rfl
    have c33 : ∀ f : Int, C 33 f = if f = 4 then 0 else X1 33 f := fun f => by rw [← hC, x_st_c (by decide), x_st_c (by decide), x_st_s]; rfl
    have c76 : ∀ f : Int, C 76 f = if f = 4 then X 76 4 + 1 else X 76 f := fun f => by
      rw [← hC, x_st_s, x_st_c (by decide), x_st_c (by decide), x76]; rfl
    refine m_drives (m := 1) hR s rfl fC hT b.2.2.2 hI (fun y => by rw [hb] at y; cases y) (fun _ zM Y rd y79 y13 y59 y1 y78 => ⟨rfl, ?_⟩) (fun y => by rw [hb] at y; cases y) (fun y => by rw [hb] at y; cases y)
    refine drv_fin hR fC rd ?_ ?_ ?_ ?_ ?_ ?_ ?_ (by rw [c1]) (fun j _ _ => by rw [y79])
    · have c6 : C 6 = X 6 := by rw [← hC, x_st_c (by decide), x_st_c (by decide), x_st_c (by decide)]; exact f1 6 (by decide) rfl
      rw [c1, c6, y79]; exact hpl
    · rw [c0, if_pos rfl, y1]
    · rw [c0, if_neg (by decide), x10, if_neg (by decide)]
    · rw [c0, if_neg (by decide), x10, if_pos rfl, y59]
    · rw [c33, if_pos rfl]
    · rw [c33, if_neg (by decide), y13]; exact hfa hb zM
    · unfold R_ref
      rw [c76, c76, c76, c76, c76, y78, y78, y78, y78, y78]
      obtain ⟨z0, z1, z2, z3, z4⟩ := hrf
      exact ⟨z0, z1, z2, z3, congrArg (· + 1) z4⟩
  rw [if_pos rfl]
  obtain ⟨t8, m, m12, kA0, e29, fo⟩ := htr hb
  refine ⟨by decide, fun _ => ?_, fun z => absurd z (by decide)⟩
  have en : (x_st X1 33 4 0) 1 10 = X 1 10 := by rw [x_st_c (by decide), f1 1 (by decide) rfl]
  rw [en]
  generalize hA : x_st (x_st (x_st X1 33 4 0) 0 16 (-1)) 0 17 0 = A
  have a0 : ∀ f : Int, A 0 f = if f = 17 then 0 else if f = 16 then -1 else X1 0 f := fun f => by
    rw [← hA, x_st_s, x_st_s, x_st_c (by decide)]; rfl
  have ac : ∀ c, ¬ c = 0 → ¬ c = 33 → A c = X1 c := fun c h h2 => by rw [← hA, x_st_c h, x_st_c h, x_st_c h2]
  have a33 : ∀ f : Int, A 33 f = if f = 4 then 0 else X1 33 f := fun f => by rw [← hA, x_st_c (by decide), x_st_c (by decide), x_st_s]; rfl
  have fA : Fx [0, 33, 35, 36, 37, 38, 39] X A := fun c h => by
    have h0 : ¬ c = 0 := fun e => by rw [e] at h; cases h
    rw [ac c h0 (fun e => by rw [e] at h; cases h)]
    exact f1 c h0 (el_sub (l := [33, 35, 36, 37, 38, 39]) (l2 := [0, 33, 35, 36, 37, 38, 39]) (by decide) h)
  have kA : kAll false tk m A := kA0.cg (ac 37 (by decide) (by decide)) (ac 38 (by decide) (by decide)) (ac 39 (by decide) (by decide))
  have zs := z_zsx HT hb m12.2 fo
  have ks0 : zKs A X (X 79, -1, 0, 0) A := by
    refine ⟨hI, ?_, fun f _ => by rw [fA 1 rfl], ⟨?_, ?_⟩, fun _ _ _ => rfl, Fx.rf⟩
    · rw [fA 1 rfl, fA 6 rfl]; exact hpl
    · rw [a0, if_neg (by decide), if_pos rfl]
    · rw [a0, if_pos rfl]
  have mm : (ztx false tk 12 0 0).1 = true → (1 ≤ m ∧ m ≤ 12) ∧ zfo false tk (m - 1) = 29 ∧ ∀ j : Nat, j + 1 < m → zfo false tk j = 1059 := fun _ => ⟨m12, e29, fo⟩
  have A0 : ∀ f : Int, ¬ f = 17 → ¬ f = 16 → A 0 f = if f = 15 then -1 else X 0 f := fun f h1 h2 => by rw [a0, if_neg h1, if_neg h2]; exact x10 f
  refine e_dloop b fA kA m12.2 (fun k hk => (zs k hk).2.2) ks0 (fun S Z ez ks => ?_) (fun w k S Z ez hw hk ks => ?_)
  · generalize hC : x_st Z 0 13 0 = C
    have zc : ∀ c, [0, 1, 6, 41, 42, 43, 46, 48, 50, 51].elem c = false → C c = A c := fun c h => by
      rw [← hC, x_st_c (fun e => by rw [e] at h; cases h)]; exact ks.2.2.2.2.2 c h
    have fC : Fx zDX X C := fun c h => by
      rw [zc c (el_sub (l := [0, 1, 6, 41, 42, 43, 46, 48, 50, 51]) (l2 := zDX) (by decide) h)]
      exact fA c (el_sub (l := [0, 33, 35, 36, 37, 38, 39]) (l2 := zDX) (by decide) h)
    have cne : ∀ c, ¬ c = 0 → C c = Z c := fun c h => by rw [← hC, x_st_c h]
    have c0 : ∀ f : Int, ¬ f = 13 → ¬ f = 17 → ¬ f = 16 → C 0 f = if f = 15 then -1 else X 0 f := fun f h1 h2 h3 => by
      rw [← hC, x_st_ne h1, ks.2.2.2.2.1 f h3 h2]; exact A0 f h2 h3
    refine m_drives (m := m) hR s rfl fC hT b.2.2.2 hI mm (fun y => by rw [hb] at y; cases y) (fun _ S' Y ez' hI1 rd y79 y13 y59 y1 y78 => ?_) (fun _ w' k' S' Y ez' hw' => ?_)
    · have eS : S' = S := (Prod.mk.inj (Prod.mk.inj (ez'.symm.trans ez)).2).2
      rw [eS] at y79 hI1 ⊢
      refine ⟨rfl, drv_fin hR fC rd ?_ ?_ ?_ ?_ ?_ ?_ ?_ ?_ (fun j j0 j1 => by rw [y79]; exact hI1.2.1 j (by omega) (by omega))⟩
      · rw [cne 1 (by decide), cne 6 (by decide), y79]; exact ks.2.1
      · rw [← hC, x_st_at, y1]
      · rw [c0 14 (by decide) (by decide) (by decide), if_neg (by decide)]
      · rw [c0 15 (by decide) (by decide) (by decide), if_pos rfl, y59]
      · rw [zc 33 rfl, a33, if_pos rfl]
      · rw [zc 33 rfl, a33, if_neg (by decide), y13]; exact t8
      · rw [zc 76 rfl, fA 76 rfl, y78]; exact hrf
      · rw [cne 1 (by decide)]; exact ks.2.2.1 13 (by decide)
    · have e0 : w' = 0 := (Prod.mk.inj (ez'.symm.trans ez)).1
      omega
  · obtain ⟨sl, hsl⟩ : ∃ sl : Int, (w = -3 ∧ sl = 2) ∨ (w = -5 ∧ sl = 3) := by
      rcases hw with h | h
      · exact ⟨2, Or.inl ⟨h, rfl⟩⟩
      · exact ⟨3, Or.inr ⟨h, rfl⟩⟩
    refine e_refuse (s := sl) (by omega) ?_
    generalize hC : x_st (x_st (x_st (x_st Z 1 10 (X 1 10)) 0 15 (k : Int)) 0 13 w) 76 sl ((x_st (x_st Z 1 10 (X 1 10)) 0 15 (k : Int)) 76 sl + 1) = C
    have cn : ∀ c, ¬ c = 0 → ¬ c = 1 → ¬ c = 76 → C c = Z c := fun c h1 h2 h3 => by rw [← hC, x_st_c h3, x_st_c h1, x_st_c h1, x_st_c h2]
    have zc : ∀ c, [0, 1, 6, 41, 42, 43, 46, 48, 50, 51].elem c = false → ¬ c = 76 → C c = A c := fun c h h7 => by
      rw [cn c (fun e => by rw [e] at h; cases h) (fun e => by rw [e] at h; cases h) h7]; exact ks.2.2.2.2.2 c h
    have fC : Fx zDX X C := fun c h => by
      rw [zc c (el_sub (l := [0, 1, 6, 41, 42, 43, 46, 48, 50, 51]) (l2 := zDX) (by decide) h) (fun e => by rw [e] at h; cases h)]
      exact fA c (el_sub (l := [0, 33, 35, 36, 37, 38, 39]) (l2 := zDX) (by decide) h)
    have c1 : C 1 = uI (Z 1) 10 (X 1 10) := by rw [← hC, x_st_c (by decide), x_st_c (by decide), x_st_c (by decide), x_st_s]
    have c0 : ∀ f : Int, C 0 f = if f = 13 then w else if f = 15 then (k : Int) else Z 0 f := fun f => by
      rw [← hC, x_st_c (by decide), x_st_s, x_st_s, x_st_c (by decide)]; rfl
    have c76 : ∀ f : Int, C 76 f = if f = sl then X 76 sl + 1 else X 76 f := fun f => by
      have z76 : Z 76 = X 76 := (ks.2.2.2.2.2 76 rfl).trans (fA 76 rfl)
      rw [← hC, x_st_s, x_st_c (by decide), x_st_c (by decide), x_st_c (by decide), z76]; rfl
    refine m_drives (m := m) hR s rfl fC hT b.2.2.2 hI mm (fun y => by rw [hb] at y; cases y) (fun _ S' Y ez' => ?_) (fun _ w' k' S' Y ez' hw' hk' hI1 rd y79 y13 y59 y1 y78 => ?_)
    · have e0 : 0 = w := (Prod.mk.inj (ez'.symm.trans ez)).1
      omega
    · have ee := ez'.symm.trans ez
      have ew : w' = w := (Prod.mk.inj ee).1
      have ek : k' = k := (Prod.mk.inj (Prod.mk.inj ee).2).1
      have eS : S' = S := (Prod.mk.inj (Prod.mk.inj ee).2).2
      subst ew ek eS
      have i3 := hI1.2.2.1
      have pz := ks.2.1
      have zo : Z 1 10 = S'.1 1 := pz.2.2.2.1.1.1
      have pb := Pln_back (z := X 1 10) pz (by omega)
      rw [← p4.1] at y79
      refine ⟨rfl, drv_fin hR fC rd ?_ ?_ ?_ ?_ ?_ ?_ ?_ ?_ (fun j j0 j1 => by rw [y79, uI_ne (by omega)]; exact hI1.2.1 j (by omega) (by omega))⟩
      · rw [c1, cn 6 (by decide) (by decide) (by decide), y79]; exact pb
      · rw [c0, if_pos rfl, y1]
      · rw [c0, if_neg (by decide), if_neg (by decide), ks.2.2.2.2.1 14 (by decide) (by decide), A0 14 (by decide) (by decide), if_neg (by decide)]
      · rw [c0, if_neg (by decide), if_pos rfl, y59]
      · rw [zc 33 rfl (by decide), a33, if_pos rfl]
      · rw [zc 33 rfl (by decide), a33, if_neg (by decide), y13]; exact t8
      · unfold R_ref
        rw [c76, c76, c76, c76, c76, y78, y78, y78, y78, y78]
        obtain ⟨z0, z1, z2, z3, z4⟩ := hrf
        rcases hsl with ⟨rfl, rfl⟩ | ⟨rfl, rfl⟩
        · exact ⟨z0, z1, congrArg (· + 1) z2, z3, z4⟩
        · exact ⟨z0, z1, z2, congrArg (· + 1) z3, z4⟩
      · rw [c1, uI_ne (by decide)]; exact ks.2.2.1 13 (by decide)
theorem q_drives : Pair m_X11_drives m_X12_drives 0 0 (INV zLW) [] := by
  rintro n h ⟨X, hp, hn, hR, l0, l1, l2⟩
  obtain ⟨K, T, k1, k2, k3⟩ := zLW_x hn hR l0
  refine ⟨66, 11, by decide, by decide, (so_X11_drives k1 hn hp (fun _ _ => rfl) (drives_main hR k2 k3)).mono ?_⟩
  rintro r n1 h1 ⟨rfl, f1, v, X1, rfl, p1, w1⟩
  refine ⟨iI v, rfl, ⟨hn, _, (p1 77 (by decide)).trans (ent_77 _)⟩, (so_X12_drives hn p1 w1).mono ?_⟩
  rintro r n2 h2 ⟨rfl, f2, v2, X2, rfl, p2, rfl, hR2, c1, c2, c3, c4, c5, c6, c7, c8, c9⟩
  refine ⟨rfl, rfl, X2, p2, hn, hR2, ?_, ?_, ?_⟩
  · rw [c1]; exact zLW_st _ h h2 _ _ _ _ _ l0 (Fr.trans f1 f2) c2 c3
  · rw [c4, c5, c6, c7]; exact fun q => zLW_st _ h h2 _ _ _ _ _ (l1 q) (Fr.trans f1 f2) rfl (fun _ _ _ => rfl)
  · rw [c4, c8, c9, c7]; exact fun q => zLW_st _ h h2 _ _ _ _ _ (l2 q) (Fr.trans f1 f2) rfl (fun _ _ _ => rfl)

/-! DRIVES: the reference's drives -/
/-- the cells in which the class's drives write, and the reference's -/
def zDX : List Nat := [0, 1, 6, 33, 35, 36, 37, 38, 39, 41, 42, 43, 46, 48, 50, 51, 76]
def zDM : List Nat := [77, 78, 79, 83, 84, 85, 86, 87, 91, 92, 93, 94, 113]
def zRd (C Y : XT) : Prop := Fx zDM C Y ∧ Y 77 8 = 0 ∧ Y 77 6 = C 77 6 ∧ Y 77 15 = C 77 15 ∧ Y 77 63 = C 77 63
theorem m_drives {X C : XT} {n M : Int} {tk pl bh : Int → Int} {T : TT} {m : Nat} {Q : Int → XT → Prop} (hR : RR X) (s : zRS (X 34) n M tk pl bh) (hn : n = X 33 4) (hC : Fx zDX X C) (hT : ∀ r' : Int → Int, (∀ j : Int, ((5 ≤ j ∧ j < 9) ∨ (380 ≤ j ∧ j < 5780)) → r' j = X 79 j) → (0 ≤ r' 0 ∧ r' 0 ≤ 5) → HRt r' T) (tr : TR T) (hI : zIv X (X 79, -1, 0, 0)) (hm : (ztx false tk 12 0 0).1 = true → (1 ≤ m ∧ m ≤ 12) ∧ zfo false tk (m - 1) = 29 ∧ ∀ j : Nat, j + 1 < m → zfo false tk j = 1059) (q0 : (ztx false tk 12 0 0).1 = false → (ztx false tk 12 0 0).2 ≤ M - 1 → ∀ Y, zRd C Y → Y 79 = X 79 → Y 77 13 = pl (ztx false tk 12 0 0).2 → Y 77 59 = -1 → Y 77 1 = -6 → (∀ f : Int, Y 78 f = if f = 6 then X 78 6 + 1 else X 78 f) → Q (-6) Y) (q1 : (ztx false tk 12 0 0).1 = true → ∀ (S : zDS) (Y : XT), zAl T (zCs tk) m 0 (X 79, -1, 0, 0) = (0, m, S) → zIv X S → zRd C Y → Y 79 = S.1 → Y 77 13 = -1 → Y 77 59 = -1 → Y 77 1 = 0 → Y 78 = X 78 → Q S.2.2.1 Y) (q2 : (ztx false tk 12 0 0).1 = true → ∀ (w : Int) (k : Nat) (S : zDS) (Y : XT), zAl T (zCs tk) m 0 (X 79, -1, 0, 0) = (w, k, S) → (w = -3 ∨ w = -5) → k < m → zIv X S → zRd C Y → Y 79 = uI S.1 1 (X 79 1) → Y 77 13 = -1 → Y 77 59 = (k : Int) → Y 77 1 = w → (∀ f : Int, Y 78 f = if f = -w then X 78 (-w) + 1 else X 78 f) → Q w Y) : w_X12_drives C Q := by
  have ht := hR.2.2.1
  have hcs := hR.2.2.2.2.2.2.2.2
  have cc : ∀ c, zDX.elem c = false → C c = X c := hC
  generalize hD0 : x_st (x_st C 77 0 0) 77 59 (-1) = D0
  have d77 : ∀ f : Int, ¬ f = 0 → ¬ f = 59 → D0 77 f = X 77 f := fun f a b => by rw [← hD0, x_st_ne b, x_st_ne a, cc 77 rfl]
  have dc : ∀ c, ¬ c = 77 → D0 c = C c := fun c h => by rw [← hD0, x_st_c h, x_st_c h]
  have d59 : D0 77 59 = -1 := by rw [← hD0, x_st_at]
  unfold w_X12_drives
  rw [hD0]
  refine m_text (lw := false) (rc := 113) (wd := 12) (CL := rDr tk) (X := D0) (rd := w_X12_readDrive) s rDr_cg (by decide) (Or.inr rfl) ?_ ?_ ?_ ?_ ?_ (fun Y i v c Q a1 a2 a3 a4 a5 a6 a7 => rd_drive s Y i v c Q a1 a2 a3 a4 a5 a6 a7) (fun Z zt => ?_)
  · rw [d77 8 (by decide) (by decide), hn]; exact ht.2.1.1.symm
  · intro j j0 j1
    rw [dc 82 (by decide), cc 82 rfl]
    exact (ht.2.2 j j0 (by omega)).1.symm
  · rw [dc 88 (by decide), cc 88 rfl]; exact hcs.2.2.1
  · rw [dc 89 (by decide), cc 89 rfl]; exact hcs.2.2.2.1
  · rw [dc 90 (by decide), cc 90 rfl]; exact hcs.2.2.2.2
  obtain ⟨z1, z2, z3, z4, z5⟩ := zt
  have zc : ∀ c, zDM.elem c = false → Z c = C c := fun c h => by
    have h1 : [77, 83, 84, 85, 86, 87, 113].elem c = false := el_sub (l := [77, 83, 84, 85, 86, 87, 113]) (l2 := zDM) (by decide) h
    rw [z1 c h1, dc c (fun e => by rw [e] at h; cases h)]
  have z78 : Z 78 = X 78 := by rw [z1 78 rfl, dc 78 (by decide), cc 78 rfl]
  have z79 : Z 79 = X 79 := by rw [z1 79 rfl, dc 79 (by decide), cc 79 rfl]
  have z59 : Z 77 59 = -1 := (z2 59 (by decide)).trans d59
  have z6 : Z 77 6 = C 77 6 := by rw [z2 6 (by decide), d77 6 (by decide) (by decide), cc 77 rfl]
  have z63 : Z 77 63 = C 77 63 := by rw [z2 63 (by decide), d77 63 (by decide) (by decide), cc 77 rfl]
  have z15 : Z 77 15 = C 77 15 := by rw [z3.1, cc 77 rfl]; exact hcs.2.1.symm
  have pk : ∀ Y : XT, (∀ c, zDM.elem c = false → Y c = Z c) → (∀ f : Int, f = 6 ∨ f = 8 ∨ f = 15 ∨ f = 63 → Y 77 f = Z 77 f) → zRd C Y := fun Y a b => ⟨fun c h => (a c h).trans (zc c h), (b 8 (by decide)).trans z3.2, (b 6 (by decide)).trans z6, (b 15 (by decide)).trans z15, (b 63 (by decide)).trans z63⟩
  cases hb : (ztx false tk 12 0 0).1
  · obtain ⟨z14, z13, zM⟩ := z5 hb
    refine ⟨by rw [z14]; decide, fun y => absurd y (by rw [z14]; decide), fun _ => m_tellN (by decide) (by decide) ?_⟩
    refine q0 hb zM _ (pk _ (fun c h => ?_) (fun f hf => ?_)) ?_ ?_ ?_ ?_ (fun f => ?_)
    · rw [x_st_c (fun e => by rw [e] at h; cases h), x_st_c (fun e => by rw [e] at h; cases h)]
    · rw [x_st_c (by decide), x_st_ne (by omega)]
    · rw [x_st_c (by decide), x_st_c (by decide)]; exact z79
    · rw [x_st_c (by decide), x_st_ne (by decide)]; exact z13
    · rw [x_st_c (by decide), x_st_ne (by decide)]; exact z59
    · rw [x_st_c (by decide), x_st_at]
    · rw [x_st_s, x_st_c (by decide), z78]; rfl
  obtain ⟨z14, z13, m', hm', z16, zf, z18, ra⟩ := z4 hb
  obtain ⟨m1, e29, fo⟩ := hm hb
  obtain rfl : m' = m := zfo_one hm'.1 m1.1 zf ⟨e29, fo⟩
  refine ⟨by rw [z14]; decide, fun _ => ?_, fun y => absurd z14 y⟩
  generalize hB : x_st (x_st Z 77 57 0) 77 58 (-1) = B
  have b77 : ∀ f : Int, ¬ f = 57 → ¬ f = 58 → B 77 f = Z 77 f := fun f a b => by rw [← hB, x_st_ne b, x_st_ne a]
  have bc : ∀ c, ¬ c = 77 → B c = Z c := fun c h => by rw [← hB, x_st_c h, x_st_c h]
  have B15 : B 77 15 = 0 := (b77 15 (by decide) (by decide)).trans z3.1
  refine m_dloop (X := X) (B := B) (T := T) (tk := tk) (m := m') (S0 := (X 79, -1, 0, 0)) (N := Z 77 18) ((b77 16 (by decide) (by decide)).trans z16) B15 m1.2 hT tr (by rw [bc 84 (by decide), bc 85 (by decide), bc 113 (by decide)]; exact ra) z18.2 ⟨⟨fun _ _ _ => rfl, fun _ _ _ _ => rfl⟩, (bc 79 (by decide)).trans z79, ⟨?_, ?_⟩, fun _ _ => rfl, fun _ => ?_, fun _ _ => rfl⟩ hI (fun S W ez ms hI1 => ?_) (fun w k S W ez hw hk ms hI1 => ?_)
  · rw [← hB, x_st_ne (by decide), x_st_at]
  · rw [← hB, x_st_at]
  · rw [bc 113 (by decide)]
    exact ((ra 0 (by omega)).2 _ _ _ _ _ _ rfl rfl rfl rfl rfl rfl).2.2.2.2.2.1
  · have u1 := hI1.2.2.1
    have u2 := hI1.2.2.2.1
    refine m_tellP (by omega) (by omega) ?_
    have wc : ∀ c, zDM.elem c = false → W c = Z c := fun c h => by
      have h7 : ¬ c = 77 := fun e => by rw [e] at h; cases h
      rw [ms.1.1 c (el_sub (l := [79, 91, 92, 93, 94, 113]) (l2 := zDM) (by decide) h) h7, bc c h7]
    have w78 : W 78 = X 78 := by rw [ms.1.1 78 rfl (by decide), bc 78 (by decide), z78]
    refine q1 hb S _ ez hI1 (pk _ (fun c h => ?_) (fun f hf => ?_)) ?_ ?_ ?_ x_st_at ?_
    · rw [x_st_c (fun e => by rw [e] at h; cases h)]; exact wc c h
    · rw [x_st_ne (by omega), ms.1.2 f (by omega) (by omega) (by omega), b77 f (by omega) (by omega)]
    · rw [x_st_c (by decide)]; exact ms.2.1
    · rw [x_st_ne (by decide), ms.1.2 13 (by decide) (by decide) (by decide), b77 13 (by decide) (by decide)]; exact z13
    · rw [x_st_ne (by decide), ms.1.2 59 (by decide) (by decide) (by decide), b77 59 (by decide) (by decide)]; exact z59
    · rw [x_st_c (by decide)]; exact w78
  · refine m_tellN (by omega) (by omega) ?_
    have wc : ∀ c, zDM.elem c = false → W c = Z c := fun c h => by
      have h7 : ¬ c = 77 := fun e => by rw [e] at h; cases h
      rw [ms.1.1 c (el_sub (l := [79, 91, 92, 93, 94, 113]) (l2 := zDM) (by decide) h) h7, bc c h7]
    have w78 : W 78 = X 78 := by rw [ms.1.1 78 rfl (by decide), bc 78 (by decide), z78]
    refine q2 hb w k S _ ez hw hk hI1 (pk _ (fun c h => ?_) (fun f hf => ?_)) ?_ ?_ ?_ ?_ (fun f => ?_)
    · rw [x_st_c (fun e => by rw [e] at h; cases h), x_st_c (fun e => by rw [e] at h; cases h), x_st_c (fun e => by rw [e] at h; cases h), x_st_c (fun e => by rw [e] at h; cases h)]; exact wc c h
    · rw [x_st_c (by decide), x_st_ne (by omega), x_st_ne (by omega), x_st_c (by decide), ms.1.2 f (by omega) (by omega) (by omega), b77 f (by omega) (by omega)]
    · rw [x_st_c (by decide), x_st_c (by decide), x_st_c (by decide), x_st_s, ms.2.1, z79]
    · rw [x_st_c (by decide), x_st_ne (by decide), x_st_ne (by decide), x_st_c (by decide), ms.1.2 13 (by decide) (by decide) (by decide), b77 13 (by decide) (by decide)]; exact z13
    · rw [x_st_c (by decide), x_st_ne (by decide), x_st_at]
    · rw [x_st_c (by decide), x_st_at]
    · rw [x_st_s, x_st_c (by decide), x_st_c (by decide), x_st_c (by decide), w78]; rfl

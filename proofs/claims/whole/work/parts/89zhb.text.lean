/-! TEXTS: the reference reads a whole text -/
/-- how a clause is kept: op, ar the code, of N places; row the clauses' row; the m-th clause, from token i -/
abbrev zCLT : Type := (Int → Int) → (Int → Int) → (Int → Int) → Int → Int → Int → Int → Prop
def zCLg (wd : Int) (CL : zCLT) : Prop := ∀ (op op' ar ar' row row' : Int → Int) (m i v N N' : Int), CL op ar row m i v N → (∀ j : Int, j < N → op' j = op j) → (∀ j : Int, j < N → ar' j = ar j) → (∀ j : Int, j < wd * m + wd → row' j = row j) → N ≤ N' → CL op' ar' row' m i v N'
def zStp (f : Int → Int) (n M : Int) (pl : Int → Int) (lw : Bool) (tk : Int → Int) (rc : Nat) (wd : Int) (CL : zCLT) (X : XT) (i v : Int) (c : zCD) (X1 : XT) : Prop := (∀ j : Int, j < wd * X 77 16 → X1 rc j = X rc j) ∧ (¬ X 77 16 < 12 → zBd M pl X1 i) ∧ (X 77 16 < 12 → ((zrx lw tk i v).1 = false → zBd M pl X1 (zrx lw tk i v).2.1) ∧ ((zrx lw tk i v).1 = true → ∃ c2 : zCD, zQS f n M pl X1 (zrx lw tk i v).2.1 (zrx lw tk i v).2.2.1 c2 ∧ zEX c c2 ∧ X1 77 16 = X 77 16 + 1 ∧ CL c2.1 c2.2.1 (X1 rc) (X 77 16) i v c2.2.2))
def rAll (lw : Bool) (tk : Int → Int) (CL : zCLT) (m : Nat) (op ar row : Int → Int) (N : Int) : Prop := ∀ j : Nat, j < m → CL op ar row (j : Int) (zsx lw tk j).1 (zsx lw tk j).2 N
def zTxR (M : Int) (pl : Int → Int) (lw : Bool) (tk : Int → Int) (rc : Nat) (CL : zCLT) (X Y : XT) : Prop := Fx [77, 83, 84, 85, 86, 87, 113] X Y ∧ (∀ f : Int, (f < 8 ∨ f = 17 ∨ f = 19 ∨ f = 20 ∨ f = 22 ∨ f = 23 ∨ 25 < f) → Y 77 f = X 77 f) ∧ (Y 77 15 = 0 ∧ Y 77 8 = 0) ∧ ((ztx lw tk 12 0 0).1 = true → Y 77 14 = 0 ∧ Y 77 13 = -1 ∧ ∃ m : Nat, (1 ≤ m ∧ m ≤ 12) ∧ Y 77 16 = (m : Int) ∧ (zfo lw tk (m - 1) = 29 ∧ ∀ j : Nat, j + 1 < m → zfo lw tk j = 1059) ∧ (0 ≤ Y 77 18 ∧ Y 77 18 ≤ 400) ∧ rAll lw tk CL m (Y 84) (Y 85) (Y rc) (Y 77 18)) ∧ ((ztx lw tk 12 0 0).1 = false → Y 77 14 = 1 ∧ Y 77 13 = pl (ztx lw tk 12 0 0).2 ∧ (ztx lw tk 12 0 0).2 ≤ M - 1)
/-- where the reference stands between two clauses: m of them are read, and the next is -/
def zLp (f : Int → Int) (n M : Int) (pl : Int → Int) (lw : Bool) (tk : Int → Int) (rc : Nat) (CL : zCLT) (X Y : XT) : Prop := LFr X Y ∧ ((∃ (m : Nat) (c : zCD), m ≤ 11 ∧ Y 77 16 = (m : Int) + 1 ∧ zQS f n M pl Y (zrx lw tk (zsx lw tk m).1 (zsx lw tk m).2).2.1 (zrx lw tk (zsx lw tk m).1 (zsx lw tk m).2).2.2.1 c ∧ rAll lw tk CL (m + 1) c.1 c.2.1 (Y rc) c.2.2 ∧ (∀ j : Nat, j < m → zfo lw tk j = 1059) ∧ ztx lw tk 12 0 0 = (if tk (zrx lw tk (zsx lw tk m).1 (zsx lw tk m).2).2.1 = 29 then (true, (zrx lw tk (zsx lw tk m).1 (zsx lw tk m).2).2.1) else if tk (zrx lw tk (zsx lw tk m).1 (zsx lw tk m).2).2.1 = 1059 then ztx lw tk (11 - m) ((zrx lw tk (zsx lw tk m).1 (zsx lw tk m).2).2.1 + 1) (zrx lw tk (zsx lw tk m).1 (zsx lw tk m).2).2.2.1 else (false, (zrx lw tk (zsx lw tk m).1 (zsx lw tk m).2).2.1))) ∨ ∃ i : Int, zBd M pl Y i ∧ ztx lw tk 12 0 0 = (false, i))
theorem zLp_step {f : Int → Int} {n M : Int} {pl : Int → Int} {lw : Bool} {tk : Int → Int} {rc : Nat} {wd : Int} {CL : zCLT} {X Y Y1 : XT} {m : Nat} {c : zCD} (hcg : zCLg wd CL) (hwd : 0 ≤ wd) (l : LFr X Y) (hm : m ≤ 12) (h16 : Y 77 16 = (m : Int)) (ra : rAll lw tk CL m c.1 c.2.1 (Y rc) c.2.2) (fo : ∀ j : Nat, j < m → zfo lw tk j = 1059) (ez : ztx lw tk 12 0 0 = ztx lw tk (12 - m) (zsx lw tk m).1 (zsx lw tk m).2) (l1 : LFr Y Y1) (st : zStp f n M pl lw tk rc wd CL Y (zsx lw tk m).1 (zsx lw tk m).2 c Y1) : zLp f n M pl lw tk rc CL X Y1 := by
  refine ⟨l.tr l1, ?_⟩
  obtain ⟨so, s1, s2⟩ := st
  by_cases h12 : m = 12
  · refine Or.inr ⟨_, s1 (by omega), ?_⟩
    rw [ez, h12]; rfl
  have s3 := s2 (by omega)
  have eS : 12 - m = (11 - m) + 1 := by omega
  rw [eS] at ez
  have ez2 : ztx lw tk 12 0 0 = if (zrx lw tk (zsx lw tk m).1 (zsx lw tk m).2).1 = false then (false, (zrx lw tk (zsx lw tk m).1 (zsx lw tk m).2).2.1) else if tk (zrx lw tk (zsx lw tk m).1 (zsx lw tk m).2).2.1 = 29 then (true, (zrx lw tk (zsx lw tk m).1 (zsx lw tk m).2).2.1) else if tk (zrx lw tk (zsx lw tk m).1 (zsx lw tk m).2).2.1 = 1059 then ztx lw tk (11 - m) ((zrx lw tk (zsx lw tk m).1 (zsx lw tk m).2).2.1 + 1) (zrx lw tk (zsx lw tk m).1 (zsx lw tk m).2).2.2.1 else (false, (zrx lw tk (zsx lw tk m).1 (zsx lw tk m).2).2.1) := ez
  cases hr : (zrx lw tk (zsx lw tk m).1 (zsx lw tk m).2).1
  · rw [if_pos hr] at ez2
    exact Or.inr ⟨_, s3.1 hr, ez2⟩
  · rw [if_neg (by rw [hr]; decide)] at ez2
    obtain ⟨c2, q1, q2, q3, q4⟩ := s3.2 hr
    refine Or.inl ⟨m, c2, by omega, by omega, q1, fun j hj => ?_, fo, ez2⟩
    by_cases e : j = m
    · rw [h16] at q4; rw [e]; exact q4
    · have jw : wd * (j : Int) + wd ≤ wd * Y 77 16 := by
        have h1 : wd * ((j : Int) + 1) ≤ wd * (m : Int) := Int.mul_le_mul_of_nonneg_left (by omega) hwd
        rw [Int.mul_add, Int.mul_one] at h1
        rw [h16]; exact h1
      exact hcg _ _ _ _ _ _ _ _ _ _ _ (ra j (by omega)) q2.2.1 q2.2.2 (fun k hk => so k (by omega)) q2.1
theorem m_text {f : Int → Int} {n M : Int} {tk pl bh : Int → Int} {lw : Bool} {rc : Nat} {wd : Int} {CL : zCLT} {X : XT} {rd : XT → (XT → Prop) → Prop} {P : XT → Prop} (s : zRS f n M tk pl bh) (hcg : zCLg wd CL) (hwd : 0 ≤ wd) (hrc : rc = 83 ∨ rc = 113) (h8 : X 77 8 = n) (h82 : ∀ j : Int, 0 ≤ j → j < n → X 82 j = f j) (k88 : X 88 = X0 88) (k89 : X 89 = X0 89) (k90 : X 90 = X0 90)
    (hrd : ∀ (Y : XT) (i v : Int) (c : zCD) (Q : XT → Prop), (Y 77 15 = if lw = true then 0 else 1) → Y 88 = X0 88 → Y 89 = X0 89 → Y 90 = X0 90 → zQS f n M pl Y i v c → (0 ≤ Y 77 16 ∧ Y 77 16 ≤ 12) → (∀ Y1, LFr Y Y1 → zStp f n M pl lw tk rc wd CL Y i v c Y1 → Q Y1) → rd Y Q)
    (q : ∀ Y, zTxR M pl lw tk rc CL X Y → P Y) : w_X12_beginText (if lw = true then 0 else 1) X (fun (X9 : XT) => rd X9 (fun (X15 : XT) => ∃ (I21 : XT → Prop) (m22 : XT → Nat), I21 X15 ∧ ∀ (X20 : XT), I21 X20 → ∀ J33 : Prop, ((w_X12_endText X20 (fun (X35 : XT) => P X35)) → J33) → R32 (X20 77 14) ∧ (¬ (X20 77 14) = 0 → J33) ∧ ((X20 77 14) = 0 → w_X12_isSign 59 X20 (fun (v121 : Int) => R32 v121 ∧ (v121 = 0 → J33) ∧ (¬ v121 = 0 → w_X12_next X20 (fun (X130 : XT) => rd X130 (fun (X136 : XT) => I21 X136 ∧ m22 X136 < m22 X20))))))) := by
  refine ⟨by cases lw <;> decide, ?_⟩
  generalize hB : x_st (x_st (x_st (x_st X 77 15 (if lw = true then 0 else 1)) 77 10 0) 77 14 0) 77 13 (-1) = B
  have b77 : ∀ g : Int, ¬ g = 15 → ¬ g = 10 → ¬ g = 14 → ¬ g = 13 → B 77 g = X 77 g := fun g a b c d => by rw [← hB, x_st_ne d, x_st_ne c, x_st_ne b, x_st_ne a]
  have bc : ∀ c : Nat, ¬ c = 77 → B c = X c := fun c hc => by rw [← hB, x_st_c hc, x_st_c hc, x_st_c hc, x_st_c hc]
  have b15 : B 77 15 = if lw = true then 0 else 1 := by rw [← hB, x_st_ne (by decide), x_st_ne (by decide), x_st_ne (by decide), x_st_at]
  have b14 : B 77 14 = 0 := by rw [← hB, x_st_ne (by decide), x_st_at]
  have b13 : B 77 13 = -1 := by rw [← hB, x_st_at]
  have b10 : B 77 10 = 0 := by rw [← hB, x_st_ne (by decide), x_st_ne (by decide), x_st_at]
  have hM := s.1.1
  unfold w_X12_begin
  rw [hB]
  refine at_goes (i := -1) s ((b77 8 (by decide) (by decide) (by decide) (by decide)).trans h8) b13 (fun j a b => by rw [bc 82 (by decide)]; exact h82 j a b) (by decide) (by omega) (b10.trans s.1.2.2.2.1.symm) (fun C fC aC => ?_)
  rw [show (-1 : Int) + 1 = 0 by decide] at aC
  generalize hD : x_st (x_st (x_st C 77 16 0) 77 18 0) 77 21 0 = D
  have d77 : ∀ g : Int, ¬ g = 16 → ¬ g = 18 → ¬ g = 21 → D 77 g = C 77 g := fun g a b c => by rw [← hD, x_st_ne c, x_st_ne b, x_st_ne a]
  have dc : ∀ c : Nat, ¬ c = 77 → D c = C c := fun c hc => by rw [← hD, x_st_c hc, x_st_c hc, x_st_c hc]
  have cc : ∀ c : Nat, ¬ c = 77 → C c = X c := fun c hc => (fC.1 c (by simp; exact hc)).trans (bc c hc)
  have d15 : D 77 15 = if lw = true then 0 else 1 := by rw [d77 15 (by decide) (by decide) (by decide), fC.2 15 (by decide)]; exact b15
  have zD : zQS f n M pl D 0 0 (X 84, X 85, 0) := by
    refine ⟨aC.go (fun g hg => d77 g (by omega) (by omega) (by omega)) (dc 82 (by decide)), ?_, ?_, ⟨?_, ?_, ?_⟩, ⟨Int.le_refl _, Int.le_refl _⟩, by decide⟩
    · rw [d77 14 (by decide) (by decide) (by decide), fC.2 14 (by decide)]; exact b14
    · rw [← hD, x_st_at]
    · rw [dc 84 (by decide), cc 84 (by decide)]
    · rw [dc 85 (by decide), cc 85 (by decide)]
    · rw [← hD, x_st_ne (by decide), x_st_at]
  have d16 : D 77 16 = 0 := by rw [← hD, x_st_ne (by decide), x_st_ne (by decide), x_st_at]
  have dl : Fx [77, 83, 84, 85, 86, 87, 113] X D := fun c hc => by
    have h7 : ¬ c = 77 := fun e => by rw [e] at hc; cases hc
    rw [dc c h7, cc c h7]
  have df : ∀ g : Int, (g < 8 ∨ g = 17 ∨ g = 19 ∨ g = 20 ∨ g = 22 ∨ g = 23 ∨ 25 < g) → D 77 g = X 77 g := fun g hg => by
    rw [d77 g (by omega) (by omega) (by omega), fC.2 g (by omega), b77 g (by omega) (by omega) (by omega) (by omega)]
  have kk : ∀ Y, LFr D Y → (Y 77 15 = if lw = true then 0 else 1) ∧ Y 88 = X0 88 ∧ Y 89 = X0 89 ∧ Y 90 = X0 90 := fun Y l => ⟨(l.2 15 (by decide)).trans d15, ((l.1.trans Fx.rf) 88 rfl).trans ((dl 88 rfl).trans k88), (l.1 89 rfl).trans ((dl 89 rfl).trans k89), (l.1 90 rfl).trans ((dl 90 rfl).trans k90)⟩
  obtain ⟨k1, k2, k3, k4⟩ := kk D LFr.rf
  show rd (x_st (x_st (x_st C 77 16 0) 77 18 0) 77 21 0) _
  rw [hD]
  refine hrd D 0 0 _ _ k1 k2 k3 k4 zD (by omega) (fun Y1 l1 st1 => ?_)
  refine ⟨zLp f n M pl lw tk rc CL D, fun Y => if Y 77 14 = 0 then (20 - Y 77 16).toNat + 1 else 0, zLp_step (m := 0) (c := (X 84, X 85, 0)) hcg hwd LFr.rf (by decide) d16 (fun j hj => absurd hj (Nat.not_lt_zero _)) (fun j hj => absurd hj (Nat.not_lt_zero _)) rfl l1 st1, ?_⟩
  rintro Y ⟨lY, hY⟩
  intro J hJ
  have res : ∀ Z, LFr D Z → ((ztx lw tk 12 0 0).1 = true → Z 77 14 = 0 ∧ Z 77 13 = -1 ∧ ∃ m : Nat, (1 ≤ m ∧ m ≤ 12) ∧ Z 77 16 = (m : Int) ∧ (zfo lw tk (m - 1) = 29 ∧ ∀ j : Nat, j + 1 < m → zfo lw tk j = 1059) ∧ (0 ≤ Z 77 18 ∧ Z 77 18 ≤ 400) ∧ rAll lw tk CL m (Z 84) (Z 85) (Z rc) (Z 77 18)) → ((ztx lw tk 12 0 0).1 = false → Z 77 14 = 1 ∧ Z 77 13 = pl (ztx lw tk 12 0 0).2 ∧ (ztx lw tk 12 0 0).2 ≤ M - 1) → P (x_st (x_st Z 77 15 0) 77 8 0) := by
    intro Z lZ ht hf
    have e : ∀ g : Int, ¬ g = 15 → ¬ g = 8 → (x_st (x_st Z 77 15 0) 77 8 0) 77 g = Z 77 g := fun g a b => by rw [x_st_ne b, x_st_ne a]
    have ec : ∀ c : Nat, ¬ c = 77 → (x_st (x_st Z 77 15 0) 77 8 0) c = Z c := fun c hc => by rw [x_st_c hc, x_st_c hc]
    refine q _ ⟨((dl.trans lZ.1).st rfl).st rfl, fun g hg => ?_, ⟨?_, x_st_at⟩, fun h => ?_, fun h => ?_⟩
    · rw [e g (by omega) (by omega), lZ.2 g (by omega)]; exact df g hg
    · rw [x_st_ne (by decide), x_st_at]
    · rw [e 14 (by decide) (by decide), e 13 (by decide) (by decide), e 16 (by decide) (by decide), e 18 (by decide) (by decide), ec 84 (by decide), ec 85 (by decide), ec rc (by omega)]
      exact ht h
    · rw [e 14 (by decide) (by decide), e 13 (by decide) (by decide)]
      exact hf h
  rcases hY with ⟨m, c, hm, y16, zq, ra, fo, ez⟩ | ⟨i, bd, ez⟩
  rotate_left
  · have d : J := hJ (fun J2 hJ2 => ⟨by rw [bd.1]; decide, fun _ => hJ2 Y (res Y lY (fun h => by rw [ez] at h; cases h) (fun _ => by rw [ez]; exact bd)), fun z => absurd z (by rw [bd.1]; decide)⟩)
    exact ⟨by rw [bd.1]; decide, fun _ => d, fun z => absurd z (by rw [bd.1]; decide)⟩
  have b0 := zq.2.1
  have o := (at_obs s zq.1).1
  have ii := zq.1.2.2.2.2
  have n1 := zq.2.2.2.2.1
  generalize hr : zrx lw tk (zsx lw tk m).1 (zsx lw tk m).2 = r at *
  have hfo : zfo lw tk m = tk r.2.1 := by
    show tk (zrx lw tk (zsx lw tk m).1 (zsx lw tk m).2).2.1 = _
    rw [hr]
  -- the end
  have fin : ¬ tk r.2.1 = 1059 → J := by
    intro n59
    refine hJ ?_
    intro J2 hJ2
    refine ⟨by rw [b0]; decide, fun z => absurd b0 z, fun _ => ⟨?_, fun z => ?_, fun z => ?_⟩⟩
    · rcases o with ⟨h, _⟩ | ⟨h, _⟩ | ⟨h, _⟩ | ⟨h, _⟩ <;> rw [h] <;> decide
    · have t29 : tk r.2.1 = 29 := by
        rcases o with ⟨_, h⟩ | ⟨h, _⟩ | ⟨h, _⟩ | ⟨h, _⟩
        · exact h
        · omega
        · omega
        · omega
      rw [if_pos t29] at ez
      refine hJ2 Y (res Y lY (fun _ => ⟨b0, zq.1.1.2, m + 1, by omega, by omega, ⟨by rw [show m + 1 - 1 = m by omega, hfo]; exact t29, fun j hj => fo j (by omega)⟩, ?_, ?_⟩) (fun h => by rw [ez] at h; cases h))
      · rw [zq.2.2.2.1.2.2]
        have := s.1.1
        have := s.2.1
        omega
      · rw [zq.2.2.2.1.1, zq.2.2.2.1.2.1, zq.2.2.2.1.2.2]; exact ra
    · have t29 : ¬ tk r.2.1 = 29 := by
        rcases o with ⟨h, _⟩ | ⟨_, h, _⟩ | ⟨_, h, _⟩ | ⟨_, h, _⟩ <;> omega
      rw [if_neg t29, if_neg n59] at ez
      refine m_mustF b0 (hJ2 _ (res _ ((lY.f7 (Or.inr (Or.inl rfl))).f7 (Or.inl rfl)) (fun h => by rw [ez] at h; cases h) (fun _ => ?_)))
      rw [ez]
      refine ⟨?_, ?_, ii.2⟩
      · rw [x_st_ne (by decide), x_st_at]
      · rw [x_st_at]; exact zq.1.2.2.1
  refine ⟨by rw [b0]; decide, fun z => absurd b0 z, fun _ => ?_⟩
  refine m_isSign o (by decide) (fun e59 => ⟨by decide, fun z => absurd z (by decide), fun _ => ?_⟩) (fun n59 => ⟨by decide, fun _ => fin n59, fun z => absurd rfl z⟩)
  have e59 : tk r.2.1 = 1059 := e59
  rw [if_neg (by omega), if_pos e59] at ez
  refine at_next s zq.1 (by omega) (fun Z fZ aZ => ?_)
  have zZ := zq.nx fZ aZ
  have lZ : LFr Y Z := LFr.ofM (MFr.ofN fZ)
  obtain ⟨k1, k2, k3, k4⟩ := kk Z (lY.tr lZ)
  have hz2 : zsx lw tk (m + 1) = (r.2.1 + 1, r.2.2.1) := by
    show ((zrx lw tk (zsx lw tk m).1 (zsx lw tk m).2).2.1 + 1, (zrx lw tk (zsx lw tk m).1 (zsx lw tk m).2).2.2.1) = _
    rw [hr]
  have z16 : Z 77 16 = ((m + 1 : Nat) : Int) := by rw [fZ.2 16 (by decide)]; omega
  have rcZ : Z rc = Y rc := fZ.1 rc (by rcases hrc with rfl | rfl <;> rfl)
  refine hrd Z _ _ _ _ k1 k2 k3 k4 zZ (by omega) (fun Z1 l1 st1 => ?_)
  have st2 : zStp f n M pl lw tk rc wd CL Z (zsx lw tk (m + 1)).1 (zsx lw tk (m + 1)).2 c Z1 := by rw [hz2]; exact st1
  have lp := zLp_step hcg hwd (lY.tr lZ) (by omega) z16 (by rw [rcZ]; exact ra) (fun j hj => by
    by_cases e : j = m
    · rw [e, hfo]; exact e59
    · exact fo j (by omega)) (by rw [ez, hz2, show 12 - (m + 1) = 11 - m by omega]) l1 st2
  refine ⟨lp, ?_⟩
  dsimp only
  rw [if_pos b0]
  obtain ⟨_, h | h⟩ := lp
  · obtain ⟨m', c', hm', y16', zq', _⟩ := h
    have z14 := zq'.2.1
    rw [if_pos z14]
    -- a clause more
    have h3 := st1.2.2
    by_cases h12 : Z 77 16 < 12
    · cases hh : (zrx lw tk (r.2.1 + 1) r.2.2.1).1
      · have := ((h3 h12).1 hh).1
        omega
      · obtain ⟨_, _, _, e16, _⟩ := (h3 h12).2 hh
        omega
    · have := (st1.2.1 h12).1
      omega
  · obtain ⟨i', bd', _⟩ := h
    rw [if_neg (by rw [bd'.1]; decide)]
    omega

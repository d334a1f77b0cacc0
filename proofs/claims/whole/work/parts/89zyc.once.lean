/-! DRIVES: the reference runs a clause -/
theorem m_run {X B Y : XT} {S : zDS} {T : TT} {m k : Nat} {tk : Int → Int} {i v N : Int} {Q : Int → XT → Prop} (hI : zIv X S) (hst : zMs B m k S Y) (km : k < m) (hm : m ≤ 12) (b15 : B 77 15 = 0) (hT : ∀ r' : Int → Int, (∀ j : Int, ((5 ≤ j ∧ j < 9) ∨ (380 ≤ j ∧ j < 5780)) → r' j = X 79 j) → (0 ≤ r' 0 ∧ r' 0 ≤ 5) → HRt r' T) (tr : TR T) (rd : rDr tk (B 84) (B 85) (B 113) (k : Int) i v N) (hN : N ≤ 400) (h23 : S.2.2.2 ≤ 23) (q : ∀ (w : Int) (S1 : zDS) (Y1 : XT), zOne T (zCc tk i v) S = (w, S1) → zMs B m k S1 Y1 → Q w Y1) : w_X12_run (12 * (k : Int)) Y Q := by
  obtain ⟨o, f6, p, _⟩ := hI.1
  have rw0 := p.rw
  have wc := rw0.2.2.1
  have wc0 := wc.1
  have wt := rw0.2.2.2.2.2.2
  unfold W_trm at wt
  have u0 := hI.2.2.2.2.2
  have u1 := hI.2.2.1
  have u2 := hI.2.2.2.1
  have u3 := hI.2.2.2.2.1
  have hR : HRt S.1 T := hT S.1 (fun j hj => hI.2.1 j (by omega) (by omega)) wc.1
  obtain ⟨e19, hd⟩ := rd
  obtain ⟨s1, s2, s3, ⟨s4, s4'⟩, s5, s6, s7, s7'⟩ := hd (zd1 tk i v) (zd2 tk i v) (zd3 tk i v) (zd4 tk i v) (zd5 tk i v) (zd6 tk i v) rfl rfl rfl rfl rfl rfl
  have y15 : Y 77 15 = 0 := (hst.1.2 15 (by decide) (by decide) (by decide)).trans b15
  refine m_lay rw0 hR tr ⟨hst.2.1, y15⟩ (fun X2 g2 ld => ?_)
  have m2 := hst.gx (g2.sub (by decide))
  have e79 := m2.2.1
  generalize hZ1 : x_st X2 92 1 (X2 79 0) = Z1
  generalize hZ2 : x_st Z1 92 2 (Z1 79 1) = Z2
  generalize hZ3 : x_st Z2 92 3 (Z2 77 58) = Z3
  generalize hZ4 : x_st Z3 92 4 (Z3 77 57) = Z4
  generalize hZ5 : x_st Z4 92 5 (Z4 113 (12 * (k : Int) + 11)) = Z5
  generalize hZ6 : x_st Z5 92 6 (Z5 79 6) = Z6
  generalize hZ7 : x_st Z6 77 60 0 = Z7
  have c1 : ∀ a, ¬ a = 92 → Z1 a = X2 a := fun a h => by rw [← hZ1, x_st_c h]
  have c2 : ∀ a, ¬ a = 92 → Z2 a = X2 a := fun a h => by rw [← hZ2, x_st_c h]; exact c1 a h
  have c3 : ∀ a, ¬ a = 92 → Z3 a = X2 a := fun a h => by rw [← hZ3, x_st_c h]; exact c2 a h
  have c4 : ∀ a, ¬ a = 92 → Z4 a = X2 a := fun a h => by rw [← hZ4, x_st_c h]; exact c3 a h
  have c5 : ∀ a, ¬ a = 92 → Z5 a = X2 a := fun a h => by rw [← hZ5, x_st_c h]; exact c4 a h
  have c6 : ∀ a, ¬ a = 92 → Z6 a = X2 a := fun a h => by rw [← hZ6, x_st_c h]; exact c5 a h
  have r0 : X2 79 0 = S.1 0 := by rw [e79]
  have r1 : Z1 79 1 = S.1 1 := by rw [c1 79 (by decide), e79]
  have r2 : Z2 77 58 = S.2.1 := by rw [c2 77 (by decide)]; exact m2.2.2.1.2
  have r3 : Z3 77 57 = S.2.2.1 := by rw [c3 77 (by decide)]; exact m2.2.2.1.1
  have r4 : Z4 113 (12 * (k : Int) + 11) = S.2.2.2 := by rw [c4 113 (by decide)]; exact m2.2.2.2.2.1 km
  have r5 : Z5 79 6 = S.1 6 := by rw [c5 79 (by decide), e79]
  rw [r0] at hZ1
  rw [r1] at hZ2
  rw [r2] at hZ3
  rw [r3] at hZ4
  rw [r4] at hZ5
  rw [r5] at hZ6
  have mw : zMw T B m k S Z7 := by
    have g7 : Gx [91, 92, 93, 94] X2 Z7 := by
      rw [← hZ7, ← hZ6, ← hZ5, ← hZ4, ← hZ3, ← hZ2, ← hZ1]
      exact ((((((Gx.rf.st rfl (by decide)).st rfl (by decide)).st rfl (by decide)).st rfl (by decide)).st rfl (by decide)).st rfl (by decide)).st7 (by decide)
    refine ⟨m2.gx g7, ?_, ?_⟩
    · rw [← hZ7, x_st_c (by decide), ← hZ6, ← hZ5, ← hZ4, ← hZ3, ← hZ2, ← hZ1]
      refine ⟨?_, ?_, ?_, ?_, ?_, ?_⟩
      · rw [x_st_ne (by decide), x_st_ne (by decide), x_st_ne (by decide), x_st_ne (by decide), x_st_ne (by decide), x_st_at]
      · rw [x_st_ne (by decide), x_st_ne (by decide), x_st_ne (by decide), x_st_ne (by decide), x_st_at]
      · rw [x_st_ne (by decide), x_st_ne (by decide), x_st_ne (by decide), x_st_at]
      · rw [x_st_ne (by decide), x_st_ne (by decide), x_st_at]
      · rw [x_st_ne (by decide), x_st_at]
      · rw [x_st_at]
    · have e94 : Z7 94 = X2 94 := by rw [← hZ7, x_st_c (by decide)]; exact c6 94 (by decide)
      unfold LAID
      rw [e94]; exact ld
  have z60 : Z7 77 60 = 0 := by rw [← hZ7, x_st_at]
  rw [r0, r1, r2, r3, r4, r5]
  have e8 : Z7 113 (12 * (k : Int) + 8) = B 113 (12 * (k : Int) + 8) := mw.1.2.2.2.1 _ (by omega)
  have e9 : Z7 113 (12 * (k : Int) + 9) = B 113 (12 * (k : Int) + 9) := mw.1.2.2.2.1 _ (by omega)
  refine ⟨by omega, by omega, by omega, by omega, by omega, by omega, by omega, by omega, by omega, ?_⟩
  intro J52 hJ52
  -- the four sums
  have body : ∀ Z : XT, zMw T B m k S Z → Z 77 60 = 0 → zOne T (zCc tk i v) S = zGo T (zCc tk i v) S → J52 Z := by
    intro Z hz zo eo
    refine hJ52 Z ?_
    have eg : zGo T (zCc tk i v) S = match (zd1 tk i v).2.2.2 (fDr T S) with
      | none => (-3, S)
      | some c => match (zd2 tk i v).2.2.2 (fDr T S) with
        | none => (-3, S)
        | some d => match (zd3 tk i v).2.2.2 (fDr T S) with
          | none => (-3, S)
          | some a => match zEa T (zCc tk i v) S with
            | none => (-3, S)
            | some e => zTry S c d (a + e * S.2.2.2) := rfl
    have ea : zEa T (zCc tk i v) S = if tk (zd3 tk i v).2.1 = 22 then (zd4 tk i v).2.2.2 (fDr T S) else some 0 := zEa_e
    generalize zEa T (zCc tk i v) S = E at eg ea
    rw [eo] at q
    generalize zGo T (zCc tk i v) S = G at eg q
    have off : ∀ (v56 v62 v68 v74 : Int) (W : XT), G = (-3, S) → zMw T B m k S W → W 77 60 = 1 → R32 (W 113 (12 * (k : Int) + 11)) ∧ R32 (W 77 60) ∧ ((W 77 60) = 0 → R64 (v68 + (v74 * (W 113 (12 * (k : Int) + 11)))) ∧ w_X12_flag1 (if (v68 + (v74 * (W 113 (12 * (k : Int) + 11)))) < (-1) then (-1) else if 12 < (v68 + (v74 * (W 113 (12 * (k : Int) + 11)))) then 12 else (v68 + (v74 * (W 113 (12 * (k : Int) + 11))))) v56 v62 W (fun (v84 : Int) (X85 : XT) => R32 v84 ∧ (0 ≤ v84 → Q 0 (x_st (x_st (x_st X85 113 (12 * (k : Int) + 11) ((X85 113 (12 * (k : Int) + 11)) + 1)) 77 58 (if (v68 + (v74 * (W 113 (12 * (k : Int) + 11)))) < (-1) then (-1) else if 12 < (v68 + (v74 * (W 113 (12 * (k : Int) + 11)))) then 12 else (v68 + (v74 * (W 113 (12 * (k : Int) + 11)))))) 77 57 (((x_st (x_st X85 113 (12 * (k : Int) + 11) ((X85 113 (12 * (k : Int) + 11)) + 1)) 77 58 (if (v68 + (v74 * (W 113 (12 * (k : Int) + 11)))) < (-1) then (-1) else if 12 < (v68 + (v74 * (W 113 (12 * (k : Int) + 11)))) then 12 else (v68 + (v74 * (W 113 (12 * (k : Int) + 11)))))) 77 57) + 1))) ∧ (¬ 0 ≤ v84 → (¬ v84 = (-5) → Q (-3) X85) ∧ (v84 = (-5) → Q (-5) X85)))) ∧ (¬ (W 77 60) = 0 → Q (-3) W) := by
      intro v56 v62 v68 v74 W eG hw w1
      have := hw.1.2.2.2.2.1 km
      exact ⟨by omega, by omega, fun z => absurd z (by omega), fun _ => q _ _ W eG hw.1⟩
    refine m_sumD hI hz b15 zo (by omega) (by omega) (by omega) s1 hN (fun n1 v56 W1 w1 o1 => ?_) (fun c hc rc W1 w1 o1 => ?_)
    · rw [n1] at eg
      exact m_sumX o1 (m_sumX o1 (m_sumX o1 (off _ _ _ _ _ eg w1 o1)))
    rw [hc] at eg
    refine m_sumD hI w1 b15 o1 (by omega) (by omega) (by omega) s2 hN (fun n2 v62 W2 w2 o2 => ?_) (fun d hd rd W2 w2 o2 => ?_)
    · rw [n2] at eg
      exact m_sumX o2 (m_sumX o2 (off _ _ _ _ _ eg w2 o2))
    rw [hd] at eg
    refine m_sumD hI w2 b15 o2 (by omega) (by omega) (by omega) s3 hN (fun n3 v68 W3 w3 o3 => ?_) (fun a ha ra W3 w3 o3 => ?_)
    · rw [n3] at eg
      exact m_sumX o3 (off _ _ _ _ _ eg w3 o3)
    rw [ha] at eg
    have last : ∀ (e : Int) (W : XT), E = some e → (-1000001000 ≤ e ∧ e ≤ 1000001000) → zMw T B m k S W → W 77 60 = 0 → R32 (W 113 (12 * (k : Int) + 11)) ∧ R32 (W 77 60) ∧ ((W 77 60) = 0 → R64 (a + (e * (W 113 (12 * (k : Int) + 11)))) ∧ w_X12_flag1 (if (a + (e * (W 113 (12 * (k : Int) + 11)))) < (-1) then (-1) else if 12 < (a + (e * (W 113 (12 * (k : Int) + 11)))) then 12 else (a + (e * (W 113 (12 * (k : Int) + 11))))) c d W (fun (v84 : Int) (X85 : XT) => R32 v84 ∧ (0 ≤ v84 → Q 0 (x_st (x_st (x_st X85 113 (12 * (k : Int) + 11) ((X85 113 (12 * (k : Int) + 11)) + 1)) 77 58 (if (a + (e * (W 113 (12 * (k : Int) + 11)))) < (-1) then (-1) else if 12 < (a + (e * (W 113 (12 * (k : Int) + 11)))) then 12 else (a + (e * (W 113 (12 * (k : Int) + 11)))))) 77 57 (((x_st (x_st X85 113 (12 * (k : Int) + 11) ((X85 113 (12 * (k : Int) + 11)) + 1)) 77 58 (if (a + (e * (W 113 (12 * (k : Int) + 11)))) < (-1) then (-1) else if 12 < (a + (e * (W 113 (12 * (k : Int) + 11)))) then 12 else (a + (e * (W 113 (12 * (k : Int) + 11)))))) 77 57) + 1))) ∧ (¬ 0 ≤ v84 → (¬ v84 = (-5) → Q (-3) X85) ∧ (v84 = (-5) → Q (-5) X85)))) ∧ (¬ (W 77 60) = 0 → Q (-3) W) := by
      intro e W he re hw w0
      rw [he] at eg
      have eg : G = zTry S c d (a + e * S.2.2.2) := eg
      have ec := hw.1.2.2.2.2.1 km
      have rm := mul_rB (x := e) (y := S.2.2.2) (by omega) (by omega)
      rw [ec]
      refine ⟨by omega, by omega, fun _ => ⟨by omega, ?_⟩, fun z => absurd w0 z⟩
      exact m_flag hI hw km hm (by omega) (by omega) h23 (fun w S1 Y1 h1 h2 => q w S1 Y1 (eg.trans h1) h2)
    by_cases t22 : tk (zd3 tk i v).2.1 = 22
    · rw [if_pos t22] at ea
      refine m_sumD hI w3 b15 o3 (by omega) (by omega) (by omega) (s4 t22) hN (fun n4 v74 W4 w4 o4 => ?_) (fun e he re W4 w4 o4 => ?_)
      · rw [ea, n4] at eg
        exact off _ _ _ _ _ eg w4 o4
      · exact last e W4 (by rw [ea, he]) re w4 o4
    · rw [if_neg t22] at ea
      obtain ⟨x6, x7⟩ := s4' t22
      refine m_sumE o3 (by omega) ?_ ?_ (last 0 W3 ea (by decide) w3 o3)
      · rw [w3.1.2.2.2.1 _ (by omega)]; exact x6
      · rw [w3.1.2.2.2.1 _ (by omega), show 12 * (k : Int) + 6 + 1 = 12 * (k : Int) + 7 by omega]; exact x7
  have eO := zOne_e (T := T) (tk := tk) (i := i) (v := v) S
  by_cases t24 : tk (zd5 tk i v).2.1 = 24
  · obtain ⟨s8, tb⟩ := s7 t24
    have s80 := s8
    obtain ⟨hr8, L8, zr8⟩ := s80
    have lt := zr8.2.1
    rw [show 12 * (k : Int) + 8 + 1 = 12 * (k : Int) + 9 by omega] at hr8 lt
    rw [e8, e9]
    refine ⟨by omega, by omega, fun z => absurd z (by omega), fun _ => ?_⟩
    refine m_sumD hI mw b15 z60 (by omega) (by omega) (by omega) s8 hN (fun n1 v56 W1 w1 o1 => ?_) (fun c hc rc W1 w1 o1 => ?_)
    · rw [n1, if_pos ⟨t24, by decide⟩] at eO
      exact ⟨by omega, fun _ => q 0 S W1 eO w1.1, fun z => absurd z (by omega)⟩
    · have c01 := tb _ _ hc
      rw [hc] at eO
      refine ⟨by omega, fun z => absurd o1 z, fun _ => ⟨by omega, fun z => body W1 w1 o1 ?_, fun z => ?_⟩⟩
      · rw [eO, if_neg (fun y => y.2 (by congr 1; omega))]
      · rw [if_pos ⟨t24, fun y => by cases y; omega⟩] at eO
        exact q 0 S W1 eO w1.1
  · obtain ⟨x9, x8, x8'⟩ := s7' t24
    rw [e8, e9]
    exact ⟨by omega, by omega, fun _ => body Z7 mw z60 (by rw [eO, if_neg (fun y => t24 y.1)]), fun z => absurd z (by omega)⟩

/-! DRIVES: the reference runs once -/
theorem zOne_e {T : TT} {tk : Int → Int} {i v : Int} (S1 : zDS) : zOne T (zCc tk i v) S1 = if tk (zd5 tk i v).2.1 = 24 ∧ ¬ (zd6 tk i v).2.2.2 (fDr T S1) = some 1 then (0, S1) else zGo T (zCc tk i v) S1 := by
  unfold zOne
  by_cases c : tk (zd5 tk i v).2.1 = 24 ∧ ¬ (zd6 tk i v).2.2.2 (fDr T S1) = some 1
  · rw [if_pos c]
    exact if_pos ⟨decide_eq_true c.1, c.2⟩
  · rw [if_neg c]
    exact if_neg (fun y => c ⟨of_decide_eq_true y.1, y.2⟩)
theorem zEa_e {T : TT} {tk : Int → Int} {i v : Int} {S : zDS} : zEa T (zCc tk i v) S = if tk (zd3 tk i v).2.1 = 22 then (zd4 tk i v).2.2.2 (fDr T S) else some 0 := by
  unfold zEa zCc
  dsimp only
  by_cases t : tk (zd3 tk i v).2.1 = 22
  · rw [if_pos (decide_eq_true t), if_pos t]
  · rw [if_neg (by rw [decide_eq_false t]; decide), if_neg t]
/-- the flag, when all four are told -/
theorem m_flag {X B Z : XT} {S : zDS} {T : TT} {m k : Nat} {c d h : Int} {Q : Int → XT → Prop} (hI : zIv X S) (hz : zMw T B m k S Z) (km : k < m) (hm : m ≤ 12) (rc : -1000001000 ≤ c ∧ c ≤ 1000001000) (rd : -1000001000 ≤ d ∧ d ≤ 1000001000) (u1 : S.2.2.2 ≤ 23) (q : ∀ (w : Int) (S1 : zDS) (Y1 : XT), zTry S c d h = (w, S1) → zMs B m k S1 Y1 → Q w Y1) : w_X12_flag1 (if h < (-1) then (-1) else if 12 < h then 12 else h) c d Z (fun (v84 : Int) (X85 : XT) => R32 v84 ∧ (0 ≤ v84 → Q 0 (x_st (x_st (x_st X85 113 (12 * (k : Int) + 11) ((X85 113 (12 * (k : Int) + 11)) + 1)) 77 58 (if h < (-1) then (-1) else if 12 < h then 12 else h)) 77 57 (((x_st (x_st X85 113 (12 * (k : Int) + 11) ((X85 113 (12 * (k : Int) + 11)) + 1)) 77 58 (if h < (-1) then (-1) else if 12 < h then 12 else h)) 77 57) + 1))) ∧ (¬ 0 ≤ v84 → (¬ v84 = (-5) → Q (-3) X85) ∧ (v84 = (-5) → Q (-5) X85))) := by
  obtain ⟨o, f6, p, _⟩ := hI.1
  have wf := p.rw.2.2.2.1
  have wc := p.rw.2.2.1.1
  have u0 := hI.2.2.2.2.2
  have e79 := hz.1.2.1
  have e1 := hI.2.2.1
  have rF := fRw_r wf c h
  have bad : ¬ ((0 ≤ h ∧ h ≤ 10) ∧ (0 ≤ d ∧ d ≤ 3) ∧ (0 ≤ c ∧ c < S.1 0) ∧ fRw S.1 c h = -1) → Q (-3) Z := fun z => q (-3) S Z (by unfold zTry; rw [if_neg z]) hz.1
  generalize hh : (if h < (-1) then (-1) else if 12 < h then 12 else h) = h2
  have h2i : (0 ≤ h2 ∧ h2 ≤ 10) ↔ (0 ≤ h ∧ h ≤ 10) := by rw [← hh]; split; omega; split <;> omega
  have h2e : (0 ≤ h ∧ h ≤ 10) → h2 = h := fun z => by rw [← hh, if_neg (by omega), if_neg (by omega)]
  have h2r : -1 ≤ h2 ∧ h2 ≤ 12 := by rw [← hh]; split; omega; split <;> omega
  have no : ∀ w : Int, (w = -1 ∨ w = -2 ∨ w = -3) → ¬ ((0 ≤ h ∧ h ≤ 10) ∧ (0 ≤ d ∧ d ≤ 3) ∧ (0 ≤ c ∧ c < S.1 0) ∧ fRw S.1 c h = -1) → R32 w ∧ (0 ≤ w → Q 0 (x_st (x_st (x_st Z 113 (12 * (k : Int) + 11) ((Z 113 (12 * (k : Int) + 11)) + 1)) 77 58 h2) 77 57 (((x_st (x_st Z 113 (12 * (k : Int) + 11) ((Z 113 (12 * (k : Int) + 11)) + 1)) 77 58 h2) 77 57) + 1))) ∧ (¬ 0 ≤ w → (¬ w = (-5) → Q (-3) Z) ∧ (w = (-5) → Q (-5) Z)) := fun w hw z => ⟨by omega, fun y => absurd y (by omega), fun _ => ⟨fun _ => bad z, fun y => absurd y (by omega)⟩⟩
  refine ⟨by omega, fun z => no _ (Or.inl rfl) (fun y => z (h2i.mpr y.1)), fun z => ⟨by omega, fun z2 => ⟨by omega, by rw [e79]; exact wc, fun z3 => ?_, fun z3 => no _ (Or.inr (Or.inl rfl)) (fun y => z3 (by rw [e79]; omega))⟩, fun z2 => no _ (Or.inl rfl) (fun y => z2 y.2.1)⟩⟩
  have hr := h2i.mp z
  obtain rfl := h2e hr
  rw [e79] at z3
  rw [e79]
  refine ⟨wf.1, by omega, fun z4 => ⟨by omega, fun z5 => ⟨by omega, by omega, by omega, ?_⟩, fun z5 => ?_⟩, fun z4 => no _ (Or.inr (Or.inr rfl)) (fun y => z4 y.2.2.2)⟩
  · have ok : (0 ≤ h2 ∧ h2 ≤ 10) ∧ (0 ≤ d ∧ d ≤ 3) ∧ (0 ≤ c ∧ c < S.1 0) ∧ fRw S.1 c h2 = -1 := ⟨hr, z2, by omega, z4⟩
    refine ⟨by omega, fun _ => ?_, fun y => absurd (by omega) y⟩
    refine q 0 (zFl S.1 h2 c d, h2, S.2.2.1 + 1, S.2.2.2 + 1) _ (by unfold zTry; rw [if_pos ok, if_pos (by omega)]) ?_
    obtain ⟨⟨⟨g1, g2⟩, g3, g4, g5, g6, g7⟩, _⟩ := hz
    generalize hF : x_st (x_st (x_st (x_st Z 79 (232 + 3 * S.1 1) h2) 79 (232 + 3 * S.1 1 + 1) c) 79 (232 + 3 * S.1 1 + 2) d) 79 1 ((x_st (x_st (x_st Z 79 (232 + 3 * S.1 1) h2) 79 (232 + 3 * S.1 1 + 1) c) 79 (232 + 3 * S.1 1 + 2) d) 79 1 + 1) = F
    have F79 : F 79 = zFl S.1 h2 c d := by
      rw [← hF, x_st_s, x_st_s, x_st_s, x_st_s, g3]
      unfold zFl
      rw [uI_ne (by omega), uI_ne (by omega), uI_ne (by omega)]
    have Fc : ∀ a, ¬ a = 79 → F a = Z a := fun a ha => by rw [← hF, x_st_c ha, x_st_c ha, x_st_c ha, x_st_c ha]
    have F113 : F 113 (12 * (k : Int) + 11) = S.2.2.2 := by rw [Fc 113 (by decide)]; exact g6 km
    have e57 : (x_st (x_st F 113 (12 * (k : Int) + 11) (F 113 (12 * (k : Int) + 11) + 1)) 77 58 h2) 77 57 = S.2.2.1 := by rw [x_st_ne (by decide), x_st_c (by decide), Fc 77 (by decide)]; exact g4.1
    rw [e57, F113]
    refine ⟨⟨fun a ha h7 => ?_, fun f hf f7 f8 => ?_⟩, ?_, ⟨?_, ?_⟩, fun j hj => ?_, fun _ => ?_, fun i hi => ?_⟩
    · rw [x_st_c h7, x_st_c h7, x_st_c (fun e => by rw [e] at ha; cases ha), Fc a (fun e => by rw [e] at ha; cases ha)]; exact g1 a ha h7
    · rw [x_st_ne f7, x_st_ne f8, x_st_c (by decide), Fc 77 (by decide)]; exact g2 f hf f7 f8
    · rw [x_st_c (by decide), x_st_c (by decide), x_st_c (by decide)]; exact F79
    · rw [x_st_at]
    · rw [x_st_ne (by decide), x_st_at]
    · rw [x_st_c (by decide), x_st_c (by decide), x_st_ne (by omega), Fc 113 (by decide)]; exact g5 j hj
    · rw [x_st_c (by decide), x_st_c (by decide), x_st_at]
    · rw [x_st_c (by decide), x_st_c (by decide), x_st_ne (by omega), Fc 113 (by decide)]; exact g7 i hi
  · have ok : (0 ≤ h2 ∧ h2 ≤ 10) ∧ (0 ≤ d ∧ d ≤ 3) ∧ (0 ≤ c ∧ c < S.1 0) ∧ fRw S.1 c h2 = -1 := ⟨hr, z2, by omega, z4⟩
    exact ⟨by decide, fun y => absurd y (by decide), fun _ => ⟨fun y => absurd rfl y, fun _ => q (-5) S Z (by unfold zTry; rw [if_pos ok, if_neg (by omega)]) hz.1⟩⟩

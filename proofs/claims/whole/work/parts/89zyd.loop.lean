/-! DRIVES: the reference runs all clauses -/
theorem zMs.nx {B Z : XT} {m k : Nat} {S : zDS} (h : zMs B m k S Z) (h0 : k + 1 < m → B 113 (12 * ((k + 1 : Nat) : Int) + 11) = 0) : zMs B m (k + 1) (S.1, S.2.1, S.2.2.1, 0) Z := by
  obtain ⟨h1, h2, h3, h4, h5, h6⟩ := h
  exact ⟨h1, h2, h3, h4, fun z => (h6 _ (by omega)).trans (h0 z), fun i hi => h6 i (by omega)⟩
theorem m_dloop {X B : XT} {T : TT} {tk : Int → Int} {m : Nat} {S0 : zDS} {N had : Int} {Q : Int → XT → Prop} (b16 : B 77 16 = (m : Int)) (b15 : B 77 15 = 0) (hm : m ≤ 12) (hT : ∀ r' : Int → Int, (∀ j : Int, ((5 ≤ j ∧ j < 9) ∨ (380 ≤ j ∧ j < 5780)) → r' j = X 79 j) → (0 ≤ r' 0 ∧ r' 0 ≤ 5) → HRt r' T) (tr : TR T) (ra : rAll false tk (rDr tk) m (B 84) (B 85) (B 113) N) (hN : N ≤ 400) (h0 : zMs B m 0 (S0.1, S0.2.1, S0.2.2.1, 0) B) (hI0 : zIv X S0) (qg : ∀ (S : zDS) (Z : XT), zAl T (zCs tk) m 0 S0 = (0, m, S) → zMs B m m (S.1, S.2.1, S.2.2.1, 0) Z → zIv X S → w_X12_tell S.2.2.1 Z Q) (qr : ∀ (w : Int) (k : Nat) (S : zDS) (Z : XT), zAl T (zCs tk) m 0 S0 = (w, k, S) → (w = -3 ∨ w = -5) → k < m → zMs B m k S Z → zIv X S → w_X12_tell w (x_st (x_st Z 79 1 had) 77 59 (k : Int)) Q) : ∃ (I57 : Int → XT → Prop) (m58 : Int → XT → Nat), I57 0 B ∧ ∀ (x55 : Int) (X56 : XT), I57 x55 X56 → R32 x55 ∧ R32 (X56 77 16) ∧ ((X56 77 16) ≤ x55 → w_X12_tell (X56 77 57) X56 (fun (v72 : Int) (X73 : XT) => Q v72 X73)) ∧ (¬ (X56 77 16) ≤ x55 → ∃ (I80 : Int → XT → Prop) (m81 : Int → XT → Nat), I80 0 X56 ∧ ∀ (x78 : Int) (X79 : XT), I80 x78 X79 → (0 ≤ ((12 * x55) + 10) ∧ ((12 * x55) + 10) < 144) ∧ R32 x78 ∧ R32 (X79 113 ((12 * x55) + 10)) ∧ ((X79 113 ((12 * x55) + 10)) ≤ x78 → I57 (x55 + 1) X79 ∧ m58 (x55 + 1) X79 < m58 x55 X56) ∧ (¬ (X79 113 ((12 * x55) + 10)) ≤ x78 → w_X12_run (12 * x55) X79 (fun (v96 : Int) (X97 : XT) => R32 v96 ∧ (0 ≤ v96 → I80 (x78 + 1) X97 ∧ m81 (x78 + 1) X97 < m81 x78 X79) ∧ (¬ 0 ≤ v96 → w_X12_tell v96 (x_st (x_st X97 79 1 had) 77 59 x55) (fun (v114 : Int) (X115 : XT) => Q v114 X115))))) := by
  refine ⟨fun x Z => ∃ (k : Nat) (S : zDS), x = (k : Int) ∧ k ≤ m ∧ zMs B m k (S.1, S.2.1, S.2.2.1, 0) Z ∧ zIv X S ∧ zAl T (zCs tk) m 0 S0 = zAl T (zCs tk) (m - k) k S, fun x _ => ((m : Int) - x).toNat, ⟨0, S0, rfl, Nat.zero_le _, h0, hI0, rfl⟩, ?_⟩
  rintro x Z ⟨k, S, rfl, km, ms, hI, ez⟩
  have e16 : Z 77 16 = (m : Int) := (ms.1.2 16 (by decide) (by decide) (by decide)).trans b16
  rw [e16]
  refine ⟨by omega, by omega, fun z => ?_, fun z => ?_⟩
  · have ek : k = m := by omega
    subst ek
    rw [Nat.sub_self] at ez
    rw [ms.2.2.1.1]
    exact qg S Z ez ms hI
  have lt : k < m := by omega
  have es : zAl T (zCs tk) m 0 S0 = if (zRn T (zCs tk k) (zCs tk k).1.toNat (S.1, S.2.1, S.2.2.1, 0)).1 = 0 then zAl T (zCs tk) (m - (k + 1)) (k + 1) (zRn T (zCs tk k) (zCs tk k).1.toNat (S.1, S.2.1, S.2.2.1, 0)).2 else ((zRn T (zCs tk k) (zCs tk k).1.toNat (S.1, S.2.1, S.2.2.1, 0)).1, k, (zRn T (zCs tk k) (zCs tk k).1.toNat (S.1, S.2.1, S.2.2.1, 0)).2) := by
    rw [ez, show m - k = (m - (k + 1)) + 1 by omega]; rfl
  have hr := ra k lt
  have eN : B 113 (12 * (k : Int) + 10) = (zCs tk k).1 ∧ 1 ≤ B 113 (12 * (k : Int) + 10) ∧ B 113 (12 * (k : Int) + 10) ≤ 20 := (hr.2 _ _ _ _ _ _ rfl rfl rfl rfl rfl rfl).2.2.2.2.1
  have e0 : k + 1 < m → B 113 (12 * ((k + 1 : Nat) : Int) + 11) = 0 := fun y => ((ra (k + 1) y).2 _ _ _ _ _ _ rfl rfl rfl rfl rfl rfl).2.2.2.2.2.1
  have hI' : zIv X (S.1, S.2.1, S.2.2.1, 0) := by
    obtain ⟨i1, i2, i3, i4, i5, i6⟩ := hI
    exact ⟨i1, i2, i3, i4, i5, ⟨Int.le_refl _, by show (0 : Int) ≤ 24; decide⟩⟩
  have eC : zCs tk k = zCc tk (zsx false tk k).1 (zsx false tk k).2 := rfl
  rw [← eN.1] at es
  have eN2 := eN.2
  generalize hNN : B 113 (12 * (k : Int) + 10) = NN at *
  refine ⟨fun x78 Y => ∃ S1 : zDS, zMs B m k S1 Y ∧ zIv X S1 ∧ (0 ≤ x78 ∧ x78 ≤ NN) ∧ S1.2.2.2 ≤ x78 ∧ zRn T (zCs tk k) NN.toNat (S.1, S.2.1, S.2.2.1, 0) = zRn T (zCs tk k) (NN - x78).toNat S1, fun x78 _ => (NN - x78).toNat, ⟨_, ms, hI', by omega, Int.le_refl _, by rw [Int.sub_zero]⟩, ?_⟩
  rintro y Y ⟨S1, ms1, hI1, hy, hle, er⟩
  have e10 : Y 113 (12 * (k : Int) + 10) = NN := (ms1.2.2.2.1 _ (by omega)).trans hNN
  rw [e10]
  refine ⟨by omega, by omega, by omega, fun c => ?_, fun c => ?_⟩
  · have er0 : zRn T (zCs tk k) (NN - y).toNat S1 = (0, S1) := by rw [show (NN - y).toNat = 0 by omega]; rfl
    rw [er, er0, if_pos rfl] at es
    exact ⟨⟨k + 1, S1, by omega, lt, ms1.nx e0, hI1, es⟩, by dsimp only; omega⟩
  have er1 : zRn T (zCs tk k) NN.toNat (S.1, S.2.1, S.2.2.1, 0) = if (zOne T (zCs tk k) S1).1 = 0 then zRn T (zCs tk k) (NN - (y + 1)).toNat (zOne T (zCs tk k) S1).2 else zOne T (zCs tk k) S1 := by
    rw [er, show (NN - y).toNat = (NN - (y + 1)).toNat + 1 by omega]; rfl
  refine m_run hI1 ms1 lt hm b15 hT tr hr hN (by omega) (fun w S2 Y2 ew ms2 => ?_)
  rw [← eC] at ew
  have ok := zOne_ok (T := T) (C := zCs tk k) hI1 (by omega)
  have wr := zOne_w (T := T) (C := zCs tk k) (S := S1)
  rw [ew] at ok wr er1
  have wr' : w = 0 ∨ w = -3 ∨ w = -5 := by
    rcases wr with ⟨w0, _⟩ | ⟨w0 | w0, _⟩
    · exact Or.inl w0
    · exact Or.inr (Or.inl w0)
    · exact Or.inr (Or.inr w0)
  have ok1 : zIv X S2 := ok.1
  have ok2 : S1.2.2.2 ≤ S2.2.2.2 ∧ S2.2.2.2 ≤ S1.2.2.2 + 1 := ok.2
  refine ⟨by omega, fun w0 => ⟨⟨S2, ms2, ok1, by omega, by omega, ?_⟩, by dsimp only; omega⟩, fun w0 => ?_⟩
  · rw [er1, if_pos (show w = 0 by omega)]
  · rw [if_neg (show ¬ w = 0 by omega)] at er1
    rw [er1, if_neg (show ¬ w = 0 by omega)] at es
    exact qr w k S2 Y2 es (by omega) lt ms2 ok1

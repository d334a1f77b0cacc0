/-! PAIRS: the class's call and the reference's behind it, the simple ones -/
theorem upL_nil {X : Nat → Int → Int} {i : Nat} : upL [] X i = X i := rfl
theorem RR_contract {X : Nat → Int → Int} {a b c x y : Int} (hR : RR X) (hc : 0 ≤ a ∧ a ≤ 63 ∧ 0 ≤ b ∧ b ≤ 11 ∧ 0 ≤ c ∧ c ≤ 11 ∧ b ≤ c ∧ 0 ≤ x ∧ x ≤ 1 ∧ 1 ≤ y ∧ y ≤ 99) (hl : X 1 11 < 8) : RR (upL [(7, uI (uI (uI (uI (uI (X 7) (X 1 11 * 5 + 0) a) (X 1 11 * 5 + 1) b) (X 1 11 * 5 + 2) c) (X 1 11 * 5 + 3) x) (X 1 11 * 5 + 4) y), (1, uI (X 1) 11 (X 1 11 + 1)), (79, uI (uI (uI (uI (uI (uI (X 79) (304 + 5 * X 79 2) a) (304 + 5 * X 79 2 + 1) b) (304 + 5 * X 79 2 + 2) c) (304 + 5 * X 79 2 + 3) x) (304 + 5 * X 79 2 + 4) y) 2 (X 79 2 + 1))] X) := by
  obtain ⟨⟨p1, p2, p3, p4, p5, p6, p7, p8⟩, s, t, rf, sm, kp, i0, i1, cs⟩ := hR
  have p9 := p5.1
  generalize hf : uI (uI (uI (uI (uI (X 7) (X 1 11 * 5 + 0) a) (X 1 11 * 5 + 1) b) (X 1 11 * 5 + 2) c) (X 1 11 * 5 + 3) x) (X 1 11 * 5 + 4) y = f
  generalize hr : uI (uI (uI (uI (uI (uI (X 79) (304 + 5 * X 79 2) a) (304 + 5 * X 79 2 + 1) b) (304 + 5 * X 79 2 + 2) c) (304 + 5 * X 79 2 + 3) x) (304 + 5 * X 79 2 + 4) y) 2 (X 79 2 + 1) = r
  have k : ∀ j : Int, (¬ j = 2 ∧ j < 304) ∨ 344 ≤ j → r j = X 79 j := fun j hj => by
    rw [← hr, uI_ne (by omega), uI_ne (by omega), uI_ne (by omega), uI_ne (by omega), uI_ne (by omega), uI_ne (by omega)]
  have kr : ∀ j : Int, 304 ≤ j → r j = if j = 304 + 5 * X 79 2 + 4 then y else if j = 304 + 5 * X 79 2 + 3 then x else if j = 304 + 5 * X 79 2 + 2 then c else if j = 304 + 5 * X 79 2 + 1 then b else if j = 304 + 5 * X 79 2 then a else X 79 j := fun j hj => by
    rw [← hr, uI_ne (by omega)]; rfl
  have kf : ∀ j : Int, f j = if j = X 1 11 * 5 + 4 then y else if j = X 1 11 * 5 + 3 then x else if j = X 1 11 * 5 + 2 then c else if j = X 1 11 * 5 + 1 then b else if j = X 1 11 * 5 + 0 then a else X 7 j := fun j => by
    rw [← hf]; rfl
  have r0 : r 2 = X 79 2 + 1 := by rw [← hr, uI_same]
  have q3 : P_con (uI (X 1) 11 (X 1 11 + 1)) f r := by
    refine ⟨⟨?_, ?_, ?_⟩, fun j j0 j1 => ?_, fun d d0 d1 => ?_⟩
    · rw [uI_same, r0]; omega
    · rw [uI_same]; omega
    · rw [uI_same]; omega
    · have e := p5.2.1 j j0 j1
      rw [kf, kr _ (by omega)]
      by_cases q4 : j = X 1 11 * 5 + 4
      · rw [if_pos q4, if_pos (by omega)]
      rw [if_neg q4, if_neg (by omega : ¬ 304 + j = 304 + 5 * X 79 2 + 4)]
      by_cases q3 : j = X 1 11 * 5 + 3
      · rw [if_pos q3, if_pos (by omega)]
      rw [if_neg q3, if_neg (by omega : ¬ 304 + j = 304 + 5 * X 79 2 + 3)]
      by_cases q2 : j = X 1 11 * 5 + 2
      · rw [if_pos q2, if_pos (by omega)]
      rw [if_neg q2, if_neg (by omega : ¬ 304 + j = 304 + 5 * X 79 2 + 2)]
      by_cases q1 : j = X 1 11 * 5 + 1
      · rw [if_pos q1, if_pos (by omega)]
      rw [if_neg q1, if_neg (by omega : ¬ 304 + j = 304 + 5 * X 79 2 + 1)]
      by_cases q0 : j = X 1 11 * 5 + 0
      · rw [if_pos q0, if_pos (by omega)]
      rw [if_neg q0, if_neg (by omega : ¬ 304 + j = 304 + 5 * X 79 2)]
      exact e
    · rw [uI_same] at d1
      by_cases q : d = X 1 11
      · subst q
        have f0 : f (X 1 11 * 5) = a := by rw [kf, if_neg (by omega), if_neg (by omega), if_neg (by omega), if_neg (by omega), if_pos (by omega)]
        have f1 : f (X 1 11 * 5 + 1) = b := by rw [kf, if_neg (by omega), if_neg (by omega), if_neg (by omega), if_pos rfl]
        have f2 : f (X 1 11 * 5 + 2) = c := by rw [kf, if_neg (by omega), if_neg (by omega), if_pos rfl]
        have f3 : f (X 1 11 * 5 + 3) = x := by rw [kf, if_neg (by omega), if_pos rfl]
        have f4 : f (X 1 11 * 5 + 4) = y := by rw [kf, if_pos rfl]
        rw [f0, f1, f2, f3, f4]; omega
      · have g : ∀ z : Int, 0 ≤ z → z ≤ 4 → f (d * 5 + z) = X 7 (d * 5 + z) := fun z z0 z1 => by
          rw [kf, if_neg (by omega), if_neg (by omega), if_neg (by omega), if_neg (by omega), if_neg (by omega)]
        have g0 := g 0 (by decide) (by decide)
        rw [Int.add_zero] at g0
        rw [g0, g 1 (by decide) (by decide), g 2 (by decide) (by decide), g 3 (by decide) (by decide), g 4 (by decide) (by decide)]
        exact p5.2.2 d d0 (by omega)
  exact ⟨⟨p1.cg (fun j _ _ => k j (by omega)), p2.cg (fun j _ _ => k j (by omega)), p3.cg rfl (k 0 (by omega)) (fun j _ _ => k j (by omega)), p4.cg rfl rfl (k 1 (by omega)) (fun j _ _ => k j (by omega)), q3, p6.cg rfl (k 3 (by omega)) (fun j _ _ => k j (by omega)), p7.cg (fun j _ _ => k j (by omega)), p8.cg rfl rfl (k 4 (by omega)) (k 5 (by omega))⟩, s, t, rf, sm, kp, i0, i1, cs⟩
theorem RR_sight {X : Nat → Int → Int} {a b c : Int} (hR : RR X) (hc : 0 ≤ a ∧ a ≤ 11 ∧ 0 ≤ b ∧ b ≤ 63 ∧ 0 ≤ c ∧ c ≤ 1) (hl : X 1 12 < 10) : RR (upL [(8, uI (uI (uI (X 8) (X 1 12 * 3 + 0) a) (X 1 12 * 3 + 1) b) (X 1 12 * 3 + 2) c), (1, uI (X 1) 12 (X 1 12 + 1)), (79, uI (uI (uI (uI (X 79) (344 + 3 * X 79 3) a) (344 + 3 * X 79 3 + 1) b) (344 + 3 * X 79 3 + 2) c) 3 (X 79 3 + 1))] X) := by
  obtain ⟨⟨p1, p2, p3, p4, p5, p6, p7, p8⟩, s, t, rf, sm, kp, i0, i1, cs⟩ := hR
  have p9 := p6.1
  generalize hf : uI (uI (uI (X 8) (X 1 12 * 3 + 0) a) (X 1 12 * 3 + 1) b) (X 1 12 * 3 + 2) c = f
  generalize hr : uI (uI (uI (uI (X 79) (344 + 3 * X 79 3) a) (344 + 3 * X 79 3 + 1) b) (344 + 3 * X 79 3 + 2) c) 3 (X 79 3 + 1) = r
  have k : ∀ j : Int, (¬ j = 3 ∧ j < 344) ∨ 374 ≤ j → r j = X 79 j := fun j hj => by
    rw [← hr, uI_ne (by omega), uI_ne (by omega), uI_ne (by omega), uI_ne (by omega)]
  have kr : ∀ j : Int, 344 ≤ j → r j = if j = 344 + 3 * X 79 3 + 2 then c else if j = 344 + 3 * X 79 3 + 1 then b else if j = 344 + 3 * X 79 3 then a else X 79 j := fun j hj => by
    rw [← hr, uI_ne (by omega)]; rfl
  have kf : ∀ j : Int, f j = if j = X 1 12 * 3 + 2 then c else if j = X 1 12 * 3 + 1 then b else if j = X 1 12 * 3 + 0 then a else X 8 j := fun j => by
    rw [← hf]; rfl
  have r0 : r 3 = X 79 3 + 1 := by rw [← hr, uI_same]
  have q3 : P_sgt (uI (X 1) 12 (X 1 12 + 1)) f r := by
    refine ⟨⟨?_, ?_, ?_⟩, fun j j0 j1 => ?_, fun d d0 d1 => ?_⟩
    · rw [uI_same, r0]; omega
    · rw [uI_same]; omega
    · rw [uI_same]; omega
    · have e := p6.2.1 j j0 j1
      rw [kf, kr _ (by omega)]
      by_cases q2 : j = X 1 12 * 3 + 2
      · rw [if_pos q2, if_pos (by omega)]
      rw [if_neg q2, if_neg (by omega : ¬ 344 + j = 344 + 3 * X 79 3 + 2)]
      by_cases q1 : j = X 1 12 * 3 + 1
      · rw [if_pos q1, if_pos (by omega)]
      rw [if_neg q1, if_neg (by omega : ¬ 344 + j = 344 + 3 * X 79 3 + 1)]
      by_cases q0 : j = X 1 12 * 3 + 0
      · rw [if_pos q0, if_pos (by omega)]
      rw [if_neg q0, if_neg (by omega : ¬ 344 + j = 344 + 3 * X 79 3)]
      exact e
    · rw [uI_same] at d1
      by_cases q : d = X 1 12
      · subst q
        have f0 : f (X 1 12 * 3) = a := by rw [kf, if_neg (by omega), if_neg (by omega), if_pos (by omega)]
        have f1 : f (X 1 12 * 3 + 1) = b := by rw [kf, if_neg (by omega), if_pos rfl]
        have f2 : f (X 1 12 * 3 + 2) = c := by rw [kf, if_pos rfl]
        rw [f0, f1, f2]; omega
      · have g : ∀ z : Int, 0 ≤ z → z ≤ 2 → f (d * 3 + z) = X 8 (d * 3 + z) := fun z z0 z1 => by
          rw [kf, if_neg (by omega), if_neg (by omega), if_neg (by omega)]
        have g0 := g 0 (by decide) (by decide)
        rw [Int.add_zero] at g0
        rw [g0, g 1 (by decide) (by decide), g 2 (by decide) (by decide)]
        exact p6.2.2 d d0 (by omega)
  exact ⟨⟨p1.cg (fun j _ _ => k j (by omega)), p2.cg (fun j _ _ => k j (by omega)), p3.cg rfl (k 0 (by omega)) (fun j _ _ => k j (by omega)), p4.cg rfl rfl (k 1 (by omega)) (fun j _ _ => k j (by omega)), p5.cg rfl (k 2 (by omega)) (fun j _ _ => k j (by omega)), q3, p7.cg (fun j _ _ => k j (by omega)), p8.cg rfl rfl (k 4 (by omega)) (k 5 (by omega))⟩, s, t, rf, sm, kp, i0, i1, cs⟩
set_option maxRecDepth 10000 in
theorem pair_put {LW : s_LW} (hLW : LWst LW) : ∀ A B V : Int32, Pair m_X11_put m_X12_put 0 0 (INV LW) [.int A, .int B, .int V] := by
  intro A B V n h hI
  obtain ⟨a, rfl, a0, a1⟩ := iI_of A
  obtain ⟨b, rfl, b0, b1⟩ := iI_of B
  obtain ⟨v, rfl, v0, v1⟩ := iI_of V
  obtain ⟨X, hX, hn, hR, hl, hl0, hl1⟩ := hI
  have p3 := hR.1.2.2.1; have p4 := hR.1.2.2.2.1; have p5 := hR.1.2.2.2.2.1; have p6 := hR.1.2.2.2.2.2.1; have p7 := hR.1.2.2.2.2.2.2.1; have p8 := hR.1.2.2.2.2.2.2.2
  have p3a := p3.1; have p4a := p4.1; have p5a := p5.1; have p6a := p6.1; have p8a := p8.1; have ta := hR.2.2.1.2.1
  refine ⟨3, 3, by decide, by decide, (sp_X11_put hn (hX 0 (by decide)) (hX 1 (by decide)) (hX 2 (by decide)) (hX 76 (by decide)) ⟨a0, a1⟩ ⟨b0, b1⟩ ⟨v0, v1⟩).mono (fun r n1 h1 q => ?_)⟩
  obtain ⟨rfl, rfl, E2, E0, E76, F⟩ := q
  refine ⟨_, rfl, ⟨hn, _, ((F 77 (by decide) (by decide) (by decide)).trans (hX 77 (by decide))).trans (ent_77 _)⟩, (sp_X12_put hn ((F 77 (by decide) (by decide) (by decide)).trans (hX 77 (by decide))) ((F 79 (by decide) (by decide) (by decide)).trans (hX 79 (by decide))) ((F 78 (by decide) (by decide) (by decide)).trans (hX 78 (by decide))) ⟨a0, a1⟩ ⟨b0, b1⟩ ⟨v0, v1⟩).mono (fun r2 n2 h2 q => ?_)⟩
  obtain ⟨rfl, rfl, D79, D78, D77, G⟩ := q
  refine ⟨rfl, congrArg (fun x => some (Value.int (iI x))) ?_, ?_⟩
  · split; exact ((hR.1.1 a b (by omega) (by omega) (by omega) (by omega)).1).symm; rfl
  · by_cases hc0 : 0 ≤ a ∧ a ≤ 63 ∧ ((b = 0 ∧ 0 ≤ v ∧ v ≤ 99) ∨ (b = 1 ∧ 1 ≤ v ∧ v ≤ 999) ∨ (b = 2 ∧ 0 ≤ v ∧ v ≤ 1))
    · rw [if_pos hc0] at E2 E0 E76 D79 D78 D77
      refine ⟨(upL [(2, uI (X 2) (b * 64 + a) v), (79, uI (X 79) (40 + 3 * a + b) v)] (upL [(0, uI (X 0) 13 0), (77, uI (uI (X 77) 0 0) 1 0)] X)), ?_, hn, RR_put (RR_status 0 hR) hc0, ?_, ?_, ?_⟩
      · intro j hj
        by_cases q2 : j = 2
        · subst q2; exact (G 2 (by decide) (by decide) (by decide)).trans E2
        by_cases q0 : j = 0
        · subst q0; exact (G 0 (by decide) (by decide) (by decide)).trans E0
        by_cases q76 : j = 76
        · subst q76; exact (G 76 (by decide) (by decide) (by decide)).trans E76
        by_cases q79 : j = 79
        · subst q79; exact D79
        by_cases q78 : j = 78
        · subst q78; exact D78
        by_cases q77 : j = 77
        · subst q77; exact D77
        rw [upL_ne q2, upL_ne q79, upL_nil, upL_ne q0, upL_ne q77, upL_nil]
        exact (G j q79 q78 q77).trans ((F j q2 q0 q76).trans (hX j hj))
      · exact hLW _ _ _ _ _ _ _ _ hl (fun i hi => (G i (by omega) (by omega) (by omega)).trans (F i (by omega) (by omega) (by omega))) rfl (by intro j j0 j1; first | rfl | (show uI _ _ _ j = _; unfold uI; repeat rw [if_neg (by omega)]))
      · exact fun q => hLW _ _ _ _ _ _ _ _ (hl0 q) (fun i hi => (G i (by omega) (by omega) (by omega)).trans (F i (by omega) (by omega) (by omega))) rfl (fun _ _ _ => rfl)
      · exact fun q => hLW _ _ _ _ _ _ _ _ (hl1 q) (fun i hi => (G i (by omega) (by omega) (by omega)).trans (F i (by omega) (by omega) (by omega))) rfl (fun _ _ _ => rfl)
    · rw [if_neg hc0] at E2 E0 E76 D79 D78 D77
      refine ⟨(upL [(76, uI (X 76) 0 (X 76 0 + 1)), (78, uI (X 78) 1 (X 78 1 + 1))] (upL [(0, uI (X 0) 13 (-1)), (77, uI (uI (X 77) 0 0) 1 (-1))] X)), ?_, hn, RR_ref1 (RR_status (-1) hR), ?_, ?_, ?_⟩
      · intro j hj
        by_cases q2 : j = 2
        · subst q2; exact (G 2 (by decide) (by decide) (by decide)).trans E2
        by_cases q0 : j = 0
        · subst q0; exact (G 0 (by decide) (by decide) (by decide)).trans E0
        by_cases q76 : j = 76
        · subst q76; exact (G 76 (by decide) (by decide) (by decide)).trans E76
        by_cases q79 : j = 79
        · subst q79; exact D79
        by_cases q78 : j = 78
        · subst q78; exact D78
        by_cases q77 : j = 77
        · subst q77; exact D77
        rw [upL_ne q76, upL_ne q78, upL_nil, upL_ne q0, upL_ne q77, upL_nil]
        exact (G j q79 q78 q77).trans ((F j q2 q0 q76).trans (hX j hj))
      · exact hLW _ _ _ _ _ _ _ _ hl (fun i hi => (G i (by omega) (by omega) (by omega)).trans (F i (by omega) (by omega) (by omega))) rfl fun _ _ _ => rfl
      · exact fun q => hLW _ _ _ _ _ _ _ _ (hl0 q) (fun i hi => (G i (by omega) (by omega) (by omega)).trans (F i (by omega) (by omega) (by omega))) rfl (fun _ _ _ => rfl)
      · exact fun q => hLW _ _ _ _ _ _ _ _ (hl1 q) (fun i hi => (G i (by omega) (by omega) (by omega)).trans (F i (by omega) (by omega) (by omega))) rfl (fun _ _ _ => rfl)
set_option maxRecDepth 10000 in
theorem pair_fact {LW : s_LW} (hLW : LWst LW) : ∀ A B : Int32, Pair m_X11_fact m_X12_fact 0 0 (INV LW) [.int A, .int B] := by
  intro A B n h hI
  obtain ⟨a, rfl, a0, a1⟩ := iI_of A
  obtain ⟨b, rfl, b0, b1⟩ := iI_of B
  obtain ⟨X, hX, hn, hR, hl, hl0, hl1⟩ := hI
  have p3 := hR.1.2.2.1; have p4 := hR.1.2.2.2.1; have p5 := hR.1.2.2.2.2.1; have p6 := hR.1.2.2.2.2.2.1; have p7 := hR.1.2.2.2.2.2.2.1; have p8 := hR.1.2.2.2.2.2.2.2
  have p3a := p3.1; have p4a := p4.1; have p5a := p5.1; have p6a := p6.1; have p8a := p8.1; have ta := hR.2.2.1.2.1
  refine ⟨3, 3, by decide, by decide, (sp_X11_fact hn (hX 0 (by decide)) (hX 1 (by decide)) (hX 2 (by decide)) ⟨a0, a1⟩ ⟨b0, b1⟩).mono (fun r n1 h1 q => ?_)⟩
  obtain ⟨rfl, rfl, rfl⟩ := q
  refine ⟨_, rfl, ⟨hn, _, (hX 77 (by decide)).trans (ent_77 _)⟩, (sp_X12_fact hn (hX 77 (by decide)) (hX 79 (by decide)) ⟨a0, a1⟩ ⟨b0, b1⟩).mono (fun r2 n2 h2 q => ?_)⟩
  obtain ⟨rfl, rfl, D77, G⟩ := q
  refine ⟨rfl, congrArg (fun x => some (Value.int (iI x))) ?_, ?_⟩
  · split; exact ((hR.1.1 a b (by omega) (by omega) (by omega) (by omega)).1).symm; rfl
  · refine ⟨(upL [(77, uI (X 77) 0 0)] X), ?_, hn, (RR_thrown hR), ?_, ?_, ?_⟩
    · intro j hj
      by_cases q77 : j = 77
      · subst q77; exact D77
      rw [upL_ne q77, upL_nil]
      exact (G j q77).trans (hX j hj)
    · exact hLW _ _ _ _ _ _ _ _ hl (fun i hi => (G i (by omega))) rfl (by intro j j0 j1; first | rfl | (show uI _ _ _ j = _; unfold uI; repeat rw [if_neg (by omega)]))
    · exact fun q => hLW _ _ _ _ _ _ _ _ (hl0 q) (fun i hi => (G i (by omega))) rfl (fun _ _ _ => rfl)
    · exact fun q => hLW _ _ _ _ _ _ _ _ (hl1 q) (fun i hi => (G i (by omega))) rfl (fun _ _ _ => rfl)
set_option maxRecDepth 10000 in
theorem pair_wind {LW : s_LW} (hLW : LWst LW) : ∀ A B C : Int32, Pair m_X11_wind m_X12_wind 0 0 (INV LW) [.int A, .int B, .int C] := by
  intro A B C n h hI
  obtain ⟨a, rfl, a0, a1⟩ := iI_of A
  obtain ⟨b, rfl, b0, b1⟩ := iI_of B
  obtain ⟨c, rfl, c0, c1⟩ := iI_of C
  obtain ⟨X, hX, hn, hR, hl, hl0, hl1⟩ := hI
  have p3 := hR.1.2.2.1; have p4 := hR.1.2.2.2.1; have p5 := hR.1.2.2.2.2.1; have p6 := hR.1.2.2.2.2.2.1; have p7 := hR.1.2.2.2.2.2.2.1; have p8 := hR.1.2.2.2.2.2.2.2
  have p3a := p3.1; have p4a := p4.1; have p5a := p5.1; have p6a := p6.1; have p8a := p8.1; have ta := hR.2.2.1.2.1
  refine ⟨3, 3, by decide, by decide, (sp_X11_wind hn (hX 0 (by decide)) (hX 1 (by decide)) (hX 3 (by decide)) (hX 4 (by decide)) (hX 76 (by decide)) ⟨a0, a1⟩ ⟨b0, b1⟩ ⟨c0, c1⟩).mono (fun r n1 h1 q => ?_)⟩
  obtain ⟨rfl, rfl, E3, E4, E0, E76, F⟩ := q
  refine ⟨_, rfl, ⟨hn, _, ((F 77 (by decide) (by decide) (by decide) (by decide)).trans (hX 77 (by decide))).trans (ent_77 _)⟩, (sp_X12_wind hn ((F 77 (by decide) (by decide) (by decide) (by decide)).trans (hX 77 (by decide))) ((F 79 (by decide) (by decide) (by decide) (by decide)).trans (hX 79 (by decide))) ((F 78 (by decide) (by decide) (by decide) (by decide)).trans (hX 78 (by decide))) ⟨a0, a1⟩ ⟨b0, b1⟩ ⟨c0, c1⟩).mono (fun r2 n2 h2 q => ?_)⟩
  obtain ⟨rfl, rfl, D79, D78, D77, G⟩ := q
  refine ⟨rfl, congrArg (fun x => some (Value.int (iI x))) ?_, ?_⟩
  · rfl
  · by_cases hc0 : 0 ≤ a ∧ a ≤ 2 ∧ -1 ≤ b ∧ b ≤ 1 ∧ -1 ≤ c ∧ c ≤ 1
    · rw [if_pos hc0] at E3 E4 E0 E76 D79 D78 D77
      refine ⟨(upL [(3, uI (X 3) a b), (4, uI (X 4) a c), (79, uI (uI (X 79) (9 + 2 * a) b) (9 + 2 * a + 1) c)] (upL [(0, uI (X 0) 13 0), (77, uI (uI (X 77) 0 0) 1 0)] X)), ?_, hn, RR_wind (RR_status 0 hR) hc0, ?_, ?_, ?_⟩
      · intro j hj
        by_cases q3 : j = 3
        · subst q3; exact (G 3 (by decide) (by decide) (by decide)).trans E3
        by_cases q4 : j = 4
        · subst q4; exact (G 4 (by decide) (by decide) (by decide)).trans E4
        by_cases q0 : j = 0
        · subst q0; exact (G 0 (by decide) (by decide) (by decide)).trans E0
        by_cases q76 : j = 76
        · subst q76; exact (G 76 (by decide) (by decide) (by decide)).trans E76
        by_cases q79 : j = 79
        · subst q79; exact D79
        by_cases q78 : j = 78
        · subst q78; exact D78
        by_cases q77 : j = 77
        · subst q77; exact D77
        rw [upL_ne q3, upL_ne q4, upL_ne q79, upL_nil, upL_ne q0, upL_ne q77, upL_nil]
        exact (G j q79 q78 q77).trans ((F j q3 q4 q0 q76).trans (hX j hj))
      · exact hLW _ _ _ _ _ _ _ _ hl (fun i hi => (G i (by omega) (by omega) (by omega)).trans (F i (by omega) (by omega) (by omega) (by omega))) rfl (by intro j j0 j1; first | rfl | (show uI _ _ _ j = _; unfold uI; repeat rw [if_neg (by omega)]))
      · exact fun q => hLW _ _ _ _ _ _ _ _ (hl0 q) (fun i hi => (G i (by omega) (by omega) (by omega)).trans (F i (by omega) (by omega) (by omega) (by omega))) rfl (fun _ _ _ => rfl)
      · exact fun q => hLW _ _ _ _ _ _ _ _ (hl1 q) (fun i hi => (G i (by omega) (by omega) (by omega)).trans (F i (by omega) (by omega) (by omega) (by omega))) rfl (fun _ _ _ => rfl)
    · rw [if_neg hc0] at E3 E4 E0 E76 D79 D78 D77
      refine ⟨(upL [(76, uI (X 76) 0 (X 76 0 + 1)), (78, uI (X 78) 1 (X 78 1 + 1))] (upL [(0, uI (X 0) 13 (-1)), (77, uI (uI (X 77) 0 0) 1 (-1))] X)), ?_, hn, RR_ref1 (RR_status (-1) hR), ?_, ?_, ?_⟩
      · intro j hj
        by_cases q3 : j = 3
        · subst q3; exact (G 3 (by decide) (by decide) (by decide)).trans E3
        by_cases q4 : j = 4
        · subst q4; exact (G 4 (by decide) (by decide) (by decide)).trans E4
        by_cases q0 : j = 0
        · subst q0; exact (G 0 (by decide) (by decide) (by decide)).trans E0
        by_cases q76 : j = 76
        · subst q76; exact (G 76 (by decide) (by decide) (by decide)).trans E76
        by_cases q79 : j = 79
        · subst q79; exact D79
        by_cases q78 : j = 78
        · subst q78; exact D78
        by_cases q77 : j = 77
        · subst q77; exact D77
        rw [upL_ne q76, upL_ne q78, upL_nil, upL_ne q0, upL_ne q77, upL_nil]
        exact (G j q79 q78 q77).trans ((F j q3 q4 q0 q76).trans (hX j hj))
      · exact hLW _ _ _ _ _ _ _ _ hl (fun i hi => (G i (by omega) (by omega) (by omega)).trans (F i (by omega) (by omega) (by omega) (by omega))) rfl fun _ _ _ => rfl
      · exact fun q => hLW _ _ _ _ _ _ _ _ (hl0 q) (fun i hi => (G i (by omega) (by omega) (by omega)).trans (F i (by omega) (by omega) (by omega) (by omega))) rfl (fun _ _ _ => rfl)
      · exact fun q => hLW _ _ _ _ _ _ _ _ (hl1 q) (fun i hi => (G i (by omega) (by omega) (by omega)).trans (F i (by omega) (by omega) (by omega) (by omega))) rfl (fun _ _ _ => rfl)
set_option maxRecDepth 10000 in
theorem pair_cloud {LW : s_LW} (hLW : LWst LW) : ∀ A B C X Y : Int32, Pair m_X11_cloud m_X12_cloud 0 0 (INV LW) [.int A, .int B, .int C, .int X, .int Y] := by
  intro A B C X Y n h hI
  obtain ⟨a, rfl, a0, a1⟩ := iI_of A
  obtain ⟨b, rfl, b0, b1⟩ := iI_of B
  obtain ⟨c, rfl, c0, c1⟩ := iI_of C
  obtain ⟨x, rfl, x0, x1⟩ := iI_of X
  obtain ⟨y, rfl, y0, y1⟩ := iI_of Y
  obtain ⟨X, hX, hn, hR, hl, hl0, hl1⟩ := hI
  have p3 := hR.1.2.2.1; have p4 := hR.1.2.2.2.1; have p5 := hR.1.2.2.2.2.1; have p6 := hR.1.2.2.2.2.2.1; have p7 := hR.1.2.2.2.2.2.2.1; have p8 := hR.1.2.2.2.2.2.2.2
  have p3a := p3.1; have p4a := p4.1; have p5a := p5.1; have p6a := p6.1; have p8a := p8.1; have ta := hR.2.2.1.2.1
  have hrow : X 79 0 = X 1 9 := p3a.1.symm
  refine ⟨3, 3, by decide, by decide, (sp_X11_cloud hn (hX 0 (by decide)) (hX 1 (by decide)) (hX 5 (by decide)) (hX 76 (by decide)) ⟨a0, a1⟩ ⟨b0, b1⟩ ⟨c0, c1⟩ ⟨x0, x1⟩ ⟨y0, y1⟩ (by omega)).mono (fun r n1 h1 q => ?_)⟩
  obtain ⟨rfl, rfl, E5, E1, E0, E76, F⟩ := q
  refine ⟨_, rfl, ⟨hn, _, ((F 77 (by decide) (by decide) (by decide) (by decide)).trans (hX 77 (by decide))).trans (ent_77 _)⟩, (sp_X12_cloud hn ((F 77 (by decide) (by decide) (by decide) (by decide)).trans (hX 77 (by decide))) ((F 79 (by decide) (by decide) (by decide) (by decide)).trans (hX 79 (by decide))) ((F 78 (by decide) (by decide) (by decide) (by decide)).trans (hX 78 (by decide))) ⟨a0, a1⟩ ⟨b0, b1⟩ ⟨c0, c1⟩ ⟨x0, x1⟩ ⟨y0, y1⟩ (by omega)).mono (fun r2 n2 h2 q => ?_)⟩
  obtain ⟨rfl, rfl, D79, D78, D77, G⟩ := q
  refine ⟨rfl, congrArg (fun x => some (Value.int (iI x))) ?_, ?_⟩
  · split; rw [show X 79 0 = X 1 9 from p3a.1.symm]; rfl
  · by_cases hc0 : 1 ≤ a ∧ a ≤ 3 ∧ 1 ≤ b ∧ b ≤ 3 ∧ 0 ≤ c ∧ c ≤ 2 ∧ -8 ≤ x ∧ x ≤ 15 ∧ -8 ≤ y ∧ y ≤ 15
    · rw [if_pos hc0] at E5 E1 E0 E76 D79 D78 D77
      by_cases hc1 : X 1 9 < 5
      · rw [if_pos hc1] at E5 E1 E0 E76
        rw [if_pos (show (X 79 0 < 5) by omega)] at D79 D78 D77
        refine ⟨(upL [(5, uI (uI (uI (uI (uI (X 5) (X 1 9 * 5 + 0) a) (X 1 9 * 5 + 1) b) (X 1 9 * 5 + 2) c) (X 1 9 * 5 + 3) x) (X 1 9 * 5 + 4) y), (1, uI (X 1) 9 (X 1 9 + 1)), (79, uI (uI (uI (uI (uI (uI (X 79) (15 + 5 * X 79 0) a) (15 + 5 * X 79 0 + 1) b) (15 + 5 * X 79 0 + 2) c) (15 + 5 * X 79 0 + 3) x) (15 + 5 * X 79 0 + 4) y) 0 (X 79 0 + 1))] (upL [(0, uI (X 0) 13 0), (77, uI (uI (X 77) 0 0) 1 0)] X)), ?_, hn, RR_cloud (RR_status 0 hR) hc0 hc1, ?_, ?_, ?_⟩
        · intro j hj
          by_cases q5 : j = 5
          · subst q5; exact (G 5 (by decide) (by decide) (by decide)).trans E5
          by_cases q1 : j = 1
          · subst q1; exact (G 1 (by decide) (by decide) (by decide)).trans E1
          by_cases q0 : j = 0
          · subst q0; exact (G 0 (by decide) (by decide) (by decide)).trans E0
          by_cases q76 : j = 76
          · subst q76; exact (G 76 (by decide) (by decide) (by decide)).trans E76
          by_cases q79 : j = 79
          · subst q79; exact D79
          by_cases q78 : j = 78
          · subst q78; exact D78
          by_cases q77 : j = 77
          · subst q77; exact D77
          rw [upL_ne q5, upL_ne q1, upL_ne q79, upL_nil, upL_ne q0, upL_ne q77, upL_nil]
          exact (G j q79 q78 q77).trans ((F j q5 q1 q0 q76).trans (hX j hj))
        · exact hLW _ _ _ _ _ _ _ _ hl (fun i hi => (G i (by omega) (by omega) (by omega)).trans (F i (by omega) (by omega) (by omega) (by omega))) rfl (by intro j j0 j1; first | rfl | (show uI _ _ _ j = _; unfold uI; repeat rw [if_neg (by omega)]))
        · exact fun q => hLW _ _ _ _ _ _ _ _ (hl0 q) (fun i hi => (G i (by omega) (by omega) (by omega)).trans (F i (by omega) (by omega) (by omega) (by omega))) rfl (fun _ _ _ => rfl)
        · exact fun q => hLW _ _ _ _ _ _ _ _ (hl1 q) (fun i hi => (G i (by omega) (by omega) (by omega)).trans (F i (by omega) (by omega) (by omega) (by omega))) rfl (fun _ _ _ => rfl)
      · rw [if_neg hc1] at E5 E1 E0 E76
        rw [if_neg (show ¬ (X 79 0 < 5) by omega)] at D79 D78 D77
        refine ⟨(upL [(76, uI (X 76) 3 (X 76 3 + 1)), (78, uI (X 78) 5 (X 78 5 + 1))] (upL [(0, uI (X 0) 13 (-5)), (77, uI (uI (X 77) 0 0) 1 (-5))] X)), ?_, hn, RR_ref5 (RR_status (-5) hR), ?_, ?_, ?_⟩
        · intro j hj
          by_cases q5 : j = 5
          · subst q5; exact (G 5 (by decide) (by decide) (by decide)).trans E5
          by_cases q1 : j = 1
          · subst q1; exact (G 1 (by decide) (by decide) (by decide)).trans E1
          by_cases q0 : j = 0
          · subst q0; exact (G 0 (by decide) (by decide) (by decide)).trans E0
          by_cases q76 : j = 76
          · subst q76; exact (G 76 (by decide) (by decide) (by decide)).trans E76
          by_cases q79 : j = 79
          · subst q79; exact D79
          by_cases q78 : j = 78
          · subst q78; exact D78
          by_cases q77 : j = 77
          · subst q77; exact D77
          rw [upL_ne q76, upL_ne q78, upL_nil, upL_ne q0, upL_ne q77, upL_nil]
          exact (G j q79 q78 q77).trans ((F j q5 q1 q0 q76).trans (hX j hj))
        · exact hLW _ _ _ _ _ _ _ _ hl (fun i hi => (G i (by omega) (by omega) (by omega)).trans (F i (by omega) (by omega) (by omega) (by omega))) rfl fun _ _ _ => rfl
        · exact fun q => hLW _ _ _ _ _ _ _ _ (hl0 q) (fun i hi => (G i (by omega) (by omega) (by omega)).trans (F i (by omega) (by omega) (by omega) (by omega))) rfl (fun _ _ _ => rfl)
        · exact fun q => hLW _ _ _ _ _ _ _ _ (hl1 q) (fun i hi => (G i (by omega) (by omega) (by omega)).trans (F i (by omega) (by omega) (by omega) (by omega))) rfl (fun _ _ _ => rfl)
    · rw [if_neg hc0] at E5 E1 E0 E76 D79 D78 D77
      refine ⟨(upL [(76, uI (X 76) 0 (X 76 0 + 1)), (78, uI (X 78) 1 (X 78 1 + 1))] (upL [(0, uI (X 0) 13 (-1)), (77, uI (uI (X 77) 0 0) 1 (-1))] X)), ?_, hn, RR_ref1 (RR_status (-1) hR), ?_, ?_, ?_⟩
      · intro j hj
        by_cases q5 : j = 5
        · subst q5; exact (G 5 (by decide) (by decide) (by decide)).trans E5
        by_cases q1 : j = 1
        · subst q1; exact (G 1 (by decide) (by decide) (by decide)).trans E1
        by_cases q0 : j = 0
        · subst q0; exact (G 0 (by decide) (by decide) (by decide)).trans E0
        by_cases q76 : j = 76
        · subst q76; exact (G 76 (by decide) (by decide) (by decide)).trans E76
        by_cases q79 : j = 79
        · subst q79; exact D79
        by_cases q78 : j = 78
        · subst q78; exact D78
        by_cases q77 : j = 77
        · subst q77; exact D77
        rw [upL_ne q76, upL_ne q78, upL_nil, upL_ne q0, upL_ne q77, upL_nil]
        exact (G j q79 q78 q77).trans ((F j q5 q1 q0 q76).trans (hX j hj))
      · exact hLW _ _ _ _ _ _ _ _ hl (fun i hi => (G i (by omega) (by omega) (by omega)).trans (F i (by omega) (by omega) (by omega) (by omega))) rfl fun _ _ _ => rfl
      · exact fun q => hLW _ _ _ _ _ _ _ _ (hl0 q) (fun i hi => (G i (by omega) (by omega) (by omega)).trans (F i (by omega) (by omega) (by omega) (by omega))) rfl (fun _ _ _ => rfl)
      · exact fun q => hLW _ _ _ _ _ _ _ _ (hl1 q) (fun i hi => (G i (by omega) (by omega) (by omega)).trans (F i (by omega) (by omega) (by omega) (by omega))) rfl (fun _ _ _ => rfl)
set_option maxRecDepth 10000 in
theorem pair_contract {LW : s_LW} (hLW : LWst LW) : ∀ A B C X Y : Int32, Pair m_X11_contract m_X12_contract 0 0 (INV LW) [.int A, .int B, .int C, .int X, .int Y] := by
  intro A B C X Y n h hI
  obtain ⟨a, rfl, a0, a1⟩ := iI_of A
  obtain ⟨b, rfl, b0, b1⟩ := iI_of B
  obtain ⟨c, rfl, c0, c1⟩ := iI_of C
  obtain ⟨x, rfl, x0, x1⟩ := iI_of X
  obtain ⟨y, rfl, y0, y1⟩ := iI_of Y
  obtain ⟨X, hX, hn, hR, hl, hl0, hl1⟩ := hI
  have p3 := hR.1.2.2.1; have p4 := hR.1.2.2.2.1; have p5 := hR.1.2.2.2.2.1; have p6 := hR.1.2.2.2.2.2.1; have p7 := hR.1.2.2.2.2.2.2.1; have p8 := hR.1.2.2.2.2.2.2.2
  have p3a := p3.1; have p4a := p4.1; have p5a := p5.1; have p6a := p6.1; have p8a := p8.1; have ta := hR.2.2.1.2.1
  have hrow : X 79 2 = X 1 11 := p5a.1.symm
  refine ⟨3, 3, by decide, by decide, (sp_X11_contract hn (hX 0 (by decide)) (hX 1 (by decide)) (hX 7 (by decide)) (hX 76 (by decide)) ⟨a0, a1⟩ ⟨b0, b1⟩ ⟨c0, c1⟩ ⟨x0, x1⟩ ⟨y0, y1⟩ (by omega)).mono (fun r n1 h1 q => ?_)⟩
  obtain ⟨rfl, rfl, E7, E1, E0, E76, F⟩ := q
  refine ⟨_, rfl, ⟨hn, _, ((F 77 (by decide) (by decide) (by decide) (by decide)).trans (hX 77 (by decide))).trans (ent_77 _)⟩, (sp_X12_contract hn ((F 77 (by decide) (by decide) (by decide) (by decide)).trans (hX 77 (by decide))) ((F 79 (by decide) (by decide) (by decide) (by decide)).trans (hX 79 (by decide))) ((F 78 (by decide) (by decide) (by decide) (by decide)).trans (hX 78 (by decide))) ⟨a0, a1⟩ ⟨b0, b1⟩ ⟨c0, c1⟩ ⟨x0, x1⟩ ⟨y0, y1⟩ (by omega)).mono (fun r2 n2 h2 q => ?_)⟩
  obtain ⟨rfl, rfl, D79, D78, D77, G⟩ := q
  refine ⟨rfl, congrArg (fun x => some (Value.int (iI x))) ?_, ?_⟩
  · split; rw [show X 79 2 = X 1 11 from p5a.1.symm]; rfl
  · by_cases hc0 : 0 ≤ a ∧ a ≤ 63 ∧ 0 ≤ b ∧ b ≤ 11 ∧ 0 ≤ c ∧ c ≤ 11 ∧ b ≤ c ∧ 0 ≤ x ∧ x ≤ 1 ∧ 1 ≤ y ∧ y ≤ 99
    · rw [if_pos hc0] at E7 E1 E0 E76 D79 D78 D77
      by_cases hc1 : X 1 11 < 8
      · rw [if_pos hc1] at E7 E1 E0 E76
        rw [if_pos (show (X 79 2 < 8) by omega)] at D79 D78 D77
        refine ⟨(upL [(7, uI (uI (uI (uI (uI (X 7) (X 1 11 * 5 + 0) a) (X 1 11 * 5 + 1) b) (X 1 11 * 5 + 2) c) (X 1 11 * 5 + 3) x) (X 1 11 * 5 + 4) y), (1, uI (X 1) 11 (X 1 11 + 1)), (79, uI (uI (uI (uI (uI (uI (X 79) (304 + 5 * X 79 2) a) (304 + 5 * X 79 2 + 1) b) (304 + 5 * X 79 2 + 2) c) (304 + 5 * X 79 2 + 3) x) (304 + 5 * X 79 2 + 4) y) 2 (X 79 2 + 1))] (upL [(0, uI (X 0) 13 0), (77, uI (uI (X 77) 0 0) 1 0)] X)), ?_, hn, RR_contract (RR_status 0 hR) hc0 hc1, ?_, ?_, ?_⟩
        · intro j hj
          by_cases q7 : j = 7
          · subst q7; exact (G 7 (by decide) (by decide) (by decide)).trans E7
          by_cases q1 : j = 1
          · subst q1; exact (G 1 (by decide) (by decide) (by decide)).trans E1
          by_cases q0 : j = 0
          · subst q0; exact (G 0 (by decide) (by decide) (by decide)).trans E0
          by_cases q76 : j = 76
          · subst q76; exact (G 76 (by decide) (by decide) (by decide)).trans E76
          by_cases q79 : j = 79
          · subst q79; exact D79
          by_cases q78 : j = 78
          · subst q78; exact D78
          by_cases q77 : j = 77
          · subst q77; exact D77
          rw [upL_ne q7, upL_ne q1, upL_ne q79, upL_nil, upL_ne q0, upL_ne q77, upL_nil]
          exact (G j q79 q78 q77).trans ((F j q7 q1 q0 q76).trans (hX j hj))
        · exact hLW _ _ _ _ _ _ _ _ hl (fun i hi => (G i (by omega) (by omega) (by omega)).trans (F i (by omega) (by omega) (by omega) (by omega))) rfl (by intro j j0 j1; first | rfl | (show uI _ _ _ j = _; unfold uI; repeat rw [if_neg (by omega)]))
        · exact fun q => hLW _ _ _ _ _ _ _ _ (hl0 q) (fun i hi => (G i (by omega) (by omega) (by omega)).trans (F i (by omega) (by omega) (by omega) (by omega))) rfl (fun _ _ _ => rfl)
        · exact fun q => hLW _ _ _ _ _ _ _ _ (hl1 q) (fun i hi => (G i (by omega) (by omega) (by omega)).trans (F i (by omega) (by omega) (by omega) (by omega))) rfl (fun _ _ _ => rfl)
      · rw [if_neg hc1] at E7 E1 E0 E76
        rw [if_neg (show ¬ (X 79 2 < 8) by omega)] at D79 D78 D77
        refine ⟨(upL [(76, uI (X 76) 3 (X 76 3 + 1)), (78, uI (X 78) 5 (X 78 5 + 1))] (upL [(0, uI (X 0) 13 (-5)), (77, uI (uI (X 77) 0 0) 1 (-5))] X)), ?_, hn, RR_ref5 (RR_status (-5) hR), ?_, ?_, ?_⟩
        · intro j hj
          by_cases q7 : j = 7
          · subst q7; exact (G 7 (by decide) (by decide) (by decide)).trans E7
          by_cases q1 : j = 1
          · subst q1; exact (G 1 (by decide) (by decide) (by decide)).trans E1
          by_cases q0 : j = 0
          · subst q0; exact (G 0 (by decide) (by decide) (by decide)).trans E0
          by_cases q76 : j = 76
          · subst q76; exact (G 76 (by decide) (by decide) (by decide)).trans E76
          by_cases q79 : j = 79
          · subst q79; exact D79
          by_cases q78 : j = 78
          · subst q78; exact D78
          by_cases q77 : j = 77
          · subst q77; exact D77
          rw [upL_ne q76, upL_ne q78, upL_nil, upL_ne q0, upL_ne q77, upL_nil]
          exact (G j q79 q78 q77).trans ((F j q7 q1 q0 q76).trans (hX j hj))
        · exact hLW _ _ _ _ _ _ _ _ hl (fun i hi => (G i (by omega) (by omega) (by omega)).trans (F i (by omega) (by omega) (by omega) (by omega))) rfl fun _ _ _ => rfl
        · exact fun q => hLW _ _ _ _ _ _ _ _ (hl0 q) (fun i hi => (G i (by omega) (by omega) (by omega)).trans (F i (by omega) (by omega) (by omega) (by omega))) rfl (fun _ _ _ => rfl)
        · exact fun q => hLW _ _ _ _ _ _ _ _ (hl1 q) (fun i hi => (G i (by omega) (by omega) (by omega)).trans (F i (by omega) (by omega) (by omega) (by omega))) rfl (fun _ _ _ => rfl)
    · rw [if_neg hc0] at E7 E1 E0 E76 D79 D78 D77
      refine ⟨(upL [(76, uI (X 76) 0 (X 76 0 + 1)), (78, uI (X 78) 1 (X 78 1 + 1))] (upL [(0, uI (X 0) 13 (-1)), (77, uI (uI (X 77) 0 0) 1 (-1))] X)), ?_, hn, RR_ref1 (RR_status (-1) hR), ?_, ?_, ?_⟩
      · intro j hj
        by_cases q7 : j = 7
        · subst q7; exact (G 7 (by decide) (by decide) (by decide)).trans E7
        by_cases q1 : j = 1
        · subst q1; exact (G 1 (by decide) (by decide) (by decide)).trans E1
        by_cases q0 : j = 0
        · subst q0; exact (G 0 (by decide) (by decide) (by decide)).trans E0
        by_cases q76 : j = 76
        · subst q76; exact (G 76 (by decide) (by decide) (by decide)).trans E76
        by_cases q79 : j = 79
        · subst q79; exact D79
        by_cases q78 : j = 78
        · subst q78; exact D78
        by_cases q77 : j = 77
        · subst q77; exact D77
        rw [upL_ne q76, upL_ne q78, upL_nil, upL_ne q0, upL_ne q77, upL_nil]
        exact (G j q79 q78 q77).trans ((F j q7 q1 q0 q76).trans (hX j hj))
      · exact hLW _ _ _ _ _ _ _ _ hl (fun i hi => (G i (by omega) (by omega) (by omega)).trans (F i (by omega) (by omega) (by omega) (by omega))) rfl fun _ _ _ => rfl
      · exact fun q => hLW _ _ _ _ _ _ _ _ (hl0 q) (fun i hi => (G i (by omega) (by omega) (by omega)).trans (F i (by omega) (by omega) (by omega) (by omega))) rfl (fun _ _ _ => rfl)
      · exact fun q => hLW _ _ _ _ _ _ _ _ (hl1 q) (fun i hi => (G i (by omega) (by omega) (by omega)).trans (F i (by omega) (by omega) (by omega) (by omega))) rfl (fun _ _ _ => rfl)
set_option maxRecDepth 10000 in
theorem pair_sight {LW : s_LW} (hLW : LWst LW) : ∀ A B C : Int32, Pair m_X11_sight m_X12_sight 0 0 (INV LW) [.int A, .int B, .int C] := by
  intro A B C n h hI
  obtain ⟨a, rfl, a0, a1⟩ := iI_of A
  obtain ⟨b, rfl, b0, b1⟩ := iI_of B
  obtain ⟨c, rfl, c0, c1⟩ := iI_of C
  obtain ⟨X, hX, hn, hR, hl, hl0, hl1⟩ := hI
  have p3 := hR.1.2.2.1; have p4 := hR.1.2.2.2.1; have p5 := hR.1.2.2.2.2.1; have p6 := hR.1.2.2.2.2.2.1; have p7 := hR.1.2.2.2.2.2.2.1; have p8 := hR.1.2.2.2.2.2.2.2
  have p3a := p3.1; have p4a := p4.1; have p5a := p5.1; have p6a := p6.1; have p8a := p8.1; have ta := hR.2.2.1.2.1
  have hrow : X 79 3 = X 1 12 := p6a.1.symm
  refine ⟨3, 3, by decide, by decide, (sp_X11_sight hn (hX 0 (by decide)) (hX 1 (by decide)) (hX 8 (by decide)) (hX 76 (by decide)) ⟨a0, a1⟩ ⟨b0, b1⟩ ⟨c0, c1⟩ (by omega)).mono (fun r n1 h1 q => ?_)⟩
  obtain ⟨rfl, rfl, E8, E1, E0, E76, F⟩ := q
  refine ⟨_, rfl, ⟨hn, _, ((F 77 (by decide) (by decide) (by decide) (by decide)).trans (hX 77 (by decide))).trans (ent_77 _)⟩, (sp_X12_sight hn ((F 77 (by decide) (by decide) (by decide) (by decide)).trans (hX 77 (by decide))) ((F 79 (by decide) (by decide) (by decide) (by decide)).trans (hX 79 (by decide))) ((F 78 (by decide) (by decide) (by decide) (by decide)).trans (hX 78 (by decide))) ⟨a0, a1⟩ ⟨b0, b1⟩ ⟨c0, c1⟩ (by omega)).mono (fun r2 n2 h2 q => ?_)⟩
  obtain ⟨rfl, rfl, D79, D78, D77, G⟩ := q
  refine ⟨rfl, congrArg (fun x => some (Value.int (iI x))) ?_, ?_⟩
  · split; rw [show X 79 3 = X 1 12 from p6a.1.symm]; rfl
  · by_cases hc0 : 0 ≤ a ∧ a ≤ 11 ∧ 0 ≤ b ∧ b ≤ 63 ∧ 0 ≤ c ∧ c ≤ 1
    · rw [if_pos hc0] at E8 E1 E0 E76 D79 D78 D77
      by_cases hc1 : X 1 12 < 10
      · rw [if_pos hc1] at E8 E1 E0 E76
        rw [if_pos (show (X 79 3 < 10) by omega)] at D79 D78 D77
        refine ⟨(upL [(8, uI (uI (uI (X 8) (X 1 12 * 3 + 0) a) (X 1 12 * 3 + 1) b) (X 1 12 * 3 + 2) c), (1, uI (X 1) 12 (X 1 12 + 1)), (79, uI (uI (uI (uI (X 79) (344 + 3 * X 79 3) a) (344 + 3 * X 79 3 + 1) b) (344 + 3 * X 79 3 + 2) c) 3 (X 79 3 + 1))] (upL [(0, uI (X 0) 13 0), (77, uI (uI (X 77) 0 0) 1 0)] X)), ?_, hn, RR_sight (RR_status 0 hR) hc0 hc1, ?_, ?_, ?_⟩
        · intro j hj
          by_cases q8 : j = 8
          · subst q8; exact (G 8 (by decide) (by decide) (by decide)).trans E8
          by_cases q1 : j = 1
          · subst q1; exact (G 1 (by decide) (by decide) (by decide)).trans E1
          by_cases q0 : j = 0
          · subst q0; exact (G 0 (by decide) (by decide) (by decide)).trans E0
          by_cases q76 : j = 76
          · subst q76; exact (G 76 (by decide) (by decide) (by decide)).trans E76
          by_cases q79 : j = 79
          · subst q79; exact D79
          by_cases q78 : j = 78
          · subst q78; exact D78
          by_cases q77 : j = 77
          · subst q77; exact D77
          rw [upL_ne q8, upL_ne q1, upL_ne q79, upL_nil, upL_ne q0, upL_ne q77, upL_nil]
          exact (G j q79 q78 q77).trans ((F j q8 q1 q0 q76).trans (hX j hj))
        · exact hLW _ _ _ _ _ _ _ _ hl (fun i hi => (G i (by omega) (by omega) (by omega)).trans (F i (by omega) (by omega) (by omega) (by omega))) rfl (by intro j j0 j1; first | rfl | (show uI _ _ _ j = _; unfold uI; repeat rw [if_neg (by omega)]))
        · exact fun q => hLW _ _ _ _ _ _ _ _ (hl0 q) (fun i hi => (G i (by omega) (by omega) (by omega)).trans (F i (by omega) (by omega) (by omega) (by omega))) rfl (fun _ _ _ => rfl)
        · exact fun q => hLW _ _ _ _ _ _ _ _ (hl1 q) (fun i hi => (G i (by omega) (by omega) (by omega)).trans (F i (by omega) (by omega) (by omega) (by omega))) rfl (fun _ _ _ => rfl)
      · rw [if_neg hc1] at E8 E1 E0 E76
        rw [if_neg (show ¬ (X 79 3 < 10) by omega)] at D79 D78 D77
        refine ⟨(upL [(76, uI (X 76) 3 (X 76 3 + 1)), (78, uI (X 78) 5 (X 78 5 + 1))] (upL [(0, uI (X 0) 13 (-5)), (77, uI (uI (X 77) 0 0) 1 (-5))] X)), ?_, hn, RR_ref5 (RR_status (-5) hR), ?_, ?_, ?_⟩
        · intro j hj
          by_cases q8 : j = 8
          · subst q8; exact (G 8 (by decide) (by decide) (by decide)).trans E8
          by_cases q1 : j = 1
          · subst q1; exact (G 1 (by decide) (by decide) (by decide)).trans E1
          by_cases q0 : j = 0
          · subst q0; exact (G 0 (by decide) (by decide) (by decide)).trans E0
          by_cases q76 : j = 76
          · subst q76; exact (G 76 (by decide) (by decide) (by decide)).trans E76
          by_cases q79 : j = 79
          · subst q79; exact D79
          by_cases q78 : j = 78
          · subst q78; exact D78
          by_cases q77 : j = 77
          · subst q77; exact D77
          rw [upL_ne q76, upL_ne q78, upL_nil, upL_ne q0, upL_ne q77, upL_nil]
          exact (G j q79 q78 q77).trans ((F j q8 q1 q0 q76).trans (hX j hj))
        · exact hLW _ _ _ _ _ _ _ _ hl (fun i hi => (G i (by omega) (by omega) (by omega)).trans (F i (by omega) (by omega) (by omega) (by omega))) rfl fun _ _ _ => rfl
        · exact fun q => hLW _ _ _ _ _ _ _ _ (hl0 q) (fun i hi => (G i (by omega) (by omega) (by omega)).trans (F i (by omega) (by omega) (by omega) (by omega))) rfl (fun _ _ _ => rfl)
        · exact fun q => hLW _ _ _ _ _ _ _ _ (hl1 q) (fun i hi => (G i (by omega) (by omega) (by omega)).trans (F i (by omega) (by omega) (by omega) (by omega))) rfl (fun _ _ _ => rfl)
    · rw [if_neg hc0] at E8 E1 E0 E76 D79 D78 D77
      refine ⟨(upL [(76, uI (X 76) 0 (X 76 0 + 1)), (78, uI (X 78) 1 (X 78 1 + 1))] (upL [(0, uI (X 0) 13 (-1)), (77, uI (uI (X 77) 0 0) 1 (-1))] X)), ?_, hn, RR_ref1 (RR_status (-1) hR), ?_, ?_, ?_⟩
      · intro j hj
        by_cases q8 : j = 8
        · subst q8; exact (G 8 (by decide) (by decide) (by decide)).trans E8
        by_cases q1 : j = 1
        · subst q1; exact (G 1 (by decide) (by decide) (by decide)).trans E1
        by_cases q0 : j = 0
        · subst q0; exact (G 0 (by decide) (by decide) (by decide)).trans E0
        by_cases q76 : j = 76
        · subst q76; exact (G 76 (by decide) (by decide) (by decide)).trans E76
        by_cases q79 : j = 79
        · subst q79; exact D79
        by_cases q78 : j = 78
        · subst q78; exact D78
        by_cases q77 : j = 77
        · subst q77; exact D77
        rw [upL_ne q76, upL_ne q78, upL_nil, upL_ne q0, upL_ne q77, upL_nil]
        exact (G j q79 q78 q77).trans ((F j q8 q1 q0 q76).trans (hX j hj))
      · exact hLW _ _ _ _ _ _ _ _ hl (fun i hi => (G i (by omega) (by omega) (by omega)).trans (F i (by omega) (by omega) (by omega) (by omega))) rfl fun _ _ _ => rfl
      · exact fun q => hLW _ _ _ _ _ _ _ _ (hl0 q) (fun i hi => (G i (by omega) (by omega) (by omega)).trans (F i (by omega) (by omega) (by omega) (by omega))) rfl (fun _ _ _ => rfl)
      · exact fun q => hLW _ _ _ _ _ _ _ _ (hl1 q) (fun i hi => (G i (by omega) (by omega) (by omega)).trans (F i (by omega) (by omega) (by omega) (by omega))) rfl (fun _ _ _ => rfl)
set_option maxRecDepth 10000 in
theorem pair_of {LW : s_LW} (hLW : LWst LW) : ∀ A B : Int32, Pair m_X11_of m_X12_of 0 0 (INV LW) [.int A, .int B] := by
  intro A B n h hI
  obtain ⟨a, rfl, a0, a1⟩ := iI_of A
  obtain ⟨b, rfl, b0, b1⟩ := iI_of B
  obtain ⟨X, hX, hn, hR, hl, hl0, hl1⟩ := hI
  have p3 := hR.1.2.2.1; have p4 := hR.1.2.2.2.1; have p5 := hR.1.2.2.2.2.1; have p6 := hR.1.2.2.2.2.2.1; have p7 := hR.1.2.2.2.2.2.2.1; have p8 := hR.1.2.2.2.2.2.2.2
  have p3a := p3.1; have p4a := p4.1; have p5a := p5.1; have p6a := p6.1; have p8a := p8.1; have ta := hR.2.2.1.2.1
  refine ⟨3, 3, by decide, by decide, (sp_X11_of hn (hX 0 (by decide)) (hX 1 (by decide)) (hX 5 (by decide)) ⟨a0, a1⟩ ⟨b0, b1⟩ (by omega)).mono (fun r n1 h1 q => ?_)⟩
  obtain ⟨rfl, rfl, rfl⟩ := q
  refine ⟨_, rfl, ⟨hn, _, (hX 77 (by decide)).trans (ent_77 _)⟩, (sp_X12_of hn (hX 77 (by decide)) (hX 79 (by decide)) ⟨a0, a1⟩ ⟨b0, b1⟩ (by omega)).mono (fun r2 n2 h2 q => ?_)⟩
  obtain ⟨rfl, rfl, D77, G⟩ := q
  refine ⟨rfl, congrArg (fun x => some (Value.int (iI x))) ?_, ?_⟩
  · by_cases q : 0 ≤ a ∧ a < X 1 9 ∧ 0 ≤ b ∧ b ≤ 4; rw [if_pos q, if_pos (by omega)]; rw [p3.2.1 _ (by omega) (by omega)]; exact congrArg (X 79) (by omega); rw [if_neg q, if_neg (by omega)]
  · refine ⟨(upL [(77, uI (X 77) 0 0)] X), ?_, hn, (RR_thrown hR), ?_, ?_, ?_⟩
    · intro j hj
      by_cases q77 : j = 77
      · subst q77; exact D77
      rw [upL_ne q77, upL_nil]
      exact (G j q77).trans (hX j hj)
    · exact hLW _ _ _ _ _ _ _ _ hl (fun i hi => (G i (by omega))) rfl (by intro j j0 j1; first | rfl | (show uI _ _ _ j = _; unfold uI; repeat rw [if_neg (by omega)]))
    · exact fun q => hLW _ _ _ _ _ _ _ _ (hl0 q) (fun i hi => (G i (by omega))) rfl (fun _ _ _ => rfl)
    · exact fun q => hLW _ _ _ _ _ _ _ _ (hl1 q) (fun i hi => (G i (by omega))) rfl (fun _ _ _ => rfl)
set_option maxRecDepth 10000 in
theorem pair_cancel {LW : s_LW} (hLW : LWst LW) : Pair m_X11_cancel m_X12_cancel 0 0 (INV LW) [] := by
  intro n h hI
  obtain ⟨X, hX, hn, hR, hl, hl0, hl1⟩ := hI
  have p3 := hR.1.2.2.1; have p4 := hR.1.2.2.2.1; have p5 := hR.1.2.2.2.2.1; have p6 := hR.1.2.2.2.2.2.1; have p7 := hR.1.2.2.2.2.2.2.1; have p8 := hR.1.2.2.2.2.2.2.2
  have p3a := p3.1; have p4a := p4.1; have p5a := p5.1; have p6a := p6.1; have p8a := p8.1; have ta := hR.2.2.1.2.1
  refine ⟨0, 3, by decide, by decide, (sp_X11_cancel hn (hX 0 (by decide)) (hX 1 (by decide)) ).mono (fun r n1 h1 q => ?_)⟩
  obtain ⟨rfl, rfl, E1, F⟩ := q
  refine ⟨_, rfl, ⟨hn, _, ((F 77 (by decide)).trans (hX 77 (by decide))).trans (ent_77 _)⟩, (sp_X12_cancel hn ((F 77 (by decide)).trans (hX 77 (by decide))) ((F 79 (by decide)).trans (hX 79 (by decide))) ).mono (fun r2 n2 h2 q => ?_)⟩
  obtain ⟨rfl, rfl, D79, D77, G⟩ := q
  refine ⟨rfl, congrArg (fun x => some (Value.int (iI x))) ?_, ?_⟩
  · exact p5a.1.symm
  · refine ⟨(upL [(1, uI (X 1) 11 0), (79, uI (X 79) 2 0)] (upL [(77, uI (X 77) 0 0)] X)), ?_, hn, RR_cancel (RR_thrown hR), ?_, ?_, ?_⟩
    · intro j hj
      by_cases q1 : j = 1
      · subst q1; exact (G 1 (by decide) (by decide)).trans E1
      by_cases q79 : j = 79
      · subst q79; exact D79
      by_cases q77 : j = 77
      · subst q77; exact D77
      rw [upL_ne q1, upL_ne q79, upL_nil, upL_ne q77, upL_nil]
      exact (G j q79 q77).trans ((F j q1).trans (hX j hj))
    · exact hLW _ _ _ _ _ _ _ _ hl (fun i hi => (G i (by omega) (by omega)).trans (F i (by omega))) rfl (by intro j j0 j1; first | rfl | (show uI _ _ _ j = _; unfold uI; repeat rw [if_neg (by omega)]))
    · exact fun q => hLW _ _ _ _ _ _ _ _ (hl0 q) (fun i hi => (G i (by omega) (by omega)).trans (F i (by omega))) rfl (fun _ _ _ => rfl)
    · exact fun q => hLW _ _ _ _ _ _ _ _ (hl1 q) (fun i hi => (G i (by omega) (by omega)).trans (F i (by omega))) rfl (fun _ _ _ => rfl)
set_option maxRecDepth 10000 in
theorem pair_forget {LW : s_LW} (hLW : LWst LW) : Pair m_X11_forget m_X12_forget 0 0 (INV LW) [] := by
  intro n h hI
  obtain ⟨X, hX, hn, hR, hl, hl0, hl1⟩ := hI
  have p3 := hR.1.2.2.1; have p4 := hR.1.2.2.2.1; have p5 := hR.1.2.2.2.2.1; have p6 := hR.1.2.2.2.2.2.1; have p7 := hR.1.2.2.2.2.2.2.1; have p8 := hR.1.2.2.2.2.2.2.2
  have p3a := p3.1; have p4a := p4.1; have p5a := p5.1; have p6a := p6.1; have p8a := p8.1; have ta := hR.2.2.1.2.1
  refine ⟨0, 3, by decide, by decide, (sp_X11_forget hn (hX 0 (by decide)) (hX 1 (by decide)) ).mono (fun r n1 h1 q => ?_)⟩
  obtain ⟨rfl, rfl, E1, F⟩ := q
  refine ⟨_, rfl, ⟨hn, _, ((F 77 (by decide)).trans (hX 77 (by decide))).trans (ent_77 _)⟩, (sp_X12_forget hn ((F 77 (by decide)).trans (hX 77 (by decide))) ((F 79 (by decide)).trans (hX 79 (by decide))) ).mono (fun r2 n2 h2 q => ?_)⟩
  obtain ⟨rfl, rfl, D79, D77, G⟩ := q
  refine ⟨rfl, congrArg (fun x => some (Value.int (iI x))) ?_, ?_⟩
  · exact p6a.1.symm
  · refine ⟨(upL [(1, uI (X 1) 12 0), (79, uI (X 79) 3 0)] (upL [(77, uI (X 77) 0 0)] X)), ?_, hn, RR_forget (RR_thrown hR), ?_, ?_, ?_⟩
    · intro j hj
      by_cases q1 : j = 1
      · subst q1; exact (G 1 (by decide) (by decide)).trans E1
      by_cases q79 : j = 79
      · subst q79; exact D79
      by_cases q77 : j = 77
      · subst q77; exact D77
      rw [upL_ne q1, upL_ne q79, upL_nil, upL_ne q77, upL_nil]
      exact (G j q79 q77).trans ((F j q1).trans (hX j hj))
    · exact hLW _ _ _ _ _ _ _ _ hl (fun i hi => (G i (by omega) (by omega)).trans (F i (by omega))) rfl (by intro j j0 j1; first | rfl | (show uI _ _ _ j = _; unfold uI; repeat rw [if_neg (by omega)]))
    · exact fun q => hLW _ _ _ _ _ _ _ _ (hl0 q) (fun i hi => (G i (by omega) (by omega)).trans (F i (by omega))) rfl (fun _ _ _ => rfl)
    · exact fun q => hLW _ _ _ _ _ _ _ _ (hl1 q) (fun i hi => (G i (by omega) (by omega)).trans (F i (by omega))) rfl (fun _ _ _ => rfl)
set_option maxRecDepth 10000 in
theorem pair_terms {LW : s_LW} (hLW : LWst LW) : ∀ A B : Int32, Pair m_X11_terms m_X12_terms 0 0 (INV LW) [.int A, .int B] := by
  intro A B n h hI
  obtain ⟨a, rfl, a0, a1⟩ := iI_of A
  obtain ⟨b, rfl, b0, b1⟩ := iI_of B
  obtain ⟨X, hX, hn, hR, hl, hl0, hl1⟩ := hI
  have p3 := hR.1.2.2.1; have p4 := hR.1.2.2.2.1; have p5 := hR.1.2.2.2.2.1; have p6 := hR.1.2.2.2.2.2.1; have p7 := hR.1.2.2.2.2.2.2.1; have p8 := hR.1.2.2.2.2.2.2.2
  have p3a := p3.1; have p4a := p4.1; have p5a := p5.1; have p6a := p6.1; have p8a := p8.1; have ta := hR.2.2.1.2.1
  refine ⟨3, 3, by decide, by decide, (sp_X11_terms hn (hX 0 (by decide)) (hX 1 (by decide)) (hX 9 (by decide)) (hX 76 (by decide)) ⟨a0, a1⟩ ⟨b0, b1⟩).mono (fun r n1 h1 q => ?_)⟩
  obtain ⟨rfl, rfl, E9, E0, E76, F⟩ := q
  refine ⟨_, rfl, ⟨hn, _, ((F 77 (by decide) (by decide) (by decide)).trans (hX 77 (by decide))).trans (ent_77 _)⟩, (sp_X12_terms hn ((F 77 (by decide) (by decide) (by decide)).trans (hX 77 (by decide))) ((F 79 (by decide) (by decide) (by decide)).trans (hX 79 (by decide))) ((F 78 (by decide) (by decide) (by decide)).trans (hX 78 (by decide))) ⟨a0, a1⟩ ⟨b0, b1⟩).mono (fun r2 n2 h2 q => ?_)⟩
  obtain ⟨rfl, rfl, D79, D78, D77, G⟩ := q
  refine ⟨rfl, congrArg (fun x => some (Value.int (iI x))) ?_, ?_⟩
  · split; exact (p7 a (by omega) (by omega)).1.symm; rfl
  · by_cases hc0 : (a = 0 ∧ 0 ≤ b ∧ b ≤ 99) ∨ (a = 1 ∧ 0 ≤ b ∧ b ≤ 10) ∨ (a = 2 ∧ 0 ≤ b ∧ b ≤ 9)
    · rw [if_pos hc0] at E9 E0 E76 D79 D78 D77
      refine ⟨(upL [(9, uI (X 9) a b), (79, uI (X 79) (6 + a) b)] (upL [(0, uI (X 0) 13 0), (77, uI (uI (X 77) 0 0) 1 0)] X)), ?_, hn, RR_terms (RR_status 0 hR) hc0, ?_, ?_, ?_⟩
      · intro j hj
        by_cases q9 : j = 9
        · subst q9; exact (G 9 (by decide) (by decide) (by decide)).trans E9
        by_cases q0 : j = 0
        · subst q0; exact (G 0 (by decide) (by decide) (by decide)).trans E0
        by_cases q76 : j = 76
        · subst q76; exact (G 76 (by decide) (by decide) (by decide)).trans E76
        by_cases q79 : j = 79
        · subst q79; exact D79
        by_cases q78 : j = 78
        · subst q78; exact D78
        by_cases q77 : j = 77
        · subst q77; exact D77
        rw [upL_ne q9, upL_ne q79, upL_nil, upL_ne q0, upL_ne q77, upL_nil]
        exact (G j q79 q78 q77).trans ((F j q9 q0 q76).trans (hX j hj))
      · exact hLW _ _ _ _ _ _ _ _ hl (fun i hi => (G i (by omega) (by omega) (by omega)).trans (F i (by omega) (by omega) (by omega))) rfl (by intro j j0 j1; first | rfl | (show uI _ _ _ j = _; unfold uI; repeat rw [if_neg (by omega)]))
      · exact fun q => hLW _ _ _ _ _ _ _ _ (hl0 q) (fun i hi => (G i (by omega) (by omega) (by omega)).trans (F i (by omega) (by omega) (by omega))) rfl (fun _ _ _ => rfl)
      · exact fun q => hLW _ _ _ _ _ _ _ _ (hl1 q) (fun i hi => (G i (by omega) (by omega) (by omega)).trans (F i (by omega) (by omega) (by omega))) rfl (fun _ _ _ => rfl)
    · rw [if_neg hc0] at E9 E0 E76 D79 D78 D77
      refine ⟨(upL [(76, uI (X 76) 0 (X 76 0 + 1)), (78, uI (X 78) 1 (X 78 1 + 1))] (upL [(0, uI (X 0) 13 (-1)), (77, uI (uI (X 77) 0 0) 1 (-1))] X)), ?_, hn, RR_ref1 (RR_status (-1) hR), ?_, ?_, ?_⟩
      · intro j hj
        by_cases q9 : j = 9
        · subst q9; exact (G 9 (by decide) (by decide) (by decide)).trans E9
        by_cases q0 : j = 0
        · subst q0; exact (G 0 (by decide) (by decide) (by decide)).trans E0
        by_cases q76 : j = 76
        · subst q76; exact (G 76 (by decide) (by decide) (by decide)).trans E76
        by_cases q79 : j = 79
        · subst q79; exact D79
        by_cases q78 : j = 78
        · subst q78; exact D78
        by_cases q77 : j = 77
        · subst q77; exact D77
        rw [upL_ne q76, upL_ne q78, upL_nil, upL_ne q0, upL_ne q77, upL_nil]
        exact (G j q79 q78 q77).trans ((F j q9 q0 q76).trans (hX j hj))
      · exact hLW _ _ _ _ _ _ _ _ hl (fun i hi => (G i (by omega) (by omega) (by omega)).trans (F i (by omega) (by omega) (by omega))) rfl fun _ _ _ => rfl
      · exact fun q => hLW _ _ _ _ _ _ _ _ (hl0 q) (fun i hi => (G i (by omega) (by omega) (by omega)).trans (F i (by omega) (by omega) (by omega))) rfl (fun _ _ _ => rfl)
      · exact fun q => hLW _ _ _ _ _ _ _ _ (hl1 q) (fun i hi => (G i (by omega) (by omega) (by omega)).trans (F i (by omega) (by omega) (by omega))) rfl (fun _ _ _ => rfl)
set_option maxRecDepth 10000 in
theorem pair_force {LW : s_LW} (hLW : LWst LW) : ∀ A : Int32, Pair m_X11_force m_X12_force 0 0 (INV LW) [.int A] := by
  intro A n h hI
  obtain ⟨a, rfl, a0, a1⟩ := iI_of A
  obtain ⟨X, hX, hn, hR, hl, hl0, hl1⟩ := hI
  have p3 := hR.1.2.2.1; have p4 := hR.1.2.2.2.1; have p5 := hR.1.2.2.2.2.1; have p6 := hR.1.2.2.2.2.2.1; have p7 := hR.1.2.2.2.2.2.2.1; have p8 := hR.1.2.2.2.2.2.2.2
  have p3a := p3.1; have p4a := p4.1; have p5a := p5.1; have p6a := p6.1; have p8a := p8.1; have ta := hR.2.2.1.2.1
  have hrow : X 79 4 = X 1 13 := p8a.1.symm
  refine ⟨1, 3, by decide, by decide, (sp_X11_force hn (hX 0 (by decide)) (hX 1 (by decide)) (hX 76 (by decide)) ⟨a0, a1⟩ (by omega)).mono (fun r n1 h1 q => ?_)⟩
  obtain ⟨rfl, rfl, E1, E0, E76, F⟩ := q
  refine ⟨_, rfl, ⟨hn, _, ((F 77 (by decide) (by decide) (by decide)).trans (hX 77 (by decide))).trans (ent_77 _)⟩, (sp_X12_force hn ((F 77 (by decide) (by decide) (by decide)).trans (hX 77 (by decide))) ((F 79 (by decide) (by decide) (by decide)).trans (hX 79 (by decide))) ((F 78 (by decide) (by decide) (by decide)).trans (hX 78 (by decide))) ⟨a0, a1⟩ (by omega)).mono (fun r2 n2 h2 q => ?_)⟩
  obtain ⟨rfl, rfl, D79, D78, D77, G⟩ := q
  refine ⟨rfl, congrArg (fun x => some (Value.int (iI x))) ?_, ?_⟩
  · rw [show X 79 4 = X 1 13 from p8a.1.symm, show X 79 5 = X 1 14 from p8.2.1.symm]
  · by_cases hc0 : a = -1 ∨ (0 ≤ a ∧ a ≤ X 1 13 - 1)
    · rw [if_pos hc0] at E1 E0 E76
      rw [if_pos (show (a = -1 ∨ (0 ≤ a ∧ a ≤ X 79 4 - 1)) by omega)] at D79 D78 D77
      refine ⟨(upL [(1, uI (X 1) 14 a), (79, uI (X 79) 5 a)] (upL [(0, uI (X 0) 13 0), (77, uI (uI (X 77) 0 0) 1 0)] X)), ?_, hn, RR_force (RR_status 0 hR) hc0, ?_, ?_, ?_⟩
      · intro j hj
        by_cases q1 : j = 1
        · subst q1; exact (G 1 (by decide) (by decide) (by decide)).trans E1
        by_cases q0 : j = 0
        · subst q0; exact (G 0 (by decide) (by decide) (by decide)).trans E0
        by_cases q76 : j = 76
        · subst q76; exact (G 76 (by decide) (by decide) (by decide)).trans E76
        by_cases q79 : j = 79
        · subst q79; exact D79
        by_cases q78 : j = 78
        · subst q78; exact D78
        by_cases q77 : j = 77
        · subst q77; exact D77
        rw [upL_ne q1, upL_ne q79, upL_nil, upL_ne q0, upL_ne q77, upL_nil]
        exact (G j q79 q78 q77).trans ((F j q1 q0 q76).trans (hX j hj))
      · exact hLW _ _ _ _ _ _ _ _ hl (fun i hi => (G i (by omega) (by omega) (by omega)).trans (F i (by omega) (by omega) (by omega))) rfl (by intro j j0 j1; first | rfl | (show uI _ _ _ j = _; unfold uI; repeat rw [if_neg (by omega)]))
      · exact fun q => hLW _ _ _ _ _ _ _ _ (hl0 q) (fun i hi => (G i (by omega) (by omega) (by omega)).trans (F i (by omega) (by omega) (by omega))) rfl (fun _ _ _ => rfl)
      · exact fun q => hLW _ _ _ _ _ _ _ _ (hl1 q) (fun i hi => (G i (by omega) (by omega) (by omega)).trans (F i (by omega) (by omega) (by omega))) rfl (fun _ _ _ => rfl)
    · rw [if_neg hc0] at E1 E0 E76
      rw [if_neg (show ¬ (a = -1 ∨ (0 ≤ a ∧ a ≤ X 79 4 - 1)) by omega)] at D79 D78 D77
      refine ⟨(upL [(76, uI (X 76) 1 (X 76 1 + 1)), (78, uI (X 78) 2 (X 78 2 + 1))] (upL [(0, uI (X 0) 13 (-2)), (77, uI (uI (X 77) 0 0) 1 (-2))] X)), ?_, hn, RR_ref2 (RR_status (-2) hR), ?_, ?_, ?_⟩
      · intro j hj
        by_cases q1 : j = 1
        · subst q1; exact (G 1 (by decide) (by decide) (by decide)).trans E1
        by_cases q0 : j = 0
        · subst q0; exact (G 0 (by decide) (by decide) (by decide)).trans E0
        by_cases q76 : j = 76
        · subst q76; exact (G 76 (by decide) (by decide) (by decide)).trans E76
        by_cases q79 : j = 79
        · subst q79; exact D79
        by_cases q78 : j = 78
        · subst q78; exact D78
        by_cases q77 : j = 77
        · subst q77; exact D77
        rw [upL_ne q76, upL_ne q78, upL_nil, upL_ne q0, upL_ne q77, upL_nil]
        exact (G j q79 q78 q77).trans ((F j q1 q0 q76).trans (hX j hj))
      · exact hLW _ _ _ _ _ _ _ _ hl (fun i hi => (G i (by omega) (by omega) (by omega)).trans (F i (by omega) (by omega) (by omega))) rfl fun _ _ _ => rfl
      · exact fun q => hLW _ _ _ _ _ _ _ _ (hl0 q) (fun i hi => (G i (by omega) (by omega) (by omega)).trans (F i (by omega) (by omega) (by omega))) rfl (fun _ _ _ => rfl)
      · exact fun q => hLW _ _ _ _ _ _ _ _ (hl1 q) (fun i hi => (G i (by omega) (by omega) (by omega)).trans (F i (by omega) (by omega) (by omega))) rfl (fun _ _ _ => rfl)
set_option maxRecDepth 10000 in
theorem pair_undo {LW : s_LW} (hLW : LWst LW) : Pair m_X11_undo m_X12_undo 0 0 (INV LW) [] := by
  intro n h hI
  obtain ⟨X, hX, hn, hR, hl, hl0, hl1⟩ := hI
  have p3 := hR.1.2.2.1; have p4 := hR.1.2.2.2.1; have p5 := hR.1.2.2.2.2.1; have p6 := hR.1.2.2.2.2.2.1; have p7 := hR.1.2.2.2.2.2.2.1; have p8 := hR.1.2.2.2.2.2.2.2
  have p3a := p3.1; have p4a := p4.1; have p5a := p5.1; have p6a := p6.1; have p8a := p8.1; have ta := hR.2.2.1.2.1
  have hrow : X 79 1 = X 1 10 := p4a.1.symm
  refine ⟨3, 3, by decide, by decide, (sp_X11_undo hn (hX 0 (by decide)) (hX 1 (by decide)) (hX 6 (by decide)) (hX 76 (by decide)) (by omega)).mono (fun r n1 h1 q => ?_)⟩
  obtain ⟨rfl, rfl, E1, E0, E76, F⟩ := q
  refine ⟨_, rfl, ⟨hn, _, ((F 77 (by decide) (by decide) (by decide)).trans (hX 77 (by decide))).trans (ent_77 _)⟩, (sp_X12_undo hn ((F 77 (by decide) (by decide) (by decide)).trans (hX 77 (by decide))) ((F 79 (by decide) (by decide) (by decide)).trans (hX 79 (by decide))) ((F 78 (by decide) (by decide) (by decide)).trans (hX 78 (by decide))) (by omega) (by rcases Int.lt_or_le 0 (X 79 1) with q | q; exact Or.inr (by have w := p4.2.2.1 (X 79 1 - 1) (by omega) (by omega); have w2 := p4.2.1 ((X 79 1 - 1) * 3) (by omega) (by omega); rw [show 232 + 3 * (X 79 1 - 1) = 232 + (X 79 1 - 1) * 3 by omega]; omega); exact Or.inl (by omega))).mono (fun r2 n2 h2 q => ?_)⟩
  obtain ⟨rfl, rfl, D79, D78, D77, G⟩ := q
  refine ⟨rfl, congrArg (fun x => some (Value.int (iI x))) ?_, ?_⟩
  · by_cases q : X 1 10 ≤ 0; rw [if_pos q, if_pos (by omega)]; rw [if_neg q, if_neg (by omega)]; have w2 := p4.2.1 ((X 1 10 - 1) * 3 + 0) (by omega) (by omega); rw [w2]; exact congrArg (X 79) (by omega)
  · by_cases hc0 : X 1 10 ≤ 0
    · rw [if_pos hc0] at E1 E0 E76
      rw [if_pos (show (X 79 1 = 0) by omega)] at D79 D78 D77
      refine ⟨(upL [(76, uI (X 76) 2 (X 76 2 + 1)), (78, uI (X 78) 3 (X 78 3 + 1))] (upL [(0, uI (X 0) 13 (-3)), (77, uI (uI (X 77) 0 0) 1 (-3))] X)), ?_, hn, RR_ref3 (RR_status (-3) hR), ?_, ?_, ?_⟩
      · intro j hj
        by_cases q1 : j = 1
        · subst q1; exact (G 1 (by decide) (by decide) (by decide)).trans E1
        by_cases q0 : j = 0
        · subst q0; exact (G 0 (by decide) (by decide) (by decide)).trans E0
        by_cases q76 : j = 76
        · subst q76; exact (G 76 (by decide) (by decide) (by decide)).trans E76
        by_cases q79 : j = 79
        · subst q79; exact D79
        by_cases q78 : j = 78
        · subst q78; exact D78
        by_cases q77 : j = 77
        · subst q77; exact D77
        rw [upL_ne q76, upL_ne q78, upL_nil, upL_ne q0, upL_ne q77, upL_nil]
        exact (G j q79 q78 q77).trans ((F j q1 q0 q76).trans (hX j hj))
      · exact hLW _ _ _ _ _ _ _ _ hl (fun i hi => (G i (by omega) (by omega) (by omega)).trans (F i (by omega) (by omega) (by omega))) rfl fun _ _ _ => rfl
      · exact fun q => hLW _ _ _ _ _ _ _ _ (hl0 q) (fun i hi => (G i (by omega) (by omega) (by omega)).trans (F i (by omega) (by omega) (by omega))) rfl (fun _ _ _ => rfl)
      · exact fun q => hLW _ _ _ _ _ _ _ _ (hl1 q) (fun i hi => (G i (by omega) (by omega) (by omega)).trans (F i (by omega) (by omega) (by omega))) rfl (fun _ _ _ => rfl)
    · rw [if_neg hc0] at E1 E0 E76
      rw [if_neg (show ¬ (X 79 1 = 0) by omega)] at D79 D78 D77
      refine ⟨(upL [(1, uI (X 1) 10 (X 1 10 - 1)), (79, uI (X 79) 1 (X 79 1 - 1))] (upL [(0, uI (X 0) 13 0), (77, uI (uI (X 77) 0 0) 1 0)] X)), ?_, hn, RR_undo (RR_status 0 hR) hc0, ?_, ?_, ?_⟩
      · intro j hj
        by_cases q1 : j = 1
        · subst q1; exact (G 1 (by decide) (by decide) (by decide)).trans E1
        by_cases q0 : j = 0
        · subst q0; exact (G 0 (by decide) (by decide) (by decide)).trans E0
        by_cases q76 : j = 76
        · subst q76; exact (G 76 (by decide) (by decide) (by decide)).trans E76
        by_cases q79 : j = 79
        · subst q79; exact D79
        by_cases q78 : j = 78
        · subst q78; exact D78
        by_cases q77 : j = 77
        · subst q77; exact D77
        rw [upL_ne q1, upL_ne q79, upL_nil, upL_ne q0, upL_ne q77, upL_nil]
        exact (G j q79 q78 q77).trans ((F j q1 q0 q76).trans (hX j hj))
      · exact hLW _ _ _ _ _ _ _ _ hl (fun i hi => (G i (by omega) (by omega) (by omega)).trans (F i (by omega) (by omega) (by omega))) rfl (by intro j j0 j1; first | rfl | (show uI _ _ _ j = _; unfold uI; repeat rw [if_neg (by omega)]))
      · exact fun q => hLW _ _ _ _ _ _ _ _ (hl0 q) (fun i hi => (G i (by omega) (by omega) (by omega)).trans (F i (by omega) (by omega) (by omega))) rfl (fun _ _ _ => rfl)
      · exact fun q => hLW _ _ _ _ _ _ _ _ (hl1 q) (fun i hi => (G i (by omega) (by omega) (by omega)).trans (F i (by omega) (by omega) (by omega))) rfl (fun _ _ _ => rfl)
set_option maxRecDepth 10000 in
theorem pair_status {LW : s_LW} (hLW : LWst LW) : Pair m_X11_status m_X12_status 0 0 (INV LW) [] := by
  intro n h hI
  obtain ⟨X, hX, hn, hR, hl, hl0, hl1⟩ := hI
  have p3 := hR.1.2.2.1; have p4 := hR.1.2.2.2.1; have p5 := hR.1.2.2.2.2.1; have p6 := hR.1.2.2.2.2.2.1; have p7 := hR.1.2.2.2.2.2.2.1; have p8 := hR.1.2.2.2.2.2.2.2
  have p3a := p3.1; have p4a := p4.1; have p5a := p5.1; have p6a := p6.1; have p8a := p8.1; have ta := hR.2.2.1.2.1
  refine ⟨0, 0, by decide, by decide, (sp_X11_status hn (hX 0 (by decide)) ).mono (fun r n1 h1 q => ?_)⟩
  obtain ⟨rfl, rfl, rfl⟩ := q
  refine ⟨_, rfl, ⟨hn, _, (hX 77 (by decide)).trans (ent_77 _)⟩, (sp_X12_status hn (hX 77 (by decide)) ).mono (fun r2 n2 h2 q => ?_)⟩
  obtain ⟨rfl, rfl, D77, G⟩ := q
  refine ⟨rfl, congrArg (fun x => some (Value.int (iI x))) ?_, ?_⟩
  · exact hR.2.1.1.symm
  · refine ⟨(upL [(77, uI (X 77) 0 0)] X), ?_, hn, (RR_thrown hR), ?_, ?_, ?_⟩
    · intro j hj
      by_cases q77 : j = 77
      · subst q77; exact D77
      rw [upL_ne q77, upL_nil]
      exact (G j q77).trans (hX j hj)
    · exact hLW _ _ _ _ _ _ _ _ hl (fun i hi => (G i (by omega))) rfl (by intro j j0 j1; first | rfl | (show uI _ _ _ j = _; unfold uI; repeat rw [if_neg (by omega)]))
    · exact fun q => hLW _ _ _ _ _ _ _ _ (hl0 q) (fun i hi => (G i (by omega))) rfl (fun _ _ _ => rfl)
    · exact fun q => hLW _ _ _ _ _ _ _ _ (hl1 q) (fun i hi => (G i (by omega))) rfl (fun _ _ _ => rfl)
set_option maxRecDepth 10000 in
theorem pair_haze {LW : s_LW} (hLW : LWst LW) : Pair m_X11_haze m_X12_haze 0 0 (INV LW) [] := by
  intro n h hI
  obtain ⟨X, hX, hn, hR, hl, hl0, hl1⟩ := hI
  have p3 := hR.1.2.2.1; have p4 := hR.1.2.2.2.1; have p5 := hR.1.2.2.2.2.1; have p6 := hR.1.2.2.2.2.2.1; have p7 := hR.1.2.2.2.2.2.2.1; have p8 := hR.1.2.2.2.2.2.2.2
  have p3a := p3.1; have p4a := p4.1; have p5a := p5.1; have p6a := p6.1; have p8a := p8.1; have ta := hR.2.2.1.2.1
  refine ⟨0, 0, by decide, by decide, (sp_X11_haze hn (hX 0 (by decide)) ).mono (fun r n1 h1 q => ?_)⟩
  obtain ⟨rfl, rfl, rfl⟩ := q
  refine ⟨_, rfl, ⟨hn, _, (hX 77 (by decide)).trans (ent_77 _)⟩, (sp_X12_haze hn (hX 77 (by decide)) ).mono (fun r2 n2 h2 q => ?_)⟩
  obtain ⟨rfl, rfl, D77, G⟩ := q
  refine ⟨rfl, congrArg (fun x => some (Value.int (iI x))) ?_, ?_⟩
  · exact hR.2.1.2.1.symm
  · refine ⟨(upL [(77, uI (X 77) 0 0)] X), ?_, hn, (RR_thrown hR), ?_, ?_, ?_⟩
    · intro j hj
      by_cases q77 : j = 77
      · subst q77; exact D77
      rw [upL_ne q77, upL_nil]
      exact (G j q77).trans (hX j hj)
    · exact hLW _ _ _ _ _ _ _ _ hl (fun i hi => (G i (by omega))) rfl (by intro j j0 j1; first | rfl | (show uI _ _ _ j = _; unfold uI; repeat rw [if_neg (by omega)]))
    · exact fun q => hLW _ _ _ _ _ _ _ _ (hl0 q) (fun i hi => (G i (by omega))) rfl (fun _ _ _ => rfl)
    · exact fun q => hLW _ _ _ _ _ _ _ _ (hl1 q) (fun i hi => (G i (by omega))) rfl (fun _ _ _ => rfl)
set_option maxRecDepth 10000 in
theorem pair_stopped {LW : s_LW} (hLW : LWst LW) : Pair m_X11_stopped m_X12_stopped 0 0 (INV LW) [] := by
  intro n h hI
  obtain ⟨X, hX, hn, hR, hl, hl0, hl1⟩ := hI
  have p3 := hR.1.2.2.1; have p4 := hR.1.2.2.2.1; have p5 := hR.1.2.2.2.2.1; have p6 := hR.1.2.2.2.2.2.1; have p7 := hR.1.2.2.2.2.2.2.1; have p8 := hR.1.2.2.2.2.2.2.2
  have p3a := p3.1; have p4a := p4.1; have p5a := p5.1; have p6a := p6.1; have p8a := p8.1; have ta := hR.2.2.1.2.1
  refine ⟨0, 0, by decide, by decide, (sp_X11_stopped hn (hX 0 (by decide)) ).mono (fun r n1 h1 q => ?_)⟩
  obtain ⟨rfl, rfl, rfl⟩ := q
  refine ⟨_, rfl, ⟨hn, _, (hX 77 (by decide)).trans (ent_77 _)⟩, (sp_X12_stopped hn (hX 77 (by decide)) ).mono (fun r2 n2 h2 q => ?_)⟩
  obtain ⟨rfl, rfl, D77, G⟩ := q
  refine ⟨rfl, congrArg (fun x => some (Value.int (iI x))) ?_, ?_⟩
  · exact hR.2.1.2.2.symm
  · refine ⟨(upL [(77, uI (X 77) 0 0)] X), ?_, hn, (RR_thrown hR), ?_, ?_, ?_⟩
    · intro j hj
      by_cases q77 : j = 77
      · subst q77; exact D77
      rw [upL_ne q77, upL_nil]
      exact (G j q77).trans (hX j hj)
    · exact hLW _ _ _ _ _ _ _ _ hl (fun i hi => (G i (by omega))) rfl (by intro j j0 j1; first | rfl | (show uI _ _ _ j = _; unfold uI; repeat rw [if_neg (by omega)]))
    · exact fun q => hLW _ _ _ _ _ _ _ _ (hl0 q) (fun i hi => (G i (by omega))) rfl (fun _ _ _ => rfl)
    · exact fun q => hLW _ _ _ _ _ _ _ _ (hl1 q) (fun i hi => (G i (by omega))) rfl (fun _ _ _ => rfl)
set_option maxRecDepth 10000 in
theorem pair_fault {LW : s_LW} (hLW : LWst LW) : Pair m_X11_fault m_X12_fault 0 0 (INV LW) [] := by
  intro n h hI
  obtain ⟨X, hX, hn, hR, hl, hl0, hl1⟩ := hI
  have p3 := hR.1.2.2.1; have p4 := hR.1.2.2.2.1; have p5 := hR.1.2.2.2.2.1; have p6 := hR.1.2.2.2.2.2.1; have p7 := hR.1.2.2.2.2.2.2.1; have p8 := hR.1.2.2.2.2.2.2.2
  have p3a := p3.1; have p4a := p4.1; have p5a := p5.1; have p6a := p6.1; have p8a := p8.1; have ta := hR.2.2.1.2.1
  refine ⟨0, 0, by decide, by decide, (sp_X11_fault hn (hX 0 (by decide)) (hX 33 (by decide)) ).mono (fun r n1 h1 q => ?_)⟩
  obtain ⟨rfl, rfl, rfl⟩ := q
  refine ⟨_, rfl, ⟨hn, _, (hX 77 (by decide)).trans (ent_77 _)⟩, (sp_X12_fault hn (hX 77 (by decide)) ).mono (fun r2 n2 h2 q => ?_)⟩
  obtain ⟨rfl, rfl, D77, G⟩ := q
  refine ⟨rfl, congrArg (fun x => some (Value.int (iI x))) ?_, ?_⟩
  · exact hR.2.2.1.1.symm
  · refine ⟨(upL [(77, uI (X 77) 0 0)] X), ?_, hn, (RR_thrown hR), ?_, ?_, ?_⟩
    · intro j hj
      by_cases q77 : j = 77
      · subst q77; exact D77
      rw [upL_ne q77, upL_nil]
      exact (G j q77).trans (hX j hj)
    · exact hLW _ _ _ _ _ _ _ _ hl (fun i hi => (G i (by omega))) rfl (by intro j j0 j1; first | rfl | (show uI _ _ _ j = _; unfold uI; repeat rw [if_neg (by omega)]))
    · exact fun q => hLW _ _ _ _ _ _ _ _ (hl0 q) (fun i hi => (G i (by omega))) rfl (fun _ _ _ => rfl)
    · exact fun q => hLW _ _ _ _ _ _ _ _ (hl1 q) (fun i hi => (G i (by omega))) rfl (fun _ _ _ => rfl)

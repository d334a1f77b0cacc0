/-! PAIRS: end, count, drawn -/
set_option maxRecDepth 10000 in
theorem pair_end {LW : s_LW} (hLW : LWst LW) : ∀ A : Int32, Pair m_X11_end m_X12_end 0 0 (INV LW) [.int A] := by
  intro A n h hI
  obtain ⟨a, rfl, a0, a1⟩ := iI_of A
  obtain ⟨X, hX, hn, hR, hl, hl0, hl1⟩ := hI
  have p3 := hR.1.2.2.1; have p4 := hR.1.2.2.2.1; have p5 := hR.1.2.2.2.2.1; have p6 := hR.1.2.2.2.2.2.1; have p7 := hR.1.2.2.2.2.2.2.1; have p8 := hR.1.2.2.2.2.2.2.2
  have p3a := p3.1; have p4a := p4.1; have p5a := p5.1; have p6a := p6.1; have p8a := p8.1; have ta := hR.2.2.1.2.1
  have hrow : X 77 8 = X 33 4 := ta.1.symm
  refine ⟨1, 3, by decide, by decide, (sp_X11_end hn (hX 0 (by decide)) (hX 33 (by decide)) ⟨a0, a1⟩ (by omega)).mono (fun r n1 h1 q => ?_)⟩
  obtain ⟨rfl, rfl, E33, F⟩ := q
  refine ⟨_, rfl, ⟨hn, _, ((F 77 (by decide)).trans (hX 77 (by decide))).trans (ent_77 _)⟩, (sp_X12_end hn ((F 77 (by decide)).trans (hX 77 (by decide))) ⟨a0, a1⟩ (by omega)).mono (fun r2 n2 h2 q => ?_)⟩
  obtain ⟨rfl, rfl, D77, G⟩ := q
  refine ⟨rfl, congrArg (fun x => some (Value.int (iI x))) ?_, ?_⟩
  · rw [hrow]
  · by_cases hc0 : 0 ≤ a ∧ a ≤ X 33 4
    · rw [if_pos hc0] at E33
      rw [if_pos (show (0 ≤ a ∧ a ≤ X 77 8) by omega)] at D77
      refine ⟨(upL [(33, uI (X 33) 4 a), (77, uI (uI (X 77) 0 0) 8 a)] (upL [(77, uI (X 77) 0 0)] X)), ?_, hn, RR_end (RR_thrown hR) hc0, ?_, ?_, ?_⟩
      · intro j hj
        by_cases q33 : j = 33
        · subst q33; exact (G 33 (by decide)).trans E33
        by_cases q77 : j = 77
        · subst q77; exact D77
        rw [upL_ne q33, upL_ne q77, upL_nil, upL_ne q77, upL_nil]
        exact (G j q77).trans ((F j q33).trans (hX j hj))
      · exact hLW _ _ _ _ _ _ _ _ hl (fun i hi => (G i (by omega)).trans (F i (by omega))) rfl (by intro j j0 j1; first | rfl | (show uI _ _ _ j = _; unfold uI; repeat rw [if_neg (by omega)]))
      · exact fun q => hLW _ _ _ _ _ _ _ _ (hl0 q) (fun i hi => (G i (by omega)).trans (F i (by omega))) rfl (fun _ _ _ => rfl)
      · exact fun q => hLW _ _ _ _ _ _ _ _ (hl1 q) (fun i hi => (G i (by omega)).trans (F i (by omega))) rfl (fun _ _ _ => rfl)
    · rw [if_neg hc0] at E33
      rw [if_neg (show ¬ (0 ≤ a ∧ a ≤ X 77 8) by omega)] at D77
      rw [hrow] at D77
      refine ⟨(upL [(33, uI (X 33) 4 (X 33 4)), (77, uI (uI (X 77) 0 0) 8 (X 33 4))] (upL [(77, uI (X 77) 0 0)] X)), ?_, hn, RR_end (a := X 33 4) (RR_thrown hR) ⟨by omega, Int.le_refl _⟩, ?_, ?_, ?_⟩
      · intro j hj
        by_cases q33 : j = 33
        · subst q33; exact (G 33 (by decide)).trans E33
        by_cases q77 : j = 77
        · subst q77; exact D77
        rw [upL_ne q33, upL_ne q77, upL_nil, upL_ne q77, upL_nil]
        exact (G j q77).trans ((F j q33).trans (hX j hj))
      · exact hLW _ _ _ _ _ _ _ _ hl (fun i hi => (G i (by omega)).trans (F i (by omega))) rfl (by intro j j0 j1; first | rfl | (show uI _ _ _ j = _; unfold uI; repeat rw [if_neg (by omega)]))
      · exact fun q => hLW _ _ _ _ _ _ _ _ (hl0 q) (fun i hi => (G i (by omega)).trans (F i (by omega))) rfl (fun _ _ _ => rfl)
      · exact fun q => hLW _ _ _ _ _ _ _ _ (hl1 q) (fun i hi => (G i (by omega)).trans (F i (by omega))) rfl (fun _ _ _ => rfl)
set_option maxRecDepth 10000 in
theorem pair_count {LW : s_LW} (hLW : LWst LW) : ∀ A : Int32, Pair m_X11_count m_X12_count 0 0 (INV LW) [.int A] := by
  intro A n h hI
  obtain ⟨a, rfl, a0, a1⟩ := iI_of A
  obtain ⟨X, hX, hn, hR, hl, hl0, hl1⟩ := hI
  have p3 := hR.1.2.2.1; have p4 := hR.1.2.2.2.1; have p5 := hR.1.2.2.2.2.1; have p6 := hR.1.2.2.2.2.2.1; have p7 := hR.1.2.2.2.2.2.2.1; have p8 := hR.1.2.2.2.2.2.2.2
  have p3a := p3.1; have p4a := p4.1; have p5a := p5.1; have p6a := p6.1; have p8a := p8.1; have ta := hR.2.2.1.2.1
  refine ⟨3, 3, by decide, by decide, (sp_X11_count hn (hX 0 (by decide)) (hX 1 (by decide)) (hX 9 (by decide)) (hX 33 (by decide)) (hX 76 (by decide)) ⟨a0, a1⟩).mono (fun r n1 h1 q => ?_)⟩
  obtain ⟨rfl, rfl, rfl⟩ := q
  refine ⟨_, rfl, ⟨hn, _, (hX 77 (by decide)).trans (ent_77 _)⟩, (sp_X12_count hn (hX 77 (by decide)) (hX 78 (by decide)) (hX 79 (by decide)) ⟨a0, a1⟩).mono (fun r2 n2 h2 q => ?_)⟩
  obtain ⟨rfl, rfl, D77, G⟩ := q
  refine ⟨rfl, congrArg (fun x => some (Value.int (iI x))) ?_, ?_⟩
  · have w : (if 12 ≤ a ∧ a ≤ 14 then X 79 (6 + a - 12) else -1) = (if 12 ≤ a ∧ a ≤ 14 then X 9 (a - 12) else -1) := by
      by_cases q : 12 ≤ a ∧ a ≤ 14
      · rw [if_pos q, if_pos q, (p7 (a - 12) (by omega) (by omega)).1]; exact congrArg (X 79) (by omega)
      · rw [if_neg q, if_neg q]
    have rf := hR.2.2.2.1
    rw [w, ← p3a.1, ← p4a.1, ← p5a.1, ← p6a.1, ← p8a.1, ← ta.1, ← p8.2.1, ← rf.1, ← rf.2.1, ← rf.2.2.1, ← rf.2.2.2.1, ← rf.2.2.2.2]
  · refine ⟨(upL [(77, uI (X 77) 0 0)] X), ?_, hn, (RR_thrown hR), ?_, ?_, ?_⟩
    · intro j hj
      by_cases q77 : j = 77
      · subst q77; exact D77
      rw [upL_ne q77, upL_nil]
      exact (G j q77).trans (hX j hj)
    · exact hLW _ _ _ _ _ _ _ _ hl (fun i hi => (G i (by omega))) rfl (by intro j j0 j1; first | rfl | (show uI _ _ _ j = _; unfold uI; repeat rw [if_neg (by omega)]))
    · exact fun q => hLW _ _ _ _ _ _ _ _ (hl0 q) (fun i hi => (G i (by omega))) rfl (fun _ _ _ => rfl)
    · exact fun q => hLW _ _ _ _ _ _ _ _ (hl1 q) (fun i hi => (G i (by omega))) rfl (fun _ _ _ => rfl)
set_option maxRecDepth 10000 in
theorem pair_drawn {LW : s_LW} (hLW : LWst LW) : ∀ A : Int32, Pair m_X11_drawn m_X12_drawn 0 0 (INV LW) [.int A] := by
  intro A n h hI
  obtain ⟨a, rfl, a0, a1⟩ := iI_of A
  obtain ⟨X, hX, hn, hR, hl, hl0, hl1⟩ := hI
  have p3 := hR.1.2.2.1; have p4 := hR.1.2.2.2.1; have p5 := hR.1.2.2.2.2.1; have p6 := hR.1.2.2.2.2.2.1; have p7 := hR.1.2.2.2.2.2.2.1; have p8 := hR.1.2.2.2.2.2.2.2
  have p3a := p3.1; have p4a := p4.1; have p5a := p5.1; have p6a := p6.1; have p8a := p8.1; have ta := hR.2.2.1.2.1
  have sm := hR.2.2.2.2.1
  have sma := sm.1
  refine ⟨4, 3, by decide, by decide, (sp_X11_drawn hn (hX 0 (by decide)) (hX 52 (by decide)) (hX 54 (by decide)) ⟨a0, a1⟩ (by omega)).mono (fun r n1 h1 q => ?_)⟩
  obtain ⟨rfl, rfl, rfl⟩ := q
  refine ⟨_, rfl, ⟨hn, _, (hX 77 (by decide)).trans (ent_77 _)⟩, (sp_X12_drawn hn (hX 77 (by decide)) (hX 114 (by decide)) ⟨a0, a1⟩ (by omega)).mono (fun r2 n2 h2 q => ?_)⟩
  obtain ⟨rfl, rfl, D77, G⟩ := q
  refine ⟨rfl, congrArg (fun x => some (Value.int (iI x))) ?_, ?_⟩
  · rw [← sm.1.1]; by_cases q : X 52 5 = 1 ∧ 0 ≤ a ∧ a ≤ 63; rw [if_pos q, if_pos q]; exact (sm.2 a q.2.1 q.2.2).symm; rw [if_neg q, if_neg q]
  · refine ⟨(upL [(77, uI (X 77) 0 0)] X), ?_, hn, (RR_thrown hR), ?_, ?_, ?_⟩
    · intro j hj
      by_cases q77 : j = 77
      · subst q77; exact D77
      rw [upL_ne q77, upL_nil]
      exact (G j q77).trans (hX j hj)
    · exact hLW _ _ _ _ _ _ _ _ hl (fun i hi => (G i (by omega))) rfl (by intro j j0 j1; first | rfl | (show uI _ _ _ j = _; unfold uI; repeat rw [if_neg (by omega)]))
    · exact fun q => hLW _ _ _ _ _ _ _ _ (hl0 q) (fun i hi => (G i (by omega))) rfl (fun _ _ _ => rfl)
    · exact fun q => hLW _ _ _ _ _ _ _ _ (hl1 q) (fun i hi => (G i (by omega))) rfl (fun _ _ _ => rfl)

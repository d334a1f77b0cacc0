/-! FLAG: what it tells, its pair -/
theorem fOf_none {g : Int → Int} {a b : Int} : ∀ m : Nat, (∀ k : Int, 0 ≤ k → k < m → 0 ≤ g (k * 3 + 2)) → fOf g a b m = -1 → ∀ k : Int, 0 ≤ k → k < m → ¬ (g (k * 3) = a ∧ g (k * 3 + 1) = b) := by
  intro m
  induction m with
  | zero => intro _ _ k k0 k1; exact absurd k1 (by omega)
  | succ m ih =>
    intro hd h k k0 k1
    by_cases q : fOf g a b m = -1
    · by_cases qk : k < m
      · exact ih (fun k k0 k1 => hd k k0 (by omega)) q k k0 qk
      · have hk : k = (m : Int) := by omega
        subst hk
        intro q2
        have e1 := fOf_yes q q2
        have e2 := hd m (by omega) (by omega)
        rw [h] at e1
        omega
    · have e1 := fOf_stay q 1
      rw [h] at e1
      exact absurd e1.symm q
theorem RR_flag {X : Nat → Int → Int} {a b c : Int} (hR : RR X) (hc : 0 ≤ a ∧ a ≤ 10 ∧ 0 ≤ c ∧ c ≤ 3) (hb : 0 ≤ b ∧ b < X 1 9) (hf : fOf (X 6) a b (X 1 10).toNat = -1) (hl : X 1 10 < 24) : RR (upL [(6, uI (uI (uI (X 6) (X 1 10 * 3 + 0) a) (X 1 10 * 3 + 1) b) (X 1 10 * 3 + 2) c), (1, uI (X 1) 10 (X 1 10 + 1)), (79, uI (uI (uI (uI (X 79) (232 + 3 * X 79 1) a) (232 + 3 * X 79 1 + 1) b) (232 + 3 * X 79 1 + 2) c) 1 (X 79 1 + 1))] X) := by
  obtain ⟨⟨p1, p2, p3, p4, p5, p6, p7, p8⟩, s, t, rf, sm, kp, i0, i1, cs⟩ := hR
  have p9 := p4.1
  have hno := fOf_none (X 1 10).toNat (fun k k0 k1 => (p4.2.2.1 k k0 (by omega)).2.2.2.2.1) hf
  generalize hg : uI (uI (uI (X 6) (X 1 10 * 3 + 0) a) (X 1 10 * 3 + 1) b) (X 1 10 * 3 + 2) c = f
  generalize hr : uI (uI (uI (uI (X 79) (232 + 3 * X 79 1) a) (232 + 3 * X 79 1 + 1) b) (232 + 3 * X 79 1 + 2) c) 1 (X 79 1 + 1) = r
  have k : ∀ j : Int, (¬ j = 1 ∧ j < 232) ∨ 304 ≤ j → r j = X 79 j := fun j hj => by
    rw [← hr, uI_ne (by omega), uI_ne (by omega), uI_ne (by omega), uI_ne (by omega)]
  have kr : ∀ j : Int, 232 ≤ j → r j = if j = 232 + 3 * X 79 1 + 2 then c else if j = 232 + 3 * X 79 1 + 1 then b else if j = 232 + 3 * X 79 1 then a else X 79 j := fun j hj => by
    rw [← hr, uI_ne (by omega)]; rfl
  have kf : ∀ j : Int, f j = if j = X 1 10 * 3 + 2 then c else if j = X 1 10 * 3 + 1 then b else if j = X 1 10 * 3 + 0 then a else X 6 j := fun j => by
    rw [← hg]; rfl
  have r0 : r 1 = X 79 1 + 1 := by rw [← hr, uI_same]
  have f0 : f (X 1 10 * 3) = a := by rw [kf, if_neg (by omega), if_neg (by omega), if_pos (by omega)]
  have f1 : f (X 1 10 * 3 + 1) = b := by rw [kf, if_neg (by omega), if_pos rfl]
  have f2 : f (X 1 10 * 3 + 2) = c := by rw [kf, if_pos rfl]
  have fg : ∀ d : Int, 0 ≤ d → d < X 1 10 → f (d * 3) = X 6 (d * 3) ∧ f (d * 3 + 1) = X 6 (d * 3 + 1) ∧ f (d * 3 + 2) = X 6 (d * 3 + 2) := fun d d0 d1 => by
    refine ⟨?_, ?_, ?_⟩ <;> rw [kf, if_neg (by omega), if_neg (by omega), if_neg (by omega)]
  have q4 : P_flg (uI (X 1) 10 (X 1 10 + 1)) f r := by
    refine ⟨⟨?_, ?_, ?_⟩, fun j j0 j1 => ?_, fun d d0 d1 => ?_, fun d l d0 d1 l1 => ?_⟩
    · rw [uI_same, r0]; omega
    · rw [uI_same]; omega
    · rw [uI_same]; omega
    · have e := p4.2.1 j j0 j1
      rw [kf, kr _ (by omega)]
      by_cases q2 : j = X 1 10 * 3 + 2
      · rw [if_pos q2, if_pos (by omega)]
      rw [if_neg q2, if_neg (by omega : ¬ 232 + j = 232 + 3 * X 79 1 + 2)]
      by_cases q1 : j = X 1 10 * 3 + 1
      · rw [if_pos q1, if_pos (by omega)]
      rw [if_neg q1, if_neg (by omega : ¬ 232 + j = 232 + 3 * X 79 1 + 1)]
      by_cases q0 : j = X 1 10 * 3 + 0
      · rw [if_pos q0, if_pos (by omega)]
      rw [if_neg q0, if_neg (by omega : ¬ 232 + j = 232 + 3 * X 79 1)]
      exact e
    · rw [uI_same] at d1
      rw [uI_ne (by decide)]
      by_cases q : d = X 1 10
      · subst q; rw [f0, f1, f2]; omega
      · obtain ⟨e0, e1, e2⟩ := fg d d0 (by omega)
        rw [e0, e1, e2]; exact p4.2.2.1 d d0 (by omega)
    · rw [uI_same] at l1
      obtain ⟨e0, e1, -⟩ := fg d d0 (by omega)
      by_cases q : l = X 1 10
      · subst q; rw [f0, f1, e0, e1]; exact hno d d0 (by omega)
      · obtain ⟨g0, g1, -⟩ := fg l (by omega) (by omega)
        rw [e0, e1, g0, g1]; exact p4.2.2.2 d l d0 d1 (by omega)
  exact ⟨⟨p1.cg (fun j _ _ => k j (by omega)), p2.cg (fun j _ _ => k j (by omega)), p3.cg rfl (k 0 (by omega)) (fun j _ _ => k j (by omega)), q4, p5.cg rfl (k 2 (by omega)) (fun j _ _ => k j (by omega)), p6.cg rfl (k 3 (by omega)) (fun j _ _ => k j (by omega)), p7.cg (fun j _ _ => k j (by omega)), p8.cg rfl rfl (k 4 (by omega)) (k 5 (by omega))⟩, s, t, rf, sm, kp, i0, i1, cs⟩
set_option maxRecDepth 10000 in
theorem pair_flag {LW : s_LW} (hLW : LWst LW) : ∀ A B C : Int32, Pair m_X11_flag m_X12_flag 0 0 (INV LW) [.int A, .int B, .int C] := by
  intro A B C n h hI
  obtain ⟨a, rfl, a0, a1⟩ := iI_of A
  obtain ⟨b, rfl, b0, b1⟩ := iI_of B
  obtain ⟨c, rfl, c0, c1⟩ := iI_of C
  obtain ⟨X, hX, hn, hR, hl, hl0, hl1⟩ := hI
  have p3 := hR.1.2.2.1; have p4 := hR.1.2.2.2.1; have p5 := hR.1.2.2.2.2.1; have p6 := hR.1.2.2.2.2.2.1; have p7 := hR.1.2.2.2.2.2.2.1; have p8 := hR.1.2.2.2.2.2.2.2
  have p3a := p3.1; have p4a := p4.1; have p5a := p5.1; have p6a := p6.1; have p8a := p8.1; have ta := hR.2.2.1.2.1
  have hrow : X 79 1 = X 1 10 := p4a.1.symm
  have hcl : X 79 0 = X 1 9 := p3a.1.symm
  have hdx : ∀ k : Int, 0 ≤ k → k < X 1 10 → 0 ≤ X 6 (k * 3) ∧ X 6 (k * 3) ≤ 10 ∧ 0 ≤ X 6 (k * 3 + 1) ∧ X 6 (k * 3 + 1) ≤ 4 ∧ 0 ≤ X 6 (k * 3 + 2) ∧ X 6 (k * 3 + 2) ≤ 3 := fun k k0 k1 => by have := p4.2.2.1 k k0 k1; omega
  have hdm : ∀ k : Int, 0 ≤ k → k < X 79 1 → 0 ≤ X 79 (232 + k * 3) ∧ X 79 (232 + k * 3) ≤ 10 ∧ 0 ≤ X 79 (232 + (k * 3 + 1)) ∧ X 79 (232 + (k * 3 + 1)) ≤ 4 ∧ 0 ≤ X 79 (232 + (k * 3 + 2)) ∧ X 79 (232 + (k * 3 + 2)) ≤ 3 := fun k k0 k1 => by rw [← p4.2.1 _ (by omega) (by omega), ← p4.2.1 _ (by omega) (by omega), ← p4.2.1 _ (by omega) (by omega)]; exact hdx k k0 (by omega)
  have hff : fOf (fun j => X 79 (232 + j)) a b (X 79 1).toNat = fOf (X 6) a b (X 1 10).toNat := by rw [hrow]; exact fOf_cg _ (fun j j0 j1 => (p4.2.1 j j0 (by omega)).symm)
  by_cases t1 : (0 ≤ a ∧ a ≤ 10 ∧ 0 ≤ c ∧ c ≤ 3)
  · by_cases t2 : 0 ≤ b ∧ b < X 1 9
    · by_cases t3 : fOf (X 6) a b (X 1 10).toNat = -1
      · by_cases t4 : X 1 10 < 24
        · have hz : (0 ≤ a ∧ a ≤ 10 ∧ 0 ≤ c ∧ c ≤ 3) ∧ 0 ≤ b ∧ b < X 1 9 ∧ fOf (X 6) a b (X 1 10).toNat = -1 ∧ X 1 10 < 24 := ⟨t1, t2.1, t2.2, t3, t4⟩
          have hzm : (0 ≤ a ∧ a ≤ 10 ∧ 0 ≤ c ∧ c ≤ 3) ∧ 0 ≤ b ∧ b < X 79 0 ∧ fOf (fun j => X 79 (232 + j)) a b (X 79 1).toNat = -1 ∧ X 79 1 < 24 := by rw [hcl, hff, hrow]; exact hz
          refine ⟨4, 3, by decide, by decide, (sp_X11_flag_0 hn (hX 0 (by decide)) (hX 1 (by decide)) (hX 6 (by decide)) (hX 76 (by decide)) ⟨a0, a1⟩ ⟨b0, b1⟩ ⟨c0, c1⟩ (by omega) (by omega) hdx hz).mono (fun r n1 h1 q => ?_)⟩
          obtain ⟨rfl, rfl, E6, E1, E0, F⟩ := q
          refine ⟨_, rfl, ⟨hn, _, ((F 77 (by decide) (by decide) (by decide)).trans (hX 77 (by decide))).trans (ent_77 _)⟩, (sp_X12_flag_0 hn ((F 77 (by decide) (by decide) (by decide)).trans (hX 77 (by decide))) ((F 78 (by decide) (by decide) (by decide)).trans (hX 78 (by decide))) ((F 79 (by decide) (by decide) (by decide)).trans (hX 79 (by decide))) ⟨a0, a1⟩ ⟨b0, b1⟩ ⟨c0, c1⟩ (by omega) (by omega) hdm hzm).mono (fun r2 n2 h2 q => ?_)⟩
          obtain ⟨rfl, rfl, D79, D77, G⟩ := q
          refine ⟨rfl, congrArg (fun x => some (Value.int (iI x))) ?_, ?_⟩
          · rw [hrow]
          · refine ⟨(upL [(6, uI (uI (uI (X 6) (X 1 10 * 3 + 0) a) (X 1 10 * 3 + 1) b) (X 1 10 * 3 + 2) c), (1, uI (X 1) 10 (X 1 10 + 1)), (79, uI (uI (uI (uI (X 79) (232 + 3 * X 79 1) a) (232 + 3 * X 79 1 + 1) b) (232 + 3 * X 79 1 + 2) c) 1 (X 79 1 + 1))] (upL [(0, uI (X 0) 13 0), (77, uI (uI (X 77) 0 0) 1 0)] X)), ?_, hn, RR_flag (RR_status 0 hR) hz.1 ⟨hz.2.1, hz.2.2.1⟩ hz.2.2.2.1 hz.2.2.2.2, ?_, ?_, ?_⟩
            · intro j hj
              by_cases q6 : j = 6
              · subst q6; exact (G 6 (by decide) (by decide)).trans E6
              by_cases q1 : j = 1
              · subst q1; exact (G 1 (by decide) (by decide)).trans E1
              by_cases q0 : j = 0
              · subst q0; exact (G 0 (by decide) (by decide)).trans E0
              by_cases q79 : j = 79
              · subst q79; exact D79
              by_cases q77 : j = 77
              · subst q77; exact D77
              rw [upL_ne q6, upL_ne q1, upL_ne q79, upL_nil, upL_ne q0, upL_ne q77, upL_nil]
              exact (G j q79 q77).trans ((F j q6 q1 q0).trans (hX j hj))
            · exact hLW _ _ _ _ _ _ _ _ hl (fun i hi => (G i (by omega) (by omega)).trans (F i (by omega) (by omega) (by omega))) rfl (by intro j j0 j1; first | rfl | (show uI _ _ _ j = _; unfold uI; repeat rw [if_neg (by omega)]))
            · exact fun q => hLW _ _ _ _ _ _ _ _ (hl0 q) (fun i hi => (G i (by omega) (by omega)).trans (F i (by omega) (by omega) (by omega))) rfl (fun _ _ _ => rfl)
            · exact fun q => hLW _ _ _ _ _ _ _ _ (hl1 q) (fun i hi => (G i (by omega) (by omega)).trans (F i (by omega) (by omega) (by omega))) rfl (fun _ _ _ => rfl)
        · have hz : (0 ≤ a ∧ a ≤ 10 ∧ 0 ≤ c ∧ c ≤ 3) ∧ 0 ≤ b ∧ b < X 1 9 ∧ fOf (X 6) a b (X 1 10).toNat = -1 ∧ ¬ X 1 10 < 24 := ⟨t1, t2.1, t2.2, t3, t4⟩
          have hzm : (0 ≤ a ∧ a ≤ 10 ∧ 0 ≤ c ∧ c ≤ 3) ∧ 0 ≤ b ∧ b < X 79 0 ∧ fOf (fun j => X 79 (232 + j)) a b (X 79 1).toNat = -1 ∧ ¬ X 79 1 < 24 := by rw [hcl, hff, hrow]; exact hz
          refine ⟨4, 3, by decide, by decide, (sp_X11_flag_m5 hn (hX 0 (by decide)) (hX 1 (by decide)) (hX 6 (by decide)) (hX 76 (by decide)) ⟨a0, a1⟩ ⟨b0, b1⟩ ⟨c0, c1⟩ (by omega) (by omega) hdx hz).mono (fun r n1 h1 q => ?_)⟩
          obtain ⟨rfl, rfl, E0, E76, F⟩ := q
          refine ⟨_, rfl, ⟨hn, _, ((F 77 (by decide) (by decide)).trans (hX 77 (by decide))).trans (ent_77 _)⟩, (sp_X12_flag_m5 hn ((F 77 (by decide) (by decide)).trans (hX 77 (by decide))) ((F 78 (by decide) (by decide)).trans (hX 78 (by decide))) ((F 79 (by decide) (by decide)).trans (hX 79 (by decide))) ⟨a0, a1⟩ ⟨b0, b1⟩ ⟨c0, c1⟩ (by omega) (by omega) hdm hzm).mono (fun r2 n2 h2 q => ?_)⟩
          obtain ⟨rfl, rfl, D78, D77, G⟩ := q
          refine ⟨rfl, congrArg (fun x => some (Value.int (iI x))) ?_, ?_⟩
          · rfl
          · refine ⟨(upL [(76, uI (X 76) 3 (X 76 3 + 1)), (78, uI (X 78) 5 (X 78 5 + 1))] (upL [(0, uI (X 0) 13 (-5)), (77, uI (uI (X 77) 0 0) 1 (-5))] X)), ?_, hn, RR_ref5 (RR_status (-5) hR), ?_, ?_, ?_⟩
            · intro j hj
              by_cases q0 : j = 0
              · subst q0; exact (G 0 (by decide) (by decide)).trans E0
              by_cases q76 : j = 76
              · subst q76; exact (G 76 (by decide) (by decide)).trans E76
              by_cases q78 : j = 78
              · subst q78; exact D78
              by_cases q77 : j = 77
              · subst q77; exact D77
              rw [upL_ne q76, upL_ne q78, upL_nil, upL_ne q0, upL_ne q77, upL_nil]
              exact (G j q78 q77).trans ((F j q0 q76).trans (hX j hj))
            · exact hLW _ _ _ _ _ _ _ _ hl (fun i hi => (G i (by omega) (by omega)).trans (F i (by omega) (by omega))) rfl fun _ _ _ => rfl
            · exact fun q => hLW _ _ _ _ _ _ _ _ (hl0 q) (fun i hi => (G i (by omega) (by omega)).trans (F i (by omega) (by omega))) rfl (fun _ _ _ => rfl)
            · exact fun q => hLW _ _ _ _ _ _ _ _ (hl1 q) (fun i hi => (G i (by omega) (by omega)).trans (F i (by omega) (by omega))) rfl (fun _ _ _ => rfl)
      · have hz : (0 ≤ a ∧ a ≤ 10 ∧ 0 ≤ c ∧ c ≤ 3) ∧ 0 ≤ b ∧ b < X 1 9 ∧ ¬ fOf (X 6) a b (X 1 10).toNat = -1 := ⟨t1, t2.1, t2.2, t3⟩
        have hzm : (0 ≤ a ∧ a ≤ 10 ∧ 0 ≤ c ∧ c ≤ 3) ∧ 0 ≤ b ∧ b < X 79 0 ∧ ¬ fOf (fun j => X 79 (232 + j)) a b (X 79 1).toNat = -1 := by first | exact hz | (rw [hcl]; exact hz) | (rw [hcl, hff]; exact hz)
        refine ⟨4, 3, by decide, by decide, (sp_X11_flag_m3 hn (hX 0 (by decide)) (hX 1 (by decide)) (hX 6 (by decide)) (hX 76 (by decide)) ⟨a0, a1⟩ ⟨b0, b1⟩ ⟨c0, c1⟩ (by omega) (by omega) hdx hz).mono (fun r n1 h1 q => ?_)⟩
        obtain ⟨rfl, rfl, E0, E76, F⟩ := q
        refine ⟨_, rfl, ⟨hn, _, ((F 77 (by decide) (by decide)).trans (hX 77 (by decide))).trans (ent_77 _)⟩, (sp_X12_flag_m3 hn ((F 77 (by decide) (by decide)).trans (hX 77 (by decide))) ((F 78 (by decide) (by decide)).trans (hX 78 (by decide))) ((F 79 (by decide) (by decide)).trans (hX 79 (by decide))) ⟨a0, a1⟩ ⟨b0, b1⟩ ⟨c0, c1⟩ (by omega) (by omega) hdm hzm).mono (fun r2 n2 h2 q => ?_)⟩
        obtain ⟨rfl, rfl, D78, D77, G⟩ := q
        refine ⟨rfl, congrArg (fun x => some (Value.int (iI x))) ?_, ?_⟩
        · rfl
        · refine ⟨(upL [(76, uI (X 76) 2 (X 76 2 + 1)), (78, uI (X 78) 3 (X 78 3 + 1))] (upL [(0, uI (X 0) 13 (-3)), (77, uI (uI (X 77) 0 0) 1 (-3))] X)), ?_, hn, RR_ref3 (RR_status (-3) hR), ?_, ?_, ?_⟩
          · intro j hj
            by_cases q0 : j = 0
            · subst q0; exact (G 0 (by decide) (by decide)).trans E0
            by_cases q76 : j = 76
            · subst q76; exact (G 76 (by decide) (by decide)).trans E76
            by_cases q78 : j = 78
            · subst q78; exact D78
            by_cases q77 : j = 77
            · subst q77; exact D77
            rw [upL_ne q76, upL_ne q78, upL_nil, upL_ne q0, upL_ne q77, upL_nil]
            exact (G j q78 q77).trans ((F j q0 q76).trans (hX j hj))
          · exact hLW _ _ _ _ _ _ _ _ hl (fun i hi => (G i (by omega) (by omega)).trans (F i (by omega) (by omega))) rfl fun _ _ _ => rfl
          · exact fun q => hLW _ _ _ _ _ _ _ _ (hl0 q) (fun i hi => (G i (by omega) (by omega)).trans (F i (by omega) (by omega))) rfl (fun _ _ _ => rfl)
          · exact fun q => hLW _ _ _ _ _ _ _ _ (hl1 q) (fun i hi => (G i (by omega) (by omega)).trans (F i (by omega) (by omega))) rfl (fun _ _ _ => rfl)
    · have hz : (0 ≤ a ∧ a ≤ 10 ∧ 0 ≤ c ∧ c ≤ 3) ∧ ¬ (0 ≤ b ∧ b < X 1 9) := ⟨t1, t2⟩
      have hzm : (0 ≤ a ∧ a ≤ 10 ∧ 0 ≤ c ∧ c ≤ 3) ∧ ¬ (0 ≤ b ∧ b < X 79 0) := by first | exact hz | (rw [hcl]; exact hz) | (rw [hcl, hff]; exact hz)
      refine ⟨4, 3, by decide, by decide, (sp_X11_flag_m2 hn (hX 0 (by decide)) (hX 1 (by decide)) (hX 6 (by decide)) (hX 76 (by decide)) ⟨a0, a1⟩ ⟨b0, b1⟩ ⟨c0, c1⟩ (by omega) (by omega) hdx hz).mono (fun r n1 h1 q => ?_)⟩
      obtain ⟨rfl, rfl, E0, E76, F⟩ := q
      refine ⟨_, rfl, ⟨hn, _, ((F 77 (by decide) (by decide)).trans (hX 77 (by decide))).trans (ent_77 _)⟩, (sp_X12_flag_m2 hn ((F 77 (by decide) (by decide)).trans (hX 77 (by decide))) ((F 78 (by decide) (by decide)).trans (hX 78 (by decide))) ((F 79 (by decide) (by decide)).trans (hX 79 (by decide))) ⟨a0, a1⟩ ⟨b0, b1⟩ ⟨c0, c1⟩ (by omega) (by omega) hdm hzm).mono (fun r2 n2 h2 q => ?_)⟩
      obtain ⟨rfl, rfl, D78, D77, G⟩ := q
      refine ⟨rfl, congrArg (fun x => some (Value.int (iI x))) ?_, ?_⟩
      · rfl
      · refine ⟨(upL [(76, uI (X 76) 1 (X 76 1 + 1)), (78, uI (X 78) 2 (X 78 2 + 1))] (upL [(0, uI (X 0) 13 (-2)), (77, uI (uI (X 77) 0 0) 1 (-2))] X)), ?_, hn, RR_ref2 (RR_status (-2) hR), ?_, ?_, ?_⟩
        · intro j hj
          by_cases q0 : j = 0
          · subst q0; exact (G 0 (by decide) (by decide)).trans E0
          by_cases q76 : j = 76
          · subst q76; exact (G 76 (by decide) (by decide)).trans E76
          by_cases q78 : j = 78
          · subst q78; exact D78
          by_cases q77 : j = 77
          · subst q77; exact D77
          rw [upL_ne q76, upL_ne q78, upL_nil, upL_ne q0, upL_ne q77, upL_nil]
          exact (G j q78 q77).trans ((F j q0 q76).trans (hX j hj))
        · exact hLW _ _ _ _ _ _ _ _ hl (fun i hi => (G i (by omega) (by omega)).trans (F i (by omega) (by omega))) rfl fun _ _ _ => rfl
        · exact fun q => hLW _ _ _ _ _ _ _ _ (hl0 q) (fun i hi => (G i (by omega) (by omega)).trans (F i (by omega) (by omega))) rfl (fun _ _ _ => rfl)
        · exact fun q => hLW _ _ _ _ _ _ _ _ (hl1 q) (fun i hi => (G i (by omega) (by omega)).trans (F i (by omega) (by omega))) rfl (fun _ _ _ => rfl)
  · have hz : ¬ (0 ≤ a ∧ a ≤ 10 ∧ 0 ≤ c ∧ c ≤ 3) := t1
    have hzm : ¬ (0 ≤ a ∧ a ≤ 10 ∧ 0 ≤ c ∧ c ≤ 3) := by first | exact hz | (rw [hcl]; exact hz) | (rw [hcl, hff]; exact hz)
    refine ⟨4, 3, by decide, by decide, (sp_X11_flag_m1 hn (hX 0 (by decide)) (hX 1 (by decide)) (hX 6 (by decide)) (hX 76 (by decide)) ⟨a0, a1⟩ ⟨b0, b1⟩ ⟨c0, c1⟩ (by omega) (by omega) hdx hz).mono (fun r n1 h1 q => ?_)⟩
    obtain ⟨rfl, rfl, E0, E76, F⟩ := q
    refine ⟨_, rfl, ⟨hn, _, ((F 77 (by decide) (by decide)).trans (hX 77 (by decide))).trans (ent_77 _)⟩, (sp_X12_flag_m1 hn ((F 77 (by decide) (by decide)).trans (hX 77 (by decide))) ((F 78 (by decide) (by decide)).trans (hX 78 (by decide))) ((F 79 (by decide) (by decide)).trans (hX 79 (by decide))) ⟨a0, a1⟩ ⟨b0, b1⟩ ⟨c0, c1⟩ (by omega) (by omega) hdm hzm).mono (fun r2 n2 h2 q => ?_)⟩
    obtain ⟨rfl, rfl, D78, D77, G⟩ := q
    refine ⟨rfl, congrArg (fun x => some (Value.int (iI x))) ?_, ?_⟩
    · rfl
    · refine ⟨(upL [(76, uI (X 76) 0 (X 76 0 + 1)), (78, uI (X 78) 1 (X 78 1 + 1))] (upL [(0, uI (X 0) 13 (-1)), (77, uI (uI (X 77) 0 0) 1 (-1))] X)), ?_, hn, RR_ref1 (RR_status (-1) hR), ?_, ?_, ?_⟩
      · intro j hj
        by_cases q0 : j = 0
        · subst q0; exact (G 0 (by decide) (by decide)).trans E0
        by_cases q76 : j = 76
        · subst q76; exact (G 76 (by decide) (by decide)).trans E76
        by_cases q78 : j = 78
        · subst q78; exact D78
        by_cases q77 : j = 77
        · subst q77; exact D77
        rw [upL_ne q76, upL_ne q78, upL_nil, upL_ne q0, upL_ne q77, upL_nil]
        exact (G j q78 q77).trans ((F j q0 q76).trans (hX j hj))
      · exact hLW _ _ _ _ _ _ _ _ hl (fun i hi => (G i (by omega) (by omega)).trans (F i (by omega) (by omega))) rfl fun _ _ _ => rfl
      · exact fun q => hLW _ _ _ _ _ _ _ _ (hl0 q) (fun i hi => (G i (by omega) (by omega)).trans (F i (by omega) (by omega))) rfl (fun _ _ _ => rfl)
      · exact fun q => hLW _ _ _ _ _ _ _ _ (hl1 q) (fun i hi => (G i (by omega) (by omega)).trans (F i (by omega) (by omega))) rfl (fun _ _ _ => rfl)

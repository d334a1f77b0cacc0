/-! TEXTS: a leaf of the reference -/
theorem m_leafC {f : Int → Int} {n M : Int} {tk pl bh : Int → Int} {X : XT} {g op ar i v : Int} {c : zCD} {p : zPL} {d : Int} {Q : XT → Prop} (s : zRS f n M tk pl bh) (h : zMS f n M pl X i v c p d) (b : zMB i v c p d) (hg : R32 g) (hk : ¬ g = 0 → ¬ tk i = 29) (q1 : ¬ g = 0 → v < 50 → ∀ X1, MFr X X1 → zMS f n M pl X1 (i + 1) (v + 1) (zem c op ar) p d → Q X1) (q0 : (g = 0 ∨ 50 ≤ v) → Q (x_st (x_st X 77 14 1) 77 13 (X 77 9))) : w_X12_leaf g op ar X Q := by
  obtain ⟨hA, hb, hv, hc, hd⟩ := h
  obtain ⟨bc, bv, bd⟩ := b
  intro J hJ
  rw [hv]
  have bad : (g = 0 ∨ 50 ≤ v) → J 0 := fun z => hJ 0 (m_mustF hb ⟨by rw [x_st_ne (by decide), x_st_at]; decide, fun _ => q0 z, fun z2 => absurd z2 (by rw [x_st_ne (by decide), x_st_at]; decide)⟩)
  refine ⟨hg, fun z => bad (Or.inl z), fun z => ⟨by omega, fun y => bad (Or.inr y), fun y => hJ 1 (m_mustT s hA hb (by decide) (hk z) (fun X1 f1 a1 => ?_))⟩⟩
  have lt := at_lt s hA (hk z)
  have hM := s.1.1
  have hn := s.2.1
  have e14 : X1 77 14 = 0 := (f1.2 14 (by decide)).trans hb
  refine ⟨by rw [e14]; decide, fun z2 => absurd e14 z2, fun _ => m_emitC (hc.nx f1) bc.1.1 (by have := bc.1.2; have := pend_0 p; omega) (fun X2 f2 g2 c2 => q1 z (by omega) _ (((MFr.ofN f1).tr (MFr.ofS f2)).f7 (by decide)) ⟨?_, ?_, ?_, ?_, ?_⟩)⟩
  · exact a1.go (fun g hg => by rw [x_st_ne (by omega), f2.2 g (by omega) (by omega)]) (by rw [x_st_c (by decide), f2.1 82 rfl])
  · rw [x_st_ne (by decide), f2.2 14 (by decide) (by decide), e14]
  · rw [x_st_at, f2.2 21 (by decide) (by decide), f1.2 21 (by decide), hv]
  · exact c2.go (x_st_c (by decide)) (x_st_c (by decide)) (x_st_c (by decide)) (x_st_c (by decide)) (x_st_ne (by decide)) (x_st_ne (by decide))
  · rw [x_st_ne (by decide), f2.2 25 (by decide) (by decide), f1.2 25 (by decide)]; exact hd
theorem m_numC {f : Int → Int} {n M : Int} {tk pl bh : Int → Int} {X : XT} {lo hi i : Int} {Q : Int → XT → Prop} (s : zRS f n M tk pl bh) (hA : zAT f n M pl X i) (hb : X 77 14 = 0) (hl : 0 ≤ lo ∧ lo ≤ 1000 ∧ 0 ≤ hi ∧ hi ≤ 1000) (q1 : (lo ≤ tk i - 2000 ∧ tk i - 2000 ≤ hi) → ∀ X1, NFr X X1 → zAT f n M pl X1 (i + 1) → Q (tk i - 2000) X1) (q0 : ¬ (lo ≤ tk i - 2000 ∧ tk i - 2000 ≤ hi) → ∀ w, Q w (x_st (x_st X 77 14 1) 77 13 (X 77 9))) : w_X12_number lo hi X Q := by
  rcases (at_obs s hA).1 with ⟨h, h1⟩ | ⟨h, h1, _⟩ | ⟨h, h1, h2, h3, h4, h5⟩ | ⟨h, h1, h2⟩
  · exact ⟨by omega, fun z => m_mustF hb (q0 (by omega) _), fun z => absurd z (by omega)⟩
  · exact ⟨by omega, fun z => m_mustF hb (q0 (by omega) _), fun z => absurd z (by omega)⟩
  · refine ⟨by omega, fun z => absurd h z, fun _ => ⟨by omega, by omega, by omega, fun z => m_mustF hb (q0 (by omega) _), fun z => m_mustT s hA hb (by decide) (by omega) (fun X1 f1 a1 => ?_)⟩⟩
    rw [show X 77 12 = tk i - 2000 by omega]
    exact q1 (by omega) X1 f1 a1
  · exact ⟨by omega, fun z => m_mustF hb (q0 (by omega) _), fun z => absurd z (by omega)⟩
theorem zPt_r {lw : Bool} {t : Int} : -1 ≤ zPt lw t ∧ zPt lw t ≤ 8 ∧ (¬ zPt lw t = -1 → 0 ≤ zPt lw t ∧ 0 ≤ t ∧ t ≤ 14) ∧ (lw = false → 7 ≤ zPt lw t → t = zPt lw t + 6) := by
  unfold zPt
  cases lw
  · rw [if_neg (by decide)]
    by_cases h : 7 ≤ t ∧ t ≤ 14
    · rw [if_pos h]
      by_cases h1 : t = 7
      · rw [if_pos h1]; exact ⟨by decide, by decide, fun _ => by omega, fun _ z => absurd z (by decide)⟩
      · rw [if_neg h1]
        by_cases h2 : t ≤ 12
        · rw [if_pos h2]; exact ⟨by omega, by omega, fun _ => by omega, fun _ z => by omega⟩
        · rw [if_neg h2]; exact ⟨by omega, by omega, fun _ => by omega, fun _ z => by omega⟩
    · rw [if_neg h]; exact ⟨by decide, by decide, fun z => absurd rfl z, fun _ z => absurd z (by decide)⟩
  · rw [if_pos rfl]
    by_cases h : 0 ≤ t ∧ t ≤ 7
    · rw [if_pos h]
      by_cases h1 : t = 7
      · rw [if_pos h1]; exact ⟨by decide, by decide, fun _ => by omega, fun z => by cases z⟩
      · rw [if_neg h1]
        by_cases h2 : t = 6
        · rw [if_pos h2]; exact ⟨by decide, by decide, fun _ => by omega, fun z => by cases z⟩
        · rw [if_neg h2]; exact ⟨by omega, by omega, fun _ => by omega, fun z => by cases z⟩
    · rw [if_neg h]; exact ⟨by decide, by decide, fun z => absurd rfl z, fun z => by cases z⟩
theorem lfR_bad {lw : Bool} {tk : Int → Int} {i v : Int} (h : 50 ≤ v ∨ (¬ (2000 ≤ tk i ∧ tk i ≤ 3000) ∧ zPt lw (tk i) = -1)) : lfR lw tk i v = (false, i, v, (0, 0), (0, 0)) := by
  unfold lfR
  by_cases hv : 50 ≤ v
  · rw [if_pos hv]
  rw [if_neg hv]
  obtain ⟨h1, h2⟩ := h.resolve_left hv
  rw [if_neg h1]
  unfold zPt at h2
  cases lw
  · rw [if_neg (by decide)] at h2 ⊢
    by_cases h3 : 7 ≤ tk i ∧ tk i ≤ 14
    · rw [if_pos h3] at h2
      by_cases h4 : tk i = 7
      · rw [if_pos h4] at h2; omega
      · rw [if_neg h4] at h2
        by_cases h5 : tk i ≤ 12
        · rw [if_pos h5] at h2; omega
        · rw [if_neg h5] at h2; omega
    · rw [if_neg (by omega), if_neg (by omega)]
  · rw [if_pos rfl] at h2 ⊢
    by_cases h3 : 0 ≤ tk i ∧ tk i ≤ 7
    · rw [if_pos h3] at h2
      by_cases h4 : tk i = 7
      · rw [if_pos h4] at h2; omega
      · rw [if_neg h4] at h2
        by_cases h5 : tk i = 6
        · rw [if_pos h5] at h2; omega
        · rw [if_neg h5] at h2; omega
    · rw [if_neg h3]
theorem lfR_ok {lw : Bool} {tk : Int → Int} {i v : Int} (hv : v < 50) (h : (2000 ≤ tk i ∧ tk i ≤ 3000) ∨ ¬ zPt lw (tk i) = -1) (h7 : lw = true ∨ zPt lw (tk i) < 7) : ∃ y, lfR lw tk i v = (true, i + 1, v + 1, y, ((if zPt lw (tk i) = -1 then 0 else zPt lw (tk i)), (if 2000 ≤ tk i ∧ tk i ≤ 3000 then tk i - 2000 else 0))) := by
  have zr := (zPt_r (lw := lw) (t := tk i)).2.2.1
  unfold lfR
  rw [if_neg (by omega)]
  by_cases h1 : 2000 ≤ tk i ∧ tk i ≤ 3000
  · rw [if_pos h1, if_pos h1]
    have e : zPt lw (tk i) = -1 := by
      by_cases z : zPt lw (tk i) = -1
      · exact z
      · have := zr z; omega
    rw [if_pos e]; exact ⟨_, rfl⟩
  rw [if_neg h1, if_neg h1]
  have h2 := h.resolve_left h1
  rw [if_neg h2]
  unfold zPt at h2 h7 ⊢
  cases lw
  · rw [if_neg (by decide)] at h2 h7 ⊢
    by_cases h3 : 7 ≤ tk i ∧ tk i ≤ 14
    · rw [if_pos h3] at h7 ⊢
      by_cases h5 : tk i ≤ 12
      · rw [if_pos (by omega)]
        by_cases h4 : tk i = 7
        · rw [if_pos h4, if_neg (by decide), if_pos h4]; exact ⟨_, rfl⟩
        · rw [if_neg h4, if_neg (by decide), if_neg h4, if_pos h5]; exact ⟨_, rfl⟩
      · rw [if_neg (by omega), if_neg h5] at h7
        rcases h7 with h7 | h7
        · cases h7
        · omega
    · exact absurd (if_neg h3) h2
  · rw [if_pos rfl] at h2 ⊢
    by_cases h3 : 0 ≤ tk i ∧ tk i ≤ 7
    · rw [if_pos h3]
      by_cases h4 : tk i = 7
      · rw [if_pos h4, if_pos rfl, if_pos h3]; exact ⟨_, rfl⟩
      · rw [if_neg h4, if_pos rfl, if_pos h3]; exact ⟨_, rfl⟩
    · exact absurd (if_neg h3) h2
theorem lfR_or {tk : Int → Int} {i v : Int} (hv : v < 50) (h : 7 ≤ zPt false (tk i)) : ((0 ≤ tk (i + 1) - 2000 ∧ tk (i + 1) - 2000 ≤ 4) → (0 ≤ tk (i + 2) - 2000 ∧ tk (i + 2) - 2000 ≤ 11) → ∃ y, lfR false tk i v = (true, i + 3, v + 1, y, (zPt false (tk i), 12 * (tk (i + 1) - 2000) + (tk (i + 2) - 2000)))) ∧ ((0 ≤ tk (i + 1) - 2000 ∧ tk (i + 1) - 2000 ≤ 4) → ¬ (0 ≤ tk (i + 2) - 2000 ∧ tk (i + 2) - 2000 ≤ 11) → lfR false tk i v = (false, i + 2, v + 1, (0, 0), (0, 0))) ∧ (¬ (0 ≤ tk (i + 1) - 2000 ∧ tk (i + 1) - 2000 ≤ 4) → lfR false tk i v = (false, i + 1, v + 1, (0, 0), (0, 0))) := by
  have zr := zPt_r (lw := false) (t := tk i)
  have e := zr.2.2.2 rfl h
  have e2 : zPt false (tk i) = tk i - 6 := by omega
  rw [e2]
  unfold lfR
  rw [if_neg (by omega), if_neg (by omega), if_neg (by decide), if_neg (by omega), if_pos (by omega)]
  refine ⟨fun a b => ?_, fun a b => ?_, fun a => ?_⟩
  · rw [if_pos a, if_pos b]; exact ⟨_, rfl⟩
  · rw [if_pos a, if_neg b]
  · rw [if_neg a]

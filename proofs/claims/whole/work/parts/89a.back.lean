/-! THE PAIR back -/
theorem q_back {LW : s_LW} (hst : LWst LW) (hcp : LWcp LW) (a1 : Int32) : Pair m_X11_back m_X12_back 0 0 (INV LW) [.int a1] := by
  obtain ⟨a, rfl, ra⟩ := iI_of a1
  refine pair_i hst hcp (fun KQ X Q => w_X11_back KQ a X Q) (fun X Q => w_X12_back a X Q) (by decide) (by decide) (fun hK hn hp hf w => so_X11_back hK hn hp hf w) (fun hn hp w => so_X12_back hn hp w) (fun KQ X hR kq0 kq1 kq2 => ?_)
  have hR0 := hR
  obtain ⟨p, s, t, rf, sm, kp, i0, i1, cs⟩ := hR
  have x11 : X 11 0 = 12 ∧ X 11 1 = 22 := by rw [cs.1]; exact ⟨rfl, rfl⟩
  have bad : ∀ (z u : Int), (z = -1 ∧ u = 0) ∨ (z = -2 ∧ u = 1) → ((0 ≤ a ∧ a ≤ 1) → z = -2 ∧ X 32 a = 0) → (¬ (0 ≤ a ∧ a ≤ 1) → z = -1) → w_X11_refuse z X (fun v X1 => w_X12_back a X1 (fun v2 X2 => v2 = v ∧ RR X2 ∧ LWm X X2)) := by
    intro z u hz h1 h2
    refine e_refuse (s := u) (by omega) ?_
    have g := RR_refuse hR0 hz rfl
    have fin := m_tellN (a := z) (X := x_st (x_st (x_st X 0 13 z) 76 u (X 76 u + 1)) 77 0 0) (Q := fun v2 X2 => v2 = z ∧ RR X2 ∧ LWm X X2) (by omega) (by omega) ⟨rfl, g.1, LWm_of (fun d hd => g.2 d (by omega) (by omega) (by omega) (by omega))⟩
    refine ⟨ra, fun k => ⟨by omega, ?_⟩, fun k => ?_⟩
    · have e := h1 k
      have e81 : (x_st (x_st (x_st X 0 13 z) 76 u (X 76 u + 1)) 77 0 0) 81 a = 0 := by
        rw [x_st_c (by decide), x_st_c (by decide), x_st_c (by decide), ← (kp a k.1 k.2).1]; exact e.2
      rw [e81]
      refine ⟨by decide, fun k => absurd rfl k, fun _ => ?_⟩
      rw [e.1] at fin ⊢
      exact fin
    · rw [h2 k] at fin ⊢
      exact fin
  refine ⟨ra, fun c1 => ⟨by omega, by have := kp a c1.1 c1.2; omega, fun c2 => ⟨fun k0 => ⟨by rw [k0]; exact x11.1, ?_⟩, fun k0 => ⟨by rw [show a = 1 by omega]; exact x11.2, ?_⟩⟩, fun c2 => bad (-2) 1 (by omega) (fun _ => ⟨rfl, c2⟩) (fun k => absurd c1 k)⟩, fun c1 => bad (-1) 0 (by omega) (fun k => absurd k c1) (fun _ => rfl)⟩
  · subst k0
    have h32 : X 32 0 = 1 := by have := kp 0 c1.1 c1.2; omega
    refine e_copy 1 12 (by decide) (kq1 h32) (fun X1 o1 d1 => ?_)
    obtain ⟨d1, d2, d3, d4, d5, d6, d7, d8, d9, d0⟩ := d1
    show w_X12_back 0 (x_st X1 0 13 0) _
    have oc : ∀ c : Nat, ¬ c = 0 → (x_st X1 0 13 0) c = X1 c := fun c h1 => by rw [x_st_c h1]
    have n0 : ∀ f : Int, (x_st X1 0 13 0) 0 f = if f = 13 then 0 else X 0 f := fun f => by
      rw [x_st_s, o1 0 (by decide)]; rfl
    refine m_back (by decide) (by decide) (by rw [oc 81 (by decide), o1 81 (by decide), ← (kp 0 (by decide) (by decide)).1]; exact h32) (fun X2 y1 y2 y3 y4 => ?_)
    have z1 : ∀ c : Nat, ¬ c = 77 → ¬ c = 79 → ¬ c = 0 → X2 c = X1 c := fun c h1 h2 h3 => (y1 c h1 h2).trans (oc c h3)
    have z2 : ∀ c : Nat, ¬ c = 77 → ¬ c = 79 → ¬ c = 0 → (c < 1 ∨ 10 < c) → X2 c = X c := fun c h1 h2 h3 h4 => (z1 c h1 h2 h3).trans (o1 c h4)
    have e79 : ∀ j : Int, 0 ≤ j → j < 5780 → X2 79 j = X 80 (j) := fun j j0 j1 => by
      have := y4 j j0 j1
      rw [show 5780 * (0 : Int) + j = j by omega, oc 80 (by decide), o1 80 (by decide)] at this
      exact this
    refine ⟨rfl, RR_of hR0 ?_ (fun q => ?_) (fun q => ?_) ?_ ?_ ?_ (fun f f0 f1 => ?_) ?_ (fun d hd => z2 d (by omega) (by omega) (by omega) (by omega)), ?_⟩
    · rw [z1 1 (by decide) (by decide) (by decide), z1 2 (by decide) (by decide) (by decide), z1 3 (by decide) (by decide) (by decide), z1 4 (by decide) (by decide) (by decide), z1 5 (by decide) (by decide) (by decide), z1 6 (by decide) (by decide) (by decide), z1 7 (by decide) (by decide) (by decide), z1 8 (by decide) (by decide) (by decide), z1 9 (by decide) (by decide) (by decide)]
      exact (i0 h32).cp d0 d1 d2 d3 d4 d5 d6 d7 d8 e79
    · rw [z2 32 (by decide) (by decide) (by decide) (by decide)] at q
      rw [z2 12 (by decide) (by decide) (by decide) (by decide), z2 13 (by decide) (by decide) (by decide) (by decide), z2 14 (by decide) (by decide) (by decide) (by decide), z2 15 (by decide) (by decide) (by decide) (by decide), z2 16 (by decide) (by decide) (by decide) (by decide), z2 17 (by decide) (by decide) (by decide) (by decide), z2 18 (by decide) (by decide) (by decide) (by decide), z2 19 (by decide) (by decide) (by decide) (by decide), z2 20 (by decide) (by decide) (by decide) (by decide), z2 80 (by decide) (by decide) (by decide) (by decide)]
      exact i0 q
    · rw [z2 32 (by decide) (by decide) (by decide) (by decide)] at q
      rw [z2 22 (by decide) (by decide) (by decide) (by decide), z2 23 (by decide) (by decide) (by decide) (by decide), z2 24 (by decide) (by decide) (by decide) (by decide), z2 25 (by decide) (by decide) (by decide) (by decide), z2 26 (by decide) (by decide) (by decide) (by decide), z2 27 (by decide) (by decide) (by decide) (by decide), z2 28 (by decide) (by decide) (by decide) (by decide), z2 29 (by decide) (by decide) (by decide) (by decide), z2 30 (by decide) (by decide) (by decide) (by decide), z2 80 (by decide) (by decide) (by decide) (by decide)]
      exact i1 q
    · rw [y1 0 (by decide) (by decide), n0, y3]; rfl
    · rw [y1 0 (by decide) (by decide), n0]; rfl
    · rw [y1 0 (by decide) (by decide), n0]; rfl
    · rw [y2 f f0 f1, oc 77 (by decide), o1 77 (by decide)]
    · rw [z2 32 (by decide) (by decide) (by decide) (by decide), z2 81 (by decide) (by decide) (by decide) (by decide)]; exact kp
    · intro L cg l0 l1 l2
      refine ⟨?_, fun q => ?_, fun q => ?_⟩
      · rw [z1 10 (by decide) (by decide) (by decide), z1 1 (by decide) (by decide) (by decide)]
        exact cg _ _ _ _ _ _ (l1 h32) d9 (d0 13 (by decide) (by decide)) (fun j j0 j1 => e79 j (by omega) j1)
      · rw [z2 32 (by decide) (by decide) (by decide) (by decide)] at q
        rw [z2 21 (by decide) (by decide) (by decide) (by decide), z2 12 (by decide) (by decide) (by decide) (by decide), z2 80 (by decide) (by decide) (by decide) (by decide)]
        exact l1 q
      · rw [z2 32 (by decide) (by decide) (by decide) (by decide)] at q
        rw [z2 31 (by decide) (by decide) (by decide) (by decide), z2 22 (by decide) (by decide) (by decide) (by decide), z2 80 (by decide) (by decide) (by decide) (by decide)]
        exact l2 q
  · have ha : a = 1 := by omega
    subst ha
    have h32 : X 32 1 = 1 := by have := kp 1 c1.1 c1.2; omega
    refine e_copy 1 22 (by decide) (kq2 h32) (fun X1 o1 d1 => ?_)
    obtain ⟨d1, d2, d3, d4, d5, d6, d7, d8, d9, d0⟩ := d1
    show w_X12_back 1 (x_st X1 0 13 0) _
    have oc : ∀ c : Nat, ¬ c = 0 → (x_st X1 0 13 0) c = X1 c := fun c h1 => by rw [x_st_c h1]
    have n0 : ∀ f : Int, (x_st X1 0 13 0) 0 f = if f = 13 then 0 else X 0 f := fun f => by
      rw [x_st_s, o1 0 (by decide)]; rfl
    refine m_back (by decide) (by decide) (by rw [oc 81 (by decide), o1 81 (by decide), ← (kp 1 (by decide) (by decide)).1]; exact h32) (fun X2 y1 y2 y3 y4 => ?_)
    have z1 : ∀ c : Nat, ¬ c = 77 → ¬ c = 79 → ¬ c = 0 → X2 c = X1 c := fun c h1 h2 h3 => (y1 c h1 h2).trans (oc c h3)
    have z2 : ∀ c : Nat, ¬ c = 77 → ¬ c = 79 → ¬ c = 0 → (c < 1 ∨ 10 < c) → X2 c = X c := fun c h1 h2 h3 h4 => (z1 c h1 h2 h3).trans (o1 c h4)
    have e79 : ∀ j : Int, 0 ≤ j → j < 5780 → X2 79 j = X 80 (5780 + j) := fun j j0 j1 => by
      have := y4 j j0 j1
      rw [show 5780 * (1 : Int) + j = 5780 + j by omega, oc 80 (by decide), o1 80 (by decide)] at this
      exact this
    refine ⟨rfl, RR_of hR0 ?_ (fun q => ?_) (fun q => ?_) ?_ ?_ ?_ (fun f f0 f1 => ?_) ?_ (fun d hd => z2 d (by omega) (by omega) (by omega) (by omega)), ?_⟩
    · rw [z1 1 (by decide) (by decide) (by decide), z1 2 (by decide) (by decide) (by decide), z1 3 (by decide) (by decide) (by decide), z1 4 (by decide) (by decide) (by decide), z1 5 (by decide) (by decide) (by decide), z1 6 (by decide) (by decide) (by decide), z1 7 (by decide) (by decide) (by decide), z1 8 (by decide) (by decide) (by decide), z1 9 (by decide) (by decide) (by decide)]
      exact (i1 h32).cp d0 d1 d2 d3 d4 d5 d6 d7 d8 e79
    · rw [z2 32 (by decide) (by decide) (by decide) (by decide)] at q
      rw [z2 12 (by decide) (by decide) (by decide) (by decide), z2 13 (by decide) (by decide) (by decide) (by decide), z2 14 (by decide) (by decide) (by decide) (by decide), z2 15 (by decide) (by decide) (by decide) (by decide), z2 16 (by decide) (by decide) (by decide) (by decide), z2 17 (by decide) (by decide) (by decide) (by decide), z2 18 (by decide) (by decide) (by decide) (by decide), z2 19 (by decide) (by decide) (by decide) (by decide), z2 20 (by decide) (by decide) (by decide) (by decide), z2 80 (by decide) (by decide) (by decide) (by decide)]
      exact i0 q
    · rw [z2 32 (by decide) (by decide) (by decide) (by decide)] at q
      rw [z2 22 (by decide) (by decide) (by decide) (by decide), z2 23 (by decide) (by decide) (by decide) (by decide), z2 24 (by decide) (by decide) (by decide) (by decide), z2 25 (by decide) (by decide) (by decide) (by decide), z2 26 (by decide) (by decide) (by decide) (by decide), z2 27 (by decide) (by decide) (by decide) (by decide), z2 28 (by decide) (by decide) (by decide) (by decide), z2 29 (by decide) (by decide) (by decide) (by decide), z2 30 (by decide) (by decide) (by decide) (by decide), z2 80 (by decide) (by decide) (by decide) (by decide)]
      exact i1 q
    · rw [y1 0 (by decide) (by decide), n0, y3]; rfl
    · rw [y1 0 (by decide) (by decide), n0]; rfl
    · rw [y1 0 (by decide) (by decide), n0]; rfl
    · rw [y2 f f0 f1, oc 77 (by decide), o1 77 (by decide)]
    · rw [z2 32 (by decide) (by decide) (by decide) (by decide), z2 81 (by decide) (by decide) (by decide) (by decide)]; exact kp
    · intro L cg l0 l1 l2
      refine ⟨?_, fun q => ?_, fun q => ?_⟩
      · rw [z1 10 (by decide) (by decide) (by decide), z1 1 (by decide) (by decide) (by decide)]
        exact cg _ _ _ _ _ _ (l2 h32) d9 (d0 13 (by decide) (by decide)) (fun j j0 j1 => e79 j (by omega) j1)
      · rw [z2 32 (by decide) (by decide) (by decide) (by decide)] at q
        rw [z2 21 (by decide) (by decide) (by decide) (by decide), z2 12 (by decide) (by decide) (by decide) (by decide), z2 80 (by decide) (by decide) (by decide) (by decide)]
        exact l1 q
      · rw [z2 32 (by decide) (by decide) (by decide) (by decide)] at q
        rw [z2 31 (by decide) (by decide) (by decide) (by decide), z2 22 (by decide) (by decide) (by decide) (by decide), z2 80 (by decide) (by decide) (by decide) (by decide)]
        exact l2 q

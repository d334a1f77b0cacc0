/-! LAWS: what the reference tells -/
/-- the reference's side: the row r from b on -/
def zRl (Z : zLM) (m : Nat) (r : Int → Int) (b : Int) : Prop := r (b + 1) = (m : Int) ∧ ∀ k : Nat, k < m → ∃ p q u : Int, (0 ≤ p ∧ p ≤ q ∧ q ≤ u ∧ u ≤ 400) ∧ r (b + 2 + 8 * (k : Int)) = Z.1 k - 15 ∧ r (b + 2 + 8 * (k : Int) + 3) = p ∧ r (b + 2 + 8 * (k : Int) + 4) = q ∧ r (b + 2 + 8 * (k : Int) + 5) = q ∧ r (b + 2 + 8 * (k : Int) + 6) = u ∧ (¬ Z.1 k = 18 → ∃ L : Int, L ≤ 63 ∧ zRR true (fun j => r (b + 98 + 2 * j)) (fun j => r (b + 98 + 2 * j + 1)) p q (Z.2.1 k) L) ∧ (Z.2.2.1 k = true → zTB (Z.2.2.2 k) ∧ ∃ L : Int, L ≤ 63 ∧ zRR true (fun j => r (b + 98 + 2 * j)) (fun j => r (b + 98 + 2 * j + 1)) q u (Z.2.2.2 k) L) ∧ (Z.2.2.1 k = false → u = q)
theorem zRl.cg {Z : zLM} {m : Nat} {r r' : Int → Int} {b : Int} (h : zRl Z m r b) (hm : m ≤ 12) (e : ∀ j : Int, b ≤ j → j < b + 900 → r' j = r j) : zRl Z m r' b := by
  obtain ⟨h0, h1⟩ := h
  refine ⟨(e _ (by omega) (by omega)).trans h0, fun k hk => ?_⟩
  obtain ⟨p, q, u, a1, a2, a3, a4, a5, a6, a7, a8, a9⟩ := h1 k hk
  have ag : ∀ x y : Int, 0 ≤ x → y ≤ 400 → zAG x y (fun j => r (b + 98 + 2 * j)) (fun j => r' (b + 98 + 2 * j)) := fun x y x0 y1 j j0 j1 => e _ (by omega) (by omega)
  have ah : ∀ x y : Int, 0 ≤ x → y ≤ 400 → zAG x y (fun j => r (b + 98 + 2 * j + 1)) (fun j => r' (b + 98 + 2 * j + 1)) := fun x y x0 y1 j j0 j1 => e _ (by omega) (by omega)
  refine ⟨p, q, u, a1, (e _ (by omega) (by omega)).trans a2, (e _ (by omega) (by omega)).trans a3, (e _ (by omega) (by omega)).trans a4, (e _ (by omega) (by omega)).trans a5, (e _ (by omega) (by omega)).trans a6, fun z => ?_, fun z => ?_, a9⟩
  · obtain ⟨L, l1, l2⟩ := a7 z
    exact ⟨L, l1, l2.cg (ag p q (by omega) (by omega)) (ah p q (by omega) (by omega))⟩
  · obtain ⟨tb, L, l1, l2⟩ := a8 z
    exact ⟨tb, L, l1, l2.cg (ag q u (by omega) (by omega)) (ah q u (by omega) (by omega))⟩
/-- words: x y hour cloud layer shade mood day -/
def wdF (x y h c l s mo dy : Int) (a : Int) : Int := if a = 0 then x else if a = 1 then y else if a = 2 then h else if a = 3 then c else if a = 4 then l else if a = 5 then s else if a = 6 then mo else dy
theorem wdF_r {x y h c l s mo dy : Int} (h0 : -1000 ≤ x ∧ x ≤ 1000) (h1 : -1000 ≤ y ∧ y ≤ 1000) (h2 : -1000 ≤ h ∧ h ≤ 1000) (h3 : -1000 ≤ c ∧ c ≤ 1000) (h4 : -1000 ≤ l ∧ l ≤ 1000) (h5 : -1000 ≤ s ∧ s ≤ 1000) (h6 : -1000 ≤ mo ∧ mo ≤ 1000) (h7 : -1000 ≤ dy ∧ dy ≤ 1000) (a : Int) : -1000 ≤ wdF x y h c l s mo dy a ∧ wdF x y h c l s mo dy a ≤ 1000 := by
  unfold wdF
  split; exact h0
  split; exact h1
  split; exact h2
  split; exact h3
  split; exact h4
  split; exact h5
  split; exact h6
  exact h7
/-- the reference's words, 1 .. 8 -/
def zWs (w : Int → Int) (g : Int → Int) : Prop := g 1 = w 0 ∧ g 2 = w 1 ∧ g 3 = w 2 ∧ g 4 = w 3 ∧ g 5 = w 4 ∧ g 6 = w 5 ∧ g 7 = w 7 ∧ g 8 = w 6
theorem lfR_law {tk : Int → Int} {i v : Int} (h : (lfR true tk i v).1 = true) : (∃ a : Int, (lfR true tk i v).2.2.2 = ((1, a), (0, a))) ∨ ∃ a : Int, (0 ≤ a ∧ a ≤ 7) ∧ (lfR true tk i v).2.2.2 = ((2, a), (if a = 7 then 7 else if a = 6 then 8 else a + 1, 0)) := by
  revert h
  unfold lfR
  split
  · intro h; cases h
  split
  · intro _; exact Or.inl ⟨_, rfl⟩
  rw [if_pos rfl]
  split
  · rename_i hk
    intro _; exact Or.inr ⟨_, hk, rfl⟩
  · intro h; cases h
theorem cmp_law {w g now cn : Int → Int} {r0 : Int} (h : zWs w g) : cmpL true (lfF w) (rlF 0 g now r0 cn) := by
  obtain ⟨g1, g2, g3, g4, g5, g6, g7, g8⟩ := h
  intro tk i v hl
  rcases lfR_law hl with ⟨a, e⟩ | ⟨a, ha, e⟩
  · rw [e]
    show rlF 0 g now r0 cn 0 a = lfF w 1 a
    unfold lfF rlF ftF
    rw [if_pos rfl, if_pos (Or.inl rfl)]
  · rw [e]
    show rlF 0 g now r0 cn (if a = 7 then 7 else if a = 6 then 8 else a + 1) 0 = lfF w 2 a
    have e2 : lfF w 2 a = w a := by
      unfold lfF ftF
      rw [if_neg (by omega), if_pos rfl, if_pos (by omega)]
    have e1 : ∀ o : Int, 1 ≤ o → rlF 0 g now r0 cn o 0 = g o := fun o ho => by
      unfold rlF
      rw [if_neg (by omega), if_pos rfl]
    rw [e2]
    rcases (show a = 0 ∨ a = 1 ∨ a = 2 ∨ a = 3 ∨ a = 4 ∨ a = 5 ∨ a = 6 ∨ a = 7 by omega) with rfl | rfl | rfl | rfl | rfl | rfl | rfl | rfl
    · exact (e1 1 (by decide)).trans g1
    · exact (e1 2 (by decide)).trans g2
    · exact (e1 3 (by decide)).trans g3
    · exact (e1 4 (by decide)).trans g4
    · exact (e1 5 (by decide)).trans g5
    · exact (e1 6 (by decide)).trans g6
    · exact (e1 8 (by decide)).trans g8
    · exact (e1 7 (by decide)).trans g7
theorem rlF_r {w g now cn : Int → Int} {r0 : Int} (h : zWs w g) (hw : ∀ a : Int, 0 ≤ a → a ≤ 7 → -1000 ≤ w a ∧ w a ≤ 1000) {o a : Int} (hz : zvR true o a) : -1000000000 ≤ rlF 0 g now r0 cn o a ∧ rlF 0 g now r0 cn o a ≤ 1000000000 := by
  obtain ⟨g1, g2, g3, g4, g5, g6, g7, g8⟩ := h
  unfold rlF
  rcases hz with ⟨z1, z2⟩ | ⟨_, z2⟩ | ⟨z1, _⟩ | ⟨z1, _⟩
  · rw [if_pos z1]; omega
  · rw [if_neg (by omega), if_pos rfl]
    have b0 := hw 0 (by decide) (by decide)
    have b1 := hw 1 (by decide) (by decide)
    have b2 := hw 2 (by decide) (by decide)
    have b3 := hw 3 (by decide) (by decide)
    have b4 := hw 4 (by decide) (by decide)
    have b5 := hw 5 (by decide) (by decide)
    have b6 := hw 6 (by decide) (by decide)
    have b7 := hw 7 (by decide) (by decide)
    rcases (show o = 1 ∨ o = 2 ∨ o = 3 ∨ o = 4 ∨ o = 5 ∨ o = 6 ∨ o = 7 ∨ o = 8 by omega) with e | e | e | e | e | e | e | e <;> rw [e] <;> omega
  · cases z1
  · cases z1
/-- the state in which the reference goes through a law's clauses -/
def zTs (r w : Int → Int) (b : Int) (X Y : XT) : Prop := Gx [91, 93] X Y ∧ Y 79 = r ∧ Y 77 15 = 0 ∧ Y 77 29 = b ∧ zWs w (Y 91)
theorem zTs.rk {r w : Int → Int} {b : Int} {X Y Y1 : XT} (h : zTs r w b X Y) (a : zRk Y Y1) : zTs r w b X Y1 := by
  obtain ⟨h1, h2, h3, h4, h5⟩ := h
  refine ⟨h1.trans ⟨fun c hc k => a.1 c k (fun e => by rw [e] at hc; cases hc), fun f hf => a.2 f (fun e => by rw [e] at hf; exact absurd hf (by decide)) (fun e => by rw [e] at hf; exact absurd hf (by decide))⟩, (a.1 79 (by decide) (by decide)).trans h2, (a.2 15 (by decide) (by decide)).trans h3, (a.2 29 (by decide) (by decide)).trans h4, ?_⟩
  rw [a.1 91 (by decide) (by decide)]; exact h5
theorem m_sec {r w : Int → Int} {b p q L : Int} {D : zDT} {X Y : XT} {Q : XT → Prop} (h : zTs r w b X Y) (hw : ∀ a : Int, 0 ≤ a → a ≤ 7 → -1000 ≤ w a ∧ w a ≤ 1000) (r0 : 0 ≤ r 0 ∧ r 0 ≤ 5) (hb : 380 ≤ b ∧ b ≤ 4880) (hp : 0 ≤ p ∧ p ≤ q ∧ q ≤ 400) (L1 : L ≤ 63) (hr : zRR true (fun j => r (b + 98 + 2 * j)) (fun j => r (b + 98 + 2 * j + 1)) p q D L) (k : ∀ Y1, zTs r w b X Y1 → ((D (lfF w) = none ∧ Y1 77 33 = 1) ∨ ∃ v, D (lfF w) = some v ∧ Y1 77 33 = 0 ∧ Y1 77 34 = v ∧ -1000001000 ≤ v ∧ v ≤ 1000001000) → Q Y1) : w_X12_reckonAll p q Y Q := by
  obtain ⟨h1, h2, h3, h4, h5⟩ := id h
  obtain ⟨n0, hn, hrun⟩ := zRR_fin hr L1 (cmp_law (w := w) (g := Y 91) (now := Y 92) (cn := Y 94) (r0 := Y 79 0) h5)
  refine m_reckonAll (lw := true) (by omega) (by omega) (by omega) (Or.inl ⟨h3, rfl, fun j j0 j1 => ?_⟩) (by rw [h3]) (by rw [h2]; exact r0) (fun y => by cases y) hrun (fun o a hz => rlF_r h5 hw hz) (fun Y1 a1 a2 => k Y1 (h.rk a1) a2)
  rw [h4, h2]
  exact ⟨by omega, rfl, rfl⟩
theorem m_isSo {Z : zLM} {m k : Nat} {r w : Int → Int} {b : Int} {X Y : XT} {Q : Int → XT → Prop} (h : zTs r w b X Y) (hR : zRl Z m r b) (hk : k < m) (hm : m ≤ 12) (hZ : 15 ≤ Z.1 k ∧ Z.1 k ≤ 18) (hw : ∀ a : Int, 0 ≤ a → a ≤ 7 → -1000 ≤ w a ∧ w a ≤ 1000) (r0 : 0 ≤ r 0 ∧ r 0 ≤ 5) (hb : 380 ≤ b ∧ b ≤ 4880) (q0 : ¬ ((Z.2.2.1 k = true → Z.2.2.2 k (lfF w) = some 1) ∧ (¬ Z.1 k = 18 → ∃ v, Z.2.1 k (lfF w) = some v)) → ∀ Y1, zTs r w b X Y1 → Q 0 Y1) (q1 : (Z.2.2.1 k = true → Z.2.2.2 k (lfF w) = some 1) → ∀ v, (¬ Z.1 k = 18 → Z.2.1 k (lfF w) = some v) → ∀ Y1, zTs r w b X Y1 → (¬ Z.1 k = 18 → Y1 77 35 = v ∧ -1000001000 ≤ v ∧ v ≤ 1000001000) → Q 1 Y1) : w_X12_isSo (b + 2 + 8 * (k : Int)) Y Q := by
  obtain ⟨hm0, hc⟩ := hR
  obtain ⟨p, q, u, a1, a2, a3, a4, a5, a6, a7, a8, a9⟩ := hc k hk
  have e79 := h.2.1
  refine ⟨by omega, by omega, ?_⟩
  intro J4 hJ4
  have st35 : ∀ (Y1 : XT) (v : Int), zTs r w b X Y1 → zTs r w b X (x_st Y1 77 35 v) := fun Y1 v g => ⟨g.1.st7 (by decide), by rw [x_st_c (by decide)]; exact g.2.1, by rw [x_st_ne (by decide)]; exact g.2.2.1, by rw [x_st_ne (by decide)]; exact g.2.2.2.1, by rw [x_st_c (by decide)]; exact g.2.2.2.2⟩
  have sum : ∀ Y1, zTs r w b X Y1 → (Z.2.2.1 k = true → Z.2.2.2 k (lfF w) = some 1) → J4 Y1 := by
    intro Y1 g ht
    refine hJ4 Y1 ?_
    rw [g.2.1]
    refine ⟨by omega, by rw [a2]; omega, fun z => ?_, fun z => ⟨by omega, by omega, ?_⟩⟩
    · rw [a2] at z
      exact q1 ht 0 (fun y => absurd (show Z.1 k = 18 by omega) y) Y1 g (fun y => absurd (show Z.1 k = 18 by omega) y)
    · rw [a2] at z
      have n18 : ¬ Z.1 k = 18 := by omega
      obtain ⟨L, l1, l2⟩ := a7 n18
      rw [a3, a4]
      refine m_sec g hw r0 hb ⟨a1.1, a1.2.1, by omega⟩ l1 l2 (fun Y2 g2 hD => ?_)
      have e33 : (x_st Y2 77 35 (Y2 77 34)) 77 33 = Y2 77 33 := x_st_ne (by decide)
      rw [e33]
      rcases hD with ⟨d1, d2⟩ | ⟨v, d1, d2, d3, d4⟩
      · rw [d2]
        refine ⟨by decide, fun _ => q0 (fun y => ?_) _ (st35 Y2 _ g2), fun y => absurd y (by decide)⟩
        obtain ⟨v, hv⟩ := y.2 n18
        rw [d1] at hv; cases hv
      · rw [d2]
        exact ⟨by decide, fun y => absurd rfl y, fun _ => q1 ht v (fun _ => d1) _ (st35 Y2 _ g2) (fun _ => ⟨by rw [x_st_at]; exact d3, d4⟩)⟩
  rw [e79, a5, a6]
  refine ⟨by omega, by omega, fun z => sum Y h (fun y => ?_), fun z => ?_⟩
  · obtain ⟨_, L, _, l2⟩ := a8 y
    have := l2.2.1; omega
  · have hW : Z.2.2.1 k = true := by
      cases hW : Z.2.2.1 k
      · have := a9 hW; omega
      · rfl
    obtain ⟨tb, L, l1, l2⟩ := a8 hW
    refine m_sec h hw r0 hb ⟨by omega, by omega, by omega⟩ l1 l2 (fun Y2 g2 hD => ?_)
    rcases hD with ⟨d1, d2⟩ | ⟨v, d1, d2, d3, d4⟩
    · rw [d2]
      refine ⟨by decide, fun _ => q0 (fun y => ?_) Y2 g2, fun y => absurd y (by decide)⟩
      have := y.1 hW
      rw [d1] at this; cases this
    · rw [d2, d3]
      have v01 := tb _ _ d1
      refine ⟨by decide, fun y => absurd rfl y, fun _ => ⟨by omega, fun y => sum Y2 g2 (fun _ => ?_), fun y => q0 (fun y2 => ?_) Y2 g2⟩⟩
      · rw [d1]; congr 1; omega
      · have := y2.1 hW
        rw [d1] at this; cases this; exact absurd y (by decide)

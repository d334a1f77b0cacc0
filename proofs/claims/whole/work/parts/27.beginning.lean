/-! THE RELATION AT THE BEGINNING -/
theorem X0_79 (k : Int) : X0 79 k = if 41 ≤ k ∧ k < 233 ∧ (k - 41) % 3 = 0 then 100 else uI (uI (fun _ => 0) 5 (-1)) 7 2 k := rfl
theorem X0_79z {k : Int} (h : ¬ (41 ≤ k ∧ k < 233 ∧ (k - 41) % 3 = 0)) (h5 : ¬ k = 5) (h7 : ¬ k = 7) : X0 79 k = 0 := by
  rw [X0_79, if_neg h, uI_ne h7, uI_ne h5]
theorem X0_2 (k : Int) : X0 2 k = if 64 ≤ k ∧ k < 128 then 100 else 0 := rfl
theorem RR_X0 : RR X0 := by
  refine ⟨⟨fun a b a0 a1 b0 b1 => ?_, fun l l0 l1 => ?_, ⟨⟨?_, ?_, ?_⟩, fun j j0 j1 => ?_, fun c c0 c1 => absurd (show c < (0 : Int) from c1) (by omega)⟩, ⟨⟨?_, ?_, ?_⟩, fun j j0 j1 => ?_, fun c c0 c1 => absurd (show c < (0 : Int) from c1) (by omega), fun c d c0 c1 d1 => absurd (show d < (0 : Int) from d1) (by omega)⟩, ⟨⟨?_, ?_, ?_⟩, fun j j0 j1 => ?_, fun c c0 c1 => absurd (show c < (0 : Int) from c1) (by omega)⟩, ⟨⟨?_, ?_, ?_⟩, fun j j0 j1 => ?_, fun c c0 c1 => absurd (show c < (0 : Int) from c1) (by omega)⟩, fun j j0 j1 => ?_, ⟨?_, ?_, ?_⟩, ?_, ?_, ?_⟩, ⟨rfl, rfl, rfl⟩, ⟨rfl, ⟨rfl, ?_, ?_⟩, fun j j0 j1 => absurd (show j < (0 : Int) from j1) (by omega)⟩, ⟨rfl, rfl, rfl, rfl, rfl⟩, ⟨⟨rfl, ?_, ?_⟩, fun _ _ _ => rfl⟩, fun k _ _ => ⟨rfl, ?_, ?_⟩, fun q => ?_, fun q => ?_, ⟨rfl, rfl, rfl, rfl, rfl⟩⟩
  · by_cases hb : b = 1
    · rw [X0_2, X0_79, if_pos (by omega), if_pos (by omega)]; omega
    · rw [X0_2, if_neg (by omega), X0_79z (by omega) (by omega) (by omega)]; omega
  · rw [X0_79z (k := 9 + 2 * l) (by omega) (by omega) (by omega), X0_79z (k := 9 + 2 * l + 1) (by omega) (by omega) (by omega)]
    exact ⟨rfl, rfl, (show (-1 : Int) ≤ 0 by decide), (show (0 : Int) ≤ 1 by decide), (show (-1 : Int) ≤ 0 by decide), (show (0 : Int) ≤ 1 by decide)⟩
  all_goals first
    | (rw [X0_79z (by omega) (by omega) (by omega)]; rfl)
    | rfl
    | decide
    | skip
  · rcases (show j = 0 ∨ j = 1 ∨ j = 2 by omega) with rfl | rfl | rfl <;> decide +kernel
  · show (0 : Int) ≤ 0
    decide
  · show (0 : Int) ≤ 1
    decide
  · exact absurd (show (0 : Int) = 1 from q) (by decide)
  · exact absurd (show (0 : Int) = 1 from q) (by decide)
/-- the state at the beginning, where the laws' texts ask nothing of no law -/
theorem INV_X0 {LW : s_LW} (h0 : ∀ h, LW 115 h (X0 10) (X0 1) (X0 79)) : ∀ h, Pic X0 h → INV LW 115 h := fun h hp =>
  ⟨X0, hp, Nat.le_refl _, RR_X0, h0 h, fun q => absurd (show (0 : Int) = 1 from q) (by decide), fun q => absurd (show (0 : Int) = 1 from q) (by decide)⟩

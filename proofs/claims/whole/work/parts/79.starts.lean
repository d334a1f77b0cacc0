/-! MEN: the class goes through the starts -/
def lfM (n : Int) (m : Int → Int) : Int → Bool := fun i => !decide (fsF (fun w => m w = i) n.toNat 0 = -1)
theorem lfM_t {n i : Int} {m : Int → Int} (n0 : 0 ≤ n) : lfM n m i = true ↔ ∃ j : Int, (0 ≤ j ∧ j < n) ∧ m j = i := by
  unfold lfM
  rw [Bool.not_eq_true', decide_eq_false_iff_not]
  constructor
  · intro h
    obtain ⟨e1, _, e3, e4⟩ := fsF_at n.toNat 0 h (by decide)
    exact ⟨_, ⟨e3, by omega⟩, e1⟩
  · rintro ⟨j, jr, e⟩ h
    exact fsF_none n.toNat 0 (by decide) h j jr.1 (by omega) e
theorem lf_cnt {n : Int} {m : Int → Int} (n0 : 0 ≤ n) (b : ∀ j : Int, 0 ≤ j → j < n → m j = -1 ∨ (0 ≤ m j ∧ m j < n)) (inj : mINJ n (fun _ => 0) m) : cnt (fun j => !decide (m j = -1)) n.toNat = cnt (lfM n m) n.toNat := by
  refine Int.le_antisymm ?_ ?_
  · refine pigeon (f := m) n.toNat n.toNat _ _ (fun j j0 j1 hj => ?_) (fun i j i0 ij j1 hi hj => ?_)
    · rw [Bool.not_eq_true', decide_eq_false_iff_not] at hj
      have := (b j j0 (by omega)).resolve_left hj
      exact ⟨by omega, (lfM_t n0).mpr ⟨j, by omega, rfl⟩⟩
    · rw [Bool.not_eq_true', decide_eq_false_iff_not] at hi
      exact inj i j i0 (by omega) (by omega) (by omega) (by omega) rfl rfl hi
  · refine pigeon (f := fun i => fsF (fun w => m w = i) n.toNat 0) n.toNat n.toNat _ _ (fun i i0 i1 hi => ?_) (fun i j i0 ij j1 hi hj e => ?_)
    · unfold lfM at hi
      rw [Bool.not_eq_true', decide_eq_false_iff_not] at hi
      obtain ⟨e1, _, e3, e4⟩ := fsF_at n.toNat 0 hi (by decide)
      refine ⟨by (try dsimp only); omega, ?_⟩
      (try dsimp only)
      rw [Bool.not_eq_true', decide_eq_false_iff_not, e1]
      omega
    · unfold lfM at hi hj
      rw [Bool.not_eq_true', decide_eq_false_iff_not] at hi hj
      obtain ⟨e1, _⟩ := fsF_at n.toNat 0 hi (by decide)
      obtain ⟨e2, _⟩ := fsF_at n.toNat 0 hj (by decide)
      (try dsimp only at e)
      rw [e] at e1
      omega
theorem plus_cnt {n l : Int} {m m' : Int → Int} (n0 : 0 ≤ n) (l0 : 0 ≤ l) (l1 : l < n) (b : ∀ j : Int, 0 ≤ j → j < n → m j = -1 ∨ (0 ≤ m j ∧ m j < n)) (b' : ∀ j : Int, 0 ≤ j → j < n → m' j = -1 ∨ (0 ≤ m' j ∧ m' j < n)) (inj : mINJ n (fun _ => 0) m) (nl : ∀ j : Int, 0 ≤ j → j < n → ¬ m j = l) (h : mPLUS n (fun _ => 0) m m' l) : cnt (fun j => !decide (m' j = -1)) n.toNat = cnt (fun j => !decide (m j = -1)) n.toNat + 1 := by
  rw [lf_cnt n0 b inj, lf_cnt n0 b' h.2.1]
  have yl : lfM n m' l = true := (lfM_t n0).mpr (by
    obtain ⟨j, jr, _, e⟩ := (h.2.2 l (by omega)).mpr (Or.inl rfl)
    exact ⟨j, jr, e⟩)
  have o := cnt_out yl n.toNat l0 (by omega)
  rw [cnt_cg (q := lfM n m) n.toNat (fun i i0 i1 => ?_)] at o
  · omega
  · have hh := h.2.2 i (by omega)
    by_cases hq : i = l
    · rw [decide_eq_true hq, Bool.not_true, Bool.and_false]
      cases hz : lfM n m i with
      | false => rfl
      | true =>
        obtain ⟨j, jr, e⟩ := (lfM_t n0).mp hz
        exact absurd (e.trans hq) (nl j jr.1 jr.2)
    · rw [decide_eq_false hq, Bool.not_false, Bool.and_true]
      have : lfM n m' i = true ↔ lfM n m i = true := by
        rw [lfM_t n0, lfM_t n0]
        constructor
        · rintro ⟨j, jr, e⟩
          rcases hh.mp ⟨j, jr, rfl, e⟩ with z | ⟨k, kr, _, ek⟩
          · exact absurd z hq
          · exact ⟨k, kr, ek⟩
        · rintro ⟨j, jr, e⟩
          obtain ⟨k, kr, _, ek⟩ := hh.mpr (Or.inr ⟨j, jr, rfl, e⟩)
          exact ⟨k, kr, ek⟩
      cases h1 : lfM n m' i <;> cases h2 : lfM n m i <;> simp_all

/-! MEN: the class's search for a way -/
def mINJ (n : Int) (u m : Int → Int) : Prop := ∀ i j : Int, 0 ≤ i → i < n → 0 ≤ j → j < n → ¬ i = j → u i = 0 → u j = 0 → ¬ m i = -1 → ¬ m i = m j
def mPLUS (n : Int) (u m m' : Int → Int) (l : Int) : Prop := (∀ j : Int, 0 ≤ j → j < n → ¬ u j = 0 → m' j = m j) ∧ mINJ n u m' ∧ ∀ p : Int, ¬ p = -1 → ((∃ j : Int, (0 ≤ j ∧ j < n) ∧ u j = 0 ∧ m' j = p) ↔ (p = l ∨ ∃ j : Int, (0 ≤ j ∧ j < n) ∧ u j = 0 ∧ m j = p))
def mDEAD (n : Int) (E : Int → Int → Bool) (V : Int → Prop) (m : Int → Int) : Prop := ∀ v : Int, 0 ≤ v → v < n → V v → ¬ m v = -1 ∧ ∀ j : Int, 0 ≤ j → j < n → E (m v) j = true → V j
def mCAN (n : Int) (E : Int → Int → Bool) (X : XT) : Prop := ∀ (X1 : XT) (l j : Int) (Q : Int → Prop), X1 72 = X 72 → X1 73 = X 73 → 0 ≤ l → l < n → 0 ≤ j → j < n → (E l j = true → Q 1) → (¬ E l j = true → Q 0) → w_X10_canFollow l j X1 Q
/-- one place is taken for l, its partner having found another -/
theorem plus_up {n l p x : Int} {u u5 m m2 : Int → Int} (x0 : 0 ≤ x) (x1 : x < n) (ux : u x = 0) (mx : m x = p) (pn : ¬ p = -1) (ln : ¬ l = -1) (inj : mINJ n u m) (nl : ∀ j : Int, 0 ≤ j → j < n → u j = 0 → ¬ m j = l) (u5x : ¬ u5 x = 0) (sub : ∀ j : Int, 0 ≤ j → j < n → u5 j = 0 → u j = 0) (h : mPLUS n u5 m m2 p) : mPLUS n u m (fun j => if j = x then l else m2 j) l := by
  obtain ⟨h1, h2, h3⟩ := h
  have val : ∀ j : Int, 0 ≤ j → j < n → u j = 0 → ¬ j = x → ¬ m2 j = -1 → (∃ k : Int, (0 ≤ k ∧ k < n) ∧ u k = 0 ∧ m k = m2 j ∧ (u5 j = 0 ∨ k = j)) := by
    intro j j0 j1 uj hj hv
    by_cases h5 : u5 j = 0
    · rcases (h3 (m2 j) hv).mp ⟨j, ⟨j0, j1⟩, h5, rfl⟩ with e | ⟨k, kr, uk, e⟩
      · exact ⟨x, ⟨x0, x1⟩, ux, by rw [mx, e], Or.inl h5⟩
      · exact ⟨k, kr, sub k kr.1 kr.2 uk, e, Or.inl h5⟩
    · exact ⟨j, ⟨j0, j1⟩, uj, (h1 j j0 j1 h5).symm, Or.inr rfl⟩
  have notl : ∀ j : Int, 0 ≤ j → j < n → u j = 0 → ¬ j = x → ¬ m2 j = l := by
    intro j j0 j1 uj hj e
    obtain ⟨k, kr, uk, ek, _⟩ := val j j0 j1 uj hj (by rw [e]; exact ln)
    exact nl k kr.1 kr.2 uk (ek.trans e)
  refine ⟨fun j j0 j1 hj => ?_, fun i j i0 i1 j0 j1 hij ui uj hv he => ?_, fun q hq => ⟨fun ⟨j, jr, uj, e⟩ => ?_, fun hor => ?_⟩⟩
  · have hne : ¬ j = x := fun e => hj (by rw [e]; exact ux)
    dsimp only
    rw [if_neg hne]
    exact h1 j j0 j1 (fun z => hj (sub j j0 j1 z))
  · dsimp only at hv he
    by_cases hi : i = x
    · have hj : ¬ j = x := fun e => hij (hi.trans e.symm)
      rw [if_pos hi, if_neg hj] at he
      exact notl j j0 j1 uj hj he.symm
    · rw [if_neg hi] at hv he
      by_cases hj : j = x
      · rw [if_pos hj] at he
        exact notl i i0 i1 ui hi he
      · rw [if_neg hj] at he
        by_cases i5 : u5 i = 0
        · by_cases j5 : u5 j = 0
          · exact h2 i j i0 i1 j0 j1 hij i5 j5 hv he
          · have ej := h1 j j0 j1 j5
            rcases (h3 (m2 i) hv).mp ⟨i, ⟨i0, i1⟩, i5, rfl⟩ with e | ⟨k, kr, uk, e⟩
            · exact inj x j x0 x1 j0 j1 (fun z => hj z.symm) ux uj (by rw [mx]; exact pn) (by rw [mx, ← ej, ← he, e])
            · have kj : ¬ k = j := fun z => j5 (by rw [← z]; exact uk)
              exact inj k j kr.1 kr.2 j0 j1 kj (sub k kr.1 kr.2 uk) uj (by rw [e]; exact hv) (by rw [e, he, ej])
        · have ei := h1 i i0 i1 i5
          by_cases j5 : u5 j = 0
          · have hv2 : ¬ m2 j = -1 := by rw [← he]; exact hv
            rcases (h3 (m2 j) hv2).mp ⟨j, ⟨j0, j1⟩, j5, rfl⟩ with e | ⟨k, kr, uk, e⟩
            · exact inj x i x0 x1 i0 i1 (fun z => hi z.symm) ux ui (by rw [mx]; exact pn) (by rw [mx, ← ei, he, e])
            · have ki : ¬ k = i := fun z => i5 (by rw [← z]; exact uk)
              exact inj k i kr.1 kr.2 i0 i1 ki (sub k kr.1 kr.2 uk) ui (by rw [e]; exact hv2) (by rw [e, ← he, ei])
          · exact inj i j i0 i1 j0 j1 hij ui uj (by rw [← ei]; exact hv) (by rw [← ei, he, h1 j j0 j1 j5])
  · dsimp only at e
    by_cases hj : j = x
    · rw [if_pos hj] at e; exact Or.inl e.symm
    · rw [if_neg hj] at e
      obtain ⟨k, kr, uk, ek, _⟩ := val j jr.1 jr.2 uj hj (by rw [e]; exact hq)
      exact Or.inr ⟨k, kr, uk, ek.trans e⟩
  · rcases hor with rfl | ⟨j, jr, uj, e⟩
    · exact ⟨x, ⟨x0, x1⟩, ux, if_pos rfl⟩
    · have take : (∃ k : Int, (0 ≤ k ∧ k < n) ∧ u5 k = 0 ∧ m2 k = q) → ∃ j : Int, (0 ≤ j ∧ j < n) ∧ u j = 0 ∧ (fun j => if j = x then l else m2 j) j = q := fun ⟨k, kr, uk, ek⟩ => by
        have hk : ¬ k = x := fun z => u5x (by rw [← z]; exact uk)
        exact ⟨k, kr, sub k kr.1 kr.2 uk, by dsimp only; rw [if_neg hk]; exact ek⟩
      by_cases hj : j = x
      · exact take ((h3 q hq).mpr (Or.inl (by rw [← e, hj, mx])))
      · by_cases j5 : u5 j = 0
        · exact take ((h3 q hq).mpr (Or.inr ⟨j, jr, j5, e⟩))
        · exact ⟨j, jr, uj, by dsimp only; rw [if_neg hj, h1 j jr.1 jr.2 j5]; exact e⟩
/-- a free place is taken -/
theorem plus_free {n l x : Int} {u m : Int → Int} (x0 : 0 ≤ x) (x1 : x < n) (ux : u x = 0) (mx : m x = -1) (ln : ¬ l = -1) (inj : mINJ n u m) (nl : ∀ j : Int, 0 ≤ j → j < n → u j = 0 → ¬ m j = l) : mPLUS n u m (fun j => if j = x then l else m j) l := by
  refine ⟨fun j j0 j1 hj => ?_, fun i j i0 i1 j0 j1 hij ui uj hv he => ?_, fun q hq => ⟨fun ⟨j, jr, uj, e⟩ => ?_, fun hor => ?_⟩⟩
  · dsimp only
    rw [if_neg (fun e => hj (by rw [e]; exact ux))]
  · dsimp only at hv he
    by_cases hi : i = x
    · have hj : ¬ j = x := fun e => hij (hi.trans e.symm)
      rw [if_pos hi, if_neg hj] at he
      exact nl j j0 j1 uj he.symm
    · rw [if_neg hi] at hv he
      by_cases hj : j = x
      · rw [if_pos hj] at he; exact nl i i0 i1 ui he
      · rw [if_neg hj] at he; exact inj i j i0 i1 j0 j1 hij ui uj hv he
  · dsimp only at e
    by_cases hj : j = x
    · rw [if_pos hj] at e; exact Or.inl e.symm
    · rw [if_neg hj] at e; exact Or.inr ⟨j, jr, uj, e⟩
  · rcases hor with rfl | ⟨j, jr, uj, e⟩
    · exact ⟨x, ⟨x0, x1⟩, ux, if_pos rfl⟩
    · have hj : ¬ j = x := fun z => hq (by rw [← e, z, mx])
      exact ⟨j, jr, uj, by dsimp only; rw [if_neg hj]; exact e⟩

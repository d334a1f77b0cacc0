/-- what holds when the starts below i have been tried -/
def TRY (n : Int) (E : Int → Int → Bool) (m : Int → Int) (i s : Int) : Prop := (∀ j : Int, 0 ≤ j → j < n → m j = -1 ∨ ((0 ≤ m j ∧ m j < n) ∧ E (m j) j = true)) ∧ mINJ n (fun _ => 0) m ∧ (∀ j : Int, 0 ≤ j → j < n → m j < i) ∧ (∃ V : Int → Bool, mDEAD n E (fun v => V v = true) m ∧ ∀ i' : Int, 0 ≤ i' → i' < i → (∀ j : Int, 0 ≤ j → j < n → ¬ m j = i') → ∀ j : Int, 0 ≤ j → j < n → E i' j = true → V j = true) ∧ cnt (fun j => !decide (m j = -1)) n.toNat = s
theorem TRY_end {n s : Int} {E : Int → Int → Bool} {m : Int → Int} (h : TRY n E m n s) : HUN n E s := by
  obtain ⟨a, b, _, ⟨V, c, d⟩, e⟩ := h
  exact ⟨m, V, a, b, c, d, e⟩
theorem TRY_0 {n : Int} {E : Int → Int → Bool} {m : Int → Int} (h : ∀ j : Int, 0 ≤ j → j < n → m j = -1) (n0 : 0 ≤ n) : TRY n E m 0 0 := by
  refine ⟨fun j a b => Or.inl (h j a b), fun i j i0 i1 j0 j1 _ _ _ hv => absurd (h i i0 i1) hv, fun j a b => by rw [h j a b]; decide, ⟨fun _ => false, fun v _ _ hv => Bool.noConfusion hv, fun i' a b => absurd (show i' < (0 : Int) from b) (by omega)⟩, ?_⟩
  have : ∀ k : Nat, (k : Int) ≤ n → cnt (fun j => !decide (m j = -1)) k = 0 := by
    intro k
    induction k with
    | zero => intro _; rfl
    | succ k ih => intro hk; rw [cnt_s, ih (by omega), h k (by omega) (by omega)]; rfl
  exact this n.toNat (by omega)
/-- a start that found no way -/
theorem TRY_no {n i s : Int} {E : Int → Int → Bool} {m v : Int → Int} (h : TRY n E m i s) (i0 : 0 ≤ i) (el : ∀ j : Int, 0 ≤ j → j < n → E i j = true → ¬ v j = 0) (nw : ∀ w : Int, 0 ≤ w → w < n → ¬ v w = 0 → ¬ m w = -1 ∧ ∀ j : Int, 0 ≤ j → j < n → E (m w) j = true → ¬ v j = 0) : TRY n E m (i + 1) s := by
  obtain ⟨a, b, lt, ⟨V, c, d⟩, e⟩ := h
  refine ⟨a, b, fun j x y => by have := lt j x y; omega, ⟨fun j => V j || !decide (v j = 0), fun w w0 w1 hw => ?_, fun i' x y un j j0 j1 ej => ?_⟩, e⟩
  · dsimp only at hw ⊢
    rw [Bool.or_eq_true, Bool.not_eq_true', decide_eq_false_iff_not] at hw
    rcases hw with hw | hw
    · have := c w w0 w1 hw
      exact ⟨this.1, fun j x y ej => by rw [this.2 j x y ej]; rfl⟩
    · have := nw w w0 w1 hw
      exact ⟨this.1, fun j x y ej => by rw [decide_eq_false (this.2 j x y ej)]; exact Bool.or_true _⟩
  · by_cases hq : i' = i
    · subst hq
      dsimp only
      rw [decide_eq_false (el j j0 j1 ej)]; exact Bool.or_true _
    · dsimp only
      rw [d i' x (by omega) un j j0 j1 ej]; rfl
/-- a start that found one -/
theorem TRY_yes {n i s : Int} {E : Int → Int → Bool} {m m' : Int → Int} (h : TRY n E m i s) (n0 : 0 ≤ n) (i0 : 0 ≤ i) (i1 : i < n) (b' : ∀ j : Int, 0 ≤ j → j < n → m' j = -1 ∨ ((0 ≤ m' j ∧ m' j < n) ∧ E (m' j) j = true)) (pl : mPLUS n (fun _ => 0) m m' i) (dd : ∀ V : Int → Prop, mDEAD n E V m → ∀ v : Int, 0 ≤ v → v < n → V v → m' v = m v) : TRY n E m' (i + 1) (s + 1) := by
  obtain ⟨a, b, lt, ⟨V, c, d⟩, e⟩ := h
  refine ⟨b', pl.2.1, fun j x y => ?_, ⟨V, fun w w0 w1 hw => ?_, fun i' x y un j j0 j1 ej => ?_⟩, ?_⟩
  · by_cases hq : m' j = -1
    · omega
    · rcases (pl.2.2 (m' j) hq).mp ⟨j, ⟨x, y⟩, rfl, rfl⟩ with z | ⟨k, kr, _, ek⟩
      · omega
      · have := lt k kr.1 kr.2; omega
  · rw [dd _ c w w0 w1 hw]
    exact c w w0 w1 hw
  · by_cases hq : i' = i
    · subst hq
      obtain ⟨k, kr, _, ek⟩ := (pl.2.2 i' (by omega)).mpr (Or.inl rfl)
      exact absurd ek (un k kr.1 kr.2)
    · refine d i' x (by omega) (fun k k0 k1 ek => ?_) j j0 j1 ej
      obtain ⟨k2, kr, _, ek2⟩ := (pl.2.2 i' (by omega)).mpr (Or.inr ⟨k, ⟨k0, k1⟩, rfl, ek⟩)
      exact un k2 kr.1 kr.2 ek2
  · rw [plus_cnt n0 i0 i1 (fun j x y => (a j x y).imp id (fun z => z.1)) (fun j x y => (b' j x y).imp id (fun z => z.1)) b (fun j x y => by have := lt j x y; omega) pl, e]
theorem e_tries {n : Int} {E : Int → Int → Bool} {X : XT} {Q : Int → XT → Prop} (n0 : 0 ≤ n) (n1 : n ≤ 24) (can : mCAN n E X) (h0 : ∀ j : Int, 0 ≤ j → j < n → X 74 j = -1) (q : ∀ (s : Int) (X1 : XT), Fx [74, 75] X X1 → HUN n E s → Q (n - s) X1) : (∃ (I20 : Int → Int → XT → Prop) (m21 : Int → Int → XT → Nat), I20 n 0 X ∧ ∀ (x17 : Int) (x18 : Int) (X19 : XT), I20 x17 x18 X19 → R32 x18 ∧ R32 n ∧ (n ≤ x18 → Q x17 X19) ∧ (¬ n ≤ x18 → ∃ (I37 : Int → XT → Prop) (m38 : Int → XT → Nat), I37 0 X19 ∧ ∀ (x35 : Int) (X36 : XT), I37 x35 X36 → R32 x35 ∧ (n ≤ x35 → w_findNext 26 x18 n 0 X36 (fun (v51 : Int) (X52 : XT) => R32 v51 ∧ (v51 = 0 → I20 x17 (x18 + 1) X52 ∧ m21 x17 (x18 + 1) X52 < m21 x17 x18 X19) ∧ (¬ v51 = 0 → I20 (x17 + (-1)) (x18 + 1) X52 ∧ m21 (x17 + (-1)) (x18 + 1) X52 < m21 x17 x18 X19))) ∧ (¬ n ≤ x35 → (0 ≤ x35 ∧ x35 < 24) ∧ I37 (x35 + 1) (x_st X36 75 x35 0) ∧ m38 (x35 + 1) (x_st X36 75 x35 0) < m38 x35 X36))) := by
  refine ⟨fun v i X1 => 0 ≤ i ∧ i ≤ n ∧ Fx [74, 75] X X1 ∧ TRY n E (X1 74) i (n - v), fun _ i _ => (n - i).toNat, ⟨by decide, n0, Fx.rf, by rw [Int.sub_self]; exact TRY_0 h0 n0⟩, ?_⟩
  rintro v i X1 ⟨i0, i1, f1, t1⟩
  refine ⟨by omega, by omega, fun z => ?_, fun z => ?_⟩
  · rw [show i = n by omega] at t1
    have := q (n - v) X1 f1 (TRY_end t1)
    rw [show n - (n - v) = v by omega] at this
    exact this
  · refine ⟨fun j X2 => 0 ≤ j ∧ j ≤ n ∧ Fx [75] X1 X2 ∧ ∀ j' : Int, 0 ≤ j' → j' < j → X2 75 j' = 0, fun j _ => (n - j).toNat, ⟨by decide, n0, Fx.rf, fun j' a b => absurd (show j' < (0 : Int) from b) (by omega)⟩, ?_⟩
    rintro j X2 ⟨j0, j1, f2, k2⟩
    refine ⟨by omega, fun z2 => ?_, fun z2 => ⟨by omega, ⟨by omega, by omega, f2.st rfl, fun j' a b => ?_⟩, by dsimp only; omega⟩⟩
    rotate_left
    · by_cases hq : j' = j
      · rw [hq, x_st_at]
      · rw [x_st_ne hq]; exact k2 j' a (by omega)
    have v0 : ∀ j' : Int, 0 ≤ j' → j' < n → X2 75 j' = 0 := fun j' a b => k2 j' a (by omega)
    have e74 : X2 74 = X1 74 := f2 74 rfl
    obtain ⟨ta, tb, tc, td, te⟩ := t1
    have f12 : Fx [74, 75] X X2 := f1.trans (f2.sub (by decide))
    refine f_next n0 n1 26 i 0 X2 _ (by decide) (by decide) (cnt_r _).1 i0 (by omega) (fun X1 l j Q h1 h2 => can X1 l j Q (h1.trans (f12 72 rfl)) (h2.trans (f12 73 rfl))) (fun j a b => Or.inl (v0 j a b)) (by rw [e74]; exact ta) (by rw [e74]; exact fun i j i0 i1 j0 j1 hij _ _ hv => tb i j i0 i1 j0 j1 hij rfl rfl hv) (fun j a b _ => by rw [e74]; have := tc j a b; omega) (fun X3 f3 v3 mo3 el3 nw3 => ⟨by decide, fun _ => ⟨⟨by omega, by omega, f12.trans (f3.sub (by decide)), ?_⟩, by dsimp only; omega⟩, fun y => absurd rfl y⟩) (fun X3 f3 b3 pl3 dd3 => ⟨by decide, fun y => absurd y (by decide), fun _ => ⟨⟨by omega, by omega, f12.trans f3, ?_⟩, by dsimp only; omega⟩⟩)
    · rw [f3 74 rfl, e74]
      refine TRY_no (v := X3 75) ⟨ta, tb, tc, td, te⟩ i0 el3 (fun w w0 w1 hw => ?_)
      have := nw3 w w0 w1 (v0 w w0 w1) hw
      rw [e74] at this; exact this
    · rw [e74] at pl3 dd3
      have pl0 : mPLUS n (fun _ => 0) (X1 74) (X3 74) i := by
        obtain ⟨p1, p2, p3⟩ := pl3
        refine ⟨fun j a b hj => absurd rfl hj, fun i j i0 i1 j0 j1 hij _ _ hv => p2 i j i0 i1 j0 j1 hij (v0 i i0 i1) (v0 j j0 j1) hv, fun p hp => ⟨fun ⟨j, jr, _, e⟩ => ?_, fun hor => ?_⟩⟩
        · rcases (p3 p hp).mp ⟨j, jr, v0 j jr.1 jr.2, e⟩ with y | ⟨k, kr, _, ek⟩
          · exact Or.inl y
          · exact Or.inr ⟨k, kr, rfl, ek⟩
        · obtain ⟨k, kr, _, ek⟩ := (p3 p hp).mpr (hor.imp id (fun ⟨k, kr, _, ek⟩ => ⟨k, kr, v0 k kr.1 kr.2, ek⟩))
          exact ⟨k, kr, rfl, ek⟩
      have := TRY_yes ⟨ta, tb, tc, td, te⟩ n0 i0 (by omega) b3 pl0 (fun V hd => (dd3 V hd).1)
      rw [show n - (v + -1) = n - v + 1 by omega]
      exact this

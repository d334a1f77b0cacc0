theorem cnt_mono {p q : Int → Bool} (n : Nat) (h : ∀ i : Int, 0 ≤ i → i < n → p i = true → q i = true) : cnt p n ≤ cnt q n :=
  pigeon (f := fun i => i) n n p q (fun i a b pi => ⟨⟨a, b⟩, h i a b pi⟩) (fun i j _ b _ _ _ => by omega)
abbrev vis (g : Int → Int) : Int → Bool := fun i => decide (¬ g i = 0)
theorem f_next {n : Int} {E : Int → Int → Bool} (n0 : 0 ≤ n) (n1 : n ≤ 24) : ∀ (fu : Nat) (l d : Int) (X : XT) (Q : Int → XT → Prop), (fu : Int) + d = 26 → 0 ≤ d → d ≤ cnt (vis (X 75)) n.toNat → 0 ≤ l → l < n → mCAN n E X → (∀ j : Int, 0 ≤ j → j < n → X 75 j = 0 ∨ X 75 j = 1) → (∀ j : Int, 0 ≤ j → j < n → X 74 j = -1 ∨ ((0 ≤ X 74 j ∧ X 74 j < n) ∧ E (X 74 j) j = true)) → mINJ n (X 75) (X 74) → (∀ j : Int, 0 ≤ j → j < n → X 75 j = 0 → ¬ X 74 j = l) →
    (∀ X1, Fx [75] X X1 → (∀ j : Int, 0 ≤ j → j < n → X1 75 j = 0 ∨ X1 75 j = 1) → (∀ j : Int, 0 ≤ j → j < n → ¬ X 75 j = 0 → ¬ X1 75 j = 0) → (∀ j : Int, 0 ≤ j → j < n → E l j = true → ¬ X1 75 j = 0) → (∀ w : Int, 0 ≤ w → w < n → X 75 w = 0 → ¬ X1 75 w = 0 → ¬ X 74 w = -1 ∧ ∀ j : Int, 0 ≤ j → j < n → E (X 74 w) j = true → ¬ X1 75 j = 0) → Q 0 X1) →
    (∀ X1, Fx [74, 75] X X1 → (∀ j : Int, 0 ≤ j → j < n → X1 74 j = -1 ∨ ((0 ≤ X1 74 j ∧ X1 74 j < n) ∧ E (X1 74 j) j = true)) → mPLUS n (X 75) (X 74) (X1 74) l → (∀ V : Int → Prop, mDEAD n E V (X 74) → (∀ v : Int, 0 ≤ v → v < n → V v → X1 74 v = X 74 v) ∧ ¬ ∀ j : Int, 0 ≤ j → j < n → E l j = true → V j) → Q 1 X1) → w_findNext fu l n d X Q := by
  intro fu
  induction fu with
  | zero => intro l d X Q hd d0 dc; have := cnt_r (p := vis (X 75)) n.toNat; omega
  | succ fu ih =>
    intro l d X Q hd d0 dc l0 l1 can vb mb inj nl qF qS
    have cr := cnt_r (p := vis (X 75)) n.toNat
    have ln : ¬ l = -1 := by omega
    refine ⟨by omega, fun _ => ?_, fun z => absurd (by omega) z⟩
    refine ⟨fun x X4 => 0 ≤ x ∧ x ≤ n ∧ Fx [75] X X4 ∧ (∀ j : Int, 0 ≤ j → j < n → X4 75 j = 0 ∨ X4 75 j = 1) ∧ (∀ j : Int, 0 ≤ j → j < n → ¬ X 75 j = 0 → ¬ X4 75 j = 0) ∧ (∀ j : Int, 0 ≤ j → j < x → E l j = true → ¬ X4 75 j = 0) ∧ (∀ w : Int, 0 ≤ w → w < n → X 75 w = 0 → ¬ X4 75 w = 0 → ¬ X 74 w = -1 ∧ ∀ j : Int, 0 ≤ j → j < n → E (X 74 w) j = true → ¬ X4 75 j = 0), fun x _ => (n - x).toNat, ⟨by decide, n0, Fx.rf, vb, fun _ _ _ h => h, fun j a b => absurd (show j < (0 : Int) from b) (by omega), fun w _ _ a b => absurd a b⟩, ?_⟩
    rintro x X4 ⟨x0, x1, f4, v4, mo4, el4, nw4⟩
    refine ⟨by omega, by omega, fun z => qF X4 f4 v4 mo4 (fun j a b => el4 j a (by omega)) nw4, fun z => ⟨by omega, by have := v4 x x0 (by omega); omega, fun z2 => ⟨⟨by omega, by omega, f4, v4, mo4, fun j a b ej => ?_, nw4⟩, by dsimp only; omega⟩, fun z2 => ?_⟩⟩
    · by_cases hq : j = x
      · rw [hq]; exact z2
      · exact el4 j a (by omega) ej
    · have ux : X 75 x = 0 := by
        by_cases h : X 75 x = 0
        · exact h
        · exact absurd z2 (mo4 x x0 (by omega) h)
      refine can X4 l x _ (f4 72 rfl) (f4 73 rfl) l0 l1 x0 (by omega) (fun he => ⟨by decide, fun y => absurd y (by decide), fun _ J hJ => ?_⟩) (fun he => ⟨by decide, fun _ => ⟨⟨by omega, by omega, f4, v4, mo4, fun j a b ej => ?_, nw4⟩, by dsimp only; omega⟩, fun y => absurd rfl y⟩)
      rotate_left
      · by_cases hq : j = x
        · rw [hq] at ej; exact absurd ej he
        · exact el4 j a (by omega) ej
      have e74 : ∀ j, (x_st X4 75 x 1) 74 j = X 74 j := fun j => by rw [x_st_c (by decide), f4 74 rfl]
      have f5 : Fx [75] X (x_st X4 75 x 1) := f4.st rfl
      have v5 : ∀ j : Int, (x_st X4 75 x 1) 75 j = if j = x then 1 else X4 75 j := fun j => by
        by_cases hq : j = x
        · rw [hq, x_st_at, if_pos rfl]
        · rw [x_st_ne hq, if_neg hq]
      have mbx := mb x x0 (by omega)
      rw [e74]
      refine ⟨by omega, fun z3 => hJ _ (qS _ ((f5.sub (by decide)).st rfl) (fun j a b => ?_) ?_ (fun V dead => ?_)), fun z3 => ?_⟩
      · by_cases hq : j = x
        · rw [hq, x_st_at]; exact Or.inr ⟨⟨l0, l1⟩, he⟩
        · rw [x_st_ne hq, e74]; exact mb j a b
      · have pf := plus_free x0 (show x < n by omega) ux z3 ln inj nl
        have em : (x_st (x_st X4 75 x 1) 74 x l) 74 = fun j => if j = x then l else X 74 j := by
          funext j
          by_cases hq : j = x
          · rw [hq, x_st_at, if_pos rfl]
          · rw [x_st_ne hq, e74, if_neg hq]
        rw [em]; exact pf
      · have nv : ¬ V x := fun y => (dead x x0 (by omega) y).1 z3
        refine ⟨fun v a b hv => ?_, fun hall => nv (hall x x0 (by omega) he)⟩
        rw [x_st_ne (fun e => nv (by rw [← e]; exact hv)), e74]
      · have pr := mbx.resolve_left z3
        have cn : cnt (vis ((x_st X4 75 x 1) 75)) n.toNat = cnt (vis (X4 75)) n.toNat + 1 := by
          have o := cnt_out (p := vis ((x_st X4 75 x 1) 75)) (j := x) (by unfold vis; rw [x_st_at]; decide) n.toNat x0 (by omega)
          rw [cnt_cg (q := vis (X4 75)) n.toNat (fun i a b => by
            unfold vis
            rw [v5]
            by_cases hq : i = x
            · rw [hq, if_pos rfl, z2, decide_eq_true (rfl : x = x)]; decide
            · rw [if_neg hq, decide_eq_false hq, Bool.not_false, Bool.and_true])] at o
          omega
        have cm := cnt_mono (p := vis (X 75)) (q := vis (X4 75)) n.toNat (fun i a b h => by
          unfold vis at h ⊢
          rw [decide_eq_true_iff] at h ⊢
          exact mo4 i a (by omega) h)
        have sub : ∀ j : Int, 0 ≤ j → j < n → (x_st X4 75 x 1) 75 j = 0 → X 75 j = 0 := fun j a b h => by
          by_cases hq : X 75 j = 0
          · exact hq
          · rw [v5] at h
            split at h
            · exact absurd h (by decide)
            · exact absurd h (mo4 j a b hq)
        have m5 : (x_st X4 75 x 1) 74 = X 74 := funext e74
        refine ih (X 74 x) (d + 1) (x_st X4 75 x 1) _ (by omega) (by omega) (by omega) pr.1.1 pr.1.2 (fun X1 l j Q h1 h2 => can X1 l j Q (h1.trans (f5 72 rfl)) (h2.trans (f5 73 rfl))) (fun j a b => by rw [v5]; split; exact Or.inr rfl; exact v4 j a b) (fun j a b => by rw [e74]; exact mb j a b) (fun i j i0 i1 j0 j1 hij ui uj hv => by rw [e74, e74] at *; exact inj i j i0 i1 j0 j1 hij (sub i i0 i1 ui) (sub j j0 j1 uj) hv) (fun j a b uj => by
          rw [e74]
          intro e
          have hq : ¬ j = x := fun y => by rw [v5, if_pos y] at uj; exact absurd uj (by decide)
          exact inj x j x0 (by omega) a b (fun y => hq y.symm) ux (sub j a b uj) z3 e.symm) (fun X6 f6 v6 mo6 el6 nw6 => ⟨by decide, fun _ => ⟨⟨by omega, by omega, f5.trans f6, v6, fun j a b h => mo6 j a b ?_, fun j a b ej => ?_, fun w w0 w1 uw hw => ?_⟩, by dsimp only; omega⟩, fun y => absurd rfl y⟩) (fun X6 f6 b6 pl6 dd6 => ⟨by decide, fun y => absurd y (by decide), fun _ => hJ _ (qS _ (((f5.sub (by decide)).trans f6).st rfl) (fun j a b => ?_) ?_ (fun V dead => ?_))⟩)
        · rw [v5]; split
          · decide
          · exact mo4 j a b h
        · by_cases hq : j = x
          · exact mo6 j a (by omega) (by rw [v5, if_pos hq]; decide)
          · exact mo6 j a (by omega) (by rw [v5, if_neg hq]; exact el4 j a (by omega) ej)
        · by_cases hq : w = x
          · rw [hq]; exact ⟨z3, el6⟩
          · by_cases h4 : X4 75 w = 0
            · have := nw6 w w0 w1 (by rw [v5, if_neg hq]; exact h4) hw
              rw [e74] at this; exact this
            · have := nw4 w w0 w1 uw h4
              exact ⟨this.1, fun j a b ej => mo6 j a b (by rw [v5]; split; decide; exact this.2 j a b ej)⟩
        · by_cases hq : j = x
          · rw [hq, x_st_at]; exact Or.inr ⟨⟨l0, l1⟩, he⟩
          · rw [x_st_ne hq]; exact b6 j a b
        · rw [m5] at pl6
          have pu := plus_up x0 (show x < n by omega) ux rfl z3 ln inj nl (by rw [v5, if_pos rfl]; decide) sub pl6
          have em : (x_st X6 74 x l) 74 = fun j => if j = x then l else X6 74 j := by
            funext j
            by_cases hq : j = x
            · rw [hq, x_st_at, if_pos rfl]
            · rw [x_st_ne hq, if_neg hq]
          rw [em]; exact pu
        · have dd := dd6 V (by rw [m5]; exact dead)
          have nv : ¬ V x := fun y => dd.2 (dead x x0 (by omega) y).2
          refine ⟨fun v a b hv => ?_, fun hall => nv (hall x x0 (by omega) he)⟩
          rw [x_st_ne (fun e => nv (by rw [← e]; exact hv)), dd.1 v a b hv, e74]

/-! MEN: counting, and how great a matching can be -/
def cnt (p : Int → Bool) (n : Nat) : Int := smF (fun i => p i = true) n
theorem cnt_s {p : Int → Bool} {n : Nat} : cnt p (n + 1) = cnt p n + if p (n : Int) = true then 1 else 0 := rfl
theorem cnt_r {p : Int → Bool} (n : Nat) : 0 ≤ cnt p n ∧ cnt p n ≤ n := smF_r n
theorem cnt_cg {p q : Int → Bool} : ∀ n : Nat, (∀ i : Int, 0 ≤ i → i < n → p i = q i) → cnt p n = cnt q n := by
  intro n
  induction n with
  | zero => intro _; rfl
  | succ n ih => intro h; rw [cnt_s, cnt_s, ih (fun i a b => h i a (by omega)), h n (by omega) (by omega)]
theorem cnt_out {p : Int → Bool} {j : Int} (hj : p j = true) : ∀ n : Nat, 0 ≤ j → j < n → cnt (fun i => p i && !decide (i = j)) n = cnt p n - 1 := by
  intro n
  induction n with
  | zero => intro a b; omega
  | succ n ih =>
    intro a b
    rw [cnt_s, cnt_s]
    by_cases hq : j = (n : Int)
    · subst hq
      rw [cnt_cg (q := p) n (fun i x y => by rw [decide_eq_false (show ¬ i = (n : Int) by omega)]; cases p i <;> rfl), if_neg (by rw [decide_eq_true rfl, Bool.not_true, Bool.and_false]; decide), if_pos hj]
      omega
    · rw [ih a (by omega), decide_eq_false (show ¬ (n : Int) = j by omega), Bool.not_false, Bool.and_true]
      omega
/-- who is sent to different places has no more members than there are places -/
theorem pigeon {f : Int → Int} : ∀ (n m : Nat) (p q : Int → Bool), (∀ i : Int, 0 ≤ i → i < n → p i = true → (0 ≤ f i ∧ f i < m) ∧ q (f i) = true) → (∀ i j : Int, 0 ≤ i → i < j → j < n → p i = true → p j = true → ¬ f i = f j) → cnt p n ≤ cnt q m := by
  intro n
  induction n with
  | zero => intro m p q _ _; exact (cnt_r m).1
  | succ n ih =>
    intro m p q h inj
    rw [cnt_s]
    by_cases hp : p (n : Int) = true
    · rw [if_pos hp]
      have hn := h (n : Int) (by omega) (by omega) hp
      have i := ih m p (fun i => q i && !decide (i = f (n : Int))) (fun i a b pi => by
        have := h i a (by omega) pi
        refine ⟨this.1, ?_⟩
        rw [this.2, decide_eq_false (inj i (n : Int) a b (by omega) pi hp)]; rfl) (fun i j a b c pi pj => inj i j a b (by omega) pi pj)
      rw [cnt_out hn.2 m hn.1.1 hn.1.2] at i
      omega
    · rw [if_neg hp, Int.add_zero]
      exact ih m p q (fun i a b => h i a (by omega)) (fun i j a b c => inj i j a b (by omega))
theorem cnt_two {p q : Int → Bool} : ∀ n : Nat, cnt p n + cnt q n = cnt (fun i => p i && q i) n + cnt (fun i => p i || q i) n := by
  intro n
  induction n with
  | zero => rfl
  | succ n ih =>
    rw [cnt_s, cnt_s, cnt_s, cnt_s]
    cases p (n : Int) <;> cases q (n : Int) <;> simp only [Bool.and_true, Bool.and_false, Bool.or_true, Bool.or_false, Bool.true_and, Bool.false_and, Bool.true_or, Bool.false_or, if_true, if_false, reduceCtorEq] <;> omega
/-- L can go on to V alone: then no matching is greater than n - L + V -/
theorem match_le {n : Nat} {M L V : Int → Bool} {f : Int → Int} (h : ∀ i : Int, 0 ≤ i → i < n → M i = true → 0 ≤ f i ∧ f i < n) (inj : ∀ i j : Int, 0 ≤ i → i < j → j < n → M i = true → M j = true → ¬ f i = f j) (hl : ∀ i : Int, 0 ≤ i → i < n → M i = true → L i = true → V (f i) = true) : cnt M n + cnt L n ≤ n + cnt V n := by
  have a := pigeon n n (fun i => M i && L i) V (fun i x y hi => by
    rw [Bool.and_eq_true] at hi
    exact ⟨h i x y hi.1, hl i x y hi.1 hi.2⟩) (fun i j x y z hi hj => by
    rw [Bool.and_eq_true] at hi hj
    exact inj i j x y z hi.1 hj.1) (f := f)
  have b := cnt_two (p := M) (q := L) n
  have c := cnt_r (p := fun i => M i || L i) n
  omega

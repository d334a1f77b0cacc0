/-! MEN: two matchings that are as great as can be are equally great -/
def HUN (n : Int) (E : Int → Int → Bool) (s : Int) : Prop := ∃ (m : Int → Int) (V : Int → Bool), (∀ j : Int, 0 ≤ j → j < n → m j = -1 ∨ ((0 ≤ m j ∧ m j < n) ∧ E (m j) j = true)) ∧ mINJ n (fun _ => 0) m ∧ mDEAD n E (fun v => V v = true) m ∧ (∀ i : Int, 0 ≤ i → i < n → (∀ j : Int, 0 ≤ j → j < n → ¬ m j = i) → ∀ j : Int, 0 ≤ j → j < n → E i j = true → V j = true) ∧ cnt (fun j => !decide (m j = -1)) n.toNat = s
theorem cnt_split {p q : Int → Bool} : ∀ n : Nat, cnt p n = cnt (fun i => p i && q i) n + cnt (fun i => p i && !q i) n := by
  intro n
  induction n with
  | zero => rfl
  | succ n ih =>
    rw [cnt_s, cnt_s, cnt_s]
    cases p (n : Int) <;> cases q (n : Int) <;> simp only [Bool.and_true, Bool.and_false, Bool.true_and, Bool.false_and, Bool.not_true, Bool.not_false, if_true, if_false, reduceCtorEq] <;> omega
theorem HUN_le {n : Int} {E : Int → Int → Bool} {s s' : Int} (h : HUN n E s) (h' : HUN n E s') : s ≤ s' := by
  obtain ⟨m, V, b, inj, _, _, hs⟩ := h
  obtain ⟨m', V', b', inj', dead', free', hs'⟩ := h'
  rw [← hs, ← hs', cnt_split (q := V') n.toNat, cnt_split (p := fun j => !decide (m' j = -1)) (q := V') n.toNat]
  have a1 : cnt (fun i => (!decide (m i = -1)) && V' i) n.toNat ≤ cnt (fun i => (!decide (m' i = -1)) && V' i) n.toNat := cnt_mono n.toNat (fun i i0 i1 h => by
    rw [Bool.and_eq_true] at h ⊢
    refine ⟨?_, h.2⟩
    rw [decide_eq_false (dead' i i0 (by omega) h.2).1]; rfl)
  have hw : ∀ j : Int, 0 ≤ j → j < n → ¬ m j = -1 → ¬ V' j = true → ¬ fsF (fun w => m' w = m j) n.toNat 0 = -1 ∧ ¬ V' (fsF (fun w => m' w = m j) n.toNat 0) = true := by
    intro j j0 j1 hm hv
    have bj := (b j j0 j1).resolve_left hm
    have ne : ¬ fsF (fun w => m' w = m j) n.toNat 0 = -1 := fun e => by
      have none := fsF_none n.toNat 0 (by decide) e
      exact hv (free' (m j) bj.1.1 bj.1.2 (fun w w0 w1 => none w w0 (by omega)) j j0 j1 bj.2)
    refine ⟨ne, fun hv2 => ?_⟩
    obtain ⟨e1, _, e3, e4⟩ := fsF_at n.toNat 0 ne (by decide)
    have dd := (dead' _ e3 (by omega) hv2).2 j j0 j1
    rw [e1] at dd
    exact hv (dd bj.2)
  have a2 := pigeon (f := fun j => fsF (fun w => m' w = m j) n.toNat 0) n.toNat n.toNat (fun i => (!decide (m i = -1)) && !V' i) (fun i => (!decide (m' i = -1)) && !V' i) (fun j j0 j1 hj => by
    rw [Bool.and_eq_true, Bool.not_eq_true', Bool.not_eq_true', decide_eq_false_iff_not] at hj
    have hv : ¬ V' j = true := by rw [hj.2]; decide
    have w := hw j j0 (by omega) hj.1 hv
    obtain ⟨e1, _, e3, e4⟩ := fsF_at n.toNat 0 w.1 (by decide)
    refine ⟨by (try dsimp only); omega, ?_⟩
    (try dsimp only)
    rw [Bool.and_eq_true, Bool.not_eq_true', Bool.not_eq_true', decide_eq_false_iff_not]
    refine ⟨by rw [e1]; exact hj.1, ?_⟩
    cases hq : V' (fsF (fun w => m' w = m j) n.toNat 0) with
    | false => rfl
    | true => exact absurd hq w.2) (fun i j i0 ij j1 hi hj e => by
    rw [Bool.and_eq_true, Bool.not_eq_true', Bool.not_eq_true', decide_eq_false_iff_not] at hi hj
    have wi := hw i i0 (by omega) hi.1 (by rw [hi.2]; decide)
    have wj := hw j (by omega) (by omega) hj.1 (by rw [hj.2]; decide)
    obtain ⟨e1, _⟩ := fsF_at n.toNat 0 wi.1 (by decide)
    obtain ⟨e2, _⟩ := fsF_at n.toNat 0 wj.1 (by decide)
    (try dsimp only at e)
    rw [e] at e1
    exact inj i j i0 (by omega) (by omega) (by omega) (by omega) rfl rfl hi.1 (e1.symm.trans e2))
  omega
/-- at the beginning nothing is matched -/
theorem HUN_eq {n : Int} {E : Int → Int → Bool} {s s' : Int} (h : HUN n E s) (h' : HUN n E s') : s = s' := Int.le_antisymm (HUN_le h h') (HUN_le h' h)

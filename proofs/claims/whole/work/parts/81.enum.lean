/-! MEN: a matching of places is a matching of flags -/
def ENM (n N : Int) (e : Int → Int) (K : Int → Prop) : Prop := (∀ i : Int, 0 ≤ i → i < n → (0 ≤ e i ∧ e i < N) ∧ K (e i)) ∧ (∀ i j : Int, 0 ≤ i → i < j → j < n → ¬ e i = e j) ∧ ∀ k : Int, 0 ≤ k → k < N → K k → ∃ i : Int, (0 ≤ i ∧ i < n) ∧ e i = k
theorem cnt_all : ∀ n : Nat, cnt (fun _ => true) n = n := by
  intro n
  induction n with
  | zero => rfl
  | succ n ih => rw [cnt_s, ih, if_pos rfl]; omega
theorem ENM_in {n N : Int} {e : Int → Int} {K : Int → Prop} (h : ENM n N e K) {i j : Int} (i0 : 0 ≤ i) (i1 : i < n) (j0 : 0 ≤ j) (j1 : j < n) (q : e i = e j) : i = j := by
  by_cases a : i < j
  · exact absurd q (h.2.1 i j i0 a j1)
  · by_cases b : j < i
    · exact absurd q.symm (h.2.1 j i j0 b i1)
    · omega
theorem ENM_le {n n' N : Int} {e e' : Int → Int} {K : Int → Prop} (n0 : 0 ≤ n) (n0' : 0 ≤ n') (h : ENM n N e K) (h' : ENM n' N e' K) : n ≤ n' := by
  have st : ∀ i : Int, 0 ≤ i → i < n → ¬ fsF (fun w => e' w = e i) n'.toNat 0 = -1 := fun i i0 i1 hq => by
    have hi := h.1 i i0 i1
    obtain ⟨w, wr, ew⟩ := h'.2.2 (e i) hi.1.1 hi.1.2 hi.2
    exact fsF_none n'.toNat 0 (by decide) hq w wr.1 (by omega) ew
  have a := pigeon (f := fun i => fsF (fun w => e' w = e i) n'.toNat 0) n.toNat n'.toNat (fun _ => true) (fun _ => true) (fun i i0 i1 _ => by
    obtain ⟨_, _, e3, e4⟩ := fsF_at n'.toNat 0 (st i i0 (by omega)) (by decide)
    exact ⟨by (try dsimp only); omega, rfl⟩) (fun i j i0 ij j1 _ _ q => by
    obtain ⟨e1, _⟩ := fsF_at n'.toNat 0 (st i i0 (by omega)) (by decide)
    obtain ⟨e2, _⟩ := fsF_at n'.toNat 0 (st j (by omega) (by omega)) (by decide)
    (try dsimp only at q)
    rw [q] at e1
    exact h.2.1 i j i0 ij (by omega) (e1.symm.trans e2))
  rw [cnt_all, cnt_all] at a
  omega
theorem ENM_eq {n n' N : Int} {e e' : Int → Int} {K : Int → Prop} (n0 : 0 ≤ n) (n0' : 0 ≤ n') (h : ENM n N e K) (h' : ENM n' N e' K) : n = n' := Int.le_antisymm (ENM_le n0 n0' h h') (ENM_le n0' n0 h' h)
theorem HUN_map {n N s : Int} {E Ef : Int → Int → Bool} {e : Int → Int} {K : Int → Prop} (n0 : 0 ≤ n) (N0 : 0 ≤ N) (h : ENM n N e K) (ed : ∀ i j : Int, 0 ≤ i → i < n → 0 ≤ j → j < n → E i j = Ef (e i) (e j)) (out : ∀ k l : Int, 0 ≤ k → k < N → 0 ≤ l → l < N → Ef k l = true → K k ∧ K l) (hu : HUN n E s) : HUN N Ef s := by
  obtain ⟨m, V, b, inj, dead, free, hs⟩ := hu
  generalize hd : (fun k => fsF (fun i => e i = k) n.toNat 0) = d
  have d_at : ∀ k : Int, ¬ d k = -1 → e (d k) = k ∧ 0 ≤ d k ∧ d k < n := fun k hk => by
    rw [← hd] at hk ⊢
    obtain ⟨e1, _, e3, e4⟩ := fsF_at n.toNat 0 hk (by decide)
    exact ⟨e1, e3, by (try dsimp only); omega⟩
  have d_e : ∀ i : Int, 0 ≤ i → i < n → d (e i) = i := fun i i0 i1 => by
    have ne : ¬ d (e i) = -1 := fun hq => by
      rw [← hd] at hq
      exact fsF_none n.toNat 0 (by decide) hq i i0 (by omega) rfl
    have a := d_at (e i) ne
    exact ENM_in h a.2.1 a.2.2 i0 i1 a.1
  have d_k : ∀ k : Int, 0 ≤ k → k < N → K k → ¬ d k = -1 := fun k k0 k1 hk => by
    obtain ⟨i, ir, ei⟩ := h.2.2 k k0 k1 hk
    rw [← ei, d_e i ir.1 ir.2]; omega
  generalize hm : (fun k => if d k = -1 then (-1 : Int) else if m (d k) = -1 then -1 else e (m (d k))) = m'
  have mv : ∀ k : Int, ¬ m' k = -1 → ¬ d k = -1 ∧ ¬ m (d k) = -1 ∧ m' k = e (m (d k)) := fun k hk => by
    have e' : m' k = if d k = -1 then (-1 : Int) else if m (d k) = -1 then -1 else e (m (d k)) := by rw [← hm]
    rw [e'] at hk ⊢
    split at hk
    · exact absurd rfl hk
    · rename_i q1
      split at hk
      · exact absurd rfl hk
      · rename_i q2
        rw [if_neg q1, if_neg q2]
        exact ⟨q1, q2, rfl⟩
  have mb : ∀ k : Int, ¬ d k = -1 → ¬ m (d k) = -1 → (0 ≤ m (d k) ∧ m (d k) < n) ∧ E (m (d k)) (d k) = true ∧ m' k = e (m (d k)) := fun k q1 q2 => by
    have a := d_at k q1
    have c := (b (d k) a.2.1 a.2.2).resolve_left q2
    refine ⟨c.1, c.2, ?_⟩
    rw [← hm]; dsimp only; rw [if_neg q1, if_neg q2]
  have me : ∀ i : Int, 0 ≤ i → i < n → (¬ m' (e i) = -1 ↔ ¬ m i = -1) := fun i i0 i1 => by
    have di := d_e i i0 i1
    constructor
    · intro hq
      have a := mv (e i) hq
      rw [di] at a; exact a.2.1
    · intro hq
      have a := mb (e i) (by rw [di]; omega) (by rw [di]; exact hq)
      have c := h.1 (m (d (e i))) a.1.1 a.1.2
      rw [a.2.2]; omega
  refine ⟨m', fun k => if d k = -1 then false else V (d k), fun k k0 k1 => ?_, fun k l k0 k1 l0 l1 kl _ _ hk => ?_, fun v v0 v1 hv => ?_, fun k k0 k1 un l l0 l1 ekl => ?_, ?_⟩
  · by_cases q : m' k = -1
    · exact Or.inl q
    · have a := mv k q
      have c := mb k a.1 a.2.1
      have x := h.1 _ c.1.1 c.1.2
      have y := d_at k a.1
      refine Or.inr ⟨by rw [c.2.2]; exact x.1, ?_⟩
      have z := ed (m (d k)) (d k) c.1.1 c.1.2 y.2.1 y.2.2
      rw [c.2.2, ← z.symm.trans c.2.1]
      rw [y.1]
  · intro q
    have a := mv k hk
    have c := mv l (by rw [← q]; exact hk)
    have a2 := mb k a.1 a.2.1
    have c2 := mb l c.1 c.2.1
    have x := d_at k a.1
    have y := d_at l c.1
    have z := ENM_in h a2.1.1 a2.1.2 c2.1.1 c2.1.2 (by rw [← a2.2.2, q, c2.2.2])
    exact inj (d k) (d l) x.2.1 x.2.2 y.2.1 y.2.2 (fun w => kl (by rw [← x.1, w, y.1])) rfl rfl a.2.1 z
  · dsimp only at hv
    split at hv
    · cases hv
    · rename_i q1
      have x := d_at v q1
      have dd := dead (d v) x.2.1 x.2.2 hv
      have a := mb v q1 dd.1
      have c := h.1 _ a.1.1 a.1.2
      refine ⟨by rw [a.2.2]; omega, fun j j0 j1 ej => ?_⟩
      rw [a.2.2] at ej
      have kj := (out _ _ c.1.1 c.1.2 j0 j1 ej).2
      have nj := d_k j j0 j1 kj
      have y := d_at j nj
      dsimp only
      rw [if_neg nj]
      refine dd.2 (d j) y.2.1 y.2.2 ?_
      rw [ed _ _ a.1.1 a.1.2 y.2.1 y.2.2, y.1]; exact ej
  · have kk := out k l k0 k1 l0 l1 ekl
    have nk := d_k k k0 k1 kk.1
    have nl := d_k l l0 l1 kk.2
    have x := d_at k nk
    have y := d_at l nl
    dsimp only
    rw [if_neg nl]
    refine free (d k) x.2.1 x.2.2 (fun j j0 j1 q => ?_) (d l) y.2.1 y.2.2 (by rw [ed _ _ x.2.1 x.2.2 y.2.1 y.2.2, x.1, y.1]; exact ekl)
    have c := h.1 j j0 j1
    have dj := d_e j j0 j1
    have a := mb (e j) (by rw [dj]; omega) (by rw [dj, q]; omega)
    refine un (e j) c.1.1 c.1.2 ?_
    rw [a.2.2, dj, q, x.1]
  · rw [← hs]
    refine Int.le_antisymm ?_ ?_
    · refine pigeon (f := d) N.toNat n.toNat _ _ (fun k k0 k1 hk => ?_) (fun k l k0 kl l1 hk hl q => ?_)
      · rw [Bool.not_eq_true', decide_eq_false_iff_not] at hk ⊢
        have a := mv k hk
        have x := d_at k a.1
        exact ⟨by omega, a.2.1⟩
      · rw [Bool.not_eq_true', decide_eq_false_iff_not] at hk hl
        have x := d_at k (mv k hk).1
        have y := d_at l (mv l hl).1
        rw [q, y.1] at x
        omega
    · refine pigeon (f := e) n.toNat N.toNat _ _ (fun i i0 i1 hi => ?_) (fun i j i0 ij j1 hi hj q => h.2.1 i j i0 ij (by omega) q)
      rw [Bool.not_eq_true', decide_eq_false_iff_not] at hi ⊢
      have c := h.1 i i0 (by omega)
      exact ⟨by omega, (me i i0 (by omega)).mpr hi⟩

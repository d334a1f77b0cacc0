/-! MEN: the reference lists them by their hours, then by the order told -/
abbrev rBEF (r : Int → Int) (t k l : Int) : Prop := mH r l < t ∨ (mH r l = t ∧ l < k)
def rLST (r : Int → Int) (T : TT) (n t k : Int) (e : Int → Int) (X : XT) : Prop := 0 ≤ n ∧ (∀ i : Int, 0 ≤ i → i < n → (0 ≤ e i ∧ e i < r 1) ∧ mK r T (e i) ∧ rBEF r t k (e i)) ∧ (∀ i j : Int, 0 ≤ i → i < j → j < n → mH r (e i) < mH r (e j) ∨ (mH r (e i) = mH r (e j) ∧ e i < e j)) ∧ (∀ l : Int, 0 ≤ l → l < r 1 → mK r T l → rBEF r t k l → ∃ i : Int, (0 ≤ i ∧ i < n) ∧ e i = l) ∧ (∀ i : Int, 0 ≤ i → i < n → X 106 i = mS r T (e i) ∧ X 107 i = mH r (e i)) ∧ X 77 50 = n
theorem rLST_s {r : Int → Int} {T : TT} {n t k : Int} {e : Int → Int} {X : XT} (h : rLST r T n t k e X) (g : ¬ mH r k = t ∨ mS r T k = 576) : rLST r T n t (k + 1) e X := by
  obtain ⟨h1, h2, h3, h4, h5, h6⟩ := h
  refine ⟨h1, fun i i0 i1 => ?_, h3, fun l l0 l1 kl bl => ?_, h5, h6⟩
  · have a := h2 i i0 i1
    refine ⟨a.1, a.2.1, ?_⟩
    have := a.2.2
    unfold rBEF at this ⊢; omega
  · refine h4 l l0 l1 kl ?_
    unfold rBEF at bl ⊢
    by_cases q : l = k
    · rw [q] at kl bl ⊢
      rcases g with g | g
      · omega
      · exact absurd g kl
    · omega
theorem rLST_h {r : Int → Int} {T : TT} {n t k : Int} {e : Int → Int} {X : XT} (h : rLST r T n t k e X) (hk : r 1 ≤ k) : rLST r T n (t + 1) 0 e X := by
  obtain ⟨h1, h2, h3, h4, h5, h6⟩ := h
  refine ⟨h1, fun i i0 i1 => ?_, h3, fun l l0 l1 kl bl => ?_, h5, h6⟩
  · have a := h2 i i0 i1
    refine ⟨a.1, a.2.1, ?_⟩
    have := a.2.2
    unfold rBEF at this ⊢; omega
  · refine h4 l l0 l1 kl ?_
    unfold rBEF at bl ⊢; omega
theorem rLST_in {r : Int → Int} {T : TT} {n t k : Int} {e : Int → Int} {X : XT} (h : rLST r T n t k e X) {i j : Int} (i0 : 0 ≤ i) (ij : i < j) (j1 : j < n) : ¬ e i = e j := fun q => by
  have := h.2.2.1 i j i0 ij j1
  rw [q] at this; omega
theorem rLST_lt {r : Int → Int} {T : TT} {n t k : Int} {e : Int → Int} {X : XT} (h : rLST r T n t k e X) (k0 : 0 ≤ k) (k1 : k < r 1) (hk : mH r k = t) : n < r 1 := by
  have a := pigeon (f := e) n.toNat (r 1).toNat (fun _ => true) (fun i => (fun _ => true) i && !decide (i = k)) (fun i i0 i1 _ => by
    have b := h.2.1 i i0 (by omega)
    refine ⟨by omega, ?_⟩
    have c : ¬ e i = k := fun q => by have := b.2.2; rw [q] at this; unfold rBEF at this; omega
    rw [decide_eq_false c]; rfl) (fun i j i0 ij j1 _ _ => rLST_in h i0 ij (by omega))
  rw [cnt_out (p := fun _ => true) rfl _ k0 (by omega), cnt_all, cnt_all] at a
  have := h.1
  omega
theorem rLST_le {r : Int → Int} {T : TT} {n t k : Int} {e : Int → Int} {X : XT} (h : rLST r T n t k e X) (r0 : 0 ≤ r 1) : n ≤ r 1 := by
  have a := pigeon (f := e) n.toNat (r 1).toNat (fun _ => true) (fun _ => true) (fun i i0 i1 _ => by
    have b := h.2.1 i i0 (by omega)
    exact ⟨by omega, rfl⟩) (fun i j i0 ij j1 _ _ => rLST_in h i0 ij (by omega))
  rw [cnt_all, cnt_all] at a
  have := h.1
  omega
theorem rLST_t {r : Int → Int} {T : TT} {n t k : Int} {e : Int → Int} {X X1 : XT} (h : rLST r T n t k e X) (k0 : 0 ≤ k) (k1 : k < r 1) (hk : mH r k = t) (g : mK r T k) (a6 : X1 106 n = mS r T k) (o6 : ∀ i : Int, ¬ i = n → X1 106 i = X 106 i) (a7 : X1 107 n = t) (o7 : ∀ i : Int, ¬ i = n → X1 107 i = X 107 i) (a50 : X1 77 50 = n + 1) : rLST r T (n + 1) t (k + 1) (fun i => if i = n then k else e i) X1 := by
  obtain ⟨h1, h2, h3, h4, h5, h6⟩ := h
  refine ⟨by omega, fun i i0 i1 => ?_, fun i j i0 ij j1 => ?_, fun l l0 l1 kl bl => ?_, fun i i0 i1 => ?_, a50⟩
  · dsimp only
    by_cases q : i = n
    · rw [if_pos q]; exact ⟨⟨k0, k1⟩, g, by unfold rBEF; omega⟩
    · rw [if_neg q]
      have a := h2 i i0 (by omega)
      refine ⟨a.1, a.2.1, ?_⟩
      have := a.2.2
      unfold rBEF at this ⊢; omega
  · dsimp only
    rw [if_neg (show ¬ i = n by omega)]
    have a := (h2 i i0 (by omega)).2.2
    by_cases q : j = n
    · rw [if_pos q]; unfold rBEF at a; omega
    · rw [if_neg q]; exact h3 i j i0 ij (by omega)
  · by_cases q : l = k
    · exact ⟨n, by omega, by dsimp only; rw [if_pos rfl]; exact q.symm⟩
    · obtain ⟨i, ir, ei⟩ := h4 l l0 l1 kl (by unfold rBEF at bl ⊢; omega)
      exact ⟨i, by omega, by dsimp only; rw [if_neg (show ¬ i = n by omega)]; exact ei⟩
  · dsimp only
    by_cases q : i = n
    · rw [if_pos q, q]; exact ⟨a6, by rw [a7, hk]⟩
    · rw [if_neg q, o6 i q, o7 i q]; exact h5 i i0 (by omega)
theorem rLST_e {r : Int → Int} {T : TT} {n : Int} {e : Int → Int} {X : XT} (w : RW r) (h : rLST r T n 12 0 e X) : ENM n (r 1) e (mK r T) :=
  ⟨fun i i0 i1 => ⟨(h.2.1 i i0 i1).1, (h.2.1 i i0 i1).2.1⟩, fun i j i0 ij j1 => rLST_in h i0 ij j1, fun k k0 k1 kk => h.2.2.2.1 k k0 k1 kk (Or.inl (by have := (mS_r (T := T) w k0 k1).2.1; omega))⟩
theorem m_can {r : Int → Int} {T : TT} {n : Int} {e : Int → Int} {X : XT} (w : RW r) (h : rLST r T n 12 0 e X) : mGO n (fun i j => mEf r T (e i) (e j)) X := by
  intro X1 l j Q q6 q7 l0 l1 j0 j1 y no
  have wf := w.2.2.2.1.1.1
  have nr := rLST_le h wf.1
  have al := h.2.1 l l0 l1
  have aj := h.2.1 j j0 j1
  have bl := mS_r (T := T) w al.1.1 al.1.2
  have bj := mS_r (T := T) w aj.1.1 aj.1.2
  have cl := h.2.2.2.2.1 l l0 l1
  have cj := h.2.2.2.2.1 j j0 j1
  have lt : l < j → mH r (e l) < mH r (e j) ∨ (mH r (e l) = mH r (e j) ∧ e l < e j) := fun z => h.2.2.1 l j l0 z j1
  have gt : j < l → mH r (e j) < mH r (e l) ∨ (mH r (e j) = mH r (e l) ∧ e j < e l) := fun z => h.2.2.1 j l j0 z l1
  have eq : j = l → e j = e l ∧ mH r (e j) = mH r (e l) := fun z => by rw [z]; exact ⟨rfl, rfl⟩
  have kl := al.2.1
  have kj := aj.2.1
  unfold mK at kl kj
  have ye : mD (mS r T (e l)) (mS r T (e j)) ≤ mH r (e j) - mH r (e l) → (mH r (e j) = mH r (e l) → e l < e j) → Q 1 := fun a c => y (mEf_t.mpr ⟨⟨kl, kj⟩, a, c⟩)
  have ne : ¬ (mD (mS r T (e l)) (mS r T (e j)) ≤ mH r (e j) - mH r (e l) ∧ (mH r (e j) = mH r (e l) → e l < e j)) → Q 0 := fun a => no (fun z => a (by have := mEf_t.mp z; exact ⟨this.2.1, this.2.2⟩))
  unfold w_X12_canGoOn
  rw [q6, q7, cl.1, cl.2, cj.1, cj.2]
  generalize mS r T (e l) = sl at *
  generalize mS r T (e j) = sj at *
  generalize mH r (e l) = hl at *
  generalize mH r (e j) = hj at *
  have ab : ∀ x : Int, (if x < 0 then -x else x) = max x (-x) := fun x => by split <;> omega
  rw [ab, ab]
  have d0 : mD sl sj = max ((sl % 24 - 8) - (sj % 24 - 8)) (-((sl % 24 - 8) - (sj % 24 - 8))) + max ((sl / 24 - 8) - (sj / 24 - 8)) (-((sl / 24 - 8) - (sj / 24 - 8))) := by unfold mD; omega
  rw [← d0]
  have dp : 0 ≤ mD sl sj ∧ mD sl sj ≤ 100 := by unfold mD; omega
  refine ⟨by omega, by omega, by omega, by omega, by omega, by omega, by omega, by omega, fun k => ne ?_, fun k => ⟨by omega, by omega, fun k1 => ne (by omega), fun k1 => ye (by omega) (by omega)⟩⟩
  rintro ⟨z1, z2⟩
  by_cases q : j = l
  · have := eq q
    have := z2 this.2
    omega
  · have := gt (by omega)
    omega

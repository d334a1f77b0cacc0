/-! MEN: the reference's search for a way: a stack -/
def mGO (n : Int) (E : Int → Int → Bool) (X : XT) : Prop := ∀ (X1 : XT) (l j : Int) (Q : Int → Prop), X1 106 = X 106 → X1 107 = X 107 → 0 ≤ l → l < n → 0 ≤ j → j < n → (E l j = true → Q 1) → (¬ E l j = true → Q 0) → w_X12_canGoOn l j X1 Q
def mBND (n : Int) (E : Int → Int → Bool) (m : Int → Int) : Prop := ∀ j : Int, 0 ≤ j → j < n → m j = -1 ∨ ((0 ≤ m j ∧ m j < n) ∧ E (m j) j = true)
def STK (n : Int) (E : Int → Int → Bool) (m : Int → Int) (a : Int) (L R : Int → Int) (d : Int) : Prop := (∀ i : Int, 0 ≤ i → i ≤ d → 0 ≤ L i ∧ L i < n) ∧ (∀ i : Int, 0 ≤ i → i < d → (0 ≤ R i ∧ R i < n) ∧ E (L i) (R i) = true ∧ m (R i) = L (i + 1)) ∧ (∀ i j : Int, 0 ≤ i → i < j → j < d → ¬ R i = R j) ∧ (0 ≤ d → L 0 = a)
def stU (R : Int → Int) (i j : Int) : Int := if fsF (fun k => R k = j) i.toNat 0 = -1 then 0 else 1
theorem stU_0 {R : Int → Int} {i j : Int} : stU R i j = 0 ↔ ∀ k : Int, 0 ≤ k → k < i → ¬ R k = j := by
  unfold stU
  constructor
  · intro h k k0 k1
    split at h
    · rename_i q
      exact fsF_none i.toNat 0 (by decide) q k k0 (by omega)
    · exact absurd h (by decide)
  · intro h
    by_cases q : fsF (fun k => R k = j) i.toNat 0 = -1
    · rw [if_pos q]
    · obtain ⟨e1, _, e3, e4⟩ := fsF_at i.toNat 0 q (by decide)
      exact absurd e1 (h _ e3 (by omega))
theorem m_write {n d a : Int} {E : Int → Int → Bool} {X : XT} {Q : Int → XT → Prop} (d0 : 0 ≤ d) (d1 : d ≤ 24) (n1 : n ≤ 24) (st : STK n E (X 108) a (X 110) (X 111) d) (rd : 0 ≤ X 111 d ∧ X 111 d < n) (ed : E (X 110 d) (X 111 d) = true) (md : X 108 (X 111 d) = -1) (nd : ∀ i : Int, 0 ≤ i → i < d → ¬ X 111 i = X 111 d) (mb : mBND n E (X 108)) (inj : mINJ n (fun _ => 0) (X 108)) (nl : ∀ j : Int, 0 ≤ j → j < n → ¬ X 108 j = a) (q : ∀ X1, Fx [108] X X1 → mBND n E (X1 108) → mPLUS n (fun _ => 0) (X 108) (X1 108) a → (∀ V : Int → Prop, mDEAD n E V (X 108) → ∀ v : Int, 0 ≤ v → v < n → V v → X1 108 v = X 108 v) → Q 1 X1) :
    ∃ (I84 : Int → XT → Prop) (m85 : Int → XT → Nat), I84 d X ∧ ∀ (x82 : Int) (X83 : XT), I84 x82 X83 → R32 x82 ∧ (x82 < 0 → Q 1 X83) ∧ (¬ x82 < 0 → (0 ≤ x82 ∧ x82 < 25) ∧ (0 ≤ (X83 111 x82) ∧ (X83 111 x82) < 24) ∧ I84 (x82 + (-1)) (x_st X83 108 (X83 111 x82) (X83 110 x82)) ∧ m85 (x82 + (-1)) (x_st X83 108 (X83 111 x82) (X83 110 x82)) < m85 x82 X83) := by
  obtain ⟨s1, s2, s3, s4⟩ := st
  have rr : ∀ i : Int, 0 ≤ i → i ≤ d → (0 ≤ X 111 i ∧ X 111 i < n) ∧ E (X 110 i) (X 111 i) = true := fun i i0 i1 => by
    by_cases z : i = d
    · rw [z]; exact ⟨rd, ed⟩
    · have := s2 i i0 (by omega); exact ⟨this.1, this.2.1⟩
  have ds : ∀ i j : Int, 0 ≤ i → i < j → j ≤ d → ¬ X 111 i = X 111 j := fun i j i0 ij j1 => by
    by_cases z : j = d
    · rw [z]; exact nd i i0 (by omega)
    · exact s3 i j i0 ij (by omega)
  have wk : ∀ u : Int → Int, mINJ n u (X 108) := fun u i j i0 i1 j0 j1 hij _ _ hv => inj i j i0 i1 j0 j1 hij rfl rfl hv
  have ux : ∀ x : Int, 0 ≤ x → x ≤ d → stU (X 111) x (X 111 x) = 0 := fun x x0 x1 => stU_0.mpr (fun k k0 k1 => ds k x k0 k1 x1)
  have nlx : ∀ x : Int, 0 ≤ x → x ≤ d → ∀ j : Int, 0 ≤ j → j < n → stU (X 111) x j = 0 → ¬ X 108 j = X 110 x := fun x x0 x1 j j0 j1 hu e => by
    by_cases z : x = 0
    · rw [z, s4 d0] at e; exact nl j j0 j1 e
    · have a := s2 (x - 1) (by omega) (by omega)
      rw [show x - 1 + 1 = x by omega] at a
      have lx := s1 x x0 x1
      have nj : ¬ j = X 111 (x - 1) := fun y => (stU_0.mp hu) (x - 1) (by omega) (by omega) y.symm
      exact inj j (X 111 (x - 1)) j0 j1 a.1.1 a.1.2 nj rfl rfl (by rw [e]; omega) (by rw [e, a.2.2])
  refine ⟨fun x Y => -1 ≤ x ∧ x ≤ d ∧ Fx [108] X Y ∧ mBND n E (Y 108) ∧ (x = d → Y 108 = X 108) ∧ (x < d → mPLUS n (stU (X 111) (x + 1)) (X 108) (Y 108) (X 110 (x + 1))) ∧ ∀ V : Int → Prop, mDEAD n E V (X 108) → (x < d → ¬ V (X 111 (x + 1))) ∧ ∀ v : Int, 0 ≤ v → v < n → V v → Y 108 v = X 108 v, fun x _ => (x + 1).toNat, ⟨by omega, by omega, Fx.rf, mb, fun _ => rfl, fun z => absurd z (by omega), fun V _ => ⟨fun z => absurd z (by omega), fun v _ _ _ => rfl⟩⟩, ?_⟩
  rintro x Y ⟨x0, x1, f1, b1, k0, k1, k2⟩
  refine ⟨by omega, fun z => ?_, fun z => ?_⟩
  · have p := k1 (by omega)
    have e : stU (X 111) (x + 1) = fun _ => 0 := funext (fun j => stU_0.mpr (fun k a b => absurd (show k < 0 by omega) (by omega)))
    rw [e, show x + 1 = 0 by omega, s4 d0] at p
    exact q Y f1 b1 p (fun V hV => (k2 V hV).2)
  · have y0 : 0 ≤ x := by omega
    have e110 : Y 110 = X 110 := f1 110 rfl
    have e111 : Y 111 = X 111 := f1 111 rfl
    have rx := rr x y0 x1
    have lx := s1 x y0 x1
    rw [e110, e111]
    have em : (x_st Y 108 (X 111 x) (X 110 x)) 108 = fun j => if j = X 111 x then X 110 x else Y 108 j := by
      funext j
      by_cases h : j = X 111 x
      · rw [h, x_st_at, if_pos rfl]
      · rw [x_st_ne h, if_neg h]
    refine ⟨by omega, by omega, ⟨by omega, by omega, f1.st rfl, ?_, fun y => absurd y (by omega), fun _ => ?_, fun V hV => ?_⟩, by dsimp only; omega⟩
    · rw [em]
      intro j j0 j1
      dsimp only
      by_cases h : j = X 111 x
      · rw [if_pos h, h]; exact Or.inr ⟨lx, rx.2⟩
      · rw [if_neg h]; exact b1 j j0 j1
    · rw [em, show x + -1 + 1 = x by omega]
      by_cases h : x = d
      · rw [k0 h]
        exact plus_free rx.1.1 rx.1.2 (ux x y0 x1) (by rw [h]; exact md) (by omega) (wk _) (nlx x y0 x1)
      · have a := s2 x y0 (by omega)
        have l1 := s1 (x + 1) (by omega) (by omega)
        refine plus_up rx.1.1 rx.1.2 (ux x y0 x1) a.2.2 (by omega) (by omega) (wk _) (nlx x y0 x1) (fun g => (stU_0.mp g) x y0 (by omega) rfl) (fun j _ _ g => stU_0.mpr (fun k c0 c1 => (stU_0.mp g) k c0 (by omega))) (k1 (by omega))
    · have dv := k2 V hV
      have nv : ¬ V (X 111 x) := fun y => by
        have dd := hV _ rx.1.1 rx.1.2 y
        by_cases h : x = d
        · rw [h] at dd; exact dd.1 md
        · have a := s2 x y0 (by omega)
          have c := rr (x + 1) (by omega) (by omega)
          exact dv.1 (by omega) (dd.2 _ c.1.1 c.1.2 (by rw [a.2.2]; exact c.2))
      refine ⟨fun _ => by rw [show x + -1 + 1 = x by omega]; exact nv, fun v v0 v1 hv => ?_⟩
      rw [em]
      dsimp only
      rw [if_neg (fun y => nv (by rw [← y]; exact hv))]
      exact dv.2 v v0 v1 hv
theorem vis_up {g g' : Int → Int} {n x : Int} (x0 : 0 ≤ x) (x1 : x < n) (gx : g x = 0) (h : ∀ j : Int, g' j = if j = x then 1 else g j) : cnt (vis g') n.toNat = cnt (vis g) n.toNat + 1 := by
  have o := cnt_out (p := vis g') (j := x) (by unfold vis; rw [h, if_pos rfl]; decide) n.toNat x0 (by omega)
  rw [cnt_cg (q := vis g) n.toNat (fun i a b => by
    unfold vis
    rw [h]
    by_cases hq : i = x
    · rw [hq, if_pos rfl, gx, decide_eq_true (rfl : x = x)]; decide
    · rw [if_neg hq, decide_eq_false hq, Bool.not_false, Bool.and_true])] at o
  omega

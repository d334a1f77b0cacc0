/-! MEN: the reference's search for a way: the loop -/
def AUG (n : Int) (E : Int → Int → Bool) (m : Int → Int) (a : Int) (d : Int) (v L R : Int → Int) : Prop := (-1 ≤ d ∧ d ≤ cnt (vis v) n.toNat) ∧ (∀ j : Int, 0 ≤ j → j < n → v j = 0 ∨ v j = 1) ∧ STK n E m a L R d ∧ (0 ≤ d → -1 ≤ R d ∧ R d < n) ∧ (∀ i j : Int, 0 ≤ i → i ≤ d → 0 ≤ j → j < n → j ≤ R i → E (L i) j = true → ¬ v j = 0) ∧ (∀ i : Int, 0 ≤ i → i < d → ¬ v (R i) = 0) ∧ (∀ w : Int, 0 ≤ w → w < n → ¬ v w = 0 → ¬ m w = -1 ∧ ((∀ j : Int, 0 ≤ j → j < n → E (m w) j = true → ¬ v j = 0) ∨ ∃ i : Int, (0 ≤ i ∧ i < d) ∧ R i = w)) ∧ (d = -1 → ∀ j : Int, 0 ≤ j → j < n → E a j = true → ¬ v j = 0)
theorem STK_R {n : Int} {E : Int → Int → Bool} {m : Int → Int} {a d : Int} {L R R' : Int → Int} (h : STK n E m a L R d) (g : ∀ i : Int, 0 ≤ i → i < d → R' i = R i) : STK n E m a L R' d := by
  obtain ⟨s1, s2, s3, s4⟩ := h
  exact ⟨s1, fun i i0 i1 => by rw [g i i0 i1]; exact s2 i i0 i1, fun i j i0 ij j1 => by rw [g i i0 (by omega), g j (by omega) j1]; exact s3 i j i0 ij j1, s4⟩
theorem AUG_0 {n : Int} {E : Int → Int → Bool} {m : Int → Int} {a : Int} {v L R : Int → Int} (n0 : 0 < n) (a0 : 0 ≤ a) (a1 : a < n) (v0 : ∀ j : Int, 0 ≤ j → j < n → v j = 0) (l0 : L 0 = a) (r0 : R 0 = -1) : AUG n E m a 0 v L R := by
  refine ⟨⟨by decide, (cnt_r _).1⟩, fun j j0 j1 => Or.inl (v0 j j0 j1), ⟨fun i i0 i1 => ?_, fun i i0 i1 => absurd i1 (by omega), fun i j i0 ij j1 => absurd j1 (by omega), fun _ => l0⟩, fun _ => by rw [r0]; omega, fun i j i0 i1 j0 j1 jr => ?_, fun i i0 i1 => absurd i1 (by omega), fun w w0 w1 hw => absurd (v0 w w0 w1) hw, fun z => absurd z (by decide)⟩
  · rw [show i = 0 by omega, l0]; exact ⟨a0, a1⟩
  · rw [show i = 0 by omega, r0] at jr; omega
/-- the next place is passed by -/
theorem AUG_n {n : Int} {E : Int → Int → Bool} {m : Int → Int} {a d : Int} {v L R R' : Int → Int} (h : AUG n E m a d v L R) (d0 : 0 ≤ d) (hr : R' d = R d + 1) (ho : ∀ i : Int, ¬ i = d → R' i = R i) (hn : R d + 1 < n) (pass : E (L d) (R d + 1) = true → ¬ v (R d + 1) = 0) : AUG n E m a d v L R' := by
  obtain ⟨h1, h2, h3, h4, h5, h6, h7, h8⟩ := h
  have r4 := h4 d0
  refine ⟨h1, h2, STK_R h3 (fun i _ i1 => ho i (by omega)), fun _ => by rw [hr]; omega, fun i j i0 i1 j0 j1 jr ej => ?_, fun i i0 i1 => by rw [ho i (by omega)]; exact h6 i i0 i1, fun w w0 w1 hw => ?_, h8⟩
  · by_cases q : i = d
    · rw [q, hr] at jr
      rw [q] at ej
      by_cases q2 : j = R d + 1
      · rw [q2] at ej ⊢; exact pass ej
      · exact h5 d j d0 (by omega) j0 j1 (by omega) ej
    · rw [ho i q] at jr
      exact h5 i j i0 i1 j0 j1 jr ej
  · have a := h7 w w0 w1 hw
    refine ⟨a.1, a.2.imp id (fun ⟨i, ir, ei⟩ => ⟨i, ir, by rw [ho i (by omega)]; exact ei⟩)⟩
/-- no place is left for the top -/
theorem AUG_p {n : Int} {E : Int → Int → Bool} {m : Int → Int} {a d : Int} {v L R R' : Int → Int} (h : AUG n E m a d v L R) (d0 : 0 ≤ d) (ho : ∀ i : Int, ¬ i = d → R' i = R i) (hn : R d + 1 = n) : AUG n E m a (d + (-1)) v L R' := by
  obtain ⟨h1, h2, h3, h4, h5, h6, h7, h8⟩ := h
  have cl : ∀ j : Int, 0 ≤ j → j < n → E (L d) j = true → ¬ v j = 0 := fun j j0 j1 ej => h5 d j d0 (by omega) j0 j1 (by omega) ej
  obtain ⟨s1, s2, s3, s4⟩ := h3
  refine ⟨by omega, h2, ⟨fun i i0 i1 => s1 i i0 (by omega), fun i i0 i1 => by rw [ho i (by omega)]; exact s2 i i0 (by omega), fun i j i0 ij j1 => by rw [ho i (by omega), ho j (by omega)]; exact s3 i j i0 ij (by omega), fun _ => s4 d0⟩, fun z => ?_, fun i j i0 i1 j0 j1 jr ej => ?_, fun i i0 i1 => by rw [ho i (by omega)]; exact h6 i i0 (by omega), fun w w0 w1 hw => ?_, fun z j j0 j1 ej => ?_⟩
  · rw [ho _ (by omega)]
    have := (s2 (d + -1) z (by omega)).1
    omega
  · rw [ho i (by omega)] at jr
    exact h5 i j i0 (by omega) j0 j1 jr ej
  · have a := h7 w w0 w1 hw
    refine ⟨a.1, ?_⟩
    rcases a.2 with z | ⟨i, ir, ei⟩
    · exact Or.inl z
    · by_cases q : i = d - 1
      · have b := s2 i ir.1 ir.2
        rw [ei, show i + 1 = d by omega] at b
        exact Or.inl (by rw [b.2.2]; exact cl)
      · exact Or.inr ⟨i, by omega, by rw [ho i (by omega)]; exact ei⟩
  · have e : d = 0 := by omega
    rw [← s4 d0, ← e] at ej
    exact cl j j0 j1 ej
/-- a place that is held: whom it is held for is asked next -/
theorem AUG_u {n x : Int} {E : Int → Int → Bool} {m : Int → Int} {a d : Int} {v v' L L' R R' : Int → Int} (h : AUG n E m a d v L R) (d0 : 0 ≤ d) (hx : R d + 1 = x) (hn : x < n) (vx : v x = 0) (ex : E (L d) x = true) (mx : ¬ m x = -1) (mr : 0 ≤ m x ∧ m x < n) (hv : ∀ j : Int, v' j = if j = x then 1 else v j) (hl : L' (d + 1) = m x) (lo : ∀ i : Int, ¬ i = d + 1 → L' i = L i) (h1' : R' (d + 1) = -1) (hr : R' d = x) (ho : ∀ i : Int, ¬ i = d + 1 → ¬ i = d → R' i = R i) : AUG n E m a (d + 1) v' L' R' := by
  obtain ⟨h1, h2, h3, h4, h5, h6, h7, h8⟩ := h
  have r4 := h4 d0
  have x0 : 0 ≤ x := by omega
  have up := vis_up (g := v) (g' := v') x0 hn vx hv
  have mo : ∀ j : Int, ¬ v j = 0 → ¬ v' j = 0 := fun j hj => by rw [hv]; split; decide; exact hj
  have xv : ¬ v' x = 0 := by rw [hv, if_pos rfl]; decide
  obtain ⟨s1, s2, s3, s4⟩ := h3
  refine ⟨by omega, fun j j0 j1 => by rw [hv]; split; exact Or.inr rfl; exact h2 j j0 j1, ⟨fun i i0 i1 => ?_, fun i i0 i1 => ?_, fun i j i0 ij j1 => ?_, fun _ => by rw [lo 0 (by omega)]; exact s4 d0⟩, fun _ => by rw [h1']; omega, fun i j i0 i1 j0 j1 jr ej => ?_, fun i i0 i1 => ?_, fun w w0 w1 hw => ?_, fun z => absurd z (by omega)⟩
  · by_cases q : i = d + 1
    · rw [q, hl]; exact mr
    · rw [lo i q]; exact s1 i i0 (by omega)
  · rw [lo i (by omega)]
    by_cases q : i = d
    · rw [q, hr, hl]; exact ⟨⟨x0, hn⟩, ex, rfl⟩
    · rw [ho i (by omega) q, lo (i + 1) (by omega)]; exact s2 i i0 (by omega)
  · rw [ho i (by omega) (by omega)]
    by_cases q : j = d
    · rw [q, hr]
      intro y
      exact h6 i i0 (by omega) (by rw [y]; exact vx)
    · rw [ho j (by omega) q]; exact s3 i j i0 ij (by omega)
  · by_cases q : i = d + 1
    · rw [q, h1'] at jr; omega
    · rw [lo i q] at ej
      by_cases q2 : i = d
      · rw [q2, hr] at jr
        rw [q2] at ej
        by_cases q3 : j = x
        · rw [q3]; exact xv
        · exact mo j (h5 d j d0 (by omega) j0 j1 (by omega) ej)
      · rw [ho i q q2] at jr
        exact mo j (h5 i j i0 (by omega) j0 j1 jr ej)
  · by_cases q : i = d
    · rw [q, hr]; exact xv
    · rw [ho i (by omega) q]; exact mo _ (h6 i i0 (by omega))
  · by_cases q : w = x
    · rw [q]; exact ⟨mx, Or.inr ⟨d, by omega, hr⟩⟩
    · rw [hv, if_neg q] at hw
      have a := h7 w w0 w1 hw
      refine ⟨a.1, a.2.imp (fun g j j0 j1 ej => mo j (g j j0 j1 ej)) (fun ⟨i, ir, ei⟩ => ⟨i, by omega, by rw [ho i (by omega) (by omega)]; exact ei⟩)⟩
theorem m_aug {n a : Int} {E : Int → Int → Bool} {X : XT} {Q : Int → XT → Prop} (n1 : n ≤ 24) (hn : X 77 50 = n) (can : mGO n E X) (a0 : 0 ≤ a) (a1 : a < n) (mb : mBND n E (X 108)) (inj : mINJ n (fun _ => 0) (X 108)) (nl : ∀ j : Int, 0 ≤ j → j < n → ¬ X 108 j = a)
    (qF : ∀ X1, Fx [109, 110, 111] X X1 → (∀ j : Int, 0 ≤ j → j < n → E a j = true → ¬ X1 109 j = 0) → (∀ w : Int, 0 ≤ w → w < n → ¬ X1 109 w = 0 → ¬ X 108 w = -1 ∧ ∀ j : Int, 0 ≤ j → j < n → E (X 108 w) j = true → ¬ X1 109 j = 0) → Q 0 X1)
    (qS : ∀ X1, Fx [108, 109, 110, 111] X X1 → mBND n E (X1 108) → mPLUS n (fun _ => 0) (X 108) (X1 108) a → (∀ V : Int → Prop, mDEAD n E V (X 108) → ∀ v : Int, 0 ≤ v → v < n → V v → X1 108 v = X 108 v) → Q 1 X1) : w_X12_augment a X Q := by
  refine ⟨fun x Y => 0 ≤ x ∧ x ≤ n ∧ Fx [109, 110, 111] X Y ∧ ∀ j : Int, 0 ≤ j → j < x → Y 109 j = 0, fun x _ => (n - x).toNat, ⟨by decide, by omega, Fx.rf, fun j c0 c1 => absurd (show j < (0 : Int) from c1) (by omega)⟩, ?_⟩
  rintro x Y ⟨x0, x1, f1, z1⟩
  have h77 : ∀ Z : XT, Fx [109, 110, 111] X Z → Z 77 50 = n := fun Z g => by rw [g 77 rfl]; exact hn
  rw [h77 Y f1]
  refine ⟨by omega, by omega, fun z => ?_, fun z => ⟨by omega, ⟨by omega, by omega, f1.st rfl, fun j c0 c1 => ?_⟩, by dsimp only; omega⟩⟩
  rotate_left
  · by_cases q : j = x
    · rw [q, x_st_at]
    · rw [x_st_ne q]; exact z1 j c0 (by omega)
  refine ⟨fun d Z => Fx [109, 110, 111] X Z ∧ AUG n E (X 108) a d (Z 109) (Z 110) (Z 111), fun d Z => ((n - cnt (vis (Z 109)) n.toNat) * 729 + (d + 1) * 27 + (if d < 0 then 0 else n - Z 111 d)).toNat, ⟨(f1.st rfl).st rfl, ?_⟩, ?_⟩
  · refine AUG_0 (by omega) a0 a1 (fun j j0 j1 => ?_) ?_ ?_
    · rw [x_st_c (by decide), x_st_c (by decide)]; exact z1 j j0 (by omega)
    · rw [x_st_c (by decide), x_st_at]
    · rw [x_st_at]
  rintro d Z ⟨f2, g2⟩
  have g := g2
  obtain ⟨h1, h2, h3, h4, h5, h6, h7, h8⟩ := g2
  have cr := cnt_r (p := vis (Z 109)) n.toNat
  refine ⟨by omega, fun y => ?_, fun y => ?_⟩
  · refine qF Z f2 (h8 (by omega)) (fun w w0 w1 hw => ?_)
    have b := h7 w w0 w1 hw
    refine ⟨b.1, b.2.resolve_right (fun ⟨i, ir, _⟩ => by omega)⟩
  have d0 : 0 ≤ d := by omega
  have r4 := h4 d0
  generalize hZ : x_st Z 111 d (Z 111 d + 1) = Z3
  have f3 : Fx [109, 110, 111] X Z3 := by rw [← hZ]; exact f2.st rfl
  have e109 : Z3 109 = Z 109 := by rw [← hZ, x_st_c (by decide)]
  have e110 : Z3 110 = Z 110 := by rw [← hZ, x_st_c (by decide)]
  have e111 : Z3 111 d = Z 111 d + 1 := by rw [← hZ, x_st_at]
  have o111 : ∀ i : Int, ¬ i = d → Z3 111 i = Z 111 i := fun i hi => by rw [← hZ, x_st_ne hi]
  have e108 : Z3 108 = X 108 := f3 108 rfl
  rw [e111, h77 Z3 f3, e109]
  have ms : ((n - cnt (vis (Z 109)) n.toNat) * 729 + (d + 1) * 27 + (if d < 0 then 0 else n - Z3 111 d)).toNat < ((n - cnt (vis (Z 109)) n.toNat) * 729 + (d + 1) * 27 + (if d < 0 then 0 else n - Z 111 d)).toNat := by
    rw [if_neg y, if_neg y, e111]; omega
  refine ⟨by omega, by omega, by omega, fun k => ?_, fun k => ⟨⟨f3, ?_⟩, ?_⟩⟩
  rotate_left
  · rw [e109, e110]; exact AUG_p g d0 o111 k
  · dsimp only
    rw [e109, if_neg y]
    split
    · omega
    · rename_i y2
      have b := (h3.2.1 (d + -1) (by omega) (by omega)).1
      rw [o111 _ (by omega)]
      omega
  have rx : 0 ≤ Z 111 d + 1 ∧ Z 111 d + 1 < n := by omega
  have v2 := h2 _ rx.1 rx.2
  refine ⟨by omega, by omega, fun k2 => ⟨⟨f3, ?_⟩, ?_⟩, fun k2 => ?_⟩
  · rw [e109, e110]; exact AUG_n g d0 e111 o111 rx.2 (fun _ => k2)
  · dsimp only; rw [e109]; exact ms
  have ld := h3.1 d d0 (Int.le_refl _)
  rw [e110]
  refine can Z3 _ _ _ (f3 106 rfl) (f3 107 rfl) ld.1 ld.2 rx.1 rx.2 (fun ex => ⟨by decide, fun k3 => absurd k3 (by decide), fun _ => ?_⟩) (fun ne => ⟨by decide, fun _ => ⟨⟨f3, ?_⟩, ?_⟩, fun k3 => absurd rfl k3⟩)
  rotate_left
  · rw [e109, e110]; exact AUG_n g d0 e111 o111 rx.2 (fun z2 => absurd z2 ne)
  · dsimp only; rw [e109]; exact ms
  generalize hx : Z 111 d + 1 = x at *
  generalize hZ4 : x_st Z3 109 x 1 = Z4
  have f4 : Fx [109, 110, 111] X Z4 := by rw [← hZ4]; exact f3.st rfl
  have v4 : ∀ j : Int, Z4 109 j = if j = x then 1 else Z 109 j := fun j => by
    rw [← hZ4]
    by_cases q : j = x
    · rw [q, x_st_at, if_pos rfl]
    · rw [x_st_ne q, if_neg q, e109]
  have c108 : Z4 108 = X 108 := f4 108 rfl
  have c110 : Z4 110 = Z 110 := by rw [← hZ4, x_st_c (by decide), e110]
  have c111 : Z4 111 = Z3 111 := by rw [← hZ4, x_st_c (by decide)]
  rw [c108]
  have mx := mb x rx.1 rx.2
  have up := vis_up (g := Z 109) (g' := Z4 109) rx.1 rx.2 k2 v4
  have cr4 := cnt_r (p := vis (Z4 109)) n.toNat
  refine ⟨by omega, fun k3 => ⟨by omega, ⟨(f4.st rfl).st rfl, ?_⟩, ?_⟩, fun k3 => ?_⟩
  · refine AUG_u g d0 hx rx.2 k2 ex k3 (mx.resolve_left k3).1 (fun j => ?_) ?_ (fun i hi => ?_) ?_ ?_ (fun i hi hi2 => ?_)
    · rw [x_st_c (by decide), x_st_c (by decide)]; exact v4 j
    · rw [x_st_c (by decide), x_st_at]
    · rw [x_st_c (by decide), x_st_ne hi, c110]
    · rw [x_st_at]
    · rw [x_st_ne (by omega), x_st_c (by decide), c111, e111]
    · rw [x_st_ne hi, x_st_c (by decide), c111, o111 i hi2]
  · dsimp only
    have q1 : (x_st (x_st Z4 110 (d + 1) (X 108 x)) 111 (d + 1) (-1)) 109 = Z4 109 := by rw [x_st_c (by decide), x_st_c (by decide)]
    rw [q1, x_st_at, if_neg y, if_neg (show ¬ d + 1 < 0 by omega), up]
    omega
  · have c111d : Z4 111 d = x := by rw [c111, e111]
    refine m_write d0 (by omega) n1 ?_ (by rw [c111d]; exact rx) (by rw [c111d, c110]; exact ex) (by rw [c111d, c108]; exact k3) (fun i i0 i1 => ?_) (by rw [c108]; exact mb) (by rw [c108]; exact inj) (by rw [c108]; exact nl) (fun X1 f5 b5 p5 w5 => qS X1 ((f4.sub (by decide)).trans (f5.sub (by decide))) b5 (by rw [c108] at p5; exact p5) (by rw [c108] at w5; exact w5))
    · rw [c108, c110, c111]
      exact STK_R h3 (fun i _ i1 => o111 i (by omega))
    · rw [c111d, c111, o111 i (by omega)]
      intro q
      exact h6 i i0 i1 (by rw [q]; exact k2)

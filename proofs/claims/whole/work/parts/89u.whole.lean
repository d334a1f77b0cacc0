/-! TEXTS: the reference reads a text of a law -/
def rk (t : Int) : Int := if t = 4 then 0 else if t = 2 then 1 else 2
theorem rk_r {t : Int} : 0 ≤ rk t ∧ rk t ≤ 2 := by
  unfold rk
  split
  · decide
  · split <;> decide
def zPg (i t : Int) (S : zST) : Prop := S.2.1 = false → (i < S.2.2.1 ∨ (S.2.2.1 = i ∧ rk S.1 < rk t)) ∧ 0 ≤ S.1 ∧ S.1 ≤ 4
theorem Pg_up {i t j v : Int} {u : Int} {c : zCD} {p : zPL} {d : Int} (h : i < j) (hu : 0 ≤ u ∧ u ≤ 4) : zPg i t (u, false, j, v, c, p, d) := fun _ => ⟨Or.inl h, hu⟩
theorem Pg_eq {i t v : Int} {u : Int} {c : zCD} {p : zPL} {d : Int} (h : rk u < rk t) (hu : 0 ≤ u ∧ u ≤ 4) : zPg i t (u, false, i, v, c, p, d) := fun _ => ⟨Or.inr ⟨rfl, h⟩, hu⟩
theorem Pg_no {i t j v : Int} {u : Int} {c : zCD} {p : zPL} {d : Int} : zPg i t (u, true, j, v, c, p, d) := fun h => by cases h
theorem Pg_ob {i t0 o t v : Int} {c : zCD} {p : zPL} {d : Int} (ht : 0 ≤ t ∧ t ≤ 4) : zPg i t0 (smOb o t i v c p d) := by
  unfold smOb
  split
  · exact Pg_up (by omega) ht
  · exact Pg_no
theorem Pg_pt {lw : Bool} {tk : Int → Int} (HT : ∀ j : Int, 400 ≤ j → tk j = 29) {i t0 v : Int} {c : zCD} {p : zPL} {d : Int} (i4 : i ≤ 400) : zPg i t0 (smPt lw tk i v c p d) := by
  unfold smPt
  split
  · exact Pg_ob (by decide)
  · split
    · rename_i h
      exact Pg_up ((lfR_mo (v := v) HT i4).2.1 h) (by decide)
    · exact Pg_no
theorem mF_step {lw test : Bool} {tk : Int → Int} (HT : ∀ j : Int, 400 ≤ j → tk j = 29) {t i v : Int} {c : zCD} {p : zPL} {d : Int} (ht : 0 ≤ t ∧ t ≤ 3) (i4 : i ≤ 400) : zPg i t (zmF lw test tk t i v c p d) := by
  unfold zmF
  split
  · split
    · exact Pg_up (by omega) (by decide)
    · split
      · exact Pg_ob (by decide)
      · exact Pg_pt HT i4
  · split
    · exact Pg_pt HT i4
    · split
      · rename_i h3
        split
        · exact Pg_up (by omega) (by decide)
        · split
          · split
            · exact Pg_up (by omega) (by decide)
            · exact Pg_no
          · split
            · exact Pg_eq (by rw [h3]; decide) (by decide)
            · split
              · exact Pg_eq (by rw [h3]; decide) (by decide)
              · split
                · exact Pg_no
                · exact Pg_up (by omega) (by decide)
      · have h2 : t = 2 := by omega
        split
        · exact Pg_up (by omega) (by decide)
        · split
          · exact Pg_up (by omega) (by decide)
          · split
            · exact Pg_eq (by rw [h2]; decide) (by decide)
            · split
              · exact Pg_up (by omega) (by decide)
              · exact Pg_no
theorem pl_s {f : Int → Int} {n M : Int} {tk pl bh : Int → Int} (s : zRS f n M tk pl bh) {i : Int} (i0 : 0 ≤ i) (i1 : i < M - 1) : pl i < pl (i + 1) := by
  obtain ⟨⟨l1, l2, l3, l4, ⟨l5, l6, l7⟩, l8, l9⟩, hn, hf⟩ := s
  have a := (l2 i i0 i1).1
  by_cases z : i + 1 < M - 1
  · have b := (l3 (i + 1) (by omega) z).1
    rw [show i + 1 - 1 = i by omega] at b
    omega
  · rw [show i + 1 = M - 1 by omega, l9]
    omega
theorem pl_mono {f : Int → Int} {n M : Int} {tk pl bh : Int → Int} (s : zRS f n M tk pl bh) : ∀ (k : Nat) (i : Int), 0 ≤ i → i + k + 1 ≤ M - 1 → pl i < pl (i + k + 1) := by
  intro k
  induction k with
  | zero => intro i i0 i1; rw [show i + ((0 : Nat) : Int) + 1 = i + 1 by omega]; exact pl_s s i0 (by omega)
  | succ k ih =>
    intro i i0 i1
    have a := ih i i0 (by omega)
    have b := pl_s s (i := i + k + 1) (by omega) (by omega)
    rw [show i + ((k + 1 : Nat) : Int) + 1 = i + k + 1 + 1 by omega]
    omega
theorem pl_lt {f : Int → Int} {n M : Int} {tk pl bh : Int → Int} (s : zRS f n M tk pl bh) {i j : Int} (i0 : 0 ≤ i) (h : i < j) (j1 : j ≤ M - 1) : pl i < pl j := by
  have := pl_mono s (j - i - 1).toNat i i0 (by omega)
  rw [show i + ((j - i - 1).toNat : Int) + 1 = j by omega] at this
  exact this
theorem pl_n {f : Int → Int} {n M : Int} {tk pl bh : Int → Int} (s : zRS f n M tk pl bh) {i : Int} (i0 : 0 ≤ i) (i1 : i ≤ M - 1) : pl i ≤ n := by
  by_cases z : i = M - 1
  · rw [z, s.1.2.2.2.2.2.2]; exact Int.le_refl _
  · have := pl_lt s i0 (show i < M - 1 by omega) (Int.le_refl _)
    rw [s.1.2.2.2.2.2.2] at this
    omega
theorem go_one {lw test : Bool} {tk : Int → Int} {t i v : Int} {c : zCD} {p : zPL} {d : Int} {F : zST} (hF : F.2.1 = true ∨ F.1 = 4) (ht : ¬ t = 4) (g : zGO lw test tk (t, false, i, v, c, p, d) F) : zGO lw test tk (zmF lw test tk t i v c p d) F := by
  obtain ⟨k, hk⟩ := g
  cases k with
  | zero =>
    have e : (t, false, i, v, c, p, d) = F := hk
    rw [← e] at hF
    rcases hF with h | h
    · cases h
    · exact absurd h ht
  | succ k =>
    rw [smG_s, if_neg (by intro z; rcases z with z | z; cases z; exact ht z)] at hk
    exact ⟨k, hk⟩
theorem m_loop {f : Int → Int} {n M : Int} {tk pl bh : Int → Int} {lw test : Bool} {a0 : Int} {X : XT} {i v : Int} {c : zCD} {Q : XT → Prop} (s : zRS f n M tk pl bh) (ho : X 77 15 = if lw = true then 0 else 1) (h88 : X 88 = X0 88) (h89 : X 89 = X0 89) (ra : R32 a0) (ha : test = false ↔ a0 = 0) {F : zST} (hF : F.2.1 = true ∨ F.1 = 4) (h : zAT f n M pl X i) (hb : X 77 14 = 0) (hv : X 77 21 = v) (hc : X 84 = c.1 ∧ X 85 = c.2.1 ∧ X 77 18 = c.2.2) (bc : 0 ≤ c.2.2 ∧ c.2.2 ≤ i) (bv : 0 ≤ v ∧ v ≤ 50) (g : zGO lw test tk ((if test = true then 0 else 1), false, i, v, c, [], 0) F) (q : ∀ X1, MFr X X1 → (F.2.1 = true → X1 77 14 = 1 ∧ X1 77 13 = pl F.2.2.1 ∧ F.2.2.1 ≤ M - 1) → (F.2.1 = false → zMS f n M pl X1 F.2.2.1 F.2.2.2.1 (zfl 1 F.2.2.2.2.1 F.2.2.2.2.2.1).1 (zfl 1 F.2.2.2.2.1 F.2.2.2.2.2.1).2 F.2.2.2.2.2.2 ∧ zMB F.2.2.1 F.2.2.2.1 (zfl 1 F.2.2.2.2.1 F.2.2.2.2.2.1).1 (zfl 1 F.2.2.2.2.1 F.2.2.2.2.2.1).2 F.2.2.2.2.2.2) → Q X1) : w_X12_readExpression a0 X Q := by
  have HT : ∀ j : Int, 400 ≤ j → tk j = 29 := fun j hj => s.1.2.2.2.2.2.1 j (by have := s.1.1; have := s.2.1; omega)
  intro J hJ
  have M0 : ∀ t0 : Int, t0 = (if test = true then 0 else 1) → J t0 := by
    intro t0 et
    rw [← et] at g
    have t01 : 0 ≤ t0 ∧ t0 ≤ 1 := by rw [et]; cases test <;> decide
    refine hJ t0 ⟨fun t Y => ∃ S : zST, zMR f n M pl X S t Y ∧ zGO lw test tk S F ∧ (S.2.1 = false → 0 ≤ S.1 ∧ S.1 ≤ 4), fun t Y => if Y 77 14 = 0 then (1 + 4 * (n - Y 77 9) + rk t).toNat else 0, ⟨(t0, false, i, v, c, [], 0), ⟨(MFr.rf.f7 (by decide)).f7 (by decide), fun _ => ⟨rfl, ⟨?_, ?_, ?_, ⟨⟨?_, ?_, ?_⟩, ?_, trivial⟩, ?_⟩, ⟨⟨⟨bc.1, by show c.2.2 + 0 ≤ i; omega⟩, ?_, fun x hx => by cases hx⟩, bv, ?_⟩⟩, fun z => by cases z⟩, g, fun _ => by dsimp only; omega⟩, ?_⟩
    · exact h.go (fun g hg => by rw [x_st_ne (by omega), x_st_ne (by omega)]) (by rw [x_st_c (by decide), x_st_c (by decide)])
    · rw [x_st_ne (by decide), x_st_ne (by decide)]; exact hb
    · rw [x_st_ne (by decide), x_st_ne (by decide)]; exact hv
    · rw [x_st_c (by decide), x_st_c (by decide)]; exact hc.1
    · rw [x_st_c (by decide), x_st_c (by decide)]; exact hc.2.1
    · rw [x_st_ne (by decide), x_st_ne (by decide)]; exact hc.2.2
    · rw [x_st_ne (by decide), x_st_at]; rfl
    · rw [x_st_at]
    · have := h.2.2.2.2.1; exact this
    · have := h.2.2.2.2.1; dsimp only; omega
    rintro t Y ⟨S, ⟨fY, z0, z1⟩, gS, rS⟩
    by_cases hS : S.2.1 = true
    · obtain ⟨e14, e13, eM, c', p', hc', hb'⟩ := z1 hS
      have eF : S = F := by
        obtain ⟨k, hk⟩ := gS
        rw [smG_stop (Or.inl hS)] at hk
        exact hk
      refine ⟨by rw [e14]; decide, fun _ => m_settle (by decide) (by decide) (i := 400) (Int.le_refl _) hc' hb' (fun Z f1 c1 b1 => q Z (fY.tr (MFr.ofS f1)) (fun _ => ⟨(f1.2 14 (by decide) (by decide)).trans e14, (f1.2 13 (by decide) (by decide)).trans ?_, ?_⟩) (fun w => ?_)), fun w => absurd w (by rw [e14]; decide)⟩
      · rw [← eF]; exact e13
      · rw [← eF]; exact eM
      · rw [← eF, hS] at w; cases w
    · have hS2 : S.2.1 = false := by
        cases hh : S.2.1
        · rfl
        · exact absurd hh hS
      obtain ⟨et2, ms, mb⟩ := z0 hS2
      have rt := rS hS2
      obtain ⟨t', b', i', v', c', p', d'⟩ := S
      dsimp only at et2 ms mb rt hS2
      rw [hS2] at gS
      rw [← et2] at gS rt
      have e14 := ms.2.1
      refine ⟨by rw [e14]; decide, fun w => absurd e14 w, fun _ => ⟨by omega, fun t4 => ?_, fun t4 => ?_⟩⟩
      · have eF : (t, false, i', v', c', p', d') = F := by
          obtain ⟨k, hk⟩ := gS
          rw [smG_stop (Or.inr t4)] at hk
          exact hk
        rw [← eF] at q
        obtain ⟨bc', bv', bd'⟩ := mb
        refine m_settle (by decide) (by decide) (at_400 s ms.1) ms.2.2.2.1 bc' (fun Z f1 c1 b1 => q Z (fY.tr (MFr.ofS f1)) (fun w => by cases w) (fun _ => ⟨⟨ms.1.go (fun g hg => f1.2 g (by omega) (by omega)) (f1.1 82 rfl), (f1.2 14 (by decide) (by decide)).trans e14, (f1.2 21 (by decide) (by decide)).trans ms.2.2.1, c1, (f1.2 25 (by decide) (by decide)).trans ms.2.2.2.2⟩, b1, bv', bd'⟩))
      · have i4 := at_400 s ms.1
        have gn := go_one hF t4 gS
        have st := mF_step (lw := lw) (test := test) (v := v') (c := c') (p := p') (d := d') HT (show 0 ≤ t ∧ t ≤ 3 by omega) i4
        have nx : ∀ t2 X1, zMR f n M pl Y (zmF lw test tk t i' v' c' p' d') t2 X1 → (∃ S : zST, zMR f n M pl X S t2 X1 ∧ zGO lw test tk S F ∧ (S.2.1 = false → 0 ≤ S.1 ∧ S.1 ≤ 4)) ∧ (if X1 77 14 = 0 then (1 + 4 * (n - X1 77 9) + rk t2).toNat else 0) < (if Y 77 14 = 0 then (1 + 4 * (n - Y 77 9) + rk t).toNat else 0) := by
          rintro t2 X1 ⟨r1, r2, r3⟩
          have e9 := ms.1.2.2.1
          have im := ms.1.2.2.2.2
          have pn := pl_n s im.1 im.2
          have k1 := rk_r (t := t)
          have k2 := rk_r (t := t2)
          refine ⟨⟨_, ⟨fY.tr r1, r2, r3⟩, gn, fun w => (st w).2⟩, ?_⟩
          rw [if_pos e14, e9]
          by_cases hz : (zmF lw test tk t i' v' c' p' d').2.1 = true
          · rw [if_neg (by rw [(r3 hz).1]; decide)]
            omega
          · have hz2 : (zmF lw test tk t i' v' c' p' d').2.1 = false := by
              cases hh : (zmF lw test tk t i' v' c' p' d').2.1
              · rfl
              · exact absurd hh hz
            obtain ⟨et3, ms3, mb3⟩ := r2 hz2
            have im3 := ms3.1.2.2.2.2
            have pn3 := pl_n s im3.1 im3.2
            rw [if_pos ms3.2.1, ms3.1.2.2.1]
            rcases (st hz2).1 with hlt | ⟨heq, hrk⟩
            · have := pl_lt s im.1 hlt im3.2
              omega
            · rw [heq] at pn3 ⊢
              rw [← et3] at hrk
              omega
        have o15 : Y 77 15 = if lw = true then 0 else 1 := (fY.2 15 (by decide)).trans ho
        have e88 : Y 88 = X0 88 := (fY.1 88 rfl).trans h88
        have e89 : Y 89 = X0 89 := (fY.1 89 rfl).trans h89
        refine ⟨fun t0' => ⟨fun t1 => ⟨fun t3 => ?_, fun t3 => ?_⟩, fun t1 => ?_⟩, fun t0' => ?_⟩
        · rw [show t = 2 by omega] at nx
          rw [show t = 2 by omega]
          exact m_behindTest s ms mb nx
        · rw [t3] at nx ⊢
          exact m_behindSum s ra ha ms mb nx
        · rw [t1] at nx ⊢
          have e1 : zmF lw test tk 1 i' v' c' p' d' = smPt lw tk i' v' c' p' d' := (if_neg (by decide)).trans (if_pos rfl)
          rw [e1] at nx
          exact m_readPart s o15 e88 e89 ms mb nx
        · rw [t0'] at nx ⊢
          exact m_readPlain s o15 e88 e89 ms mb nx
  refine ⟨ra, fun z => M0 1 ?_, fun z => M0 0 ?_⟩
  · rw [ha.mpr z]; rfl
  · cases test
    · exact absurd (ha.mp rfl) z
    · rfl

/-! SERVE: the class's rows go on -/
theorem PRw.cg {g : Int → Int} {P P' : Int → Prop} (h : PRw g P) (e : ∀ t : Int, 0 ≤ t → t < 576 → (P t ↔ P' t)) : PRw g P' := fun y a b => ⟨(h y a b).1, fun x c d => ((h y a b).2 x c d).trans (e _ (by omega) (by omega))⟩
theorem mv_iff {x y dx dy x2 y2 : Int} (x0 : 0 ≤ x) (x1 : x < 24) (y0 : 0 ≤ y) (y1 : y < 24) (a0 : 0 ≤ x2) (a1 : x2 < 24) (b0 : 0 ≤ y2) (b1 : y2 < 24) : mvF (24 * y + x) dx dy = 24 * y2 + x2 ↔ (x + dx = x2 ∧ y + dy = y2) := by
  unfold mvF
  rw [show (24 * y + x) % 24 = x by omega, show (24 * y + x) / 24 = y by omega]
  by_cases h : 24 * y + x = 576 ∨ x + dx < 0 ∨ x + dx ≥ 24 ∨ y + dy < 0 ∨ y + dy ≥ 24
  · rw [if_pos h]; constructor <;> intro k <;> omega
  · rw [if_neg h]; constructor <;> intro k <;> omega
theorem nx_al {r : Int → Int} {T : TT} {c s h d : Int} (s1 : s < 576) (ok : d = 4 ∨ freP r T c s h) : nxF r T c s h d 0 = mvF s (r (9 + 2 * r (15 + 5 * c + 2)) + sxF d) (r (9 + 2 * r (15 + 5 * c + 2) + 1) + syF d) := by
  unfold nxF
  rw [if_neg (by omega), show wxF r (r (15 + 5 * c + 2)) 0 = r (9 + 2 * r (15 + 5 * c + 2)) from if_pos rfl, show wyF r (r (15 + 5 * c + 2)) 0 = r (9 + 2 * r (15 + 5 * c + 2) + 1) from if_pos rfl]
  rcases ok with rfl | hf
  · rw [show sxF 4 = 0 from rfl, show syF 4 = 0 from rfl, ite_self]
  · rw [if_pos hf, if_pos hf]
theorem nx_st {r : Int → Int} {T : TT} {c s h d : Int} (no : ¬ freP r T c s h) : nxF r T c s h d 0 = nxF r T c s h 4 0 := by
  unfold nxF
  rw [if_neg no, if_neg no, if_neg no, if_neg no]
theorem e_moveRow {r : Int → Int} {c : Int} {X : XT} {v y d : Int} {R : Int → Prop} {Q : XT → Prop} (w : RW r) (c0 : 0 ≤ c) (c1 : c < r 0) (p : PTK r c X) (hv : B24 v) (y0 : 0 ≤ y) (y1 : y < 24) (d0 : 0 ≤ d) (d1 : d ≤ 4) (hr : PRw (X 67) R) (q : ∀ X1, Fx [67] X X1 → PRw (X1 67) (fun t => R t ∨ ∃ x : Int, (0 ≤ x ∧ x < 24) ∧ bt v x = true ∧ mvF (24 * y + x) (r (9 + 2 * r (15 + 5 * c + 2)) + sxF d) (r (9 + 2 * r (15 + 5 * c + 2) + 1) + syF d) = t) → Q X1) : w_X4_moveRow v y d X Q := by
  have hc := w.2.2.1.2 c c0 c1
  have ww := w.2.1 (r (15 + 5 * c + 2)) (by omega) (by omega)
  have a1 := sx_r d
  have a2 := sy_r d
  unfold w_X4_moveRow
  rw [p.2.1, p.2.2]
  obtain ⟨dx, ex⟩ : ∃ dx, r (9 + 2 * r (15 + 5 * c + 2)) + sxF d = dx := ⟨_, rfl⟩
  obtain ⟨dy, ey⟩ : ∃ dy, r (9 + 2 * r (15 + 5 * c + 2) + 1) + syF d = dy := ⟨_, rfl⟩
  rw [ex, ey] at q
  rw [show y + r (9 + 2 * r (15 + 5 * c + 2) + 1) + syF d = y + dy by omega, ex]
  have out : ¬ (0 ≤ y + dy ∧ y + dy < 24) → Q X := fun ho => q X Fx.rf (hr.cg (fun t t0 t1 => ⟨Or.inl, fun z => by
    rcases z with z | ⟨x, xr, _, e⟩
    · exact z
    · have e2 : mvF (24 * y + x) dx dy = 24 * (t / 24) + t % 24 := by rw [e]; omega
      have := (mv_iff xr.1 xr.2 y0 y1 (by omega) (by omega) (by omega) (by omega)).mp e2
      omega⟩))
  refine ⟨by omega, by omega, fun z => out (by omega), fun z => ⟨fun z2 => out (by omega), fun z2 => ⟨by omega, by omega, ?_⟩⟩⟩
  have old := hr (y + dy) (by omega) (by omega)
  have put : ∀ m : Int, B24 m → (∀ x2 : Int, 0 ≤ x2 → x2 < 24 → (bt m x2 = true ↔ ∃ x : Int, (0 ≤ x ∧ x < 24) ∧ bt v x = true ∧ x + dx = x2)) → Q (x_st X 67 (y + dy) (oOr (X 67 (y + dy)) m)) := by
    intro m hm hb
    have o := oOr_b old.1 hm
    refine q _ (Fx.rf.st rfl) (fun y2 b0 b1 => ?_)
    by_cases hq : y2 = y + dy
    · rw [hq, x_st_at]
      refine ⟨o.1, fun x2 e0 e1 => ?_⟩
      rw [o.2, Bool.or_eq_true, old.2 x2 e0 e1, hb x2 e0 e1]
      constructor
      · rintro (z3 | ⟨x, xr, vx, e⟩)
        · exact Or.inl z3
        · exact Or.inr ⟨x, xr, vx, (mv_iff xr.1 xr.2 y0 y1 e0 e1 (by omega) (by omega)).mpr ⟨e, rfl⟩⟩
      · rintro (z3 | ⟨x, xr, vx, e⟩)
        · exact Or.inl z3
        · exact Or.inr ⟨x, xr, vx, ((mv_iff xr.1 xr.2 y0 y1 e0 e1 (by omega) (by omega)).mp e).1⟩
    · rw [x_st_ne hq]
      have o2 := hr y2 b0 b1
      refine ⟨o2.1, fun x2 e0 e1 => ?_⟩
      rw [o2.2 x2 e0 e1]
      refine ⟨Or.inl, fun z3 => ?_⟩
      rcases z3 with z3 | ⟨x, xr, _, e⟩
      · exact z3
      · exact absurd ((mv_iff xr.1 xr.2 y0 y1 e0 e1 b0 b1).mp e).2.symm hq
  have big : ∀ x : Int, 24 ≤ x → bt v x = false := fun x hx => b24_big hv (by omega)
  refine ⟨fun z3 => ?_, fun z3 => ?_⟩
  · have s := oUshr_b (a := v) (n := -dx) hv (by omega) (by omega)
    refine put _ s.1 (fun x2 e0 e1 => ?_)
    rw [s.2 x2 e0, decide_eq_true e1, Bool.true_and]
    refine ⟨fun h => ⟨x2 + -dx, ?_, h, by omega⟩, fun ⟨x, xr, vx, e⟩ => by rw [show x2 + -dx = x by omega]; exact vx⟩
    by_cases hx : 24 ≤ x2 + -dx
    · rw [big _ hx] at h; exact absurd h (by decide)
    · omega
  · have s := oShl_b (a := v) (n := dx) hv (by omega) (by omega)
    refine put _ s.1 (fun x2 e0 e1 => ?_)
    rw [s.2 x2 e0, decide_eq_true e1, Bool.true_and, Bool.and_eq_true, decide_eq_true_iff]
    exact ⟨fun h => ⟨x2 - dx, by omega, h.2, by omega⟩, fun ⟨x, xr, vx, e⟩ => ⟨by omega, by rw [show x2 - dx = x by omega]; exact vx⟩⟩
/-- which corners can't be steered, by rows -/
def STU (r : Int → Int) (T : TT) (c : Int) (g59 g65 : Int → Int) : Prop := ∀ h y : Int, 0 ≤ h → h ≤ 11 → 0 ≤ y → y < 24 → B24 (g65 (h * 24 + y)) ∧ ∀ x : Int, 0 ≤ x → x < 24 → ¬ g59 (h * 577 + (24 * y + x)) = 0 → (bt (g65 (h * 24 + y)) x = true ↔ ¬ freP r T c (24 * y + x) h)
def mvS (r : Int → Int) (T : TT) (c h : Int) (P : Int → Prop) (y d t : Int) : Prop := ∃ s d' : Int, (0 ≤ s ∧ s < 576) ∧ (0 ≤ d' ∧ d' ≤ 4) ∧ (s / 24 < y ∨ (s / 24 = y ∧ d' < d)) ∧ P s ∧ (d' = 4 ∨ freP r T c s h) ∧ nxF r T c s h d' 0 = t
theorem e_moveRows {r : Int → Int} {T : TT} {c h : Int} {X : XT} {P : Int → Prop} {Q : XT → Prop} (w : RW r) (c0 : 0 ≤ c) (c1 : c < r 0) (p : PTK r c X) (h0 : 0 ≤ h) (h1 : h ≤ 11) (st : STU r T c (X 59) (X 65)) (hp : PRw (X 66) P) (hm : ∀ s : Int, 0 ≤ s → s < 576 → P s → ¬ X 59 (h * 577 + s) = 0) (q : ∀ X1, Fx [66, 67] X X1 → PRw (X1 66) (nxS r T c h P) → Q X1) : w_X4_moveRows h X Q := by
  refine ⟨fun y X1 => 0 ≤ y ∧ y ≤ 24 ∧ Fx [67] X X1 ∧ ∀ y' : Int, 0 ≤ y' → y' < y → X1 67 y' = 0, fun y _ => (24 - y).toNat, ⟨by decide, by decide, Fx.rf, fun y' a b => absurd (show y' < (0 : Int) from b) (by omega)⟩, ?_⟩
  rintro y X1 ⟨y0, y1, f1, k1⟩
  refine ⟨by omega, fun z => ?_, fun z => ⟨by omega, ⟨by omega, by omega, f1.st rfl, fun y' a b => ?_⟩, by dsimp only; omega⟩⟩
  rotate_left
  · by_cases hq : y' = y
    · rw [hq, x_st_at]
    · rw [x_st_ne hq]; exact k1 y' a (by omega)
  refine ⟨fun y X2 => 0 ≤ y ∧ y ≤ 24 ∧ Fx [67] X X2 ∧ PRw (X2 67) (mvS r T c h P y 0), fun y _ => (24 - y).toNat, ⟨by decide, by decide, f1, fun y' a b => ?_⟩, ?_⟩
  · rw [k1 y' a (by omega)]
    refine ⟨by decide, fun x a2 b2 => ?_⟩
    rw [show bt 0 x = false from Nat.zero_testBit _]
    exact ⟨fun z => absurd z (by decide), fun ⟨s, d', sr, dr, hor, _⟩ => absurd hor (by omega)⟩
  rintro y X2 ⟨y0', y1', f2, k2⟩
  refine ⟨by omega, fun z2 => ?_, fun z2 => ?_⟩
  · have e66 : ∀ j : Int, 0 ≤ j → j < 24 → (x_cp X2 67 66 24) 66 j = X2 67 j := fun j a b => by
      show (if 0 ≤ j ∧ j < 24 then X2 67 j else X2 66 j) = _
      rw [if_pos ⟨a, b⟩]
    have fx : Fx [66, 67] X (x_cp X2 67 66 24) := fun d hd => by
      have hne : ¬ d = 66 := fun e => by rw [e] at hd; exact absurd hd (by decide)
      show up X2 66 _ d = _
      unfold up
      rw [if_neg hne]
      exact f2 d (el_sub (l2 := [66, 67]) (by decide) hd)
    refine q _ fx ?_
    have k2b := k2.cg (P' := nxS r T c h P) (fun t t0 t1 => ⟨fun ⟨s, d', sr, dr, _, ps, _, e⟩ => ⟨s, d', sr, dr, ps, e⟩, fun ⟨s, d', sr, dr, ps, e⟩ => ?_⟩)
    · exact fun y' a b => by rw [e66 y' a b]; exact k2b y' a b
    · by_cases hf : freP r T c s h
      · exact ⟨s, d', sr, dr, by omega, ps, Or.inr hf, e⟩
      · exact ⟨s, 4, sr, by decide, by omega, ps, Or.inl rfl, by rw [← nx_st (d := d') hf]; exact e⟩
  · have e66 : X2 66 = X 66 := f2 66 rfl
    have e65 : X2 65 = X 65 := f2 65 rfl
    rw [e66, e65]
    have row := hp y y0' (by omega)
    have sto := st h y h0 h1 y0' (by omega)
    refine ⟨by omega, by omega, fun z3 => ⟨⟨by omega, by omega, f2, k2.cg (fun t t0 t1 => ?_)⟩, by dsimp only; omega⟩, fun z3 => ⟨by omega, ?_⟩⟩
    · have nob := (b24_0 row.1).mp z3
      constructor
      · rintro ⟨s, d', sr, dr, hor, rest⟩
        exact ⟨s, d', sr, dr, by omega, rest⟩
      · rintro ⟨s, d', sr, dr, hor, ps, rest⟩
        by_cases hq : s / 24 = y
        · have b1 := (row.2 (s % 24) (by omega) (by omega)).mpr (by rw [show 24 * y + s % 24 = s by omega]; exact ps)
          rw [nob (s % 24) (by omega) (by omega)] at b1
          exact absurd b1 (by decide)
        · exact ⟨s, d', sr, dr, by omega, ps, rest⟩
    · refine ⟨fun d X3 => 0 ≤ d ∧ d ≤ 5 ∧ Fx [67] X X3 ∧ PRw (X3 67) (mvS r T c h P y d), fun d _ => (5 - d).toNat, ⟨by decide, by decide, f2, k2⟩, ?_⟩
      rintro d X3 ⟨d0, d1, f3, k3⟩
      refine ⟨by omega, fun z4 => ⟨⟨by omega, by omega, f3, k3.cg (fun t t0 t1 => ?_)⟩, by dsimp only; omega⟩, fun z4 => ?_⟩
      · constructor
        · rintro ⟨s, d', sr, dr, hor, rest⟩
          exact ⟨s, d', sr, dr, by omega, rest⟩
        · rintro ⟨s, d', sr, dr, hor, rest⟩
          exact ⟨s, d', sr, dr, by omega, rest⟩
      · intro J hJ
        have key : ∀ v : Int, B24 v → (∀ x : Int, 0 ≤ x → x < 24 → (bt v x = true ↔ (P (24 * y + x) ∧ (d = 4 ∨ freP r T c (24 * y + x) h)))) → J v := by
          intro v hv hb
          refine hJ v (e_moveRow w c0 c1 (p.fx f3 rfl) hv y0' (by omega) d0 (by omega) k3 (fun X4 f4 k4 => ⟨⟨by omega, by omega, f3.trans f4, k4.cg (fun t t0 t1 => ?_)⟩, by dsimp only; omega⟩))
          constructor
          · rintro (⟨s, d', sr, dr, hor, rest⟩ | ⟨x, xr, vx, e⟩)
            · exact ⟨s, d', sr, dr, by omega, rest⟩
            · have := (hb x xr.1 xr.2).mp vx
              exact ⟨24 * y + x, d, by omega, by omega, by omega, this.1, this.2, by rw [nx_al (by omega) this.2]; exact e⟩
          · rintro ⟨s, d', sr, dr, hor, ps, ok, e⟩
            by_cases hq : s / 24 = y ∧ d' = d
            · obtain ⟨hq1, rfl⟩ := hq
              refine Or.inr ⟨s % 24, by omega, (hb (s % 24) (by omega) (by omega)).mpr ?_, ?_⟩
              · rw [show 24 * y + s % 24 = s by omega]; exact ⟨ps, ok⟩
              · rw [show 24 * y + s % 24 = s by omega, ← nx_al (by omega) ok]; exact e
            · exact Or.inl ⟨s, d', sr, dr, by omega, ps, ok, e⟩
        refine ⟨fun z5 => ?_, fun z5 => key _ row.1 (fun x x0 x1 => ?_)⟩
        · have n := oNot_b row.1 sto.1
          refine key _ n.1 (fun x x0 x1 => ?_)
          rw [n.2, Bool.and_eq_true, row.2 x x0 x1, Bool.not_eq_true']
          constructor
          · rintro ⟨pp, hb⟩
            have s2 := sto.2 x x0 x1 (hm _ (by omega) (by omega) pp)
            refine ⟨pp, Or.inr ?_⟩
            by_cases hf : freP r T c (24 * y + x) h
            · exact hf
            · rw [s2.mpr hf] at hb; exact absurd hb (by decide)
          · rintro ⟨pp, hor⟩
            have s2 := sto.2 x x0 x1 (hm _ (by omega) (by omega) pp)
            refine ⟨pp, ?_⟩
            have hf := hor.resolve_left (fun y => z5 y)
            cases hb : bt (X 65 (h * 24 + y)) x with
            | false => rfl
            | true => exact absurd hf (s2.mp hb)
        · rw [row.2 x x0 x1]
          exact ⟨fun pp => ⟨pp, Or.inl z5⟩, fun z6 => z6.1⟩

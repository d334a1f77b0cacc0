/-! TEXTS: the reference reads an expression as the class does -/
theorem m_readExpr {f : Int → Int} {n M : Int} {tk pl bh : Int → Int} {lw test : Bool} {a0 : Int} {X : XT} {i v : Int} {c : zCD} {Q : XT → Prop} (s : zRS f n M tk pl bh) (ho : X 77 15 = if lw = true then 0 else 1) (h88 : X 88 = X0 88) (h89 : X 89 = X0 89) (ra : R32 a0) (ha : test = false ↔ a0 = 0) (h : zAT f n M pl X i) (i1 : 1 ≤ i) (hb : X 77 14 = 0) (hv : X 77 21 = v) (hc : X 84 = c.1 ∧ X 85 = c.2.1 ∧ X 77 18 = c.2.2) (bc : 0 ≤ c.2.2 ∧ c.2.2 ≤ i) (bv : 0 ≤ v ∧ v ≤ 50) {fu : Nat} (hfu : 28 ≤ fu) {r : zRT} (er : zrd lw tk fu (if test = true then 0 else 2) 0 i v = r) (q : ∀ X1, MFr X X1 → (r.1 = true → ∃ c' : zCD, zMS f n M pl X1 r.2.1 r.2.2.1 c' [] 0 ∧ zMB r.2.1 r.2.2.1 c' [] 0 ∧ zEX c c' ∧ zRP lw c' c.2.2 c'.2.2 r.2.2.2 (r.2.2.1 - v) ∧ (test = true → zTB r.2.2.2)) → (r.1 = false → X1 77 14 = 1 ∧ X1 77 13 = pl r.2.1 ∧ r.2.1 ≤ M - 1) → Q X1) : w_X12_readExpression a0 X Q := by
  have HT : ∀ j : Int, 400 ≤ j → tk j = 29 := fun j hj => s.1.2.2.2.2.2.1 j (by have := s.1.1; have := s.2.1; omega)
  have i4 := at_400 s h
  obtain ⟨zs, zt⟩ := (zm_all (lw := lw) (test := test) HT fu 0 (by decide)).2
  have bad : r.1 = false → zGB lw test tk ((if test = true then 0 else 1), false, i, v, c, [], 0) r.2.1 → w_X12_readExpression a0 X Q := fun hr gb => by
    obtain ⟨F, g1, g2, g3⟩ := gb
    refine m_loop s ho h88 h89 ra ha (Or.inl g2) h hb hv hc bc bv g1 (fun X1 f1 y1 y2 => q X1 f1 (fun w => by rw [hr] at w; cases w) (fun _ => ?_))
    rw [← g3]
    exact y1 g2
  have good : ∀ (c' : zCD) (Z : zPL), r.1 = true → zGO lw test tk ((if test = true then 0 else 1), false, i, v, c, [], 0) (4, false, r.2.1, r.2.2.1, c', Z ++ [], 0) → (∀ q ∈ Z, 20 ≤ q.1 ∧ q.1 ≤ 30) → zEX c (zflA c' Z) → zRP lw (zflA c' Z) c.2.2 (zflA c' Z).2.2 r.2.2.2 (r.2.2.1 - v) → (test = true → zTB r.2.2.2) → w_X12_readExpression a0 X Q := fun c' Z hr g hz ex rp tb => by
    have fe : zfl 1 c' (Z ++ []) = (zflA c' Z, []) := fl_app (p := []) (fun q t e => by cases e) Z c' (fun q hq => bnd_ge1 (hz q hq).1 (hz q hq).2)
    refine m_loop s ho h88 h89 ra ha (Or.inr rfl) h hb hv hc bc bv g (fun X1 f1 y1 y2 => q X1 f1 (fun _ => ?_) (fun w => by rw [hr] at w; cases w))
    have y := y2 rfl
    dsimp only at y
    rw [fe] at y
    exact ⟨zflA c' Z, y.1, y.2, ex, rp, tb⟩
  cases test
  · have k := zs (by omega) 1 i v c [] (fun q u e => by cases e) (Or.inl rfl) i1 i4
    have er2 : zrd lw tk fu 2 0 i v = r := er
    rw [er2] at k
    cases hr : r.1
    · exact bad hr (k.2 hr)
    · obtain ⟨ord, c', Z, go, hz, ex, rp⟩ := k.1 hr
      have zi : zinn (Z ++ []) = -1 := inn_app Z [] (fun q hq => by have := hz q hq; omega)
      refine good c' Z hr (go.tr (zGO.st (by decide) ?_)) (fun q hq => by have := hz q hq; omega) ex rp (fun w => by cases w)
      rw [mF3, if_neg (by rw [ord]; decide), zi, if_neg (by decide), if_pos ⟨rfl, rfl⟩]
  · have k := zt.2 (by omega) i v c [] (fun q u e => by cases e) (by decide) (fun _ => rfl) i1 i4
    have er2 : zrd lw tk fu 0 0 i v = r := er
    rw [er2] at k
    cases hr : r.1
    · exact bad hr (k.2 hr)
    · obtain ⟨⟨n25, n26⟩, c', Z, go, hz, ex, rp, tb⟩ := k.1 hr
      have zi : zinn (Z ++ []) = -1 := inn_app Z [] (fun q hq => by have := hz q hq; omega)
      refine good c' Z hr (go.tr (zGO.st (by decide) ?_)) hz ex rp (fun _ => tb)
      rw [mF2, if_neg n26, if_neg n25, zi, if_pos rfl]

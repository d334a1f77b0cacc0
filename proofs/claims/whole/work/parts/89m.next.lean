/-! TEXTS: the reference goes to the next token -/
def NFr (X X1 : XT) : Prop := Fx [77] X X1 ∧ ∀ f : Int, (f < 9 ∨ 12 < f) → X1 77 f = X 77 f
theorem NFr.rf {X : XT} : NFr X X := ⟨Fx.rf, fun _ _ => rfl⟩
theorem NFr.tr {X X1 X2 : XT} (a : NFr X X1) (b : NFr X1 X2) : NFr X X2 := ⟨a.1.trans b.1, fun f h => (b.2 f h).trans (a.2 f h)⟩
theorem NFr.st {X X1 : XT} {g v : Int} (a : NFr X X1) (h : 9 ≤ g ∧ g ≤ 12) : NFr X (x_st X1 77 g v) := ⟨a.1.st rfl, fun f hf => by rw [x_st_ne (by omega)]; exact a.2 f hf⟩
/-- what the reference has of a token that begins at p -/
def zTS (f : Int → Int) (n p : Int) (X : XT) : Prop := (p = n ∧ X 77 11 = 0 ∧ X 77 10 = n) ∨ (p < n ∧ zLet (f p) ∧ X 77 11 = 1 ∧ ∃ e : Int, (p < e ∧ e ≤ n) ∧ (∀ j : Int, p ≤ j → j < e → zLet (f j)) ∧ (e = n ∨ ¬ zLet (f e)) ∧ X 77 10 = e ∧ X 77 12 = zenc f p (e - p).toNat) ∨ (p < n ∧ zDig (f p) ∧ X 77 11 = 2 ∧ ∃ e : Int, (p < e ∧ e ≤ n) ∧ (∀ j : Int, p ≤ j → j < e → zDig (f j)) ∧ (e = n ∨ ¬ zDig (f e)) ∧ X 77 10 = e ∧ X 77 12 = znR f p (e - p).toNat) ∨ (p < n ∧ ¬ zLet (f p) ∧ ¬ zDig (f p) ∧ X 77 11 = 3 ∧ X 77 10 = p + 1 ∧ X 77 12 = f p)
theorem m_sml {c : Int} {X : XT} {Q : Int → Prop} (r : R32 c) (q1 : zLet c → Q 1) (q0 : ¬ zLet c → Q 0) : w_X12_isSmall c X Q := by
  unfold zLet at q1 q0
  exact ⟨r, fun k => q0 (by omega), fun k => ⟨fun k2 => q0 (by omega), fun k2 => q1 (by omega)⟩⟩
theorem m_dgt {c : Int} {X : XT} {Q : Int → Prop} (r : R32 c) (q1 : zDig c → Q 1) (q0 : ¬ zDig c → Q 0) : w_X12_isDigit c X Q := by
  unfold zDig at q1 q0
  exact ⟨r, fun k => q0 (by omega), fun k => ⟨fun k2 => q0 (by omega), fun k2 => q1 (by omega)⟩⟩
theorem zenc_r {f : Int → Int} {p : Int} : ∀ k : Nat, (∀ j : Int, 0 ≤ j → j < k → zLet (f (p + j))) → -1 ≤ zenc f p k ∧ zenc f p k ≤ 1125899906842624 := by
  have b : ∀ k : Nat, k ≤ 10 → (∀ j : Int, 0 ≤ j → j < k → zLet (f (p + j))) → 0 ≤ zenc f p k ∧ zenc f p k < 32 ^ k := by
    intro k
    induction k with
    | zero => intro _ _; exact ⟨Int.le_refl _, by show (0 : Int) < 1; decide⟩
    | succ k ih =>
      intro h hl
      have i := ih (by omega) (fun j a b => hl j a (by omega))
      have l := hl (k : Int) (by omega) (by omega)
      unfold zLet at l
      unfold zenc
      rw [if_pos (by omega), Int.pow_succ]
      omega
  intro k hl
  by_cases h : k ≤ 10
  · have i := b k h hl
    have : (32 : Int) ^ k ≤ 1125899906842624 := by
      have : ∀ k : Nat, k < 11 → (32 : Int) ^ k ≤ 1125899906842624 := by decide
      exact this k (by omega)
    omega
  · rw [zenc_big (by omega)]; decide
theorem m_nextT {f : Int → Int} {n to : Int} {X : XT} {Q : XT → Prop} (hn : X 77 8 = n) (n1 : n ≤ 400) (hf : ∀ j : Int, 0 ≤ j → j < n → X 82 j = f j ∧ 0 ≤ f j ∧ f j ≤ 255) (hto : X 77 10 = to) (t0 : 0 ≤ to) (t1 : to ≤ n) (q : ∀ (p : Int) (X1 : XT), NFr X X1 → to ≤ p → p ≤ n → (∀ r : Int, to ≤ r → r < p → f r = 32) → (p = n ∨ ¬ f p = 32) → X1 77 9 = p → zTS f n p X1 → Q X1) : w_X12_next X Q := by
  refine ⟨fun Y => NFr X Y ∧ (to ≤ Y 77 9 ∧ Y 77 9 ≤ n) ∧ ∀ r : Int, to ≤ r → r < Y 77 9 → f r = 32, fun Y => (n - Y 77 9).toNat, ⟨NFr.rf.st (by decide), by rw [x_st_at, hto]; omega, fun r a b => by rw [x_st_at, hto] at b; omega⟩, ?_⟩
  rintro Y ⟨fY, yr, ys⟩
  have y8 : Y 77 8 = n := (fY.2 8 (by decide)).trans hn
  have y82 : Y 82 = X 82 := fY.1 82 rfl
  intro J hJ
  have stop : (Y 77 9 = n ∨ ¬ f (Y 77 9) = 32) → J := by
    intro hst
    refine hJ ?_
    generalize hZ : x_st (x_st Y 77 10 (Y 77 9)) 77 12 0 = Z
    generalize hp : Y 77 9 = p at *
    have fZ : NFr X Z := by rw [← hZ]; exact (fY.st (by decide)).st (by decide)
    have z9 : Z 77 9 = p := by rw [← hZ, x_st_ne (by decide), x_st_ne (by decide)]; exact hp
    have z10 : Z 77 10 = p := by rw [← hZ, x_st_ne (by decide), x_st_at]
    have z12 : Z 77 12 = 0 := by rw [← hZ, x_st_at]
    have z8 : Z 77 8 = n := (fZ.2 8 (by decide)).trans hn
    have z82 : Z 82 = X 82 := fZ.1 82 rfl
    intro J2 hJ2
    -- behind the sort
    have tail : ∀ (v : Int) (W : XT), NFr X W → W 77 9 = p → W 77 11 = v → ((v = 1 ∧ p < n ∧ zLet (f p) ∧ W 77 10 = p ∧ W 77 12 = 0) ∨ (v = 2 ∧ p < n ∧ zDig (f p) ∧ W 77 10 = p ∧ W 77 12 = 0) ∨ ((v = 0 ∨ v = 3) ∧ zTS f n p W)) → (∃ (I43 : XT → Prop) (m44 : XT → Nat), I43 W ∧ ∀ (X42 : XT), I43 X42 → ∀ J55 : Prop, ((∃ (I57 : XT → Prop) (m58 : XT → Nat), I57 X42 ∧ ∀ (X56 : XT), I57 X56 → R32 (X56 77 11) ∧ (¬ (X56 77 11) = 2 → Q X56) ∧ ((X56 77 11) = 2 → R32 (X56 77 10) ∧ R32 (X56 77 8) ∧ ((X56 77 8) ≤ (X56 77 10) → Q X56) ∧ (¬ (X56 77 8) ≤ (X56 77 10) → (0 ≤ (X56 77 10) ∧ (X56 77 10) < 400) ∧ w_X12_isDigit (X56 82 (X56 77 10)) X56 (fun (v75 : Int) => R32 v75 ∧ (v75 = 0 → Q X56) ∧ (¬ v75 = 0 → ∀ J84 : Int → Prop, (∀ (v83 : Int), (I57 (x_st (x_st X56 77 12 v83) 77 10 (((x_st X56 77 12 v83) 77 10) + 1)) ∧ m58 (x_st (x_st X56 77 12 v83) 77 10 (((x_st X56 77 12 v83) 77 10) + 1)) < m58 X56) → J84 v83) → R64 (X56 77 12) ∧ ((X56 77 12) ≤ 1000000 → R32 (X56 82 (X56 77 10)) ∧ J84 ((((X56 77 12) * 10) + (X56 82 (X56 77 10))) - 48)) ∧ (¬ (X56 77 12) ≤ 1000000 → J84 (X56 77 12))))))) → J55) → R32 (X42 77 11) ∧ (¬ (X42 77 11) = 1 → J55 ) ∧ ((X42 77 11) = 1 → R32 (X42 77 10) ∧ R32 (X42 77 8) ∧ ((X42 77 8) ≤ (X42 77 10) → J55 ) ∧ (¬ (X42 77 8) ≤ (X42 77 10) → (0 ≤ (X42 77 10) ∧ (X42 77 10) < 400) ∧ w_X12_isSmall (X42 82 (X42 77 10)) X42 (fun (v104 : Int) => R32 v104 ∧ (v104 = 0 → J55 ) ∧ (¬ v104 = 0 → ∀ J113 : Int → Prop, (∀ (v112 : Int), (I43 (x_st (x_st X42 77 12 v112) 77 10 (((x_st X42 77 12 v112) 77 10) + 1)) ∧ m44 (x_st (x_st X42 77 12 v112) 77 10 (((x_st X42 77 12 v112) 77 10) + 1)) < m44 X42) → J113 v112) → R32 ((X42 77 10) - (X42 77 9)) ∧ (10 ≤ ((X42 77 10) - (X42 77 9)) → J113 (-1)) ∧ (¬ 10 ≤ ((X42 77 10) - (X42 77 9)) → R32 (X42 82 (X42 77 10)) ∧ J113 ((((X42 77 12) * 32) + (X42 82 (X42 77 10))) - 96))))))) := by
      intro v W fW w9 w11 hv
      have sn : ∀ (U : XT) (g u e : Int), U 77 10 = e → (x_st (x_st U 77 12 u) 77 10 (((x_st U 77 12 u) 77 10) + 1)) = x_st (x_st U 77 12 u) 77 10 (e + 1) := fun U g u e h => by rw [x_st_ne (by decide), h]
      refine ⟨fun U => NFr X U ∧ U 77 9 = p ∧ U 77 11 = v ∧ ((v = 1 ∧ (p ≤ U 77 10 ∧ U 77 10 ≤ n) ∧ (∀ j : Int, p ≤ j → j < U 77 10 → zLet (f j)) ∧ U 77 12 = zenc f p (U 77 10 - p).toNat) ∨ (¬ v = 1 ∧ U = W)), fun U => (n - U 77 10).toNat, ⟨fW, w9, w11, ?_⟩, ?_⟩
      · rcases hv with ⟨rfl, h1, h2, h3, h4⟩ | ⟨rfl, h1, h2, h3, h4⟩ | ⟨h0, h1⟩
        · exact Or.inl ⟨rfl, by omega, fun j a b => absurd b (by omega), by rw [h3, h4, show (p - p).toNat = 0 by omega]; rfl⟩
        · exact Or.inr ⟨by decide, rfl⟩
        · exact Or.inr ⟨by omega, rfl⟩
      rintro U ⟨fU, u9, u11, hU⟩
      have u8 : U 77 8 = n := (fU.2 8 (by decide)).trans hn
      have u82 : U 82 = X 82 := fU.1 82 rfl
      intro J3 hJ3
      -- a word's end
      have wend : v = 1 → zTS f n p U → J3 := fun h1 hz => by
        refine hJ3 ⟨fun V => V = U, fun _ => 0, rfl, ?_⟩
        rintro V rfl
        exact ⟨by omega, fun _ => q p V fU yr.1 yr.2 ys hst u9 hz, fun z => absurd z (by omega)⟩
      rcases hU with ⟨rfl, ur, ul, u12⟩ | ⟨nv, rfl⟩
      · have hv : p < n ∧ zLet (f p) := by
          rcases hv with ⟨_, h1, h2, _⟩ | ⟨h0, _⟩ | ⟨h0, _⟩
          · exact ⟨h1, h2⟩
          · omega
          · omega
        have zr := zenc_r (f := f) (p := p) (U 77 10 - p).toNat (fun j a b => ul (p + j) (by omega) (by omega))
        have zst : (U 77 10 = n ∨ ¬ zLet (f (U 77 10))) → p < U 77 10 → zTS f n p U := fun h1 h2 => Or.inr (Or.inl ⟨hv.1, hv.2, u11, U 77 10, by omega, ul, h1, rfl, u12⟩)
        rw [u8, u9]
        refine ⟨by omega, fun z => absurd u11 z, fun _ => ⟨by omega, by omega, fun z => wend rfl (zst (Or.inl (by omega)) (by omega)), fun z => ⟨by omega, ?_⟩⟩⟩
        have hb := hf (U 77 10) (by omega) (by omega)
        rw [u82, hb.1]
        refine m_sml (by omega) (fun l => ⟨by decide, fun z => absurd z (by decide), fun _ => ?_⟩) (fun l => ⟨by decide, fun _ => wend rfl (zst (Or.inr l) ?_), fun z => absurd rfl z⟩)
        · intro J4 hJ4
          have k : ∀ u : Int, u = zenc f p ((U 77 10 - p).toNat + 1) → J4 u := fun u hu => by
            refine hJ4 u ?_
            rw [sn U 0 u (U 77 10) rfl]
            refine ⟨⟨(fU.st (by decide)).st (by decide), by rw [x_st_ne (by decide), x_st_ne (by decide)]; exact u9, by rw [x_st_ne (by decide), x_st_ne (by decide)]; exact u11, Or.inl ⟨rfl, ?_, ?_, ?_⟩⟩, ?_⟩
            · rw [x_st_at]; omega
            · rw [x_st_at]
              intro j a b
              by_cases hj : j = U 77 10
              · rw [hj]; exact l
              · exact ul j a (by omega)
            · rw [x_st_ne (by decide), x_st_at, x_st_at, hu, show (U 77 10 + 1 - p).toNat = (U 77 10 - p).toNat + 1 by omega]
            · dsimp only; rw [x_st_at]; omega
          have e1 : zenc f p ((U 77 10 - p).toNat + 1) = if (U 77 10 - p).toNat < 10 then zenc f p (U 77 10 - p).toNat * 32 + f (p + ((U 77 10 - p).toNat : Int)) - 96 else -1 := rfl
          rw [show p + ((U 77 10 - p).toNat : Int) = U 77 10 by omega] at e1
          refine ⟨by omega, fun z => k _ (by rw [e1, if_neg (by omega)]), fun z => ⟨by omega, k _ (by rw [e1, if_pos (by omega), u12])⟩⟩
        · by_cases z2 : p < U 77 10
          · exact z2
          · rw [show U 77 10 = p by omega] at l; exact absurd hv.2 l
      · refine ⟨by omega, fun _ => hJ3 ?_, fun z => absurd z (by omega)⟩
        refine ⟨fun V => NFr X V ∧ V 77 9 = p ∧ V 77 11 = v ∧ ((v = 2 ∧ (p ≤ V 77 10 ∧ V 77 10 ≤ n) ∧ (∀ j : Int, p ≤ j → j < V 77 10 → zDig (f j)) ∧ V 77 12 = znR f p (V 77 10 - p).toNat) ∨ (¬ v = 2 ∧ V = U)), fun V => (n - V 77 10).toNat, ⟨fU, w9, w11, ?_⟩, ?_⟩
        · rcases hv with ⟨h0, _⟩ | ⟨rfl, h1, h2, h3, h4⟩ | ⟨h0, h1⟩
          · exact absurd h0 nv
          · exact Or.inl ⟨rfl, by omega, fun j a b => absurd b (by omega), by rw [h3, h4, show (p - p).toNat = 0 by omega]; rfl⟩
          · exact Or.inr ⟨by omega, rfl⟩
        rintro V ⟨fV, v9, v11, hV⟩
        have v8 : V 77 8 = n := (fV.2 8 (by decide)).trans hn
        have v82 : V 82 = X 82 := fV.1 82 rfl
        rcases hV with ⟨rfl, vr, vl, v12⟩ | ⟨nv2, rfl⟩
        · have hv : p < n ∧ zDig (f p) := by
            rcases hv with ⟨h0, _⟩ | ⟨_, h1, h2, _⟩ | ⟨h0, _⟩
            · omega
            · exact ⟨h1, h2⟩
            · omega
          have zn := zn_eq (f := f) (p := p) (V 77 10 - p).toNat (fun j a b => vl (p + j) (by omega) (by omega))
          have zst : (V 77 10 = n ∨ ¬ zDig (f (V 77 10))) → p < V 77 10 → zTS f n p V := fun h1 h2 => Or.inr (Or.inr (Or.inl ⟨hv.1, hv.2, v11, V 77 10, by omega, vl, h1, rfl, v12⟩))
          rw [v8]
          refine ⟨by omega, fun z => absurd v11 z, fun _ => ⟨by omega, by omega, fun z => q p V fV yr.1 yr.2 ys hst v9 (zst (Or.inl (by omega)) (by omega)), fun z => ⟨by omega, ?_⟩⟩⟩
          have hb := hf (V 77 10) (by omega) (by omega)
          rw [v82, hb.1]
          refine m_dgt (by omega) (fun l => ⟨by decide, fun z => absurd z (by decide), fun _ => ?_⟩) (fun l => ⟨by decide, fun _ => q p V fV yr.1 yr.2 ys hst v9 (zst (Or.inr l) ?_), fun z => absurd rfl z⟩)
          · intro J4 hJ4
            have k : ∀ u : Int, u = znR f p ((V 77 10 - p).toNat + 1) → J4 u := fun u hu => by
              refine hJ4 u ?_
              rw [sn V 0 u (V 77 10) rfl]
              refine ⟨⟨(fV.st (by decide)).st (by decide), by rw [x_st_ne (by decide), x_st_ne (by decide)]; exact v9, by rw [x_st_ne (by decide), x_st_ne (by decide)]; exact v11, Or.inl ⟨rfl, ?_, ?_, ?_⟩⟩, ?_⟩
              · rw [x_st_at]; omega
              · rw [x_st_at]
                intro j a b
                by_cases hj : j = V 77 10
                · rw [hj]; exact l
                · exact vl j a (by omega)
              · rw [x_st_ne (by decide), x_st_at, x_st_at, hu, show (V 77 10 + 1 - p).toNat = (V 77 10 - p).toNat + 1 by omega]
              · dsimp only; rw [x_st_at]; omega
            have e1 : znR f p ((V 77 10 - p).toNat + 1) = if znR f p (V 77 10 - p).toNat ≤ 1000000 then znR f p (V 77 10 - p).toNat * 10 + f (p + ((V 77 10 - p).toNat : Int)) - 48 else znR f p (V 77 10 - p).toNat := rfl
            rw [show p + ((V 77 10 - p).toNat : Int) = V 77 10 by omega] at e1
            refine ⟨by omega, fun z => ⟨by omega, k _ (by rw [e1, if_pos (by omega), v12])⟩, fun z => k _ (by rw [e1, if_neg (by omega), v12])⟩
          · by_cases z2 : p < V 77 10
            · exact z2
            · rw [show V 77 10 = p by omega] at l; exact absurd hv.2 l
        · have hz : zTS f n p V := by
            rcases hv with ⟨h0, _⟩ | ⟨h0, _⟩ | ⟨_, h1⟩
            · exact absurd h0 nv
            · exact absurd h0 nv2
            · exact h1
          exact ⟨by rcases hv with ⟨h0, _⟩ | ⟨h0, _⟩ | ⟨h0, _⟩ <;> omega, fun _ => q p V fV yr.1 yr.2 ys hst v9 hz, fun z => absurd (v11.symm.trans z) nv2⟩
    -- what sort it is
    have sort : ∀ v : Int, ((v = 1 ∧ p < n ∧ zLet (f p)) ∨ (v = 2 ∧ p < n ∧ zDig (f p)) ∨ (v = 0 ∧ p = n) ∨ (v = 3 ∧ p < n ∧ ¬ zLet (f p) ∧ ¬ zDig (f p))) → J2 v := by
      intro v hv
      refine hJ2 v ?_
      generalize hW : x_st Z 77 11 v = W
      have fW : NFr X W := by rw [← hW]; exact fZ.st (by decide)
      have w9 : W 77 9 = p := by rw [← hW, x_st_ne (by decide)]; exact z9
      have w10 : W 77 10 = p := by rw [← hW, x_st_ne (by decide)]; exact z10
      have w11 : W 77 11 = v := by rw [← hW, x_st_at]
      have w12 : W 77 12 = 0 := by rw [← hW, x_st_ne (by decide)]; exact z12
      have w82 : W 82 = X 82 := fW.1 82 rfl
      intro J3 hJ3
      rw [w11]
      refine ⟨by omega, fun z => hJ3 W (tail v W fW w9 w11 ?_), fun z => ?_⟩
      · rcases hv with ⟨h0, h1, h2⟩ | ⟨h0, h1, h2⟩ | ⟨h0, h1⟩ | ⟨h0, _⟩
        · exact Or.inl ⟨h0, h1, h2, w10, w12⟩
        · exact Or.inr (Or.inl ⟨h0, h1, h2, w10, w12⟩)
        · exact Or.inr (Or.inr ⟨Or.inl h0, Or.inl ⟨h1, by rw [w11]; exact h0, by rw [w10]; exact h1⟩⟩)
        · exact absurd h0 z
      · have hv3 : p < n ∧ ¬ zLet (f p) ∧ ¬ zDig (f p) := by
          rcases hv with ⟨h0, _⟩ | ⟨h0, _⟩ | ⟨h0, _⟩ | ⟨_, h1⟩
          · omega
          · omega
          · omega
          · exact h1
        have hb := hf p (by omega) (by omega)
        rw [w9, w82, hb.1]
        have e10 : (x_st W 77 12 (f p)) 77 10 = p := by rw [x_st_ne (by decide)]; exact w10
        rw [e10]
        refine ⟨by omega, by omega, hJ3 _ (tail v _ ((fW.st (by decide)).st (by decide)) (by rw [x_st_ne (by decide), x_st_ne (by decide)]; exact w9) (by rw [x_st_ne (by decide), x_st_ne (by decide)]; exact w11) (Or.inr (Or.inr ⟨Or.inr z, Or.inr (Or.inr (Or.inr ⟨hv3.1, hv3.2.1, hv3.2.2, by rw [x_st_ne (by decide), x_st_ne (by decide), w11]; exact z, x_st_at, by rw [x_st_ne (by decide), x_st_at]⟩))⟩)))⟩
    rw [z9, z8, z82]
    refine ⟨by omega, by omega, fun z => ⟨by omega, ?_⟩, fun z => sort 0 (Or.inr (Or.inr (Or.inl ⟨rfl, z⟩)))⟩
    have hb := hf p (by omega) (by omega)
    rw [hb.1]
    refine m_sml (by omega) (fun l => ⟨by decide, fun z => absurd z (by decide), fun _ => sort 1 (Or.inl ⟨rfl, by omega, l⟩)⟩) (fun l => ⟨by decide, fun _ => ?_, fun z => absurd rfl z⟩)
    exact m_dgt (by omega) (fun d => ⟨by decide, fun z => absurd z (by decide), fun _ => sort 2 (Or.inr (Or.inl ⟨rfl, by omega, d⟩))⟩) (fun d => ⟨by decide, fun _ => sort 3 (Or.inr (Or.inr (Or.inr ⟨rfl, by omega, l, d⟩))), fun z => absurd rfl z⟩)
  rw [y8, y82]
  refine ⟨by omega, by omega, fun z => stop (Or.inl (by omega)), fun z => ?_⟩
  have hb := hf (Y 77 9) (by omega) (by omega)
  rw [hb.1]
  refine ⟨by omega, by omega, fun c => stop (Or.inr c), fun c => ⟨⟨fY.st (by decide), by rw [x_st_at]; omega, fun r a b => ?_⟩, by dsimp only; rw [x_st_at]; omega⟩⟩
  rw [x_st_at] at b
  by_cases hr : r = Y 77 9
  · rw [hr]; exact c
  · exact ys r a (by omega)

/-! TEXTS: the class reads sums and tests: as the recursion reads them -/
def CPo (lw : Bool) (X X1 : XT) (i v : Int) (r : zRT) : Prop := CFr X X1 ∧ X1 33 6 = r.2.1 ∧ X1 33 7 = r.2.2.1 ∧ (X 37 3 ≤ X1 37 3 ∧ (X1 37 3 - X 37 3) % 2 = 0) ∧ X1 37 3 - X 37 3 ≤ 2 * (r.2.1 - i) ∧ (∀ j : Int, j < X 37 3 → X1 39 j = X 39 j) ∧ (r.1 = true → zRC lw (X1 39) (X 37 3) (X1 37 3) r.2.2.2 (r.2.2.1 - v))
/-- how the class's reading is held to the recursion's -/
def zCR (lw : Bool) (tk : Int → Int) (w : XT → (Int → XT → Prop) → Prop) (rd : Int → Int → zRT) : Prop := ∀ (i v : Int) (X : XT) (Q : Int → XT → Prop), TKX lw tk X → X 33 6 = i → X 33 7 = v → 1 ≤ i → i ≤ 400 → 0 ≤ v → v ≤ 50 → (0 ≤ X 37 3 ∧ X 37 3 % 2 = 0) → X 37 3 ≤ 2 * i → (∀ X1, CPo lw X X1 i v (rd i v) → Q (if (rd i v).1 = true then 1 else 0) X1) → w X Q
theorem CPo.dn {lw : Bool} {X X1 : XT} {i v : Int} {r : zRT} {Q : Int → XT → Prop} (q : ∀ X1, CPo lw X X1 i v r → Q (if r.1 = true then 1 else 0) X1) (h : r.1 = false) (p : CFr X X1) (p1 : X1 33 6 = r.2.1) (p2 : X1 33 7 = r.2.2.1) (p3 : (X 37 3 ≤ X1 37 3 ∧ (X1 37 3 - X 37 3) % 2 = 0)) (p4 : X1 37 3 - X 37 3 ≤ 2 * (r.2.1 - i)) (p5 : ∀ j : Int, j < X 37 3 → X1 39 j = X 39 j) : Q 0 X1 := by
  have := q X1 ⟨p, p1, p2, p3, p4, p5, fun z => (by rw [h] at z; cases z)⟩
  rw [if_neg (by rw [h]; decide)] at this
  exact this
theorem CPo.up {lw : Bool} {X X1 : XT} {i v : Int} {r : zRT} {Q : Int → XT → Prop} (q : ∀ X1, CPo lw X X1 i v r → Q (if r.1 = true then 1 else 0) X1) (h : r.1 = true) (p : CFr X X1) (p1 : X1 33 6 = r.2.1) (p2 : X1 33 7 = r.2.2.1) (p3 : (X 37 3 ≤ X1 37 3 ∧ (X1 37 3 - X 37 3) % 2 = 0)) (p4 : X1 37 3 - X 37 3 ≤ 2 * (r.2.1 - i)) (p5 : ∀ j : Int, j < X 37 3 → X1 39 j = X 39 j) (p6 : zRC lw (X1 39) (X 37 3) (X1 37 3) r.2.2.2 (r.2.2.1 - v)) : Q 1 X1 := by
  have := q X1 ⟨p, p1, p2, p3, p4, p5, fun _ => p6⟩
  rw [if_pos h] at this
  exact this
/-- a leaf -/
theorem e_leaf {lw : Bool} {tk : Int → Int} {i v : Int} {X : XT} {Q : Int → XT → Prop} (h : TKX lw tk X) (hi : X 33 6 = i) (hv : X 33 7 = v) (i0 : 1 ≤ i) (i1 : i ≤ 400) (v0 : 0 ≤ v) (v1 : v ≤ 50) (s0 : 0 ≤ X 37 3 ∧ X 37 3 % 2 = 0) (s1 : X 37 3 ≤ 2 * i) (hr : ∀ r : zRT, r = ((lfR lw tk i v).1, (lfR lw tk i v).2.1, (lfR lw tk i v).2.2.1, dLf (lfR lw tk i v).2.2.2.1.1 (lfR lw tk i v).2.2.2.1.2) → ∀ X1, CPo lw X X1 i v r → Q (if r.1 = true then 1 else 0) X1) :
    R32 (X 33 7) ∧ ((X 33 7) < 50 → (tk i < 2000 → w_X5_readWord (tk i) X (fun (v12 : Int) (X13 : XT) => (v12 = 0 ∨ v12 = 1) ∧ Q v12 X13)) ∧ (¬ tk i < 2000 → (3000 < tk i → w_X5_readWord (tk i) X (fun (v20 : Int) (X21 : XT) => (v20 = 0 ∨ v20 = 1) ∧ Q v20 X21)) ∧ (¬ 3000 < tk i → w_X5_pass (x_st X 33 7 ((X 33 7) + 1)) (fun (X33 : XT) => w_X7_emit 1 (tk i - 2000) X33 (fun (X39 : XT) => Q 1 X39))))) ∧ (¬ (X 33 7) < 50 → Q 0 X) := by
  have hk := h.2.2.2.2.1 i
  have lt : ¬ tk i = 29 → i < 400 := tk_lt h.ht
  have lt1 : ¬ tk (i + 1) = 29 → i + 1 < 400 := tk_lt h.ht
  have lt2 : ¬ tk (i + 2) = 29 → i + 2 < 400 := tk_lt h.ht
  have hk1 := h.2.2.2.2.1 (i + 1)
  have hk2 := h.2.2.2.2.1 (i + 2)
  generalize hrr : (((lfR lw tk i v).1, (lfR lw tk i v).2.1, (lfR lw tk i v).2.2.1, dLf (lfR lw tk i v).2.2.2.1.1 (lfR lw tk i v).2.2.2.1.2) : zRT) = r at hr
  have q := hr r rfl
  rw [hv]
  by_cases a : 50 ≤ v
  · have e : r = (false, i, v, dLf 0 0) := by rw [← hrr]; unfold lfR; rw [if_pos a]
    refine ⟨by omega, fun k => absurd k (by omega), fun _ => ?_⟩
    subst e
    exact CPo.dn q rfl CFr.rf hi hv (by omega) (by dsimp only; omega) (fun _ _ => rfl)
  -- what emits: two places of code
  have emt : ∀ (X1 : XT) (o c i' : Int) (e : r = (true, i', v + 1, dLf o c)), (o = 1 ∨ o = 2 ∨ o = 3) → (¬ o = 3 ∨ ¬ X1 37 4 = 0) → CFr X X1 → X1 33 6 = i' → X1 33 7 = v + 1 → X1 37 3 = X 37 3 → X1 39 = X 39 → i + 1 ≤ i' → i' ≤ 400 → w_X7_emit o c X1 (fun X39 => Q 1 X39) := by
    intro X1 o c i' e ho h4 f1 h6 h7 h3 h9 hi1 hi2
    refine e_emit h3 s0 (by omega) h4 (fun X2 f2 z3 z0 z1 zb z33 => ?_)
    subst e
    refine CPo.up q rfl (f1.tr f2) (by rw [z33]; exact h6) (by rw [z33]; exact h7) (by omega) (by dsimp only; omega) (fun j hj => by rw [zb j hj, h9]) ?_
    rw [z3]
    dsimp only
    rw [show v + 1 - v = 1 by omega]
    have hz : zvC lw o c := by
      have hb : (lfR lw tk i v).1 = true := congrArg (fun r : zRT => r.1) hrr
      have hd : dLf (lfR lw tk i v).2.2.2.1.1 (lfR lw tk i v).2.2.2.1.2 = dLf o c := congrArg (fun r : zRT => r.2.2.2) hrr
      have h1 : some (lfR lw tk i v).2.2.2.1.1 = some o := congrFun hd (fun x _ => x)
      have h2 : some (lfR lw tk i v).2.2.2.1.2 = some c := congrFun hd (fun _ y => y)
      rw [← Option.some.inj h1, ← Option.some.inj h2]
      exact (lfR_zv hb).1
    exact RC_leaf s0.2 ho hz z0 z1
  refine ⟨by omega, fun _ => ?_, fun k => absurd (show v < 50 by omega) k⟩
  -- what is no number
  have word : ¬ (2000 ≤ tk i ∧ tk i ≤ 3000) → w_X5_readWord (tk i) X (fun (v12 : Int) (X13 : XT) => (v12 = 0 ∨ v12 = 1) ∧ Q v12 X13) := by
    intro b
    have h9 := h.2.2.2.2.2
    have no : r.1 = false → r.2.1 = i → r.2.2.1 = v → (((0 : Int) = 0 ∨ (0 : Int) = 1) ∧ Q 0 X) := fun y1 y2 y3 => ⟨Or.inl rfl, CPo.dn q y1 CFr.rf (by rw [y2]; exact hi) (by rw [y3]; exact hv) (by omega) (by rw [y2]; omega) (fun _ _ => rfl)⟩
    have yes : (if lw = true then 0 ≤ tk i ∧ tk i ≤ 7 else 7 ≤ tk i ∧ tk i ≤ 14) → (R32 (1 : Int) ∧ (¬ (1 : Int) = 0 → w_X5_pass (x_st X 33 7 ((X 33 7) + 1)) (fun (X11 : XT) => R32 (tk i) ∧ (13 ≤ tk i → w_X5_token X11 (fun (v18 : Int) => R32 (v18 - 2000) ∧ ((0 ≤ (v18 - 2000) ∧ (v18 - 2000) ≤ 4) → w_X5_pass X11 (fun (X27 : XT) => w_X5_token X27 (fun (v32 : Int) => R32 (v32 - 2000) ∧ ((0 ≤ (v32 - 2000) ∧ (v32 - 2000) ≤ 11) → w_X5_pass X27 (fun (X41 : XT) => w_X8_cornerSlot (tk i - 13) (v18 - 2000) (v32 - 2000) (x_st X41 37 4 1) (fun (v51 : Int) => w_X7_emit 3 v51 (x_st X41 37 4 1) (fun (X58 : XT) => ((1 : Int) = 0 ∨ (1 : Int) = 1) ∧ Q 1 X58)))) ∧ (¬ (0 ≤ (v32 - 2000) ∧ (v32 - 2000) ≤ 11) → ((0 : Int) = 0 ∨ (0 : Int) = 1) ∧ Q 0 X27)))) ∧ (¬ (0 ≤ (v18 - 2000) ∧ (v18 - 2000) ≤ 4) → ((0 : Int) = 0 ∨ (0 : Int) = 1) ∧ Q 0 X11))) ∧ (¬ 13 ≤ tk i → w_X7_emit 2 (tk i) X11 (fun (X64 : XT) => ((1 : Int) = 0 ∨ (1 : Int) = 1) ∧ Q 1 X64)))) ∧ ((1 : Int) = 0 → ((0 : Int) = 0 ∨ (0 : Int) = 1) ∧ Q 0 X)) := by
      intro hw
      have t29 : ¬ tk i = 29 := by split at hw <;> omega
      have lti := lt t29
      refine ⟨by decide, fun _ => ?_, fun z => absurd z (by decide)⟩
      have f1 : CFr X (x_st X 33 7 (X 33 7 + 1)) := CFr.rf.nx (Or.inr rfl)
      refine e_pass (h.go f1) (by rw [x_st_ne (by decide)]; exact hi) (by omega) t29 ?_
      generalize hX2 : x_st (x_st X 33 7 (X 33 7 + 1)) 33 6 (i + 1) = X2
      have f2 : CFr X X2 := by rw [← hX2]; exact f1.nx (Or.inl rfl)
      have a6 : X2 33 6 = i + 1 := by rw [← hX2, x_st_at]
      have a7 : X2 33 7 = v + 1 := by rw [← hX2, x_st_ne (by decide), x_st_at, hv]
      have a3 : X2 37 3 = X 37 3 := by rw [← hX2, x_st_c (by decide), x_st_c (by decide)]
      have a9 : X2 39 = X 39 := by rw [← hX2, x_st_c (by decide), x_st_c (by decide)]
      refine ⟨by omega, fun k => ?_, fun k => ?_⟩
      · have nl : ¬ lw = true := fun z => by rw [if_pos z] at hw; omega
        have g : 13 ≤ tk i ∧ tk i ≤ 14 := by rw [if_neg nl] at hw; omega
        refine e_token (h.go f2) a6 (by omega) (by omega) ⟨by omega, fun k1 => ?_, fun k1 => ?_⟩
        · have l1 := lt1 (by omega)
          refine e_pass (h.go f2) a6 (by omega) (by omega) ?_
          generalize hX3 : x_st X2 33 6 (i + 1 + 1) = X3
          have f3 : CFr X X3 := by rw [← hX3]; exact f2.nx (Or.inl rfl)
          have b6 : X3 33 6 = i + 2 := by rw [← hX3, x_st_at]; omega
          have b7 : X3 33 7 = v + 1 := by rw [← hX3, x_st_ne (by decide)]; exact a7
          have b3 : X3 37 3 = X 37 3 := by rw [← hX3, x_st_c (by decide)]; exact a3
          have b9 : X3 39 = X 39 := by rw [← hX3, x_st_c (by decide)]; exact a9
          refine e_token (h.go f3) b6 (by omega) (by omega) ⟨by omega, fun k2 => ?_, fun k2 => ?_⟩
          · have l2 := lt2 (by omega)
            refine e_pass (h.go f3) b6 (by omega) (by omega) ?_
            have e : r = (true, i + 3, v + 1, dLf 3 (((tk i - 13) * 5 + (tk (i + 1) - 2000)) * 12 + (tk (i + 2) - 2000))) := by
              rw [← hrr]; unfold lfR; rw [if_neg a, if_neg b, if_neg nl, if_neg (by omega), if_pos g, if_pos k1, if_pos k2]
            generalize hX4 : x_st (x_st X3 33 6 (i + 2 + 1)) 37 4 1 = X4
            have f4 : CFr X X4 := by rw [← hX4]; exact (f3.nx (Or.inl rfl)).ask
            have em := emt X4 3 _ (i + 3) e (by decide) (Or.inr (by rw [← hX4, x_st_at]; decide)) f4 (by rw [← hX4, x_st_c (by decide), x_st_at]; omega) (by rw [← hX4, x_st_c (by decide), x_st_ne (by decide)]; exact b7) (by rw [← hX4, x_st_ne (by decide), x_st_c (by decide)]; exact b3) (by rw [← hX4, x_st_c (by decide), x_st_c (by decide)]; exact b9) (by omega) (by omega)
            unfold w_X7_emit at em ⊢
            refine ⟨em.1, fun z => ⟨Or.inr rfl, em.2.1 z⟩, fun z => ⟨(em.2.2 z).1, (em.2.2 z).2.1, Or.inr rfl, (em.2.2 z).2.2⟩⟩
          · have e : r = (false, i + 2, v + 1, dLf 0 0) := by
              rw [← hrr]; unfold lfR; rw [if_neg a, if_neg b, if_neg nl, if_neg (by omega), if_pos g, if_pos k1, if_neg k2]
            subst e
            exact ⟨Or.inl rfl, CPo.dn q rfl f3 b6 b7 (by omega) (by dsimp only; omega) (fun j _ => by rw [b9])⟩
        · have e : r = (false, i + 1, v + 1, dLf 0 0) := by
            rw [← hrr]; unfold lfR; rw [if_neg a, if_neg b, if_neg nl, if_neg (by omega), if_pos g, if_neg k1]
          subst e
          exact ⟨Or.inl rfl, CPo.dn q rfl f2 a6 a7 (by omega) (by dsimp only; omega) (fun j _ => by rw [a9])⟩
      · have e : r = (true, i + 1, v + 1, dLf 2 (tk i)) := by
          rw [← hrr]; unfold lfR; rw [if_neg a, if_neg b]
          by_cases c : lw = true
          · rw [if_pos c] at hw; rw [if_pos c, if_pos hw]
          · rw [if_neg c] at hw; rw [if_neg c, if_pos (by omega)]
        have em := emt X2 2 (tk i) (i + 1) e (by decide) (Or.inl (by decide)) f2 a6 a7 a3 a9 (by omega) (by omega)
        unfold w_X7_emit at em ⊢
        refine ⟨em.1, fun z => ⟨Or.inr rfl, em.2.1 z⟩, fun z => ⟨(em.2.2 z).1, (em.2.2 z).2.1, Or.inr rfl, (em.2.2 z).2.2⟩⟩
    have nope : ¬ (if lw = true then 0 ≤ tk i ∧ tk i ≤ 7 else 7 ≤ tk i ∧ tk i ≤ 14) → (((0 : Int) = 0 ∨ (0 : Int) = 1) ∧ Q 0 X) := by
      intro hw
      have e : r = (false, i, v, dLf 0 0) := by
        rw [← hrr]; unfold lfR; rw [if_neg a, if_neg b]
        by_cases c : lw = true
        · rw [if_pos c] at hw; rw [if_pos c, if_neg hw]
        · rw [if_neg c] at hw; rw [if_neg c, if_neg (by omega), if_neg (by omega)]
      subst e
      exact no rfl rfl rfl
    intro J hJ
    rw [h9]
    have jn0 : ¬ (if lw = true then 0 ≤ tk i ∧ tk i ≤ 7 else 7 ≤ tk i ∧ tk i ≤ 14) → J 0 := fun hw => hJ 0 ⟨by decide, fun z => absurd rfl z, fun _ => nope hw⟩
    have jn1 : (if lw = true then 0 ≤ tk i ∧ tk i ≤ 7 else 7 ≤ tk i ∧ tk i ≤ 14) → J 1 := fun hw => hJ 1 (yes hw)
    by_cases c : lw = true
    · rw [if_pos c] at jn0 jn1 ⊢
      refine ⟨by decide, fun z => absurd z (by decide), fun _ => ⟨by omega, fun z => jn0 (by omega), fun z => ⟨fun z2 => jn0 (by omega), fun z2 => jn1 (by omega)⟩⟩⟩
    · rw [if_neg c] at jn0 jn1 ⊢
      refine ⟨by decide, fun _ => ⟨by omega, fun z => jn0 (by omega), fun z => ⟨fun z2 => jn0 (by omega), fun z2 => jn1 (by omega)⟩⟩, fun z => absurd rfl z⟩
  refine ⟨fun k => word (by omega), fun k => ⟨fun k2 => word (by omega), fun k2 => ?_⟩⟩
  have f1 : CFr X (x_st X 33 7 (v + 1)) := CFr.rf.nx (Or.inr rfl)
  have lti := lt (by omega)
  refine e_pass (i := i) (h.go f1) (by rw [x_st_ne (by decide)]; exact hi) (by omega) (by omega) ?_
  have e : r = (true, i + 1, v + 1, dLf 1 (tk i - 2000)) := by
    rw [← hrr]; unfold lfR; rw [if_neg a, if_pos (by omega)]
  exact emt _ 1 (tk i - 2000) (i + 1) e (by decide) (Or.inl (by decide)) (f1.nx (Or.inl rfl)) x_st_at (by rw [x_st_ne (by decide), x_st_at]) (by rw [x_st_c (by decide), x_st_c (by decide)]) (by rw [x_st_c (by decide), x_st_c (by decide)]) (by omega) (by omega)

/-! PAIRS OF CALLS THAT ONLY ASK: serve -/
def okS (r : Int → Int) (a : Int) : Prop := ∀ k : Int, 0 ≤ k → k < r 2 → bt a k = true → coR r k 3 = 1
def feF (r : Int → Int) (a : Int) : Nat → Int
  | 0 => 0
  | k + 1 => feF r a k + if bt a (k : Int) = true then coR r (k : Int) 4 else 0
theorem feF_s {r : Int → Int} {a : Int} {k : Nat} : feF r a (k + 1) = feF r a k + if bt a (k : Int) = true then coR r (k : Int) 4 else 0 := rfl
theorem feF_r {r : Int → Int} {a : Int} (w : W_con r) : ∀ k : Nat, (k : Int) ≤ r 2 → 0 ≤ feF r a k ∧ feF r a k ≤ 99 * k := by
  intro k
  induction k with
  | zero => intro _; exact ⟨Int.le_refl _, Int.le_refl _⟩
  | succ k ih =>
    intro hk
    have i := ih (by omega)
    have wk := w.2 (k : Int) (by omega) (by omega)
    rw [feF_s]
    unfold coR
    split <;> omega
def cndS (r : Int → Int) (T : TT) (c : Int) (a f : Int) : Prop := okS r a ∧ f < feF r a (r 2).toNat ∧ canF r T c a 12 (fun s => s = bgF r c)
/-- the best of the first m sets -/
def BST (r : Int → Int) (T : TT) (c : Int) : Nat → Int → Int → Prop
  | 0, f, s => f = -1 ∧ s = 0
  | m + 1, f, s => ∃ f' s' : Int, BST r T c m f' s' ∧ ((cndS r T c (m : Int) f' ∧ f = feF r (m : Int) (r 2).toNat ∧ s = (m : Int)) ∨ (¬ cndS r T c (m : Int) f' ∧ f = f' ∧ s = s'))
theorem BST_one {r : Int → Int} {T : TT} {c : Int} : ∀ (m : Nat) (f s f2 s2 : Int), BST r T c m f s → BST r T c m f2 s2 → f = f2 ∧ s = s2 := by
  intro m
  induction m with
  | zero => rintro f s f2 s2 ⟨a, b⟩ ⟨a2, b2⟩; exact ⟨a.trans a2.symm, b.trans b2.symm⟩
  | succ m ih =>
    rintro f s f2 s2 ⟨g, t, h, k⟩ ⟨g2, t2, h2, k2⟩
    obtain ⟨rfl, rfl⟩ := ih _ _ _ _ h h2
    rcases k with ⟨k, rfl, rfl⟩ | ⟨k, rfl, rfl⟩ <;> rcases k2 with ⟨k2, rfl, rfl⟩ | ⟨k2, rfl, rfl⟩
    · exact ⟨rfl, rfl⟩
    · exact absurd k k2
    · exact absurd k2 k
    · exact ⟨rfl, rfl⟩
theorem BST_up {r : Int → Int} {T : TT} {c f s : Int} {m : Nat} (h : BST r T c m f s) : ∀ j : Nat, (∀ i : Nat, m ≤ i → i < m + j → ¬ okS r (i : Int)) → BST r T c (m + j) f s := by
  intro j
  induction j with
  | zero => intro _; exact h
  | succ j ih => intro hn; exact ⟨f, s, ih (fun i a b => hn i a (by omega)), Or.inr ⟨fun z => hn (m + j) (by omega) (by omega) z.1, rfl, rfl⟩⟩
theorem canF_0 {r : Int → Int} {T : TT} {c : Int} {P : Int → Prop} : canF r T c 0 12 P := by
  rw [show (12 : Nat) = 11 + 1 from rfl, canF_s]
  refine Or.inl (fun k _ _ hb => ?_)
  rw [show bt 0 k = false from Nat.zero_testBit _] at hb
  exact absurd hb (by decide)
theorem feF_0 {r : Int → Int} : ∀ k : Nat, feF r 0 k = 0 := by
  intro k
  induction k with
  | zero => rfl
  | succ k ih => rw [feF_s, ih, show bt 0 (k : Int) = false from Nat.zero_testBit _]; rfl
theorem BST_1 {r : Int → Int} {T : TT} {c : Int} : BST r T c 1 0 0 := by
  refine ⟨-1, 0, ⟨rfl, rfl⟩, Or.inl ⟨⟨fun k _ _ hb => ?_, ?_, canF_0⟩, (feF_0 _).symm, rfl⟩⟩
  · rw [show bt ((0 : Nat) : Int) k = false from Nat.zero_testBit _] at hb
    exact absurd hb (by decide)
  · rw [show ((0 : Nat) : Int) = 0 from rfl, feF_0]; decide
theorem shl_n {n : Int} (n0 : 0 ≤ n) (n1 : n ≤ 8) : oShl 1 n = ((2 ^ n.toNat : Nat) : Int) ∧ 2 ^ n.toNat ≤ 256 := by
  have h : n = 0 ∨ n = 1 ∨ n = 2 ∨ n = 3 ∨ n = 4 ∨ n = 5 ∨ n = 6 ∨ n = 7 ∨ n = 8 := by omega
  rcases h with rfl | rfl | rfl | rfl | rfl | rfl | rfl | rfl | rfl <;> decide +kernel
theorem m_serveAll {r : Int → Int} {T : TT} {c i : Int} {X : XT} {Q : Int → XT → Prop} (w : RW r) (e : X 79 = r) (kw : WKS r T c X) (c0 : 0 ≤ c) (c1 : c < r 0) (q : ∀ (f s : Int) (X1 : XT), Fx [100, 101] X X1 → BST r T c (2 ^ (r 2).toNat) f s → Q (if i = 0 then f else s) X1) (ri : R32 i) : (∃ (I21 : Int → Int → Int → XT → Prop) (m22 : Int → Int → Int → XT → Nat), I21 (-1) 0 0 X ∧ ∀ (x17 : Int) (x18 : Int) (x19 : Int) (X20 : XT), I21 x17 x18 x19 X20 → R32 x19 ∧ R32 (oShl 1 (X20 79 2)) ∧ ((oShl 1 (X20 79 2)) ≤ x19 → (¬ i = 0 → Q x18 X20) ∧ (i = 0 → Q x17 X20)) ∧ (¬ (oShl 1 (X20 79 2)) ≤ x19 → ∃ (I40 : Int → Int → Int → Prop) (m41 : Int → Int → Int → Nat), I40 0 1 0 ∧ ∀ (x37 : Int) (x38 : Int) (x39 : Int), I40 x37 x38 x39 → R32 x39 ∧ R32 (X20 79 2) ∧ ((X20 79 2) ≤ x39 → R32 x38 ∧ (x38 = 0 → I21 x17 x18 (x19 + 1) X20 ∧ m22 x17 x18 (x19 + 1) X20 < m22 x17 x18 x19 X20) ∧ (¬ x38 = 0 → R32 x37 ∧ R32 x17 ∧ (x37 ≤ x17 → I21 x17 x18 (x19 + 1) X20 ∧ m22 x17 x18 (x19 + 1) X20 < m22 x17 x18 x19 X20) ∧ (¬ x37 ≤ x17 → w_X12_canServe c x19 X20 (fun (v57 : Int) (X58 : XT) => R32 v57 ∧ (v57 = 0 → I21 x17 x18 (x19 + 1) X58 ∧ m22 x17 x18 (x19 + 1) X58 < m22 x17 x18 x19 X20) ∧ (¬ v57 = 0 → I21 x37 x19 (x19 + 1) X58 ∧ m22 x37 x19 (x19 + 1) X58 < m22 x17 x18 x19 X20))))) ∧ (¬ (X20 79 2) ≤ x39 → ∀ J66 : Int → Prop, (∀ (v65 : Int), (w_X12_is x19 x39 X20 (fun (v67 : Int) => ∀ J74 : Int → Prop, (∀ (v73 : Int), (I40 (x37 + v73) v65 (x39 + 1) ∧ m41 (x37 + v73) v65 (x39 + 1) < m41 x37 x38 x39) → J74 v73) → R32 v67 ∧ (v67 = 0 → J74 0) ∧ (¬ v67 = 0 → (0 ≤ x39 ∧ x39 ≤ 7) ∧ J74 (X20 79 (304 + 5 * x39 + 4))))) → J66 v65) → R32 x38 ∧ (x38 = 0 → J66 0) ∧ (¬ x38 = 0 → w_X12_is x19 x39 X20 (fun (v80 : Int) => R32 v80 ∧ (v80 = 0 → J66 1) ∧ (¬ v80 = 0 → (0 ≤ x39 ∧ x39 ≤ 7) ∧ R32 (X20 79 (304 + 5 * x39 + 3)) ∧ (¬ (X20 79 (304 + 5 * x39 + 3)) = 1 → J66 0) ∧ ((X20 79 (304 + 5 * x39 + 3)) = 1 → J66 1))))))) := by
  have wn := w.2.2.2.2.1
  have wn1 := wn.1
  obtain ⟨sh, sb⟩ := shl_n wn1.1 wn1.2
  refine ⟨fun f s a X1 => 0 ≤ a ∧ a ≤ ((2 ^ (r 2).toNat : Nat) : Int) ∧ Fx [100, 101] X X1 ∧ -1 ≤ f ∧ f ≤ 1000 ∧ BST r T c a.toNat f s, fun _ _ a _ => (((2 ^ (r 2).toNat : Nat) : Int) - a).toNat, ⟨by decide, Int.natCast_nonneg _, Fx.rf, by decide, by decide, rfl, rfl⟩, ?_⟩
  rintro f s a X1 ⟨a0, a1, f1, fl, fu, hb⟩
  have e1 : X1 79 = r := by rw [f1 79 rfl]; exact e
  have kw1 : WKS r T c X1 := fun h s x y x1 y1 => by rw [f1 96 rfl]; exact kw h s x y x1 y1
  rw [e1, sh]
  generalize hN : 2 ^ (r 2).toNat = N at *
  have q1 := fun (ea : a.toNat = N) => q f s X1 f1 (by rw [← ea]; exact hb)
  refine ⟨by omega, by omega, fun z => ⟨fun zi => ?_, fun zi => ?_⟩, fun z => ?_⟩
  · have := q1 (by omega); rw [if_neg zi] at this; exact this
  · have := q1 (by omega); rw [if_pos zi] at this; exact this
  have es : (a + 1).toNat = a.toNat + 1 := by omega
  have ec : ((a.toNat : Nat) : Int) = a := by omega
  have skip : ∀ X2, Fx [100, 101] X X2 → ¬ cndS r T c a f → ((0 ≤ a + 1 ∧ a + 1 ≤ (N : Int) ∧ Fx [100, 101] X X2 ∧ -1 ≤ f ∧ f ≤ 1000 ∧ BST r T c (a + 1).toNat f s) ∧ ((N : Int) - (a + 1)).toNat < ((N : Int) - a).toNat) := fun X2 f2 hn => by
    refine ⟨⟨by omega, by omega, f2, fl, fu, ?_⟩, by omega⟩
    rw [es]
    exact ⟨f, s, hb, Or.inr ⟨by rw [ec]; exact hn, rfl, rfl⟩⟩
  refine ⟨fun fe ok k => 0 ≤ k ∧ k ≤ r 2 ∧ fe = feF r a k.toNat ∧ ((ok = 1 ∧ ∀ j : Int, 0 ≤ j → j < k → bt a j = true → coR r j 3 = 1) ∨ (ok = 0 ∧ ¬ ∀ j : Int, 0 ≤ j → j < k → bt a j = true → coR r j 3 = 1)), fun _ _ k => (r 2 - k).toNat, ⟨by decide, wn1.1, rfl, Or.inl ⟨rfl, fun j j0 j1 => absurd (show j < (0 : Int) from j1) (by omega)⟩⟩, ?_⟩
  rintro fe ok k ⟨k0, k1, rfl, hok⟩
  have fr := feF_r (a := a) wn k.toNat (by omega)
  refine ⟨by omega, by omega, fun z2 => ?_, fun z2 => ?_⟩
  · have ekn : k = r 2 := by omega
    subst ekn
    refine ⟨by omega, fun z3 => ?_, fun z3 => ?_⟩
    · have nk := (hok.resolve_left (fun y => by omega)).2
      exact skip X1 f1 (fun y => nk y.1)
    · have yk : okS r a := (hok.resolve_right (fun y => z3 y.1)).2
      refine ⟨by omega, by omega, fun z4 => skip X1 f1 (fun y => by have := y.2.1; omega), fun z4 => ?_⟩
      refine m_canServe w e1 kw1 c0 c1 a0 (by omega) (fun v X2 f2 hv => ?_)
      refine ⟨by omega, fun z5 => skip X2 (f1.trans f2) (fun y => ?_), fun z5 => ⟨⟨by omega, by omega, f1.trans f2, by omega, by omega, ?_⟩, by dsimp only; omega⟩⟩
      · rcases hv with hv | hv
        · omega
        · exact hv.2 y.2.2
      · have hc := (hv.resolve_right (fun y => z5 y.1)).2
        rw [es]
        refine ⟨f, s, hb, Or.inl ⟨by rw [ec]; exact ⟨yk, by omega, hc⟩, by rw [ec], ec.symm⟩⟩
  · have wk := wn.2 k k0 (by omega)
    have esk : feF r a (k + 1).toNat = feF r a k.toNat + if bt a k = true then coR r k 4 else 0 := by
      rw [show (k + 1).toNat = k.toNat + 1 by omega, feF_s, show ((k.toNat : Nat) : Int) = k by omega]
    intro J hJ
    have key : ∀ v : Int, ((v = 1 ∧ ∀ j : Int, 0 ≤ j → j < k + 1 → bt a j = true → coR r j 3 = 1) ∨ (v = 0 ∧ ¬ ∀ j : Int, 0 ≤ j → j < k + 1 → bt a j = true → coR r j 3 = 1)) → J v := fun v hv => hJ v (m_is a0 (by omega) k0 (by omega) (fun hbt J2 hJ2 => ⟨by decide, fun y => absurd y (by decide), fun _ => ⟨by omega, hJ2 _ ⟨⟨by omega, by omega, by rw [esk, if_pos hbt], hv⟩, by dsimp only; omega⟩⟩⟩) (fun hbt J2 hJ2 => ⟨by decide, fun _ => hJ2 _ ⟨⟨by omega, by omega, by rw [esk, if_neg hbt], hv⟩, by dsimp only; omega⟩, fun y => absurd rfl y⟩))
    refine ⟨by omega, fun z3 => key 0 (Or.inr ⟨rfl, fun g => (hok.resolve_left (fun y => by omega)).2 (fun j j0 j1 => g j j0 (by omega))⟩), fun z3 => ?_⟩
    have yes := (hok.resolve_right (fun y => z3 y.1)).2
    refine m_is a0 (by omega) k0 (by omega) (fun hbt => ⟨by decide, fun y => absurd y (by decide), fun _ => ⟨by omega, by omega, fun y => key 0 (Or.inr ⟨rfl, fun g => y (g k k0 (by omega) hbt)⟩), fun y => key 1 (Or.inl ⟨rfl, fun j j0 j1 hj => ?_⟩)⟩⟩) (fun hbt => ⟨by decide, fun _ => key 1 (Or.inl ⟨rfl, fun j j0 j1 hj => ?_⟩), fun y => absurd rfl y⟩)
    · by_cases hq : j = k
      · rw [hq]; exact y
      · exact yes j j0 (by omega) hj
    · by_cases hq : j = k
      · rw [hq] at hj; exact absurd hj hbt
      · exact yes j j0 (by omega) hj
theorem e_fees {K : LK} {B X : XT} {r : Int → Int} {T : TT} {a : Int} {Q : Int → Prop} (b : CE K B r T) (hx : Fx scC B X) (a0 : 0 ≤ a) (a1 : a < 256) (q : Q (feF r a (r 2).toNat)) : w_X4_feesOf a X Q := by
  have wn := b.rw.2.2.2.2.1
  have wn1 := wn.1
  have en : X 1 11 = r 2 := by rw [hx 1 rfl]; exact b.nk
  unfold w_X4_feesOf
  rw [en]
  refine ⟨fun f k => 0 ≤ k ∧ k ≤ r 2 ∧ f = feF r a k.toNat, fun _ k => (r 2 - k).toNat, ⟨by decide, wn1.1, rfl⟩, ?_⟩
  rintro f k ⟨k0, k1, rfl⟩
  refine ⟨by omega, by omega, fun z => by rw [show k.toNat = (r 2).toNat by omega]; exact q, fun z => ?_⟩
  have mb := (mem_b a0 a1 k0 (show k < 8 by omega)).1
  have ek : X 7 (k * 5 + 4) = coR r k 4 := by rw [hx 7 rfl]; exact b.con k0 (by omega) (by decide) (by decide)
  have esk : feF r a (k + 1).toNat = feF r a k.toNat + if bt a k = true then coR r k 4 else 0 := by
    rw [show (k + 1).toNat = k.toNat + 1 by omega, feF_s, show ((k.toNat : Nat) : Int) = k by omega]
  rw [mb, ek]
  by_cases hb : bt a k = true
  · rw [if_pos hb]
    exact ⟨by decide, fun y => absurd rfl y, fun _ => ⟨by omega, ⟨by omega, by omega, by rw [esk, if_pos hb]⟩, by dsimp only; omega⟩⟩
  · rw [if_neg hb]
    exact ⟨by decide, fun _ => ⟨⟨by omega, by omega, by rw [esk, if_neg hb, Int.add_zero]⟩, by dsimp only; omega⟩, fun y => absurd y (by decide)⟩

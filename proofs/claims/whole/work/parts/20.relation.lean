/-! THE RELATION: what the class's cells and the reference's have in common between two calls -/
theorem Sp.mono {M : s_M} {d mc ms : Nat} {as : List Value} {n : Nat} {h : Nat → sE} {Q Q' : s_P} (k : Sp M d mc ms as n h Q) (hq : ∀ r n' h', Q r n' h' → Q' r n' h') : Sp M d mc ms as n h Q' := by
  intro l D A al be p e ha hc hk s m args below hf happ hP hK
  obtain ⟨n1, o, h1, h2, h3, ⟨⟨r, n', h', al', be', e1, e2, e3⟩, hF⟩, hL⟩ := k l D A al be p e ha hc hk s m args below hf happ hP hK
  exact ⟨n1, o, h1, h2, h3, ⟨⟨r, n', h', al', be', e1, hq _ _ _ e2, e3⟩, hF⟩, hL⟩
/-- contents with some cells put anew -/
def upL : List (Nat × (Int → Int)) → (Nat → Int → Int) → Nat → Int → Int
  | [], X, i => X i
  | (j, g) :: t, X, i => bif Nat.beq i j then g else upL t X i
theorem upL_ne {j i : Nat} {g : Int → Int} {t : List (Nat × (Int → Int))} {X : Nat → Int → Int} (h : ¬ i = j) : upL ((j, g) :: t) X i = upL t X i := by
  have hb : Nat.beq i j = false := by
    cases hq : Nat.beq i j with
    | false => rfl
    | true => exact absurd (Nat.eq_of_beq_eq_true hq) h
  show (bif Nat.beq i j then g else upL t X i) = _
  rw [hb]; rfl
-- one plain's cells and its row: fields, winds, clouds, flags, contracts, sights, terms, laws
def P_fld (f r : Int → Int) : Prop := ∀ a b : Int, 0 ≤ a → a ≤ 63 → 0 ≤ b → b ≤ 2 → f (b * 64 + a) = r (40 + 3 * a + b) ∧ 0 ≤ f (b * 64 + a) ∧ f (b * 64 + a) ≤ 999 ∧ (b = 0 → f (b * 64 + a) ≤ 99) ∧ (b = 1 → 1 ≤ f (b * 64 + a)) ∧ (b = 2 → f (b * 64 + a) ≤ 1)
def P_wnd (x y r : Int → Int) : Prop := ∀ l : Int, 0 ≤ l → l ≤ 2 → x l = r (9 + 2 * l) ∧ y l = r (9 + 2 * l + 1) ∧ -1 ≤ x l ∧ x l ≤ 1 ∧ -1 ≤ y l ∧ y l ≤ 1
def P_cld (o f r : Int → Int) : Prop := (o 9 = r 0 ∧ 0 ≤ o 9 ∧ o 9 ≤ 5) ∧ (∀ j : Int, 0 ≤ j → j < 25 → f j = r (15 + j)) ∧ ∀ c : Int, 0 ≤ c → c < o 9 → 1 ≤ f (c * 5) ∧ f (c * 5) ≤ 3 ∧ 1 ≤ f (c * 5 + 1) ∧ f (c * 5 + 1) ≤ 3 ∧ 0 ≤ f (c * 5 + 2) ∧ f (c * 5 + 2) ≤ 2 ∧ -8 ≤ f (c * 5 + 3) ∧ f (c * 5 + 3) ≤ 15 ∧ -8 ≤ f (c * 5 + 4) ∧ f (c * 5 + 4) ≤ 15
def P_flg (o f r : Int → Int) : Prop := (o 10 = r 1 ∧ 0 ≤ o 10 ∧ o 10 ≤ 24) ∧ (∀ j : Int, 0 ≤ j → j < 72 → f j = r (232 + j)) ∧ (∀ k : Int, 0 ≤ k → k < o 10 → 0 ≤ f (k * 3) ∧ f (k * 3) ≤ 10 ∧ 0 ≤ f (k * 3 + 1) ∧ f (k * 3 + 1) < o 9 ∧ 0 ≤ f (k * 3 + 2) ∧ f (k * 3 + 2) ≤ 3) ∧ ∀ k l : Int, 0 ≤ k → k < l → l < o 10 → ¬ (f (k * 3) = f (l * 3) ∧ f (k * 3 + 1) = f (l * 3 + 1))
def P_con (o f r : Int → Int) : Prop := (o 11 = r 2 ∧ 0 ≤ o 11 ∧ o 11 ≤ 8) ∧ (∀ j : Int, 0 ≤ j → j < 40 → f j = r (304 + j)) ∧ ∀ k : Int, 0 ≤ k → k < o 11 → 0 ≤ f (k * 5) ∧ f (k * 5) ≤ 63 ∧ 0 ≤ f (k * 5 + 1) ∧ f (k * 5 + 1) ≤ f (k * 5 + 2) ∧ f (k * 5 + 2) ≤ 11 ∧ 0 ≤ f (k * 5 + 3) ∧ f (k * 5 + 3) ≤ 1 ∧ 1 ≤ f (k * 5 + 4) ∧ f (k * 5 + 4) ≤ 99
def P_sgt (o f r : Int → Int) : Prop := (o 12 = r 3 ∧ 0 ≤ o 12 ∧ o 12 ≤ 10) ∧ (∀ j : Int, 0 ≤ j → j < 30 → f j = r (344 + j)) ∧ ∀ k : Int, 0 ≤ k → k < o 12 → 0 ≤ f (k * 3) ∧ f (k * 3) ≤ 11 ∧ 0 ≤ f (k * 3 + 1) ∧ f (k * 3 + 1) ≤ 63 ∧ 0 ≤ f (k * 3 + 2) ∧ f (k * 3 + 2) ≤ 1
def P_trm (f r : Int → Int) : Prop := ∀ j : Int, 0 ≤ j → j ≤ 2 → f j = r (6 + j) ∧ 0 ≤ f j ∧ f j ≤ 99 ∧ (j = 1 → f j ≤ 10) ∧ (j = 2 → f j ≤ 9)
def P_law (o r : Int → Int) : Prop := (o 13 = r 4 ∧ 0 ≤ o 13 ∧ o 13 ≤ 6) ∧ o 14 = r 5 ∧ -1 ≤ o 14 ∧ o 14 < o 13
def Pln (o f2 f3 f4 f5 f6 f7 f8 f9 r : Int → Int) : Prop := P_fld f2 r ∧ P_wnd f3 f4 r ∧ P_cld o f5 r ∧ P_flg o f6 r ∧ P_con o f7 r ∧ P_sgt o f8 r ∧ P_trm f9 r ∧ P_law o r
-- status, haze, where drives stopped, fault, tape, refusals, summer
def R_sts (x m : Int → Int) : Prop := x 13 = m 1 ∧ x 14 = m 6 ∧ x 15 = m 59
def R_tap (x m t u : Int → Int) : Prop := x 8 = m 13 ∧ (x 4 = m 8 ∧ 0 ≤ x 4 ∧ x 4 ≤ 400) ∧ ∀ j : Int, 0 ≤ j → j < x 4 → t j = u j ∧ 0 ≤ t j ∧ t j ≤ 255
def R_ref (x m : Int → Int) : Prop := x 0 = m 1 ∧ x 1 = m 2 ∧ x 2 = m 3 ∧ x 3 = m 5 ∧ x 4 = m 6
def R_smr (x m d u : Int → Int) : Prop := (x 5 = m 63 ∧ 0 ≤ x 5 ∧ x 5 ≤ 1) ∧ ∀ j : Int, 0 ≤ j → j ≤ 63 → d j = u j
def R_kpt (x m : Int → Int) : Prop := ∀ k : Int, 0 ≤ k → k ≤ 1 → x k = m k ∧ 0 ≤ x k ∧ x k ≤ 1
def R_cst (i m w ow hd : Int → Int) : Prop := i = X0 11 ∧ m 15 = 0 ∧ w = X0 88 ∧ ow = X0 89 ∧ hd = X0 90
def RR (X : Nat → Int → Int) : Prop :=
  Pln (X 1) (X 2) (X 3) (X 4) (X 5) (X 6) (X 7) (X 8) (X 9) (X 79) ∧ R_sts (X 0) (X 77) ∧ R_tap (X 33) (X 77) (X 34) (X 82) ∧ R_ref (X 76) (X 78) ∧ R_smr (X 52) (X 77) (X 54) (X 114) ∧ R_kpt (X 32) (X 81) ∧
  (X 32 0 = 1 → Pln (X 12) (X 13) (X 14) (X 15) (X 16) (X 17) (X 18) (X 19) (X 20) (X 80)) ∧ (X 32 1 = 1 → Pln (X 22) (X 23) (X 24) (X 25) (X 26) (X 27) (X 28) (X 29) (X 30) (fun j => X 80 (5780 + j))) ∧ R_cst (X 11) (X 77) (X 88) (X 89) (X 90)
/-- the law's own texts: of each law of a plain a script, behind the picture; said later on: L n h lt o r -/
abbrev s_LW : Type := Nat → (Nat → sE) → (Int → Int) → (Int → Int) → (Int → Int) → Prop
/-- the state between two calls -/
def INV (LW : s_LW) (n : Nat) (h : Nat → sE) : Prop := ∃ X : Nat → Int → Int, Pic X h ∧ 115 ≤ n ∧ RR X ∧ LW n h (X 10) (X 1) (X 79) ∧ (X 32 0 = 1 → LW n h (X 21) (X 12) (X 80)) ∧ (X 32 1 = 1 → LW n h (X 31) (X 22) (fun j => X 80 (5780 + j)))
theorem INV_in {LW : s_LW} : ∀ n h, INV LW n h → 115 ≤ n ∧ ∃ fs, h 0 = .inr (11, fs) := by
  intro n h hI
  obtain ⟨X, hX, hn, -⟩ := hI
  exact ⟨hn, _, (hX 0 (by decide)).trans (ent_0 _)⟩
/-- what the laws' texts rest on: cells behind the picture, the laws' number, the row's texts -/
def LWst (LW : s_LW) : Prop := ∀ n h h' lt o o' r r', LW n h lt o r → (∀ i, 115 ≤ i → h' i = h i) → o' 13 = o 13 → (∀ j : Int, 380 ≤ j → j < 5780 → r' j = r j) → LW n h' lt o' r'
theorem P_fld.cg {f r r' : Int → Int} (p : P_fld f r) (e : ∀ j : Int, 40 ≤ j → j < 232 → r' j = r j) : P_fld f r' := fun a b a0 a1 b0 b1 => by rw [e _ (by omega) (by omega)]; exact p a b a0 a1 b0 b1
theorem P_wnd.cg {x y r r' : Int → Int} (p : P_wnd x y r) (e : ∀ j : Int, 9 ≤ j → j < 15 → r' j = r j) : P_wnd x y r' := fun l l0 l1 => by rw [e _ (by omega) (by omega), e _ (by omega) (by omega)]; exact p l l0 l1
theorem P_cld.cg {o o' f r r' : Int → Int} (p : P_cld o f r) (eo : o' 9 = o 9) (e0 : r' 0 = r 0) (e : ∀ j : Int, 15 ≤ j → j < 40 → r' j = r j) : P_cld o' f r' := by
  refine ⟨by rw [eo, e0]; exact p.1, fun j j0 j1 => by rw [e _ (by omega) (by omega)]; exact p.2.1 j j0 j1, by rw [eo]; exact p.2.2⟩
theorem P_flg.cg {o o' f r r' : Int → Int} (p : P_flg o f r) (eo : o' 10 = o 10) (eo9 : o' 9 = o 9) (e0 : r' 1 = r 1) (e : ∀ j : Int, 232 ≤ j → j < 304 → r' j = r j) : P_flg o' f r' := by
  refine ⟨by rw [eo, e0]; exact p.1, fun j j0 j1 => by rw [e _ (by omega) (by omega)]; exact p.2.1 j j0 j1, by rw [eo, eo9]; exact p.2.2.1, by rw [eo]; exact p.2.2.2⟩
theorem P_con.cg {o o' f r r' : Int → Int} (p : P_con o f r) (eo : o' 11 = o 11) (e0 : r' 2 = r 2) (e : ∀ j : Int, 304 ≤ j → j < 344 → r' j = r j) : P_con o' f r' := by
  refine ⟨by rw [eo, e0]; exact p.1, fun j j0 j1 => by rw [e _ (by omega) (by omega)]; exact p.2.1 j j0 j1, by rw [eo]; exact p.2.2⟩
theorem P_sgt.cg {o o' f r r' : Int → Int} (p : P_sgt o f r) (eo : o' 12 = o 12) (e0 : r' 3 = r 3) (e : ∀ j : Int, 344 ≤ j → j < 374 → r' j = r j) : P_sgt o' f r' := by
  refine ⟨by rw [eo, e0]; exact p.1, fun j j0 j1 => by rw [e _ (by omega) (by omega)]; exact p.2.1 j j0 j1, by rw [eo]; exact p.2.2⟩
theorem P_trm.cg {f r r' : Int → Int} (p : P_trm f r) (e : ∀ j : Int, 6 ≤ j → j < 9 → r' j = r j) : P_trm f r' := fun j j0 j1 => by rw [e _ (by omega) (by omega)]; exact p j j0 j1
theorem P_law.cg {o o' r r' : Int → Int} (p : P_law o r) (e1 : o' 13 = o 13) (e2 : o' 14 = o 14) (e3 : r' 4 = r 4) (e4 : r' 5 = r 5) : P_law o' r' := by
  unfold P_law
  rw [e1, e2, e3, e4]; exact p
theorem R_tap.cg {x m m' t u : Int → Int} (p : R_tap x m t u) (e1 : m' 13 = m 13) (e2 : m' 8 = m 8) : R_tap x m' t u := ⟨by rw [e1]; exact p.1, by rw [e2]; exact p.2.1, p.2.2⟩
theorem R_smr.cg {x m m' d u : Int → Int} (p : R_smr x m d u) (e1 : m' 63 = m 63) : R_smr x m' d u := ⟨by rw [e1]; exact p.1, p.2⟩
theorem R_cst.cg {i m m' w ow hd : Int → Int} (p : R_cst i m w ow hd) (e1 : m' 15 = m 15) : R_cst i m' w ow hd := ⟨p.1, by rw [e1]; exact p.2.1, p.2.2⟩
/-- a call that is granted, and tells nothing more; one that is refused -/
theorem RR_status {X : Nat → Int → Int} (z : Int) (hR : RR X) : RR (upL [(0, uI (X 0) 13 z), (77, uI (uI (X 77) 0 0) 1 z)] X) := by
  obtain ⟨p, s, t, rf, sm, kp, i0, i1, cs⟩ := hR
  refine ⟨p, ⟨rfl, s.2.1, s.2.2⟩, t.cg rfl rfl, rf, sm.cg rfl, kp, i0, i1, cs.cg rfl⟩
theorem RR_thrown {X : Nat → Int → Int} (hR : RR X) : RR (upL [(77, uI (X 77) 0 0)] X) := by
  obtain ⟨p, s, t, rf, sm, kp, i0, i1, cs⟩ := hR
  exact ⟨p, ⟨s.1, s.2.1, s.2.2⟩, t.cg rfl rfl, rf, sm.cg rfl, kp, i0, i1, cs.cg rfl⟩
theorem RR_ref1 {X : Nat → Int → Int} (hR : RR X) : RR (upL [(76, uI (X 76) 0 (X 76 0 + 1)), (78, uI (X 78) 1 (X 78 1 + 1))] X) := by
  obtain ⟨p, s, t, rf, sm, kp, i0, i1, cs⟩ := hR
  exact ⟨p, s, t, ⟨congrArg (· + 1) rf.1, rf.2⟩, sm, kp, i0, i1, cs⟩
theorem RR_ref2 {X : Nat → Int → Int} (hR : RR X) : RR (upL [(76, uI (X 76) 1 (X 76 1 + 1)), (78, uI (X 78) 2 (X 78 2 + 1))] X) := by
  obtain ⟨p, s, t, rf, sm, kp, i0, i1, cs⟩ := hR
  exact ⟨p, s, t, ⟨rf.1, congrArg (· + 1) rf.2.1, rf.2.2⟩, sm, kp, i0, i1, cs⟩
theorem RR_ref3 {X : Nat → Int → Int} (hR : RR X) : RR (upL [(76, uI (X 76) 2 (X 76 2 + 1)), (78, uI (X 78) 3 (X 78 3 + 1))] X) := by
  obtain ⟨p, s, t, rf, sm, kp, i0, i1, cs⟩ := hR
  exact ⟨p, s, t, ⟨rf.1, rf.2.1, congrArg (· + 1) rf.2.2.1, rf.2.2.2⟩, sm, kp, i0, i1, cs⟩
theorem RR_ref5 {X : Nat → Int → Int} (hR : RR X) : RR (upL [(76, uI (X 76) 3 (X 76 3 + 1)), (78, uI (X 78) 5 (X 78 5 + 1))] X) := by
  obtain ⟨p, s, t, rf, sm, kp, i0, i1, cs⟩ := hR
  exact ⟨p, s, t, ⟨rf.1, rf.2.1, rf.2.2.1, congrArg (· + 1) rf.2.2.2.1, rf.2.2.2.2⟩, sm, kp, i0, i1, cs⟩
theorem RR_ref6 {X : Nat → Int → Int} (hR : RR X) : RR (upL [(76, uI (X 76) 4 (X 76 4 + 1)), (78, uI (X 78) 6 (X 78 6 + 1))] X) := by
  obtain ⟨p, s, t, rf, sm, kp, i0, i1, cs⟩ := hR
  exact ⟨p, s, t, ⟨rf.1, rf.2.1, rf.2.2.1, rf.2.2.2.1, congrArg (· + 1) rf.2.2.2.2⟩, sm, kp, i0, i1, cs⟩
/-- what single calls tell -/
theorem RR_put {X : Nat → Int → Int} {a b v : Int} (hR : RR X) (hc : 0 ≤ a ∧ a ≤ 63 ∧ ((b = 0 ∧ 0 ≤ v ∧ v ≤ 99) ∨ (b = 1 ∧ 1 ≤ v ∧ v ≤ 999) ∨ (b = 2 ∧ 0 ≤ v ∧ v ≤ 1))) : RR (upL [(2, uI (X 2) (b * 64 + a) v), (79, uI (X 79) (40 + 3 * a + b) v)] X) := by
  obtain ⟨⟨p1, p2, p3, p4, p5, p6, p7, p8⟩, s, t, rf, sm, kp, i0, i1, cs⟩ := hR
  refine ⟨⟨fun c d c0 c1 d0 d1 => ?_, p2.cg (fun j _ _ => uI_ne (by omega)), p3.cg rfl (uI_ne (by omega)) (fun j _ _ => uI_ne (by omega)), p4.cg rfl rfl (uI_ne (by omega)) (fun j _ _ => uI_ne (by omega)), p5.cg rfl (uI_ne (by omega)) (fun j _ _ => uI_ne (by omega)), p6.cg rfl (uI_ne (by omega)) (fun j _ _ => uI_ne (by omega)), p7.cg (fun j _ _ => uI_ne (by omega)), p8.cg rfl rfl (uI_ne (by omega)) (uI_ne (by omega))⟩, s, t, rf, sm, kp, i0, i1, cs⟩
  show uI (X 2) (b * 64 + a) v (d * 64 + c) = uI (X 79) (40 + 3 * a + b) v (40 + 3 * c + d) ∧ 0 ≤ uI (X 2) (b * 64 + a) v (d * 64 + c) ∧ uI (X 2) (b * 64 + a) v (d * 64 + c) ≤ 999 ∧ (d = 0 → uI (X 2) (b * 64 + a) v (d * 64 + c) ≤ 99) ∧ (d = 1 → 1 ≤ uI (X 2) (b * 64 + a) v (d * 64 + c)) ∧ (d = 2 → uI (X 2) (b * 64 + a) v (d * 64 + c) ≤ 1)
  by_cases q : d = b ∧ c = a
  · obtain ⟨rfl, rfl⟩ := q
    rw [uI_same, uI_same]; omega
  · rw [uI_ne (by omega), uI_ne (by omega)]; exact p1 c d c0 c1 d0 d1
theorem RR_wind {X : Nat → Int → Int} {a b c : Int} (hR : RR X) (hc : 0 ≤ a ∧ a ≤ 2 ∧ -1 ≤ b ∧ b ≤ 1 ∧ -1 ≤ c ∧ c ≤ 1) : RR (upL [(3, uI (X 3) a b), (4, uI (X 4) a c), (79, uI (uI (X 79) (9 + 2 * a) b) (9 + 2 * a + 1) c)] X) := by
  obtain ⟨⟨p1, p2, p3, p4, p5, p6, p7, p8⟩, s, t, rf, sm, kp, i0, i1, cs⟩ := hR
  have k : ∀ j : Int, j < 9 ∨ 15 ≤ j → uI (uI (X 79) (9 + 2 * a) b) (9 + 2 * a + 1) c j = X 79 j := fun j hj => by rw [uI_ne (by omega), uI_ne (by omega)]
  refine ⟨⟨p1.cg (fun j _ _ => k j (by omega)), fun l l0 l1 => ?_, p3.cg rfl (k 0 (by omega)) (fun j _ _ => k j (by omega)), p4.cg rfl rfl (k 1 (by omega)) (fun j _ _ => k j (by omega)), p5.cg rfl (k 2 (by omega)) (fun j _ _ => k j (by omega)), p6.cg rfl (k 3 (by omega)) (fun j _ _ => k j (by omega)), p7.cg (fun j _ _ => k j (by omega)), p8.cg rfl rfl (k 4 (by omega)) (k 5 (by omega))⟩, s, t, rf, sm, kp, i0, i1, cs⟩
  show uI (X 3) a b l = uI (uI (X 79) (9 + 2 * a) b) (9 + 2 * a + 1) c (9 + 2 * l) ∧ uI (X 4) a c l = uI (uI (X 79) (9 + 2 * a) b) (9 + 2 * a + 1) c (9 + 2 * l + 1) ∧ -1 ≤ uI (X 3) a b l ∧ uI (X 3) a b l ≤ 1 ∧ -1 ≤ uI (X 4) a c l ∧ uI (X 4) a c l ≤ 1
  by_cases q : l = a
  · subst q
    rw [uI_same, uI_same, uI_same, uI_ne (by omega), uI_same]; omega
  · rw [uI_ne q, uI_ne q, uI_ne (by omega), uI_ne (by omega), uI_ne (by omega), uI_ne (by omega)]; exact p2 l l0 l1
theorem RR_cancel {X : Nat → Int → Int} (hR : RR X) : RR (upL [(1, uI (X 1) 11 0), (79, uI (X 79) 2 0)] X) := by
  obtain ⟨⟨p1, p2, p3, p4, p5, p6, p7, p8⟩, s, t, rf, sm, kp, i0, i1, cs⟩ := hR
  have k : ∀ j : Int, ¬ j = 2 → uI (X 79) 2 0 j = X 79 j := fun j hj => uI_ne hj
  exact ⟨⟨p1.cg (fun j _ _ => k j (by omega)), p2.cg (fun j _ _ => k j (by omega)), p3.cg rfl (k 0 (by omega)) (fun j _ _ => k j (by omega)), p4.cg rfl rfl (k 1 (by omega)) (fun j _ _ => k j (by omega)), ⟨⟨rfl, (show (0 : Int) ≤ 0 by decide), (show (0 : Int) ≤ 8 by decide)⟩, fun j j0 j1 => (p5.2.1 j j0 j1).trans (k _ (by omega)).symm, fun k0 k1 k2 => absurd (show k0 < (0 : Int) from k2) (by omega)⟩, p6.cg rfl (k 3 (by omega)) (fun j _ _ => k j (by omega)), p7.cg (fun j _ _ => k j (by omega)), p8.cg rfl rfl (k 4 (by omega)) (k 5 (by omega))⟩, s, t, rf, sm, kp, i0, i1, cs⟩
theorem RR_forget {X : Nat → Int → Int} (hR : RR X) : RR (upL [(1, uI (X 1) 12 0), (79, uI (X 79) 3 0)] X) := by
  obtain ⟨⟨p1, p2, p3, p4, p5, p6, p7, p8⟩, s, t, rf, sm, kp, i0, i1, cs⟩ := hR
  have k : ∀ j : Int, ¬ j = 3 → uI (X 79) 3 0 j = X 79 j := fun j hj => uI_ne hj
  exact ⟨⟨p1.cg (fun j _ _ => k j (by omega)), p2.cg (fun j _ _ => k j (by omega)), p3.cg rfl (k 0 (by omega)) (fun j _ _ => k j (by omega)), p4.cg rfl rfl (k 1 (by omega)) (fun j _ _ => k j (by omega)), p5.cg rfl (k 2 (by omega)) (fun j _ _ => k j (by omega)), ⟨⟨rfl, (show (0 : Int) ≤ 0 by decide), (show (0 : Int) ≤ 10 by decide)⟩, fun j j0 j1 => (p6.2.1 j j0 j1).trans (k _ (by omega)).symm, fun k0 k1 k2 => absurd (show k0 < (0 : Int) from k2) (by omega)⟩, p7.cg (fun j _ _ => k j (by omega)), p8.cg rfl rfl (k 4 (by omega)) (k 5 (by omega))⟩, s, t, rf, sm, kp, i0, i1, cs⟩
theorem RR_terms {X : Nat → Int → Int} {a b : Int} (hR : RR X) (hc : (a = 0 ∧ 0 ≤ b ∧ b ≤ 99) ∨ (a = 1 ∧ 0 ≤ b ∧ b ≤ 10) ∨ (a = 2 ∧ 0 ≤ b ∧ b ≤ 9)) : RR (upL [(9, uI (X 9) a b), (79, uI (X 79) (6 + a) b)] X) := by
  obtain ⟨⟨p1, p2, p3, p4, p5, p6, p7, p8⟩, s, t, rf, sm, kp, i0, i1, cs⟩ := hR
  have k : ∀ j : Int, j < 6 ∨ 9 ≤ j → uI (X 79) (6 + a) b j = X 79 j := fun j hj => uI_ne (by omega)
  refine ⟨⟨p1.cg (fun j _ _ => k j (by omega)), p2.cg (fun j _ _ => k j (by omega)), p3.cg rfl (k 0 (by omega)) (fun j _ _ => k j (by omega)), p4.cg rfl rfl (k 1 (by omega)) (fun j _ _ => k j (by omega)), p5.cg rfl (k 2 (by omega)) (fun j _ _ => k j (by omega)), p6.cg rfl (k 3 (by omega)) (fun j _ _ => k j (by omega)), fun j j0 j1 => ?_, p8.cg rfl rfl (k 4 (by omega)) (k 5 (by omega))⟩, s, t, rf, sm, kp, i0, i1, cs⟩
  show uI (X 9) a b j = uI (X 79) (6 + a) b (6 + j) ∧ 0 ≤ uI (X 9) a b j ∧ uI (X 9) a b j ≤ 99 ∧ (j = 1 → uI (X 9) a b j ≤ 10) ∧ (j = 2 → uI (X 9) a b j ≤ 9)
  by_cases q : j = a
  · subst q
    rw [uI_same, uI_same]; omega
  · rw [uI_ne q, uI_ne (by omega)]; exact p7 j j0 j1
theorem RR_force {X : Nat → Int → Int} {a : Int} (hR : RR X) (hc : a = -1 ∨ (0 ≤ a ∧ a ≤ X 1 13 - 1)) : RR (upL [(1, uI (X 1) 14 a), (79, uI (X 79) 5 a)] X) := by
  obtain ⟨⟨p1, p2, p3, p4, p5, p6, p7, p8⟩, s, t, rf, sm, kp, i0, i1, cs⟩ := hR
  have k : ∀ j : Int, ¬ j = 5 → uI (X 79) 5 a j = X 79 j := fun j hj => uI_ne hj
  refine ⟨⟨p1.cg (fun j _ _ => k j (by omega)), p2.cg (fun j _ _ => k j (by omega)), p3.cg rfl (k 0 (by omega)) (fun j _ _ => k j (by omega)), p4.cg rfl rfl (k 1 (by omega)) (fun j _ _ => k j (by omega)), p5.cg rfl (k 2 (by omega)) (fun j _ _ => k j (by omega)), p6.cg rfl (k 3 (by omega)) (fun j _ _ => k j (by omega)), p7.cg (fun j _ _ => k j (by omega)), ?_⟩, s, t, rf, sm, kp, i0, i1, cs⟩
  have p9 := p8.1
  have p10 := p8.2.2
  refine ⟨p8.1, rfl, ?_, ?_⟩
  · show -1 ≤ a
    omega
  · show a < X 1 13
    omega
theorem RR_undo {X : Nat → Int → Int} (hR : RR X) (hc : ¬ X 1 10 ≤ 0) : RR (upL [(1, uI (X 1) 10 (X 1 10 - 1)), (79, uI (X 79) 1 (X 79 1 - 1))] X) := by
  obtain ⟨⟨p1, p2, p3, p4, p5, p6, p7, p8⟩, s, t, rf, sm, kp, i0, i1, cs⟩ := hR
  have k : ∀ j : Int, ¬ j = 1 → uI (X 79) 1 (X 79 1 - 1) j = X 79 j := fun j hj => uI_ne hj
  have p9 := p4.1
  refine ⟨⟨p1.cg (fun j _ _ => k j (by omega)), p2.cg (fun j _ _ => k j (by omega)), p3.cg rfl (k 0 (by omega)) (fun j _ _ => k j (by omega)), ⟨?_, fun j j0 j1 => (p4.2.1 j j0 j1).trans (k _ (by omega)).symm, fun k0 k1 k2 => p4.2.2.1 k0 k1 (Int.lt_of_lt_of_le (show k0 < X 1 10 - 1 from k2) (by omega)), fun k0 l0 q0 q1 q2 => p4.2.2.2 k0 l0 q0 q1 (Int.lt_of_lt_of_le (show l0 < X 1 10 - 1 from q2) (by omega))⟩, p5.cg rfl (k 2 (by omega)) (fun j _ _ => k j (by omega)), p6.cg rfl (k 3 (by omega)) (fun j _ _ => k j (by omega)), p7.cg (fun j _ _ => k j (by omega)), p8.cg rfl rfl (k 4 (by omega)) (k 5 (by omega))⟩, s, t, rf, sm, kp, i0, i1, cs⟩
  show X 1 10 - 1 = X 79 1 - 1 ∧ 0 ≤ X 1 10 - 1 ∧ X 1 10 - 1 ≤ 24
  omega
theorem RR_end {X : Nat → Int → Int} {a : Int} (hR : RR X) (hc : 0 ≤ a ∧ a ≤ X 33 4) : RR (upL [(33, uI (X 33) 4 a), (77, uI (X 77) 8 a)] X) := by
  obtain ⟨p, s, t, rf, sm, kp, i0, i1, cs⟩ := hR
  have t1 := t.2.1
  refine ⟨p, ⟨s.1, s.2.1, s.2.2⟩, ⟨t.1, ⟨rfl, hc.1, ?_⟩, fun j j0 j1 => t.2.2 j j0 (Int.lt_of_lt_of_le (show j < a from j1) hc.2)⟩, rf, sm.cg rfl, kp, i0, i1, cs.cg rfl⟩
  show a ≤ 400
  omega
theorem RR_cloud {X : Nat → Int → Int} {a b c x y : Int} (hR : RR X) (hc : 1 ≤ a ∧ a ≤ 3 ∧ 1 ≤ b ∧ b ≤ 3 ∧ 0 ≤ c ∧ c ≤ 2 ∧ -8 ≤ x ∧ x ≤ 15 ∧ -8 ≤ y ∧ y ≤ 15) (hl : X 1 9 < 5) : RR (upL [(5, uI (uI (uI (uI (uI (X 5) (X 1 9 * 5 + 0) a) (X 1 9 * 5 + 1) b) (X 1 9 * 5 + 2) c) (X 1 9 * 5 + 3) x) (X 1 9 * 5 + 4) y), (1, uI (X 1) 9 (X 1 9 + 1)), (79, uI (uI (uI (uI (uI (uI (X 79) (15 + 5 * X 79 0) a) (15 + 5 * X 79 0 + 1) b) (15 + 5 * X 79 0 + 2) c) (15 + 5 * X 79 0 + 3) x) (15 + 5 * X 79 0 + 4) y) 0 (X 79 0 + 1))] X) := by
  obtain ⟨⟨p1, p2, p3, p4, p5, p6, p7, p8⟩, s, t, rf, sm, kp, i0, i1, cs⟩ := hR
  have p9 := p3.1
  generalize hf : uI (uI (uI (uI (uI (X 5) (X 1 9 * 5 + 0) a) (X 1 9 * 5 + 1) b) (X 1 9 * 5 + 2) c) (X 1 9 * 5 + 3) x) (X 1 9 * 5 + 4) y = f
  generalize hr : uI (uI (uI (uI (uI (uI (X 79) (15 + 5 * X 79 0) a) (15 + 5 * X 79 0 + 1) b) (15 + 5 * X 79 0 + 2) c) (15 + 5 * X 79 0 + 3) x) (15 + 5 * X 79 0 + 4) y) 0 (X 79 0 + 1) = r
  have k : ∀ j : Int, (1 ≤ j ∧ j < 15) ∨ 40 ≤ j → r j = X 79 j := fun j hj => by
    rw [← hr, uI_ne (by omega), uI_ne (by omega), uI_ne (by omega), uI_ne (by omega), uI_ne (by omega), uI_ne (by omega)]
  have kr : ∀ j : Int, 15 ≤ j → r j = if j = 15 + 5 * X 79 0 + 4 then y else if j = 15 + 5 * X 79 0 + 3 then x else if j = 15 + 5 * X 79 0 + 2 then c else if j = 15 + 5 * X 79 0 + 1 then b else if j = 15 + 5 * X 79 0 then a else X 79 j := fun j hj => by
    rw [← hr, uI_ne (by omega)]; rfl
  have kf : ∀ j : Int, f j = if j = X 1 9 * 5 + 4 then y else if j = X 1 9 * 5 + 3 then x else if j = X 1 9 * 5 + 2 then c else if j = X 1 9 * 5 + 1 then b else if j = X 1 9 * 5 + 0 then a else X 5 j := fun j => by
    rw [← hf]; rfl
  have r0 : r 0 = X 79 0 + 1 := by rw [← hr, uI_same]
  have q3 : P_cld (uI (X 1) 9 (X 1 9 + 1)) f r := by
    refine ⟨⟨?_, ?_, ?_⟩, fun j j0 j1 => ?_, fun d d0 d1 => ?_⟩
    · rw [uI_same, r0]; omega
    · rw [uI_same]; omega
    · rw [uI_same]; omega
    · have e := p3.2.1 j j0 j1
      rw [kf, kr _ (by omega)]
      by_cases q4 : j = X 1 9 * 5 + 4
      · rw [if_pos q4, if_pos (by omega)]
      rw [if_neg q4, if_neg (by omega : ¬ 15 + j = 15 + 5 * X 79 0 + 4)]
      by_cases q5 : j = X 1 9 * 5 + 3
      · rw [if_pos q5, if_pos (by omega)]
      rw [if_neg q5, if_neg (by omega : ¬ 15 + j = 15 + 5 * X 79 0 + 3)]
      by_cases q6 : j = X 1 9 * 5 + 2
      · rw [if_pos q6, if_pos (by omega)]
      rw [if_neg q6, if_neg (by omega : ¬ 15 + j = 15 + 5 * X 79 0 + 2)]
      by_cases q7 : j = X 1 9 * 5 + 1
      · rw [if_pos q7, if_pos (by omega)]
      rw [if_neg q7, if_neg (by omega : ¬ 15 + j = 15 + 5 * X 79 0 + 1)]
      by_cases q8 : j = X 1 9 * 5 + 0
      · rw [if_pos q8, if_pos (by omega)]
      rw [if_neg q8, if_neg (by omega : ¬ 15 + j = 15 + 5 * X 79 0)]
      exact e
    · rw [uI_same] at d1
      by_cases q : d = X 1 9
      · subst q
        have f0 : f (X 1 9 * 5) = a := by rw [kf, if_neg (by omega), if_neg (by omega), if_neg (by omega), if_neg (by omega), if_pos (by omega)]
        have f1 : f (X 1 9 * 5 + 1) = b := by rw [kf, if_neg (by omega), if_neg (by omega), if_neg (by omega), if_pos rfl]
        have f2 : f (X 1 9 * 5 + 2) = c := by rw [kf, if_neg (by omega), if_neg (by omega), if_pos rfl]
        have f3 : f (X 1 9 * 5 + 3) = x := by rw [kf, if_neg (by omega), if_pos rfl]
        have f4 : f (X 1 9 * 5 + 4) = y := by rw [kf, if_pos rfl]
        rw [f0, f1, f2, f3, f4]; omega
      · have g : ∀ z : Int, 0 ≤ z → z ≤ 4 → f (d * 5 + z) = X 5 (d * 5 + z) := fun z z0 z1 => by
          rw [kf, if_neg (by omega), if_neg (by omega), if_neg (by omega), if_neg (by omega), if_neg (by omega)]
        have g0 := g 0 (by decide) (by decide)
        rw [Int.add_zero] at g0
        rw [g0, g 1 (by decide) (by decide), g 2 (by decide) (by decide), g 3 (by decide) (by decide), g 4 (by decide) (by decide)]
        exact p3.2.2 d d0 (by omega)
  have q4 : P_flg (uI (X 1) 9 (X 1 9 + 1)) (X 6) r := by
    refine ⟨by rw [uI_ne (by decide), k 1 (by omega)]; exact p4.1, fun j j0 j1 => by rw [k _ (by omega)]; exact p4.2.1 j j0 j1, fun k0 k1 k2 => ?_, ?_⟩
    · rw [uI_ne (by decide)] at k2
      have e := p4.2.2.1 k0 k1 k2
      rw [uI_same]; omega
    · rw [uI_ne (by decide)]; exact p4.2.2.2
  exact ⟨⟨p1.cg (fun j _ _ => k j (by omega)), p2.cg (fun j _ _ => k j (by omega)), q3, q4, p5.cg rfl (k 2 (by omega)) (fun j _ _ => k j (by omega)), p6.cg rfl (k 3 (by omega)) (fun j _ _ => k j (by omega)), p7.cg (fun j _ _ => k j (by omega)), p8.cg rfl rfl (k 4 (by omega)) (k 5 (by omega))⟩, s, t, rf, sm, kp, i0, i1, cs⟩
/-- the class's method and behind it the reference's, with the same arguments, in a world of INV: the same answer, and a world of INV again -/
def Pair (mx mm : s_M) (mc ms : Nat) (INV : Nat → (Nat → sE) → Prop) (as : List Value) : Prop := ∀ n h, INV n h → ∃ dx dm : Nat, dx + 1 ≤ 2048 ∧ dm + 1 ≤ 2048 ∧ Sp mx dx mc ms (.ref 0 :: as) n h (fun r n1 h1 => ∃ v : Int32, r = some (.int v) ∧ (115 ≤ n1 ∧ ∃ fs, h1 77 = .inr (12, fs)) ∧ Sp mm dm 0 0 (.ref 77 :: as) n1 h1 (fun r2 n2 h2 => n2 = n1 ∧ r2 = some (.int v) ∧ INV n2 h2))
def PairL (mx mm : s_M) (mc ms : Nat) (INV : Nat → (Nat → sE) → Prop) (as : List Value) : Prop := ∀ n h, INV n h → ∃ dx dm : Nat, dx + 1 ≤ 2048 ∧ dm + 1 ≤ 2048 ∧ Sp mx dx mc ms (.ref 0 :: as) n h (fun r n1 h1 => ∃ v : Int64, r = some (.long v) ∧ (115 ≤ n1 ∧ ∃ fs, h1 77 = .inr (12, fs)) ∧ Sp mm dm 0 0 (.ref 77 :: as) n1 h1 (fun r2 n2 h2 => n2 = n1 ∧ r2 = some (.long v) ∧ INV n2 h2))

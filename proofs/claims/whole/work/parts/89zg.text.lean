/-! TEXTS: the class's clauses, one behind the other -/
def zrx (lw : Bool) (tk : Int → Int) (i v : Int) : zRT := zmy lw tk 60 24 0 (zhd lw tk i v)
def ztx (lw : Bool) (tk : Int → Int) : Nat → Int → Int → Bool × Int
  | 0, i, _ => (false, i)
  | n + 1, i, v => if (zrx lw tk i v).1 = false then (false, (zrx lw tk i v).2.1) else if tk (zrx lw tk i v).2.1 = 29 then (true, (zrx lw tk i v).2.1) else if tk (zrx lw tk i v).2.1 = 1059 then ztx lw tk n ((zrx lw tk i v).2.1 + 1) (zrx lw tk i v).2.2.1 else (false, (zrx lw tk i v).2.1)
def zsx (lw : Bool) (tk : Int → Int) : Nat → Int × Int
  | 0 => (0, 0)
  | n + 1 => ((zrx lw tk (zsx lw tk n).1 (zsx lw tk n).2).2.1 + 1, (zrx lw tk (zsx lw tk n).1 (zsx lw tk n).2).2.2.1)
/-- what stands behind clause j -/
def zfo (lw : Bool) (tk : Int → Int) (j : Nat) : Int := tk (zrx lw tk (zsx lw tk j).1 (zsx lw tk j).2).2.1
/-- a script's frame: all but a new clause's heads -/
theorem e_addClause {lw : Bool} {tk : Int → Int} {X : XT} {m i v : Int} {Q : XT → Prop} (hm : 0 ≤ m ∧ m ≤ 11) (z : kQS lw tk X i v) (h2 : X 37 2 = m) (q : ∀ X1, Fx [37, 38] X X1 → (∀ f : Int, ¬ f = 2 → X1 37 f = X 37 f) → X1 37 2 = m + 1 → (∀ k : Int, 0 ≤ k → k < 6 → X1 38 (m * 6 + k) = -1) → (∀ j : Int, j < m * 6 → X1 38 j = X 38 j) → kQS lw tk X1 i v → Q X1) : w_X7_addClause X Q := by
  refine ⟨fun x Y => (0 ≤ x ∧ x ≤ 6) ∧ Fx [37, 38] X Y ∧ Y 37 = X 37 ∧ (∀ k : Int, 0 ≤ k → k < x → Y 38 (m * 6 + k) = -1) ∧ ∀ j : Int, j < m * 6 → Y 38 j = X 38 j, fun x _ => (6 - x).toNat, ⟨by decide, Fx.rf, rfl, fun k a b => absurd a (by omega), fun _ _ => rfl⟩, ?_⟩
  rintro x Y ⟨hx, f1, e37, hn, ho⟩
  refine ⟨by omega, fun w => ?_, fun w => ?_⟩
  · obtain ⟨z1, z2, z3, z4, z5, z6⟩ := z
    refine q _ (f1.st rfl) (fun f hf => by rw [x_st_ne hf, e37]) (by rw [x_st_at, e37, h2]) (fun k a b => by rw [x_st_c (by decide)]; exact hn k a (by omega)) (fun j hj => by rw [x_st_c (by decide)]; exact ho j hj) ⟨?_, ?_, ?_, z4, z5, ?_⟩
    · unfold TKX
      rw [x_st_c (by decide), x_st_c (by decide), f1 33 rfl, f1 35 rfl]
      exact z1
    · rw [x_st_c (by decide), f1 33 rfl]; exact z2
    · rw [x_st_c (by decide), f1 33 rfl]; exact z3
    · have ncY : zNC Y := z6.1.2.2.cg (congrFun e37 3) (congrFun e37 4) (f1 39 rfl)
      exact ⟨⟨by rw [x_st_ne (by decide), e37]; exact z6.1.1, by rw [x_st_ne (by decide), e37]; exact z6.1.2.1, ncY.cg (x_st_ne (by decide)) (x_st_ne (by decide)) (x_st_c (by decide))⟩, by rw [x_st_ne (by decide), e37]; exact z6.2⟩
  · rw [e37, h2]
    refine e_setHead (by omega) ⟨⟨by omega, f1.st rfl, (x_st_c (by decide)).trans e37, fun k a b => ?_, fun j hj => by rw [x_st_ne (by omega)]; exact ho j hj⟩, by dsimp only; omega⟩
    by_cases e : k = x
    · rw [e, x_st_at]
    · rw [x_st_ne (by omega)]; exact hn k a (by omega)
theorem kCl.ad {lw : Bool} {tk : Int → Int} {X X1 : XT} {m m2 i v : Int} (h : kCl lw tk X m i v) (f1 : Fx [37, 38] X X1) (f2 : ∀ f : Int, ¬ f = 2 → X1 37 f = X 37 f) (ho : ∀ j : Int, j < m2 * 6 → X1 38 j = X 38 j) (hm : m < m2) : kCl lw tk X1 m i v := by
  have s : ∀ k D L, k < m2 * 6 → kSm lw X k D L → kSm lw X1 k D L := fun k D L hk hh => by
    obtain ⟨h0, e, h1, h2, h3⟩ := hh
    unfold kSm
    rw [ho k hk, f1 39 rfl, f2 3 (by decide)]
    exact ⟨h0, e, h1, h2, h3⟩
  obtain ⟨⟨a1, a2⟩, a3, a4⟩ := h
  refine ⟨⟨fun hl => ?_, fun hl d1 d2 d3 d4 e1 e2 e3 e4 => ?_⟩, fun u => s _ _ _ (by omega) (a3 u), fun u => (ho _ (by omega)).trans (a4 u)⟩
  · obtain ⟨h1, h2, h3⟩ := a1 hl
    exact ⟨(ho _ (by omega)).trans h1, fun u => (ho _ (by omega)).trans (h2 u), fun u => s _ _ _ (by omega) (h3 u)⟩
  · obtain ⟨h1, h2, h3, h4, h5, h6⟩ := a2 hl d1 d2 d3 d4 e1 e2 e3 e4
    exact ⟨(ho _ (by omega)).trans h1, s _ _ _ (by omega) h2, s _ _ _ (by omega) h3, s _ _ _ (by omega) h4, fun u => s _ _ _ (by omega) (h5 u), fun u => (ho _ (by omega)).trans (h6 u)⟩

/-! TEXTS: the reference reads parts -/
def MFr (X X1 : XT) : Prop := Fx [77, 84, 85, 86, 87] X X1 ∧ ∀ f : Int, (f < 9 ∨ f = 15 ∨ f = 16 ∨ f = 17 ∨ f = 19 ∨ f = 20 ∨ f = 22 ∨ f = 23 ∨ 25 < f) → X1 77 f = X 77 f
theorem MFr.rf {X : XT} : MFr X X := ⟨Fx.rf, fun _ _ => rfl⟩
theorem MFr.tr {X X1 X2 : XT} (a : MFr X X1) (b : MFr X1 X2) : MFr X X2 := ⟨a.1.trans b.1, fun f h => (b.2 f h).trans (a.2 f h)⟩
theorem MFr.ofS {X X1 : XT} (a : SFr X X1) : MFr X X1 := ⟨a.1, fun f h => a.2 f (by omega) (by omega)⟩
theorem MFr.ofN {X X1 : XT} (a : NFr X X1) : MFr X X1 := ⟨a.1.sub (by decide), fun f h => a.2 f (by omega)⟩
theorem MFr.f7 {X X1 : XT} {f v : Int} (a : MFr X X1) (h : f = 13 ∨ f = 14 ∨ f = 18 ∨ f = 21 ∨ f = 24 ∨ f = 25) : MFr X (x_st X1 77 f v) := ⟨a.1.st rfl, fun g hg => by rw [x_st_ne (by omega)]; exact a.2 g hg⟩
/-- the machine's state over the picture -/
def zMS (f : Int → Int) (n M : Int) (pl : Int → Int) (X : XT) (i v : Int) (c : zCD) (p : zPL) (d : Int) : Prop := zAT f n M pl X i ∧ X 77 14 = 0 ∧ X 77 21 = v ∧ zCP X c p ∧ X 77 25 = d
def zMB (i v : Int) (c : zCD) (p : zPL) (d : Int) : Prop := zCB i c p ∧ (0 ≤ v ∧ v ≤ 50) ∧ -i ≤ d ∧ d ≤ 8
/-- what a step of the machine is over the picture -/
def zMR (f : Int → Int) (n M : Int) (pl : Int → Int) (X0 : XT) (S : zST) (t : Int) (X1 : XT) : Prop := MFr X0 X1 ∧ (S.2.1 = false → t = S.1 ∧ zMS f n M pl X1 S.2.2.1 S.2.2.2.1 S.2.2.2.2.1 S.2.2.2.2.2.1 S.2.2.2.2.2.2 ∧ zMB S.2.2.1 S.2.2.2.1 S.2.2.2.2.1 S.2.2.2.2.2.1 S.2.2.2.2.2.2) ∧ (S.2.1 = true → X1 77 14 = 1 ∧ X1 77 13 = pl S.2.2.1 ∧ S.2.2.1 ≤ M - 1 ∧ ∃ (c' : zCD) (p' : zPL), zCP X1 c' p' ∧ zCB 400 c' p')
theorem zCP.go {X X1 : XT} {c : zCD} {p : zPL} (h : zCP X c p) (a : X1 84 = X 84) (b : X1 85 = X 85) (e : X1 86 = X 86) (g : X1 87 = X 87) (k1 : X1 77 18 = X 77 18) (k2 : X1 77 24 = X 77 24) : zCP X1 c p := by
  unfold zCP
  rw [a, b, e, g, k1, k2]; exact h
theorem zCP.nx {X X1 : XT} {c : zCD} {p : zPL} (h : zCP X c p) (a : NFr X X1) : zCP X1 c p := h.go (a.1 84 rfl) (a.1 85 rfl) (a.1 86 rfl) (a.1 87 rfl) (a.2 18 (by decide)) (a.2 24 (by decide))
theorem zCB.up {i j : Int} {c : zCD} {p : zPL} (b : zCB i c p) (h : i ≤ j) : zCB j c p := ⟨⟨b.1.1, by have := b.1.2; omega⟩, by have := b.2.1; omega, b.2.2⟩
theorem at_400 {f : Int → Int} {n M : Int} {tk pl bh : Int → Int} {X : XT} {i : Int} (s : zRS f n M tk pl bh) (h : zAT f n M pl X i) : i ≤ 400 := by
  have := s.1.1
  have := s.2.1
  have := h.2.2.2.2
  omega
/-- at a token that must not be -/
theorem zMR_bad {f : Int → Int} {n M : Int} {pl : Int → Int} {X X0 : XT} {S : zST} {t i : Int} {c' : zCD} {p' : zPL} (g : MFr X0 X) (h : zAT f n M pl X i) (hc : zCP X c' p') (h4 : zCB 400 c' p') (hb : S.2.1 = true) (hi : S.2.2.1 = i) : zMR f n M pl X0 S t (x_st (x_st X 77 14 1) 77 13 (X 77 9)) := by
  refine ⟨(g.f7 (by decide)).f7 (by decide), fun z => (by rw [hb] at z; cases z), fun _ => ⟨by rw [x_st_ne (by decide), x_st_at], by rw [x_st_at, hi]; exact h.2.2.1, by rw [hi]; exact h.2.2.2.2.2, c', p', ?_, h4⟩⟩
  exact hc.go (by rw [x_st_c (by decide), x_st_c (by decide)]) (by rw [x_st_c (by decide), x_st_c (by decide)]) (by rw [x_st_c (by decide), x_st_c (by decide)]) (by rw [x_st_c (by decide), x_st_c (by decide)]) (by rw [x_st_ne (by decide), x_st_ne (by decide)]) (by rw [x_st_ne (by decide), x_st_ne (by decide)])
theorem zMR_bad5 {f : Int → Int} {n M : Int} {pl : Int → Int} {X X0 : XT} {S : zST} {t i o a w : Int} {c : zCD} {p' : zPL} (g : MFr X0 X) (h : zAT f n M pl X i) (hc : zCP X (zem c o a) p') (h4 : zCB 400 (zem c o a) p') (hb : S.2.1 = true) (hi : S.2.2.1 = i) : zMR f n M pl X0 S t (x_st (x_st (x_st X 77 14 1) 77 13 (X 77 9)) 85 c.2.2 w) := by
  obtain ⟨b1, b2, b3⟩ := zMR_bad (t := t) g h hc h4 hb hi
  obtain ⟨b4, b5, b6⟩ := b3 hb
  obtain ⟨⟨k1, k2, k3⟩, k4, k5⟩ := hc
  refine ⟨⟨b1.1.st rfl, fun g hg => by rw [x_st_c (by decide)]; exact b1.2 g hg⟩, fun z => (by rw [hb] at z; cases z), fun _ => ⟨by rw [x_st_c (by decide)]; exact b4, by rw [x_st_c (by decide)]; exact b5, b6.1, ((zem c o a).1, uI (zem c o a).2.1 c.2.2 w, (zem c o a).2.2), p', ⟨⟨?_, ?_, ?_⟩, ?_, ?_⟩, h4⟩⟩
  · rw [x_st_c (by decide), x_st_c (by decide), x_st_c (by decide)]; exact k1
  · rw [x_st_s, x_st_c (by decide), x_st_c (by decide), k2]
  · rw [x_st_c (by decide), x_st_ne (by decide), x_st_ne (by decide)]; exact k3
  · rw [x_st_c (by decide), x_st_ne (by decide), x_st_ne (by decide)]; exact k4
  · rw [x_st_c (by decide), x_st_c (by decide), x_st_c (by decide), x_st_c (by decide), x_st_c (by decide), x_st_c (by decide)]; exact k5
theorem at_lt {f : Int → Int} {n M : Int} {tk pl bh : Int → Int} {X : XT} {i : Int} (s : zRS f n M tk pl bh) (h : zAT f n M pl X i) (hk : ¬ tk i = 29) : i < M - 1 := by
  by_cases z : M - 1 ≤ i
  · exact absurd (s.1.2.2.2.2.2.1 i z) hk
  · omega
theorem m_openB {f : Int → Int} {n M : Int} {tk pl bh : Int → Int} {X : XT} {o t i v : Int} {c : zCD} {p : zPL} {d : Int} {Q : XT → Prop} (s : zRS f n M tk pl bh) (h : zMS f n M pl X i v c p d) (b : zMB i v c p d) (ho : o = 31 ∨ o = 32) (hk : ¬ tk i = 29) (q : ∀ X1, zMR f n M pl X (smOb o t i v c p d) t X1 → Q X1) : w_X12_openBracket o X Q := by
  obtain ⟨hA, hb, hv, hc, hd⟩ := h
  obtain ⟨bc, bv, bd⟩ := b
  have i0 := hA.2.2.2.2
  have hM := s.1.1
  have hn := s.2.1
  have lt := at_lt s hA hk
  intro J hJ
  rw [hd]
  refine ⟨by omega, fun z => hJ 0 (m_mustF hb ⟨?_, fun _ => q _ ?_, fun z2 => absurd z2 ?_⟩), fun z => hJ 1 (m_mustT s hA hb (by decide) hk (fun X1 f1 a1 => ⟨?_, fun z2 => absurd ?_ z2, fun _ => ?_⟩))⟩
  · rw [x_st_ne (by decide), x_st_at]; decide
  · refine zMR_bad MFr.rf hA hc (bc.up (at_400 s hA)) ?_ ?_
    · unfold smOb; rw [if_neg (by omega)]
    · unfold smOb; rw [if_neg (by omega)]
  · rw [x_st_ne (by decide), x_st_at]; decide
  · rw [f1.2 14 (by decide), hb]; decide
  · rw [f1.2 14 (by decide)]; exact hb
  · have hd1 : X1 77 25 = d := (f1.2 25 (by decide)).trans hd
    rw [hd1]
    have c2 := (hc.nx f1).go (X1 := x_st X1 77 25 (d + 1)) (x_st_c (by decide)) (x_st_c (by decide)) (x_st_c (by decide)) (x_st_c (by decide)) (x_st_ne (by decide)) (x_st_ne (by decide))
    refine m_pushP c2 (by have := bc.2.1; omega) (fun X2 f2 g2 c3 => q X2 ?_)
    have e : smOb o t i v c p d = (t, false, i + 1, v, c, (o, 0) :: p, d + 1) := by unfold smOb; rw [if_pos (by omega)]
    rw [e]
    refine ⟨((MFr.ofN f1).f7 (by decide)).tr (MFr.ofS f2), fun _ => ⟨rfl, ⟨?_, ?_, ?_, c3, ?_⟩, ⟨⟨⟨bc.1.1, ?_⟩, ?_, fun x hx => ?_⟩, bv, by dsimp only; omega⟩⟩, fun z => by cases z⟩
    · exact a1.go (fun g hg => by rw [f2.2 g (by omega) (by omega), x_st_ne (by omega)]) (by rw [f2.1 82 rfl, x_st_c (by decide)])
    · rw [f2.2 14 (by decide) (by decide), x_st_ne (by decide), f1.2 14 (by decide)]; exact hb
    · rw [f2.2 21 (by decide) (by decide), x_st_ne (by decide), f1.2 21 (by decide)]; exact hv
    · rw [f2.2 25 (by decide) (by decide), x_st_at]
    · have e1 : pend ((o, 0) :: p) = (if o ≤ 28 then 1 else 0) + pend p := rfl
      rw [if_neg (by omega)] at e1
      have := bc.1.2
      dsimp only
      omega
    · rw [List.length_cons]
      have := bc.2.1
      dsimp only
      omega
    · rcases List.mem_cons.mp hx with rfl | hx
      · exact ⟨by dsimp only; omega, fun z => by dsimp only at z; omega⟩
      · exact bc.2.2 x hx
/-- one of the two lists of eight words -/
def zPt (lw : Bool) (t : Int) : Int := if lw = true then (if 0 ≤ t ∧ t ≤ 7 then (if t = 7 then 7 else if t = 6 then 8 else t + 1) else -1) else if 7 ≤ t ∧ t ≤ 14 then (if t = 7 then 6 else if t ≤ 12 then t - 7 else t - 6) else -1
theorem m_partAt {t : Int} {X : XT} {Q : Int → Prop} (o : zOb t X) (h : X 88 = X0 88) (q : Q (zPt true t)) : w_X12_partAt X Q := by
  have hp : ∀ k : Nat, k < 8 → (fun k => ([0, 1, 2, 3, 4, 5, 7, 6] : List Nat).getD k 0) k < 28 ∧ X 88 (k : Int) = zwc ((fun k => ([0, 1, 2, 3, 4, 5, 7, 6] : List Nat).getD k 0) k) := by
    rw [h]
    have : ∀ k : Nat, k < 8 → ([0, 1, 2, 3, 4, 5, 7, 6] : List Nat).getD k 0 < 28 ∧ X0 88 (k : Int) = zwc (([0, 1, 2, 3, 4, 5, 7, 6] : List Nat).getD k 0) := by decide +kernel
    exact this
  have val : ∀ k : Nat, k < 8 → zPt true ((([0, 1, 2, 3, 4, 5, 7, 6] : List Nat).getD k 0 : Nat) : Int) = (k : Int) + 1 := by decide +kernel
  refine m_eight o (fun k => ([0, 1, 2, 3, 4, 5, 7, 6] : List Nat).getD k 0) hp (fun k hk e _ => ?_) (fun hn => ?_)
  · rw [← val k hk, ← e]; exact q
  · have n0 := hn 0 (by decide); have n1 := hn 1 (by decide); have n2 := hn 2 (by decide); have n3 := hn 3 (by decide)
    have n4 := hn 4 (by decide); have n5 := hn 5 (by decide); have n6 := hn 6 (by decide); have n7 := hn 7 (by decide)
    have e : zPt true t = -1 := by
      unfold zPt
      rw [if_pos rfl, if_neg]
      simp only [List.getD_cons_zero, List.getD_cons_succ] at n0 n1 n2 n3 n4 n5 n6 n7
      omega
    rw [e] at q; exact q
theorem m_orderAt {t : Int} {X : XT} {Q : Int → Prop} (o : zOb t X) (h : X 89 = X0 89) (q : Q (zPt false t)) : w_X12_orderPartAt X Q := by
  have hp : ∀ k : Nat, k < 8 → (fun k => ([8, 9, 10, 11, 12, 7, 13, 14] : List Nat).getD k 0) k < 28 ∧ X 89 (k : Int) = zwc ((fun k => ([8, 9, 10, 11, 12, 7, 13, 14] : List Nat).getD k 0) k) := by
    rw [h]
    have : ∀ k : Nat, k < 8 → ([8, 9, 10, 11, 12, 7, 13, 14] : List Nat).getD k 0 < 28 ∧ X0 89 (k : Int) = zwc (([8, 9, 10, 11, 12, 7, 13, 14] : List Nat).getD k 0) := by decide +kernel
    exact this
  have val : ∀ k : Nat, k < 8 → zPt false ((([8, 9, 10, 11, 12, 7, 13, 14] : List Nat).getD k 0 : Nat) : Int) = (k : Int) + 1 := by decide +kernel
  refine m_eight o (fun k => ([8, 9, 10, 11, 12, 7, 13, 14] : List Nat).getD k 0) hp (fun k hk e _ => ?_) (fun hn => ?_)
  · rw [← val k hk, ← e]; exact q
  · have n0 := hn 0 (by decide); have n1 := hn 1 (by decide); have n2 := hn 2 (by decide); have n3 := hn 3 (by decide)
    have n4 := hn 4 (by decide); have n5 := hn 5 (by decide); have n6 := hn 6 (by decide); have n7 := hn 7 (by decide)
    have e : zPt false t = -1 := by
      unfold zPt
      rw [if_neg (by decide), if_neg]
      simp only [List.getD_cons_zero, List.getD_cons_succ] at n0 n1 n2 n3 n4 n5 n6 n7
      omega
    rw [e] at q; exact q

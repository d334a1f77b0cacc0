/-! TEXTS: the reference's pile and code over the picture -/
def zPA (g h : Int → Int) : zPL → Prop
  | [] => True
  | q :: p => g (p.length : Int) = q.1 ∧ h (p.length : Int) = q.2 ∧ zPA g h p
theorem zPA_up {g h : Int → Int} {a b : Int} : ∀ (p : zPL) (k : Int), (p.length : Int) ≤ k → zPA g h p → zPA (uI g k a) (uI h k b) p := by
  intro p
  induction p with
  | nil => intro k _ _; trivial
  | cons q p ih =>
    intro k hk hp
    rw [List.length_cons] at hk
    exact ⟨(uI_ne (by omega)).trans hp.1, (uI_ne (by omega)).trans hp.2.1, ih k (by omega) hp.2.2⟩
theorem zPA_dr {g h : Int → Int} : ∀ (p : zPL) (m : Nat), zPA g h p → zPA g h (p.drop m) := by
  intro p
  induction p with
  | nil => intro m _; rw [List.drop_nil]; trivial
  | cons q p ih =>
    intro m hp
    cases m with
    | zero => exact hp
    | succ m => exact ih m hp.2.2
def pend : zPL → Int
  | [] => 0
  | q :: p => (if q.1 ≤ 28 then 1 else 0) + pend p
theorem pend_0 : ∀ p : zPL, 0 ≤ pend p := by
  intro p
  induction p with
  | nil => exact Int.le_refl _
  | cons q p ih => unfold pend; split <;> omega
/-- code and pile of the picture -/
def zCP (X : XT) (c : zCD) (p : zPL) : Prop := (X 84 = c.1 ∧ X 85 = c.2.1 ∧ X 77 18 = c.2.2) ∧ X 77 24 = (p.length : Int) ∧ zPA (X 86) (X 87) p
def zCB (i : Int) (c : zCD) (p : zPL) : Prop := (0 ≤ c.2.2 ∧ c.2.2 + pend p ≤ i) ∧ (p.length : Int) ≤ i ∧ ∀ q ∈ p, (20 ≤ q.1 ∧ q.1 ≤ 32) ∧ ((q.1 = 29 ∨ q.1 = 30) → 0 ≤ q.2 ∧ q.2 < c.2.2)
def SFr (X X1 : XT) : Prop := Fx [77, 84, 85, 86, 87] X X1 ∧ ∀ f : Int, ¬ f = 18 → ¬ f = 24 → X1 77 f = X 77 f
theorem SFr.rf {X : XT} : SFr X X := ⟨Fx.rf, fun _ _ _ => rfl⟩
theorem SFr.tr {X X1 X2 : XT} (a : SFr X X1) (b : SFr X1 X2) : SFr X X2 := ⟨a.1.trans b.1, fun f h1 h2 => (b.2 f h1 h2).trans (a.2 f h1 h2)⟩
theorem SFr.f7 {X X1 : XT} {f v : Int} (a : SFr X X1) (h : f = 18 ∨ f = 24) : SFr X (x_st X1 77 f v) := ⟨a.1.st rfl, fun g h1 h2 => by rw [x_st_ne (by omega)]; exact a.2 g h1 h2⟩
theorem SFr.ar {X X1 : XT} {c : Nat} {f v : Int} (a : SFr X X1) (h : c = 84 ∨ c = 85 ∨ c = 86 ∨ c = 87) : SFr X (x_st X1 c f v) := ⟨a.1.st (by rcases h with rfl | rfl | rfl | rfl <;> rfl), fun g h1 h2 => by rw [x_st_c (by omega)]; exact a.2 g h1 h2⟩
theorem m_binds {o : Int} {X : XT} {Q : Int → Prop} (r : R32 o) (q : Q (zbnd o)) : w_X12_binds o X Q := by
  unfold zbnd at q
  refine ⟨r, fun a => ⟨fun b => ⟨fun c => ⟨fun d => ⟨fun e => ⟨fun g => ?_, fun g => ?_⟩, fun e => ?_⟩, fun d => ?_⟩, fun c => ?_⟩, fun b => ?_⟩, fun a => ?_⟩
  · rw [if_neg (by omega), if_neg b, if_neg c, if_neg d, if_neg (by omega), if_neg (by omega)] at q; exact q
  · rw [if_neg (by omega), if_neg b, if_neg c, if_neg d, if_neg (by omega), if_pos (by omega)] at q; exact q
  · rw [if_neg (by omega), if_neg b, if_neg c, if_neg d, if_pos (by omega)] at q; exact q
  · rw [if_neg (by omega), if_neg b, if_neg c, if_pos d] at q; exact q
  · rw [if_neg (by omega), if_neg b, if_pos c] at q; exact q
  · rw [if_neg (by omega), if_pos b] at q; exact q
  · rw [if_pos (by omega)] at q; exact q
theorem m_emitC {o a : Int} {X : XT} {c : zCD} {p : zPL} {Q : XT → Prop} (h : zCP X c p) (n0 : 0 ≤ c.2.2) (n1 : c.2.2 < 400) (q : ∀ X1, SFr X X1 → X1 77 24 = X 77 24 → zCP X1 (zem c o a) p → Q X1) : w_X12_emit o a X Q := by
  obtain ⟨⟨h1, h2, h3⟩, h4, h5⟩ := h
  have a1 : (x_st X 84 (X 77 18) o) 77 18 = c.2.2 := by rw [x_st_c (by decide)]; exact h3
  have a2 : (x_st (x_st X 84 (X 77 18) o) 85 c.2.2 a) 77 18 = c.2.2 := by rw [x_st_c (by decide)]; exact a1
  unfold w_X12_emit
  rw [a1, a2, h3]
  refine ⟨by omega, by omega, q _ (((SFr.rf.ar (by decide)).ar (by decide)).f7 (by decide)) ?_ ⟨⟨?_, ?_, ?_⟩, ?_, ?_⟩⟩
  · rw [x_st_ne (by decide), x_st_c (by decide), x_st_c (by decide)]
  · rw [x_st_c (by decide), x_st_c (by decide), x_st_s, h1]; rfl
  · rw [x_st_c (by decide), x_st_s, x_st_c (by decide), h2]; rfl
  · rw [x_st_at]; rfl
  · rw [x_st_ne (by decide), x_st_c (by decide), x_st_c (by decide)]; exact h4
  · rw [x_st_c (by decide), x_st_c (by decide), x_st_c (by decide), x_st_c (by decide), x_st_c (by decide), x_st_c (by decide)]; exact h5
theorem m_pushP {o a : Int} {X : XT} {c : zCD} {p : zPL} {Q : XT → Prop} (h : zCP X c p) (n1 : (p.length : Int) < 400) (q : ∀ X1, SFr X X1 → X1 77 18 = X 77 18 → zCP X1 c ((o, a) :: p) → Q X1) : w_X12_push o a X Q := by
  obtain ⟨⟨h1, h2, h3⟩, h4, h5⟩ := h
  have a1 : (x_st X 86 (X 77 24) o) 77 24 = (p.length : Int) := by rw [x_st_c (by decide)]; exact h4
  have a2 : (x_st (x_st X 86 (X 77 24) o) 87 (p.length : Int) a) 77 24 = (p.length : Int) := by rw [x_st_c (by decide)]; exact a1
  unfold w_X12_push
  rw [a1, a2, h4]
  refine ⟨by omega, by omega, q _ (((SFr.rf.ar (by decide)).ar (by decide)).f7 (by decide)) ?_ ⟨⟨?_, ?_, ?_⟩, ?_, ?_⟩⟩
  · rw [x_st_ne (by decide), x_st_c (by decide), x_st_c (by decide)]
  · rw [x_st_c (by decide), x_st_c (by decide), x_st_c (by decide)]; exact h1
  · rw [x_st_c (by decide), x_st_c (by decide), x_st_c (by decide)]; exact h2
  · rw [x_st_ne (by decide), x_st_c (by decide), x_st_c (by decide)]; exact h3
  · rw [x_st_at, List.length_cons]; omega
  · have e6 : (x_st (x_st (x_st X 86 (p.length : Int) o) 87 (p.length : Int) a) 77 24 ((p.length : Int) + 1)) 86 = uI (X 86) (p.length : Int) o := by rw [x_st_c (by decide), x_st_c (by decide), x_st_s]
    have e7 : (x_st (x_st (x_st X 86 (p.length : Int) o) 87 (p.length : Int) a) 77 24 ((p.length : Int) + 1)) 87 = uI (X 87) (p.length : Int) a := by rw [x_st_c (by decide), x_st_s, x_st_c (by decide)]
    rw [e6, e7]
    exact ⟨uI_same _ _ _, uI_same _ _ _, zPA_up p _ (Int.le_refl _) h5⟩
theorem m_settle {l i : Int} {X : XT} {c : zCD} {p : zPL} {Q : XT → Prop} (rl : R32 l) (l1 : 1 ≤ l) (i1 : i ≤ 400) (h : zCP X c p) (b : zCB i c p) (q : ∀ X1, SFr X X1 → zCP X1 (zfl l c p).1 (zfl l c p).2 → zCB i (zfl l c p).1 (zfl l c p).2 → Q X1) : w_X12_settle l X Q := by
  refine ⟨fun Y => SFr X Y ∧ ∃ (c1 : zCD) (p1 : zPL), zCP Y c1 p1 ∧ zCB i c1 p1 ∧ zfl l c1 p1 = zfl l c p, fun Y => (Y 77 24).toNat, ⟨SFr.rf, c, p, h, b, rfl⟩, ?_⟩
  rintro Y ⟨fY, c1, p1, hc, hb, e⟩
  obtain ⟨⟨h1, h2, h3⟩, h4, h5⟩ := id hc
  obtain ⟨⟨b1, b2⟩, b3, b4⟩ := id hb
  rw [h4]
  cases p1 with
  | nil =>
    have e2 : zfl l c1 [] = (c1, []) := rfl
    rw [e2] at e
    refine ⟨by omega, fun _ => q Y fY (by rw [← e]; exact hc) (by rw [← e]; exact hb), fun z => absurd (by exact Int.le_refl _) z⟩
  | cons q1 p1 =>
    have ql := b4 q1 List.mem_cons_self
    have p0 := pend_0 p1
    have p00 := pend_0 (q1 :: p1)
    rw [List.length_cons] at b3 ⊢
    have idx : ((p1.length + 1 : Nat) : Int) - 1 = (p1.length : Int) := by omega
    rw [idx]
    have stp : zfl l c1 (q1 :: p1) = if zbnd q1.1 < l then (c1, q1 :: p1) else zfl l (zf1 c1 q1) p1 := rfl
    rw [h5.1]
    refine ⟨by omega, fun z => absurd z (by omega), fun _ => ⟨by omega, m_binds (by omega) ⟨?_, rl, fun z => ?_, fun z => ?_⟩⟩⟩
    · unfold zbnd
      split
      · decide
      · split
        · decide
        · split
          · decide
          · split
            · decide
            · split
              · decide
              · split <;> decide
    · rw [stp, if_pos z] at e
      exact q Y fY (by rw [← e]; exact hc) (by rw [← e]; exact hb)
    · rw [stp, if_neg z] at e
      generalize hY2 : x_st Y 77 24 (p1.length : Int) = Y2
      have f2 : SFr Y Y2 := by rw [← hY2]; exact SFr.rf.f7 (by decide)
      have g24 : Y2 77 24 = (p1.length : Int) := by rw [← hY2, x_st_at]
      have g18 : Y2 77 18 = c1.2.2 := by rw [← hY2, x_st_ne (by decide)]; exact h3
      have gc : ∀ k : Nat, ¬ k = 77 → Y2 k = Y k := fun k hk => by rw [← hY2, x_st_c hk]
      rw [g24, gc 87 (by decide), gc 86 (by decide), h5.2.1, h5.1, g18]
      have cp2 : zCP Y2 c1 p1 := ⟨⟨by rw [gc 84 (by decide)]; exact h1, by rw [gc 85 (by decide)]; exact h2, g18⟩, g24, by rw [gc 86 (by decide), gc 87 (by decide)]; exact h5.2.2⟩
      refine ⟨by omega, ?_⟩
      intro J hJ
      have pt : (q1.1 = 29 ∨ q1.1 = 30) → J := fun hq => by
        have qa := ql.2 hq
        have e1 : zf1 c1 q1 = zpt c1 q1.2 := if_pos hq
        rw [e1] at e
        refine hJ ⟨by omega, ⟨(fY.tr f2).ar (by decide), zpt c1 q1.2, p1, ⟨⟨?_, ?_, ?_⟩, ?_, ?_⟩, ⟨⟨b1, ?_⟩, by omega, fun x hx => b4 x (List.mem_cons_of_mem _ hx)⟩, e⟩, ?_⟩
        · rw [x_st_c (by decide)]; exact cp2.1.1
        · rw [x_st_s, cp2.1.2.1]; rfl
        · rw [x_st_c (by decide)]; exact g18
        · rw [x_st_c (by decide)]; exact g24
        · rw [x_st_c (by decide), x_st_c (by decide)]; exact cp2.2.2
        · have : pend (q1 :: p1) = (if q1.1 ≤ 28 then 1 else 0) + pend p1 := rfl
          rw [if_neg (by omega)] at this
          show c1.2.2 + pend p1 ≤ i
          omega
        · dsimp only
          rw [x_st_c (by decide), g24, h4, List.length_cons]; omega
      refine ⟨by omega, fun z2 => pt (Or.inl z2), fun z2 => ⟨fun z3 => ?_, fun z3 => pt (Or.inr z3)⟩⟩
      have e1 : zf1 c1 q1 = zem c1 q1.1 0 := if_neg (by omega)
      have lo : q1.1 ≤ 28 ∨ 31 ≤ q1.1 := by omega
      have pe : pend (q1 :: p1) = (if q1.1 ≤ 28 then 1 else 0) + pend p1 := rfl
      by_cases hl : q1.1 ≤ 28
      · rw [if_pos hl] at pe
        rw [e1] at e
        refine m_emitC cp2 b1 (by omega) (fun Y3 f3 g3 cp3 => ⟨⟨(fY.tr f2).tr f3, zem c1 q1.1 0, p1, cp3, ⟨⟨by show 0 ≤ c1.2.2 + 1; omega, by show c1.2.2 + 1 + pend p1 ≤ i; omega⟩, by omega, fun x hx => ?_⟩, e⟩, ?_⟩)
        · have := b4 x (List.mem_cons_of_mem _ hx)
          exact ⟨this.1, fun y => by have := this.2 y; show _ ∧ _ < c1.2.2 + 1; omega⟩
        · dsimp only
          rw [g3, g24, h4, List.length_cons]; omega
      · exact absurd (show zbnd q1.1 < l by rw [bnd_0 (by omega)]; omega) z
theorem zPA_len {p : zPL} {m k : Nat} (h : m + k = p.length) : (p.drop m).length = k := by rw [List.length_drop]; omega
theorem m_inner {X : XT} {c : zCD} {p : zPL} {Q : Int → Prop} (h : zCP X c p) (hl : p.length ≤ 400) (hr : ∀ q ∈ p, R32 q.1) (q : Q (zinn p)) : w_X12_inner X Q := by
  obtain ⟨_, h4, h5⟩ := h
  refine ⟨fun its k => ∃ j : Nat, k = (j : Int) ∧ j ≤ p.length ∧ its = zinn (p.drop (p.length - j)), fun _ k => ((p.length : Int) - k).toNat, ⟨0, rfl, Nat.zero_le _, by rw [Nat.sub_zero, List.drop_length]; rfl⟩, ?_⟩
  rintro its k ⟨j, rfl, j1, rfl⟩
  rw [h4]
  refine ⟨by omega, by omega, fun z => ?_, fun z => ⟨by omega, ?_⟩⟩
  · rw [show p.length - j = 0 by omega, List.drop_zero]; exact q
  · have hd := zPA_dr p (p.length - (j + 1)) h5
    have hlen := zPA_len (p := p) (m := p.length - (j + 1)) (k := j + 1) (by omega)
    have e2 : p.drop (p.length - j) = (p.drop (p.length - (j + 1))).tail := by
      rw [List.tail_drop]
      congr 1
      omega
    cases hh : p.drop (p.length - (j + 1)) with
    | nil => rw [hh] at hlen; cases hlen
    | cons q1 t =>
      rw [hh] at hd hlen e2
      have tl : t.length = j := by rw [List.length_cons] at hlen; omega
      have g : X 86 (j : Int) = q1.1 := by rw [← tl]; exact hd.1
      have mem : q1 ∈ p := List.mem_of_mem_drop (by rw [hh]; exact List.mem_cons_self)
      have st : zinn (q1 :: t) = if 31 ≤ q1.1 then q1.1 else zinn t := rfl
      rw [g, e2]
      refine ⟨hr q1 mem, fun y => ⟨⟨j + 1, by omega, by omega, by rw [hh, st, if_neg (by omega)]; rfl⟩, by dsimp only; omega⟩, fun y => ⟨⟨j + 1, by omega, by omega, by rw [hh, st, if_pos (by omega)]⟩, by dsimp only; omega⟩⟩
theorem m_isCompared {X : XT} {c : zCD} {p : zPL} {Q : Int → Prop} (h : zCP X c p) (hl : p.length ≤ 400) (hr : ∀ q ∈ p, R32 q.1) (q1 : zcmd p = true → Q 1) (q0 : zcmd p = false → Q 0) : w_X12_isCompared X Q := by
  obtain ⟨_, h4, h5⟩ := h
  refine ⟨fun x => ∃ r : zPL, (∀ y ∈ r, R32 y.1) ∧ zPA (X 86) (X 87) r ∧ r.length ≤ 400 ∧ x = (r.length : Int) - 1 ∧ zcmd r = zcmd p, fun x => (x + 1).toNat, ⟨p, hr, h5, hl, by rw [h4], rfl⟩, ?_⟩
  rintro x ⟨r, rr, hp, rl, rfl, e⟩
  intro J hJ
  cases r with
  | nil =>
    have e0 : zcmd ([] : zPL) = false := rfl
    have k : J := hJ ⟨by decide, fun _ => q0 (by rw [← e]; rfl), fun z => absurd (by decide) z⟩
    exact ⟨by decide, fun _ => k, fun z => absurd (by decide) z⟩
  | cons y t =>
    rw [List.length_cons] at rl hJ ⊢
    have ix : ((t.length + 1 : Nat) : Int) - 1 = (t.length : Int) := by omega
    rw [ix] at hJ ⊢
    have ry := rr y List.mem_cons_self
    rw [hp.1] at hJ ⊢
    have st : zcmd (y :: t) = if 20 ≤ y.1 ∧ y.1 ≤ 24 then zcmd t else decide (25 ≤ y.1 ∧ y.1 ≤ 27) := rfl
    refine ⟨by omega, fun z => absurd z (by omega), fun _ => ⟨by omega, ry, fun z => hJ ⟨by omega, fun z2 => absurd z2 (by omega), fun _ => ⟨by omega, ry, fun z2 => q0 ?_, fun z2 => q1 ?_⟩⟩, fun z => ⟨⟨t, fun u hu => rr u (List.mem_cons_of_mem _ hu), hp.2.2, by omega, by omega, ?_⟩, by dsimp only; omega⟩⟩⟩
    · rw [← e, st, if_neg z, decide_eq_false z2]
    · rw [← e, st, if_neg z, decide_eq_true z2]
    · rw [← e, st, if_pos z]

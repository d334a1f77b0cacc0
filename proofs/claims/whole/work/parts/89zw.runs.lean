/-! DRIVES: the class runs a clause -/
def zd1 (tk : Int → Int) (i v : Int) : zRT := zrd false tk 60 2 0 (i + 1) v
def zd2 (tk : Int → Int) (i v : Int) : zRT := zbh false tk 60 20 (zd1 tk i v)
def zd3 (tk : Int → Int) (i v : Int) : zRT := zbh false tk 60 21 (zd2 tk i v)
def zd4 (tk : Int → Int) (i v : Int) : zRT := zmy false tk 60 22 2 (zd3 tk i v)
def zd5 (tk : Int → Int) (i v : Int) : zRT := ztm tk (zd4 tk i v)
def zd6 (tk : Int → Int) (i v : Int) : zRT := zmy false tk 60 24 0 (zd5 tk i v)
/-- what a clause from token i means -/
def zCc (tk : Int → Int) (i v : Int) : zDC := ((if tk (zd4 tk i v).2.1 = 23 then tk ((zd4 tk i v).2.1 + 1) - 2000 else 1), (zd1 tk i v).2.2.2, (zd2 tk i v).2.2.2, (zd3 tk i v).2.2.2, (decide (tk (zd3 tk i v).2.1 = 22), (zd4 tk i v).2.2.2), (decide (tk (zd5 tk i v).2.1 = 24), (zd6 tk i v).2.2.2))
/-- no section has too many leaves -/
def zLb (tk : Int → Int) (i v : Int) : Prop := tk i = 19 ∧ ((zd1 tk i v).2.2.1 - v ≤ 50 ∧ (zd2 tk i v).2.2.1 - (zd1 tk i v).2.2.1 ≤ 50 ∧ (zd3 tk i v).2.2.1 - (zd2 tk i v).2.2.1 ≤ 50) ∧ (tk (zd3 tk i v).2.1 = 22 → (zd4 tk i v).2.2.1 - (zd3 tk i v).2.2.1 ≤ 50) ∧ (tk (zd5 tk i v).2.1 = 24 → (zd6 tk i v).2.2.1 - (zd5 tk i v).2.2.1 ≤ 50) ∧ 1 ≤ (zCc tk i v).1 ∧ (zCc tk i v).1 ≤ 20
/-- the class while drives run; A where the runs began, X where the call did -/
def zKs (A X : XT) (S : zDS) (Y : XT) : Prop := zIv X S ∧ Pln (Y 1) (X 2) (X 3) (X 4) (X 5) (Y 6) (X 7) (X 8) (X 9) S.1 ∧ (∀ f : Int, ¬ f = 10 → Y 1 f = X 1 f) ∧ (Y 0 16 = S.2.1 ∧ Y 0 17 = S.2.2.1) ∧ (∀ f : Int, ¬ f = 16 → ¬ f = 17 → Y 0 f = A 0 f) ∧ Fx [0, 1, 6, 41, 42, 43, 46, 48, 50, 51] A Y
theorem zKs.ce {K : LK} {T : TT} {A X Y : XT} {S : zDS} (b : CE K X (X 79) T) (hA : Fx [0, 33, 35, 36, 37, 38, 39] X A) (h : zKs A X S Y) : CE K Y S.1 T := by
  obtain ⟨hI, p, h1, h0, h0', f⟩ := h
  have e : ∀ c, [0, 33, 35, 36, 37, 38, 39].elem c = false → [0, 1, 6, 41, 42, 43, 46, 48, 50, 51].elem c = false → Y c = X c := fun c a b => (f c b).trans (hA c a)
  have el : lawc Y = lawc X := by unfold lawc; rw [h1 14 (by decide), e 10 rfl rfl]
  obtain ⟨b1, b2, b3, b4⟩ := b
  refine ⟨?_, by rw [el]; exact b2, fun hd w wo d0 d3 hw w0 w1 e6 e7 => ?_, b4⟩
  · rw [e 2 rfl rfl, e 3 rfl rfl, e 4 rfl rfl, e 5 rfl rfl, e 7 rfl rfl, e 8 rfl rfl, e 9 rfl rfl]; exact p
  · rw [el]
    exact b3 hd w wo d0 d3 hw w0 w1 (e6.trans (hI.2.1 8 (by decide) (by decide))) (e7.trans (hI.2.1 6 (by decide) (by decide)))
theorem zKs.fx {A X Y Y1 : XT} {S : zDS} (h : zKs A X S Y) (f : Fx [41, 42, 43, 46, 48, 50, 51] Y Y1) : zKs A X S Y1 := by
  obtain ⟨hI, p, h1, h0, h0', g⟩ := h
  refine ⟨hI, by rw [f 1 rfl, f 6 rfl]; exact p, by rw [f 1 rfl]; exact h1, by rw [f 0 rfl]; exact h0, by rw [f 0 rfl]; exact h0', g.trans (f.sub (by decide))⟩
theorem fx43 {Y Y1 : XT} (h : ∀ c, ¬ c = 43 → Y1 c = Y c) {l : List Nat} (hl : l.elem 43 = true) : Fx l Y Y1 := fun c hc => h c (fun e => by rw [e, hl] at hc; cases hc)
theorem zWk.v43 {S : zDS} {Y Y1 : XT} (h : zWk S Y) (e : ∀ c, ¬ c = 43 → Y1 c = Y c) : zWk S Y1 := by unfold zWk; rw [e 41 (by decide)]; exact h
theorem zCk.v43 {T : TT} {S : zDS} {Y Y1 : XT} (h : zCk T S Y) (e : ∀ c, ¬ c = 43 → Y1 c = Y c) : zCk T S Y1 := by unfold zCk; rw [e 37 (by decide), e 42 (by decide)]; exact h
theorem zNC.v43 {Y Y1 : XT} (h : zNC Y) (e : ∀ c, ¬ c = 43 → Y1 c = Y c) : zNC Y1 := by unfold zNC; rw [e 37 (by decide), e 39 (by decide)]; exact h
theorem kSm.fx {Y Y1 : XT} {k L : Int} {D : zDT} (h : kSm false Y k D L) (e37 : Y1 37 = Y 37) (e38 : Y1 38 = Y 38) (e39 : Y1 39 = Y 39) : kSm false Y1 k D L := by unfold kSm; rw [e37, e38, e39]; exact h
theorem e_head {m k : Int} {X : XT} {Q : Int → Prop} (hm : 0 ≤ m ∧ m ≤ 11) (hk : 0 ≤ k ∧ k ≤ 5) (q : Q (X 38 (m * 6 + k))) : w_X7_head m k X Q := ⟨by omega, fun z => absurd z (by omega), fun _ => ⟨fun z => absurd z (by omega), fun _ => ⟨by omega, q⟩⟩⟩
theorem P_flg.flc {o f r : Int → Int} (p : P_flg o f r) (h9 : o 9 ≤ 5) : FLC o f := ⟨p.1.2, fun k k0 k1 => by have := p.2.2.1 k k0 k1; omega⟩
theorem e_once {T : TT} {A X Y : XT} {S : zDS} {tk : Int → Int} {m i v : Int} {Q : Int → XT → Prop} (hm : 0 ≤ m ∧ m ≤ 11) (hs : zKs A X S Y) (hw : zWk S Y) (hc : zCk T S Y) (nc : zNC Y) (cl : kCl false tk Y m i v) (lb : zLb tk i v) (h23 : S.2.2.2 ≤ 23) (q : ∀ (w : Int) (Y1 : XT), R32 w → (((zGo T (zCc tk i v) S).1 = 0 ∧ w = 0) ∨ ((zGo T (zCc tk i v) S).1 = -5 ∧ w = -5) ∨ ((zGo T (zCc tk i v) S).1 = -3 ∧ ¬ w = 0 ∧ ¬ w = -5)) → zKs A X (zGo T (zCc tk i v) S).2 Y1 → Q w Y1) : w_X11_runOnce m S.2.2.2 Y Q := by
  obtain ⟨⟨_, hd⟩, _⟩ := cl
  obtain ⟨c0, c1, c2, c3, c4, c4'⟩ := hd rfl (zd1 tk i v) (zd2 tk i v) (zd3 tk i v) (zd4 tk i v) rfl rfl rfl rfl
  obtain ⟨_, ⟨b1, b2, b3⟩, b4, _⟩ := lb
  have hI := hs.1
  have eg : zGo T (zCc tk i v) S = match (zd1 tk i v).2.2.2 (fDr T S) with
    | none => (-3, S)
    | some c => match (zd2 tk i v).2.2.2 (fDr T S) with
      | none => (-3, S)
      | some d => match (zd3 tk i v).2.2.2 (fDr T S) with
        | none => (-3, S)
        | some a => match zEa T (zCc tk i v) S with
          | none => (-3, S)
          | some e => zTry S c d (a + e * S.2.2.2) := rfl
  have ea : zEa T (zCc tk i v) S = if tk (zd3 tk i v).2.1 = 22 then (zd4 tk i v).2.2.2 (fDr T S) else some 0 := by
    unfold zEa zCc
    dsimp only
    by_cases t : tk (zd3 tk i v).2.1 = 22
    · rw [if_pos (decide_eq_true t), if_pos t]
    · rw [if_neg (by rw [decide_eq_false t]; decide), if_neg t]
  generalize zGo T (zCc tk i v) S = G at eg q
  generalize zEa T (zCc tk i v) S = E at eg ea
  refine e_head hm (by decide) (e_secD hI hw hc nc c1 (by omega) (fun Y1 g1 r1 => ?_))
  have hw1 := hw.v43 g1
  have hc1 := hc.v43 g1
  have nc1 := nc.v43 g1
  have s2 := c2.fx (g1 37 (by decide)) (g1 38 (by decide)) (g1 39 (by decide))
  refine e_head hm (by decide) (e_secD hI hw1 hc1 nc1 s2 (by omega) (fun Y2 g2 r2 => ?_))
  have hw2 := hw1.v43 g2
  have hc2 := hc1.v43 g2
  have nc2 := nc1.v43 g2
  have s3 := (c3.fx (g1 37 (by decide)) (g1 38 (by decide)) (g1 39 (by decide))).fx (g2 37 (by decide)) (g2 38 (by decide)) (g2 39 (by decide))
  refine e_head hm (by decide) (e_secD hI hw2 hc2 nc2 s3 (by omega) (fun Y3 g3 r3 => ?_))
  have hw3 := hw2.v43 g3
  have hc3 := hc2.v43 g3
  have nc3 := nc2.v43 g3
  have g03 : ∀ c, ¬ c = 43 → Y3 c = Y c := fun c hc => (g3 c hc).trans ((g2 c hc).trans (g1 c hc))
  refine e_head hm (by decide) ?_
  intro J hJ
  generalize hD1 : (zd1 tk i v).2.2.2 (fDr T S) = D1 at *
  generalize hD2 : (zd2 tk i v).2.2.2 (fDr T S) = D2 at *
  generalize hD3 : (zd3 tk i v).2.2.2 (fDr T S) = D3 at *
  have key : ∀ (v43 : Int) (Y4 : XT), (∀ c, ¬ c = 43 → Y4 c = Y c) → v43 = E.getD (-2147483648) → (∀ w, E = some w → -1000001000 ≤ w ∧ w ≤ 1000001000) → J v43 Y4 := by
    intro v43 Y4 g4 e43 r43
    have hs4 : zKs A X S Y4 := hs.fx (fx43 g4 rfl)
    have no3 : G = (-3, S) → ∀ w : Int, R32 w → ¬ w = 0 → ¬ w = -5 → Q w Y4 := fun e w a b c => q w Y4 a (Or.inr (Or.inr ⟨by rw [e], b, c⟩)) (by rw [e]; exact hs4)
    refine hJ v43 Y4 ?_
    cases D1 with
    | none =>
      exact ⟨by decide, fun _ => no3 eg _ (by decide) (by decide) (by decide), fun z => absurd rfl z⟩
    | some c =>
    have rc := r1 c rfl
    have e1 : (some c : Option Int).getD (-2147483648) = c := rfl
    rw [e1]
    refine ⟨by omega, fun z => absurd z (by omega), fun _ => ?_⟩
    cases D2 with
    | none =>
      exact ⟨by decide, fun z => absurd rfl z, fun _ => no3 eg _ (by decide) (by decide) (by decide)⟩
    | some d =>
    have rd := r2 d rfl
    have e2 : (some d : Option Int).getD (-2147483648) = d := rfl
    rw [e2]
    refine ⟨by omega, fun _ => ?_, fun z => absurd z (by omega)⟩
    cases D3 with
    | none =>
      exact ⟨by decide, fun _ => no3 eg _ (by decide) (by decide) (by decide), fun z => absurd rfl z⟩
    | some a =>
    have ra := r3 a rfl
    have e3 : (some a : Option Int).getD (-2147483648) = a := rfl
    rw [e3]
    refine ⟨by omega, fun z => absurd z (by omega), fun _ => ?_⟩
    cases E with
    | none =>
      have e4 : v43 = -2147483648 := e43
      rw [e4]
      exact ⟨by decide, fun z => absurd rfl z, fun _ => no3 eg _ (by decide) (by decide) (by decide)⟩
    | some e =>
    have re := r43 e rfl
    have e4 : v43 = e := e43
    rw [e4]
    have u0 := hI.2.2.2.2.2
    have rm := mul_rB (x := e) (y := S.2.2.2) (by omega) (by omega)
    refine ⟨by omega, fun _ => ⟨by omega, by omega, ?_⟩, fun z => absurd z (by omega)⟩
    have eg : G = zTry S c d (a + e * S.2.2.2) := eg
    generalize a + e * S.2.2.2 = h at *
    have pl := hs4.2.1
    have p4 := pl.2.2.2.1
    have p3 := pl.2.2.1.1
    have s0 : S.1 0 = Y4 1 9 := p3.1.symm
    have s1 : S.1 1 = Y4 1 10 := p4.1.1.symm
    have ff : fRw S.1 c h = fOf (Y4 6) h c (Y4 1 10).toNat := by
      unfold fRw
      rw [s1]
      exact fOf_cg _ (fun j j0 j1 => (p4.2.1 j j0 (by have := p4.1; omega)).symm)
    have bad : ¬ ((0 ≤ h ∧ h ≤ 10) ∧ (0 ≤ d ∧ d ≤ 3) ∧ (0 ≤ c ∧ c < S.1 0) ∧ fRw S.1 c h = -1) → G = (-3, S) := fun z => by rw [eg]; unfold zTry; rw [if_neg z]
    refine ⟨fun z => no3 (bad (by omega)) _ (by decide) (by decide) (by decide), fun z => ⟨fun z2 => ?_, fun z2 => no3 (bad (by omega)) _ (by decide) (by decide) (by decide)⟩⟩
    refine ⟨by omega, fun z3 => absurd z3 (by omega), fun z3 => ⟨by omega, fun z4 => ⟨by omega, by omega, fun z5 => ⟨p4.flc (by omega), fun z6 => ⟨by have := p4.1; omega, fun z7 => ?_, fun z7 => ?_⟩, fun z6 => ?_⟩, fun z5 => ?_⟩, fun z4 => ?_⟩⟩
    · have z6' : fOf (Y4 6) h c (Y4 1 10).toNat = -1 := Decidable.byContradiction z6
      have ok : (0 ≤ h ∧ h ≤ 10) ∧ (0 ≤ d ∧ d ≤ 3) ∧ (0 ≤ c ∧ c < S.1 0) ∧ fRw S.1 c h = -1 := ⟨z3, z4, by omega, by rw [ff]; exact z6'⟩
      have eG : G = (0, (zFl S.1 h c d, h, S.2.2.1 + 1, S.2.2.2 + 1)) := by rw [eg]; unfold zTry; rw [if_pos ok, if_pos (by omega)]
      refine ⟨by decide, fun y => absurd rfl y, fun _ => ⟨by have := p4.1; omega, fun _ => ⟨by have := p4.1; omega, by have := p4.1; omega, by have := p4.1; omega, ?_⟩, fun y => absurd z7 y⟩⟩
      refine q 0 _ (by decide) (Or.inl ⟨by rw [eG], rfl⟩) ?_
      have hI2 : zIv X (zTry S c d h).2 := zTry_ok hI h23 (by rw [← eg, eG])
      rw [← eg] at hI2
      rw [eG] at hI2 ⊢
      obtain ⟨_, _, h1, h0, h0', gA⟩ := hs4
      have pn := Pln_flag (a := h) (b := c) (c := d) pl ⟨z3.1, z3.2, z4⟩ z5 z6' z7
      generalize hF : x_st (x_st (x_st (x_st Y4 6 (((Y4 1 10) * 3) + 0) h) 6 (((Y4 1 10) * 3) + 1) c) 6 (((Y4 1 10) * 3) + 2) d) 1 10 (((x_st (x_st (x_st Y4 6 (((Y4 1 10) * 3) + 0) h) 6 (((Y4 1 10) * 3) + 1) c) 6 (((Y4 1 10) * 3) + 2) d) 1 10) + 1) = F
      have F1 : F 1 = uI (Y4 1) 10 (Y4 1 10 + 1) := by
        rw [← hF, x_st_s, x_st_c (by decide), x_st_c (by decide), x_st_c (by decide)]
      have F6 : F 6 = uI (uI (uI (Y4 6) (Y4 1 10 * 3 + 0) h) (Y4 1 10 * 3 + 1) c) (Y4 1 10 * 3 + 2) d := by
        rw [← hF, x_st_c (by decide), x_st_s, x_st_s, x_st_s]
      have Fc : ∀ x, ¬ x = 1 → ¬ x = 6 → F x = Y4 x := fun x a b => by rw [← hF, x_st_c a, x_st_c b, x_st_c b, x_st_c b]
      have e0 : ∀ x, ¬ x = 0 → (x_st (x_st F 0 16 h) 0 17 (((x_st F 0 16 h) 0 17) + 1)) x = F x := fun x a => by rw [x_st_c a, x_st_c a]
      refine ⟨hI2, ?_, fun f hf => ?_, ⟨?_, ?_⟩, fun f a b => ?_, fun x hx => ?_⟩
      · rw [e0 1 (by decide), e0 6 (by decide), F1, F6]; exact pn
      · rw [e0 1 (by decide), F1, uI_ne hf]; exact h1 f hf
      · rw [x_st_ne (by decide), x_st_at]
      · rw [x_st_at, x_st_ne (by decide), Fc 0 (by decide) (by decide), h0.2]
      · rw [x_st_ne b, x_st_ne a, Fc 0 (by decide) (by decide)]; exact h0' f a b
      · rw [e0 x (fun e => by rw [e] at hx; cases hx), Fc x (fun e => by rw [e] at hx; cases hx) (fun e => by rw [e] at hx; cases hx)]; exact gA x hx
    · have z6' : fOf (Y4 6) h c (Y4 1 10).toNat = -1 := Decidable.byContradiction z6
      have ok : (0 ≤ h ∧ h ≤ 10) ∧ (0 ≤ d ∧ d ≤ 3) ∧ (0 ≤ c ∧ c < S.1 0) ∧ fRw S.1 c h = -1 := ⟨z3, z4, by omega, by rw [ff]; exact z6'⟩
      have eG : G = (-5, S) := by rw [eg]; unfold zTry; rw [if_pos ok, if_neg (by omega)]
      exact ⟨by decide, fun _ => q (-5) Y4 (by decide) (Or.inr (Or.inl ⟨by rw [eG], rfl⟩)) (by rw [eG]; exact hs4), fun y => absurd y (by decide)⟩
    · exact ⟨by decide, fun _ => no3 (bad (fun y => z6 (by rw [← ff]; exact y.2.2.2))) _ (by decide) (by decide) (by decide), fun y => absurd y (by decide)⟩
    · exact ⟨by decide, fun _ => no3 (bad (by omega)) _ (by decide) (by decide) (by decide), fun y => absurd y (by decide)⟩
    · exact ⟨by decide, fun _ => no3 (bad (by omega)) _ (by decide) (by decide) (by decide), fun y => absurd y (by decide)⟩
  have k4 : Y3 38 (m * 6 + 4) = Y 38 (m * 6 + 4) := by rw [g03 38 (by decide)]
  by_cases t22 : tk (zd3 tk i v).2.1 = 22
  · rw [if_pos t22] at ea
    have s4 := (c4 t22).fx (g03 37 (by decide)) (g03 38 (by decide)) (g03 39 (by decide))
    obtain ⟨p0, e, y1, y2, y3⟩ := id s4
    have y4 := y1.2.1
    have n8 := nc3.1.2
    refine ⟨by omega, fun _ => e_secD hI hw3 hc3 nc3 s4 (by have := b4 t22; omega) (fun Y4 g4 r4 => key _ Y4 (fun c hc => (g4 c hc).trans (g03 c hc)) (by rw [ea]) (fun w hw => r4 w (by rw [← ea]; exact hw))), fun z => absurd z (by omega)⟩
  · rw [if_neg t22] at ea
    rw [k4, c4' t22]
    exact ⟨by decide, fun z => absurd rfl z, fun _ => key 0 Y3 g03 (by rw [ea]; rfl) (fun w hw => by rw [ea] at hw; cases hw; decide)⟩

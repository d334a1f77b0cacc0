/-! TEXTS: a clause of the class, all of it -/
/-- the head of a clause at token i -/
def zhd (lw : Bool) (tk : Int → Int) (i v : Int) : zRT := if lw = true then (if 15 ≤ tk i ∧ tk i ≤ 18 then (if tk i = 18 then (true, i + 1, v, dNo) else zrd lw tk 60 2 0 (i + 1) v) else (false, i, v, dNo)) else if tk i = 19 then ztm tk (zmy lw tk 60 22 2 (zbh lw tk 60 21 (zbh lw tk 60 20 (zrd lw tk 60 2 0 (i + 1) v)))) else (false, i, v, dNo)
/-- what the class's heads say of it -/
def kHd (lw : Bool) (tk : Int → Int) (X : XT) (m i v : Int) : Prop := (lw = true → X 38 (m * 6) = tk i ∧ (tk i = 18 → X 38 (m * 6 + 1) = -1) ∧ (¬ tk i = 18 → kSm lw X (m * 6 + 1) (zhd lw tk i v).2.2.2 ((zhd lw tk i v).2.2.1 - v))) ∧ (lw = false → ∀ d1 d2 d3 d4 : zRT, zrd lw tk 60 2 0 (i + 1) v = d1 → zbh lw tk 60 20 d1 = d2 → zbh lw tk 60 21 d2 = d3 → zmy lw tk 60 22 2 d3 = d4 → (X 38 (m * 6) = if tk d4.2.1 = 23 then tk (d4.2.1 + 1) - 2000 else 1) ∧ kSm lw X (m * 6 + 1) d1.2.2.2 (d1.2.2.1 - v) ∧ kSm lw X (m * 6 + 2) d2.2.2.2 (d2.2.2.1 - d1.2.2.1) ∧ kSm lw X (m * 6 + 3) d3.2.2.2 (d3.2.2.1 - d2.2.2.1) ∧ (tk d3.2.1 = 22 → kSm lw X (m * 6 + 4) d4.2.2.2 (d4.2.2.1 - d3.2.2.1)) ∧ (¬ tk d3.2.1 = 22 → X 38 (m * 6 + 4) = -1))
theorem kHd.kp {lw : Bool} {tk : Int → Int} {X X1 : XT} {m i v s k e : Int} (h : kHd lw tk X m i v) (a : kKp s k e X X1) (hs : X 37 3 ≤ s) (hk : m * 6 + 5 ≤ k ∨ e ≤ m * 6) : kHd lw tk X1 m i v := by
  have o : ∀ j : Int, 0 ≤ j → j < 5 → X1 38 (m * 6 + j) = X 38 (m * 6 + j) := fun j j0 j1 => a.2.2.2.2.1 _ (by omega)
  have o0 : X1 38 (m * 6) = X 38 (m * 6) := a.2.2.2.2.1 _ (by omega)
  refine ⟨fun hl => ?_, fun hl d1 d2 d3 d4 e1 e2 e3 e4 => ?_⟩
  · obtain ⟨h1, h2, h3⟩ := h.1 hl
    exact ⟨o0.trans h1, fun u => (o 1 (by decide) (by decide)).trans (h2 u), fun u => (h3 u).kp a hs (by omega)⟩
  · obtain ⟨h1, h2, h3, h4, h5, h6⟩ := h.2 hl d1 d2 d3 d4 e1 e2 e3 e4
    exact ⟨o0.trans h1, h2.kp a hs (by omega), h3.kp a hs (by omega), h4.kp a hs (by omega), fun u => (h5 u).kp a hs (by omega), fun u => (o 4 (by decide) (by decide)).trans (h6 u)⟩
def kCl (lw : Bool) (tk : Int → Int) (X : XT) (m i v : Int) : Prop := kHd lw tk X m i v ∧ (tk (zhd lw tk i v).2.1 = 24 → kSm lw X (m * 6 + 5) (zmy lw tk 60 24 0 (zhd lw tk i v)).2.2.2 ((zmy lw tk 60 24 0 (zhd lw tk i v)).2.2.1 - (zhd lw tk i v).2.2.1)) ∧ (¬ tk (zhd lw tk i v).2.1 = 24 → X 38 (m * 6 + 5) = -1)
theorem kCl.kp {lw : Bool} {tk : Int → Int} {X X1 : XT} {m i v s k e : Int} (h : kCl lw tk X m i v) (a : kKp s k e X X1) (hs : X 37 3 ≤ s) (hk : m * 6 + 6 ≤ k ∨ e ≤ m * 6) : kCl lw tk X1 m i v := ⟨h.1.kp a hs (by omega), fun u => (h.2.1 u).kp a hs (by omega), fun u => (a.2.2.2.2.1 _ (by omega)).trans (h.2.2 u)⟩
theorem e_clause {lw : Bool} {tk : Int → Int} {X : XT} {m i v : Int} {P : Int → XT → Prop} (hm : 0 ≤ m ∧ m ≤ 11) (z : kQS lw tk X i v) (hn : X 38 (m * 6 + 1) = -1 ∧ X 38 (m * 6 + 4) = -1 ∧ X 38 (m * 6 + 5) = -1) {r : zRT} (er : zmy lw tk 60 24 0 (zhd lw tk i v) = r) (p : ∀ X1, kKp (X 37 3) (m * 6) (m * 6 + 6) X X1 → kQS lw tk X1 r.2.1 r.2.2.1 → (r.1 = true → i < r.2.1 ∧ kCl lw tk X1 m i v) → P (if r.1 = true then 1 else 0) X1) : ∀ J86 : Int → XT → Prop, (∀ (v84 : Int) (X85 : XT), (∀ J92 : Int → XT → Prop, (∀ (v90 : Int) (X91 : XT), P v90 X91 → J92 v90 X91) → R32 v84 ∧ (v84 = 0 → J92 v84 X85) ∧ (¬ v84 = 0 → w_X5_take 24 X85 (fun (v124 : Int) (X125 : XT) => R32 v124 ∧ (v124 = 0 → J92 v84 X125) ∧ (¬ v124 = 0 → w_X7_setHead m 5 (X125 37 3) X125 (fun (X133 : XT) => w_parse 60 0 0 X133 (fun (v138 : Int) (X139 : XT) => w_X7_emit 0 0 X139 (fun (X145 : XT) => J92 v138 X145))))))) → J86 v84 X85) → R32 (X 33 9) ∧ ((X 33 9) = 0 → w_X5_readDriveHead m X (fun (v152 : Int) (X153 : XT) => J86 v152 X153)) ∧ (¬ (X 33 9) = 0 → w_X5_readLawHead m X (fun (v158 : Int) (X159 : XT) => J86 v158 X159)) := by
  intro J86 hJ86
  have tail : ∀ Y, kKp (X 37 3) (m * 6) (m * 6 + 5) X Y → kQS lw tk Y (zhd lw tk i v).2.1 (zhd lw tk i v).2.2.1 → ((zhd lw tk i v).1 = true → i < (zhd lw tk i v).2.1 ∧ kHd lw tk Y m i v) → J86 (if (zhd lw tk i v).1 = true then 1 else 0) Y := by
    intro Y k zz hf
    refine hJ86 _ Y ?_
    intro J92 hJ92
    have kY : kKp (X 37 3) (m * 6) (m * 6 + 6) X Y := k.tr (kKp.rf (s := X 37 3) (k := m * 6) (e := m * 6)) (by omega)
    have gY := k.2.2.2.2.2
    cases hh : (zhd lw tk i v).1
    · have ee := zmy_f (lw := lw) (tk := tk) (fu := 60) (w := 24) (sel := 0) hh
      have e2 := er.symm.trans ee
      have pp := p Y kY (by rw [e2]; exact zz) (fun y => by rw [e2] at y; cases y)
      rw [e2] at pp
      exact ⟨by decide, fun _ => hJ92 _ _ pp, fun y => absurd rfl y⟩
    · obtain ⟨h1, h2⟩ := hf hh
      refine ⟨by decide, fun y => absurd y (by decide), fun _ => e_whenT hm zz hh (fun X1 k1 z1 f1 => hJ92 _ X1 ?_)⟩
      rw [er] at z1 f1 ⊢
      refine p X1 (kY.tr k1 (by omega)) z1 (fun hr => ?_)
      obtain ⟨f2, f3, f4⟩ := f1 hr
      refine ⟨by omega, h2.kp k1 (Int.le_refl _) (by omega), fun u => ?_, fun u => ?_⟩
      · rw [er]; exact f3 u
      · rw [f4 u, k.2.2.2.2.1 _ (by omega)]; exact hn.2.2
  have e9 := z.1.2.2.2.2.2
  rw [e9]
  cases lw
  · rw [if_neg (by decide)]
    refine ⟨by decide, fun _ => e_driveHead hm z (fun ne X1 k1 zz => ?_) (fun e d1 d2 d3 d4 d5 e1 e2 e3 e4 e5 X1 k1 zz f1 => ?_), fun y => absurd rfl y⟩
    · have eh : zhd false tk i v = (false, i, v, dNo) := (if_neg (by decide)).trans (if_neg ne)
      rw [eh] at tail
      exact tail X1 k1 zz (fun y => by cases y)
    · have eh : zhd false tk i v = d5 := by
        unfold zhd
        rw [if_neg (by decide), if_pos e, e1, e2, e3, e4, e5]
      rw [eh] at tail
      refine tail X1 k1 zz (fun t5 => ?_)
      obtain ⟨g0, g1, g2, g3, g4, g5, g6⟩ := f1 t5
      refine ⟨g0, fun y => (by cases y), fun _ d1' d2' d3' d4' u1 u2 u3 u4 => ?_⟩
      rw [e1] at u1; subst u1
      rw [e2] at u2; subst u2
      rw [e3] at u3; subst u3
      rw [e4] at u4; subst u4
      exact ⟨g1, g2, g3, g4, g5, fun u => (g6 u).trans hn.2.1⟩
  · rw [if_pos rfl]
    refine ⟨by decide, fun y => absurd y (by decide), fun _ => e_lawHead hm z (fun ne => ?_) (fun e S eS X1 k1 zz h0 f1 => ?_)⟩
    · have eh : zhd true tk i v = (false, i, v, dNo) := (if_pos rfl).trans (if_neg ne)
      rw [eh] at tail
      exact tail X kKp.rf z (fun y => by cases y)
    · have eh : zhd true tk i v = S := by
        unfold zhd
        rw [if_pos rfl, if_pos e, eS]
      rw [eh] at tail
      refine tail X1 (k1.tr (kKp.rf (s := X 37 3) (k := m * 6) (e := m * 6)) (by omega)) zz (fun hS => ?_)
      obtain ⟨g0, g1, g2⟩ := f1 hS
      refine ⟨g0, fun _ => ⟨h0, fun u => (g1 u).trans hn.1, fun u => ?_⟩, fun y => by cases y⟩
      rw [eh]; exact g2 u

/-! TEXTS: what the reference reads behind a test -/
theorem mF2 {lw test : Bool} {tk : Int → Int} {i v : Int} {c : zCD} {p : zPL} {d : Int} : zmF lw test tk 2 i v c p d = if tk i = 26 then (0, false, i + 1, v, zem (zfl 2 c p).1 29 0, (29, (zfl 2 c p).1.2.2) :: (zfl 2 c p).2, d) else if tk i = 25 then (0, false, i + 1, v, zem (zfl 1 c p).1 30 0, (30, (zfl 1 c p).1.2.2) :: (zfl 1 c p).2, d) else if zinn p = -1 then (4, false, i, v, c, p, d) else if tk i = 1041 then (2, false, i + 1, v, (zfl 1 c p).1, (zfl 1 c p).2.tail, d - 1) else (2, true, i, v, c, p, d) := (if_neg (by decide)).trans ((if_neg (by decide)).trans (if_neg (by decide)))
theorem inn_r {p : zPL} (h : ∀ q ∈ p, q.1 ≤ 32) : -1 ≤ zinn p ∧ zinn p ≤ 32 := by
  revert h
  induction p with
  | nil => intro _; exact ⟨by decide, by decide⟩
  | cons y t ih =>
    intro hh
    have st : zinn (y :: t) = if 31 ≤ y.1 then y.1 else zinn t := rfl
    rw [st]
    by_cases k : 31 ≤ y.1
    · rw [if_pos k]; exact ⟨by omega, hh y List.mem_cons_self⟩
    · rw [if_neg k]; exact ih (fun q hq => hh q (List.mem_cons_of_mem _ hq))
theorem m_andB {f : Int → Int} {n M : Int} {tk pl bh : Int → Int} {X : XT} {l o v1 i v : Int} {c : zCD} {p : zPL} {d : Int} {Q : XT → Prop} (s : zRS f n M tk pl bh) (l1 : 1 ≤ l ∧ l ≤ 2) (ov : (v1 = 0 ∧ o = 30) ∨ (v1 = 1 ∧ o = 29)) (ht : ¬ tk i = 29) (h : zMS f n M pl X i v c p d) (b : zMB i v c p d) (q : ∀ X1, MFr X X1 → zMS f n M pl X1 (i + 1) v (zem (zfl l c p).1 o 0) ((o, (zfl l c p).1.2.2) :: (zfl l c p).2) d → zMB (i + 1) v (zem (zfl l c p).1 o 0) ((o, (zfl l c p).1.2.2) :: (zfl l c p).2) d → Q X1) : w_X12_settle l X (fun (X11 : XT) => ∀ J17 : Int → Prop, (∀ (v16 : Int), (w_X12_push v16 (X11 77 18) X11 (fun (X19 : XT) => ∀ J25 : Int → Prop, (∀ (v24 : Int), (w_X12_emit v24 0 X19 (fun (X27 : XT) => w_X12_next X27 Q)) → J25 v24) → R32 v1 ∧ (v1 = 0 → J25 30) ∧ (¬ v1 = 0 → J25 29))) → J17 v16) → R32 v1 ∧ (v1 = 0 → J17 30) ∧ (¬ v1 = 0 → J17 29)) := by
  have lt := at_lt s h.1 ht
  have hM := s.1.1
  have hn := s.2.1
  obtain ⟨hA, hb, hv, hc, hd⟩ := h
  obtain ⟨bc, bv, bd⟩ := b
  refine m_settle (by omega) l1.1 (by omega) hc bc (fun X1 f1 c1 b1 => ?_)
  generalize zfl l c p = r at *
  obtain ⟨c', p'⟩ := r
  have p0 := pend_0 p'
  have n1 := b1.1.1
  have n2 := b1.1.2
  have n3 := b1.2.1
  dsimp only at n1 n2 n3
  rw [c1.1.2.2]
  have fin : ∀ J : Int → Prop, J o → R32 v1 ∧ (v1 = 0 → J 30) ∧ (¬ v1 = 0 → J 29) := fun J k => by
    rcases ov with ⟨e1, e2⟩ | ⟨e1, e2⟩
    · rw [e2] at k; exact ⟨by omega, fun _ => k, fun w => absurd e1 w⟩
    · rw [e2] at k; exact ⟨by omega, fun w => absurd w (by omega), fun _ => k⟩
  intro J17 hJ17
  refine fin J17 (hJ17 o ?_)
  refine m_pushP c1 (by dsimp only; omega) (fun X2 f2 g2 c2 => ?_)
  intro J25 hJ25
  refine fin J25 (hJ25 o ?_)
  refine (m_emitC c2 n1 (by dsimp only; omega) (fun X3 f3 g3 c3 => at_next s (((hA.sf f1).sf f2).sf f3) ht (fun X4 f4 a4 => q X4 ((((MFr.ofS f1).tr (MFr.ofS f2)).tr (MFr.ofS f3)).tr (MFr.ofN f4)) ⟨a4, ?_, ?_, c3.nx f4, ?_⟩ ⟨⟨⟨?_, ?_⟩, ?_, fun x hx => ?_⟩, bv, by omega⟩)))
  · rw [f4.2 14 (by decide), f3.2 14 (by decide) (by decide), f2.2 14 (by decide) (by decide), f1.2 14 (by decide) (by decide)]; exact hb
  · rw [f4.2 21 (by decide), f3.2 21 (by decide) (by decide), f2.2 21 (by decide) (by decide), f1.2 21 (by decide) (by decide)]; exact hv
  · rw [f4.2 25 (by decide), f3.2 25 (by decide) (by decide), f2.2 25 (by decide) (by decide), f1.2 25 (by decide) (by decide)]; exact hd
  · rw [em_n]; dsimp only; omega
  · have e : pend ((o, c'.2.2) :: p') = (if o ≤ 28 then 1 else 0) + pend p' := rfl
    rw [if_neg (by omega)] at e
    rw [em_n]
    dsimp only
    omega
  · rw [List.length_cons]; dsimp only; omega
  · rcases List.mem_cons.mp hx with rfl | hx
    · refine ⟨by dsimp only; omega, fun _ => ?_⟩
      rw [em_n]
      dsimp only
      omega
    · have := b1.2.2 x hx
      refine ⟨this.1, fun z => ?_⟩
      have := this.2 z
      rw [em_n]
      dsimp only at this ⊢
      omega
theorem m_behindTest {f : Int → Int} {n M : Int} {tk pl bh : Int → Int} {lw test : Bool} {X : XT} {i v : Int} {c : zCD} {p : zPL} {d : Int} {Q : Int → XT → Prop} (s : zRS f n M tk pl bh) (h : zMS f n M pl X i v c p d) (b : zMB i v c p d) (q : ∀ t X1, zMR f n M pl X (zmF lw test tk 2 i v c p d) t X1 → Q t X1) : w_X12_behindTest X Q := by
  have o := (at_obs s h.1).1
  have i4 := at_400 s h.1
  have plen := b.1.2.1
  have hr : ∀ q ∈ p, R32 q.1 := fun q hq => by have := (b.1.2.2 q hq).1; omega
  have z := mF2 (lw := lw) (test := test) (tk := tk) (i := i) (v := v) (c := c) (p := p) (d := d)
  have w26 : zwc 26 = 1476 := by decide +kernel
  have w25 : zwc 25 = 498 := by decide +kernel
  unfold w_X12_behindTest
  rw [← w26, ← w25]
  refine m_isWord o (by decide) (fun e => ?_) (fun e => ?_)
  · intro J hJ
    rw [if_pos (by omega)] at z
    rw [z] at q
    refine ⟨by decide, fun _ => hJ (fun J9 hJ9 => ⟨by decide, fun w => absurd w (by decide), fun _ => hJ9 2 ?_⟩), fun w => absurd w (by decide)⟩
    exact m_andB (o := 29) (Q := fun Y => Q 0 Y) s (by decide) (Or.inr ⟨rfl, rfl⟩) (by omega) h b (fun X1 f1 m1 b1 => q 0 X1 ⟨f1, fun _ => ⟨rfl, m1, b1⟩, fun w => by cases w⟩)
  · rw [if_neg (by omega)] at z
    intro J hJ
    refine ⟨by decide, fun w => absurd rfl w, fun _ => m_isWord o (by decide) (fun e2 => ⟨by decide, fun w => absurd w (by decide), fun _ => ?_⟩) (fun e2 => ⟨by decide, fun _ => ?_, fun w => absurd rfl w⟩)⟩
    · rw [if_pos (by omega)] at z
      rw [z] at q
      refine hJ (fun J9 hJ9 => ⟨by decide, fun _ => hJ9 1 ?_, fun w => absurd rfl w⟩)
      exact m_andB (o := 30) (Q := fun Y => Q 0 Y) s (by decide) (Or.inl ⟨rfl, rfl⟩) (by omega) h b (fun X1 f1 m1 b1 => q 0 X1 ⟨f1, fun _ => ⟨rfl, m1, b1⟩, fun w => by cases w⟩)
    · rw [if_neg (by omega)] at z
      have ir := inn_r (p := p) (fun q hq => (b.1.2.2 q hq).1.2)
      refine m_inner h.2.2.2.1 (by omega) hr ⟨by omega, fun k => ?_, fun k => ?_⟩
      · rw [if_neg k] at z
        refine m_isSign o (by decide) (fun e3 => ?_) (fun e3 => ?_)
        · rw [if_pos (by omega)] at z
          rw [z] at q
          refine m_mustT s h.1 h.2.1 (by decide) (by omega) (fun X1 f1 a1 => ?_)
          have e14 : X1 77 14 = 0 := (f1.2 14 (by decide)).trans h.2.1
          refine ⟨by rw [e14]; decide, fun w => absurd e14 w, fun _ => m_close (Q := fun Y => Q 2 Y) s (by decide) (by decide) ⟨a1, e14, (f1.2 21 (by decide)).trans h.2.2.1, h.2.2.2.1.nx f1, (f1.2 25 (by decide)).trans h.2.2.2.2⟩ b k (fun X2 f2 m2 b2 => q 2 X2 ⟨(MFr.ofN f1).tr f2, fun _ => ⟨rfl, m2, b2⟩, fun w => by cases w⟩)⟩
        · rw [if_neg (by omega)] at z
          rw [z] at q
          exact m_mustF h.2.1 ⟨by rw [x_st_ne (by decide), x_st_at]; decide, fun _ => q 2 _ (zMR_bad MFr.rf h.1 h.2.2.2.1 (b.1.up i4) rfl rfl), fun w => absurd w (by rw [x_st_ne (by decide), x_st_at]; decide)⟩
      · rw [if_pos k] at z
        rw [z] at q
        exact q 4 X ⟨MFr.rf, fun _ => ⟨rfl, h, b⟩, fun w => by cases w⟩

/-! TEXTS: where the reference stands among the tokens -/
def zRS (f : Int → Int) (n M : Int) (tk pl bh : Int → Int) : Prop := zLX f n M tk pl bh ∧ (0 ≤ n ∧ n ≤ 400) ∧ ∀ j : Int, 0 ≤ j → j < n → 0 ≤ f j ∧ f j ≤ 255
def zAT (f : Int → Int) (n M : Int) (pl : Int → Int) (X : XT) (i : Int) : Prop := (X 77 8 = n ∧ X 77 13 = -1) ∧ (∀ j : Int, 0 ≤ j → j < n → X 82 j = f j) ∧ X 77 9 = pl i ∧ zTS f n (pl i) X ∧ 0 ≤ i ∧ i ≤ M - 1
theorem at_goes {f : Int → Int} {n M : Int} {tk pl bh : Int → Int} {X : XT} {Q : XT → Prop} {i : Int} (s : zRS f n M tk pl bh) (h8 : X 77 8 = n) (h13 : X 77 13 = -1) (h82 : ∀ j : Int, 0 ≤ j → j < n → X 82 j = f j) (i0 : -1 ≤ i) (i1 : i < M - 1) (ht : X 77 10 = bh i) (q : ∀ X1, NFr X X1 → zAT f n M pl X1 (i + 1) → Q X1) : w_X12_next X Q := by
  obtain ⟨⟨l1, l2, l3, l4, ⟨l5, l6, l7⟩, l8, l9⟩, hn, hf⟩ := s
  have bb : 0 ≤ bh i ∧ bh i ≤ n := by
    by_cases z : i = -1
    · rw [z, l4]; omega
    · have := (l2 i (by omega) i1).1; omega
  refine m_nextT h8 hn.2 (fun j a b => ⟨h82 j a b, hf j a b⟩) ht bb.1 bb.2 (fun p X1 f1 p0 p1 ps pe e9 ts => q X1 f1 ?_)
  have ep : p = pl (i + 1) := by
    by_cases z : i + 1 = M - 1
    · rw [z, l9]
      rcases pe with h | h
      · exact h
      · by_cases y : p = n
        · exact y
        · exact absurd (l7 p (by rw [show M - 2 = i by omega]; exact p0) (by omega)) h
    · obtain ⟨k1, k2⟩ := l3 (i + 1) (by omega) (by omega)
      rw [show i + 1 - 1 = i by omega] at k1 k2
      have tt := l2 (i + 1) (by omega) (by omega)
      have n32 : ¬ f (pl (i + 1)) = 32 := by
        rcases tt.2 with ⟨a, _⟩ | ⟨a, _⟩ | ⟨_, _, a, _⟩
        · unfold zLet at a; omega
        · unfold zDig at a; omega
        · exact a
      have t1 := tt.1
      by_cases y : p < pl (i + 1)
      · have := k2 p p0 y
        rcases pe with h | h
        · omega
        · exact absurd this h
      · by_cases y2 : pl (i + 1) < p
        · exact absurd (ps (pl (i + 1)) k1 y2) n32
        · omega
  refine ⟨⟨(f1.2 8 (by decide)).trans h8, (f1.2 13 (by decide)).trans h13⟩, fun j a b => by rw [f1.1 82 rfl]; exact h82 j a b, by rw [e9, ep], by rw [← ep]; exact ts, by omega, by omega⟩
theorem run_end {P : Int → Prop} {f : Int → Int} {n p e e' : Int} (a : ∀ j : Int, p ≤ j → j < e → P (f j)) (b : e = n ∨ ¬ P (f e)) (a' : ∀ j : Int, p ≤ j → j < e' → P (f j)) (b' : e' = n ∨ ¬ P (f e')) (h : p ≤ e) (h' : p ≤ e') (hn : e ≤ n) (hn' : e' ≤ n) : e = e' := by
  by_cases x : e < e'
  · rcases b with b | b
    · omega
    · exact absurd (a' e h x) b
  · by_cases y : e' < e
    · rcases b' with b' | b'
      · omega
      · exact absurd (a e' h' y) b'
    · omega
/-- what can be seen of a token -/
def zOb (t : Int) (X : XT) : Prop := (X 77 11 = 0 ∧ t = 29) ∨ (X 77 11 = 1 ∧ (0 ≤ t ∧ t ≤ 28) ∧ (∀ k : Nat, k < 28 → (X 77 12 = zwc k ↔ t = k)) ∧ -1 ≤ X 77 12 ∧ X 77 12 ≤ 1125899906842624) ∨ (X 77 11 = 2 ∧ (2000 ≤ t ∧ t ≤ 3001) ∧ (t ≤ 3000 → X 77 12 = t - 2000) ∧ (3000 < t → 1000 < X 77 12) ∧ 0 ≤ X 77 12 ∧ X 77 12 ≤ 10000010) ∨ (X 77 11 = 3 ∧ t = 1000 + X 77 12 ∧ 0 ≤ X 77 12 ∧ X 77 12 ≤ 255)
theorem at_obs {f : Int → Int} {n M : Int} {tk pl bh : Int → Int} {X : XT} {i : Int} (s : zRS f n M tk pl bh) (h : zAT f n M pl X i) : zOb (tk i) X ∧ (i < M - 1 → X 77 10 = bh i) := by
  obtain ⟨⟨l1, l2, l3, l4, ⟨l5, l6, l7⟩, l8, l9⟩, hn, hf⟩ := s
  obtain ⟨h8, h82, h9, ts, i0, i1⟩ := h
  by_cases z : i = M - 1
  · refine ⟨Or.inl ⟨?_, l8 i (by omega)⟩, fun y => absurd y (by omega)⟩
    rw [z, l9] at ts
    rcases ts with ⟨_, h, _⟩ | ⟨h, _⟩ | ⟨h, _⟩ | ⟨h, _⟩
    · exact h
    · omega
    · omega
    · omega
  have tt := l2 i i0 (by omega)
  have t1 := tt.1
  have t2 := tt.2
  generalize pl i = p at *
  rcases ts with ⟨h, _⟩ | ⟨p1, hl, s1, e, er, el, ee, e10, e12⟩ | ⟨p1, hd, s1, e, er, el, ee, e10, e12⟩ | ⟨p1, nl, nd, s1, e10, e12⟩
  · omega
  · rcases t2 with ⟨_, a2, a3, a4⟩ | ⟨a1, _⟩ | ⟨a1, _⟩
    · have eb := run_end (P := zLet) el ee a2 a3 (by omega) (by omega) er.2 t1.2.2
      rw [← eb] at a4 ⊢
      have ll : ∀ j : Int, 0 ≤ j → j < ((e - p).toNat : Int) → zLet (f (p + j)) := fun j a b => el (p + j) (by omega) (by omega)
      have wr : zWrd f p ((e - p).toNat : Int) (tk i) := by rw [show (((e - p).toNat : Nat) : Int) = e - p by omega]; exact a4
      have zr := zenc_r (f := f) (p := p) (e - p).toNat ll
      refine ⟨Or.inr (Or.inl ⟨s1, ?_, fun k hk => by rw [e12]; exact wrd_enc ll wr hk, by rw [e12]; exact zr⟩), fun _ => e10⟩
      rcases wr with ⟨a, _⟩ | ⟨k, hk, a, _⟩ <;> omega
    · unfold zDig at a1; unfold zLet at hl; omega
    · exact absurd hl a1
  · rcases t2 with ⟨a1, _⟩ | ⟨_, a2, a3, a4⟩ | ⟨_, a1, _⟩
    · unfold zLet at a1; unfold zDig at hd; omega
    · have eb := run_end (P := zDig) el ee a2 a3 (by omega) (by omega) er.2 t1.2.2
      rw [← eb] at a4 ⊢
      have zn := zn_eq (f := f) (p := p) (e - p).toNat (fun j a b => el (p + j) (by omega) (by omega))
      refine ⟨Or.inr (Or.inr (Or.inl ⟨s1, by omega, fun y => ?_, fun y => ?_, by rw [e12]; exact zn.2.1⟩)), fun _ => e10⟩
      · rw [e12]; omega
      · rw [e12]; omega
    · exact absurd hd a1
  · rcases t2 with ⟨a1, _⟩ | ⟨a1, _⟩ | ⟨_, _, _, a4, a5⟩
    · exact absurd a1 nl
    · exact absurd a1 nd
    · have rb := hf p t1.1 p1
      refine ⟨Or.inr (Or.inr (Or.inr ⟨s1, by omega, by omega⟩)), fun _ => by omega⟩
theorem at_next {f : Int → Int} {n M : Int} {tk pl bh : Int → Int} {X : XT} {Q : XT → Prop} {i : Int} (s : zRS f n M tk pl bh) (h : zAT f n M pl X i) (hk : ¬ tk i = 29) (q : ∀ X1, NFr X X1 → zAT f n M pl X1 (i + 1) → Q X1) : w_X12_next X Q := by
  have lt : i < M - 1 := by
    by_cases z : M - 1 ≤ i
    · exact absurd (s.1.2.2.2.2.2.1 i z) hk
    · omega
  exact at_goes s h.1.1 h.1.2 h.2.1 (by have := h.2.2.2.2.1; omega) lt ((at_obs s h).2 lt) q
theorem zAT.go {f : Int → Int} {n M : Int} {pl : Int → Int} {X X1 : XT} {i : Int} (h : zAT f n M pl X i) (a : ∀ g : Int, (8 ≤ g ∧ g ≤ 13) → X1 77 g = X 77 g) (b : X1 82 = X 82) : zAT f n M pl X1 i := by
  obtain ⟨h1, h2, h3, h4, h5⟩ := h
  refine ⟨by rw [a 8 (by decide), a 13 (by decide)]; exact h1, by rw [b]; exact h2, by rw [a 9 (by decide)]; exact h3, ?_, h5⟩
  unfold zTS
  rw [a 10 (by decide), a 11 (by decide), a 12 (by decide)]
  exact h4
theorem m_isSign {t c : Int} {X : XT} {Q : Int → Prop} (o : zOb t X) (hc : 0 ≤ c ∧ c ≤ 255) (q1 : t = 1000 + c → Q 1) (q0 : ¬ t = 1000 + c → Q 0) : w_X12_isSign c X Q := by
  rcases o with ⟨h, _⟩ | ⟨h, _⟩ | ⟨h, _⟩ | ⟨h, h1, h2⟩
  · exact ⟨by omega, fun _ => q0 (by omega), fun z => absurd z (by omega)⟩
  · exact ⟨by omega, fun _ => q0 (by omega), fun z => absurd z (by omega)⟩
  · exact ⟨by omega, fun _ => q0 (by omega), fun z => absurd z (by omega)⟩
  · exact ⟨by omega, fun z => absurd h z, fun _ => ⟨by omega, by omega, fun z => q0 (by omega), fun z => q1 (by omega)⟩⟩
theorem m_isWord {t : Int} {X : XT} {Q : Int → Prop} {k : Nat} (o : zOb t X) (hk : k < 28) (q1 : t = k → Q 1) (q0 : ¬ t = k → Q 0) : w_X12_isWord (zwc k) X Q := by
  have zk : 0 < zwc k := (wrd_all k hk).2.2.2.2
  have zk2 : ∀ k, k < 28 → zwc k ≤ 1125899906842624 := by decide +kernel
  have := zk2 k hk
  rcases o with ⟨h, _⟩ | ⟨h, h1, h2, h3⟩ | ⟨h, _⟩ | ⟨h, _⟩
  · exact ⟨by omega, fun _ => q0 (by omega), fun z => absurd z (by omega)⟩
  · exact ⟨by omega, fun z => absurd h z, fun _ => ⟨by omega, by omega, fun z => q0 (fun y => z ((h2 k hk).mpr y)), fun z => q1 ((h2 k hk).mp z)⟩⟩
  · exact ⟨by omega, fun _ => q0 (by omega), fun z => absurd z (by omega)⟩
  · exact ⟨by omega, fun _ => q0 (by omega), fun z => absurd z (by omega)⟩
/-- one of eight words -/
theorem m_eight {t : Int} {X : XT} {Q : Int → Prop} {c : Nat} (o : zOb t X) (π : Nat → Nat) (hp : ∀ k : Nat, k < 8 → π k < 28 ∧ X c (k : Int) = zwc (π k)) (q1 : ∀ k : Nat, k < 8 → t = π k → (∀ j : Nat, k < j → j < 8 → ¬ t = π j) → Q ((k : Int) + 1)) (q0 : (∀ j : Nat, j < 8 → ¬ t = π j) → Q (-1)) : ∃ (I3 : Int → Int → Prop) (m4 : Int → Int → Nat), I3 (-1) 0 ∧ ∀ (x1 : Int) (x2 : Int), I3 x1 x2 → R32 x2 ∧ (8 ≤ x2 → Q x1) ∧ (¬ 8 ≤ x2 → (0 ≤ x2 ∧ x2 < 8) ∧ w_X12_isWord (X c x2) X (fun (v15 : Int) => R32 v15 ∧ (v15 = 0 → I3 x1 (x2 + 1) ∧ m4 x1 (x2 + 1) < m4 x1 x2) ∧ (¬ v15 = 0 → I3 (x2 + 1) (x2 + 1) ∧ m4 (x2 + 1) (x2 + 1) < m4 x1 x2))) := by
  refine ⟨fun its x => ∃ k : Nat, x = (k : Int) ∧ k ≤ 8 ∧ ((its = -1 ∧ ∀ j : Nat, j < k → ¬ t = π j) ∨ ∃ j : Nat, j < k ∧ t = π j ∧ its = (j : Int) + 1 ∧ ∀ j2 : Nat, j < j2 → j2 < k → ¬ t = π j2), fun _ x => (8 - x).toNat, ⟨0, rfl, by decide, Or.inl ⟨rfl, fun j h => absurd h (Nat.not_lt_zero _)⟩⟩, ?_⟩
  rintro its x ⟨k, rfl, k1, hk⟩
  refine ⟨by omega, fun z => ?_, fun z => ⟨by omega, ?_⟩⟩
  · have e : k = 8 := by omega
    subst e
    rcases hk with ⟨rfl, h⟩ | ⟨j, h1, h2, rfl, h3⟩
    · exact q0 h
    · exact q1 j h1 h2 h3
  · obtain ⟨p1, p2⟩ := hp k (by omega)
    rw [p2]
    refine m_isWord o p1 (fun y => ⟨by decide, fun z => absurd z (by decide), fun _ => ⟨⟨k + 1, by omega, by omega, Or.inr ⟨k, by omega, y, rfl, fun j2 a b => absurd b (by omega)⟩⟩, by dsimp only; omega⟩⟩) (fun y => ⟨by decide, fun _ => ⟨⟨k + 1, by omega, by omega, ?_⟩, by dsimp only; omega⟩, fun z => absurd rfl z⟩)
    rcases hk with ⟨rfl, h⟩ | ⟨j, h1, h2, rfl, h3⟩
    · refine Or.inl ⟨rfl, fun j hj => ?_⟩
      by_cases e : j = k
      · rw [e]; exact y
      · exact h j (by omega)
    · refine Or.inr ⟨j, by omega, h2, rfl, fun j2 a b => ?_⟩
      by_cases e : j2 = k
      · rw [e]; exact y
      · exact h3 j2 a (by omega)
/-- what must be, is, or is not -/
theorem m_mustT {f : Int → Int} {n M : Int} {tk pl bh : Int → Int} {X : XT} {Q : XT → Prop} {i c : Int} (s : zRS f n M tk pl bh) (h : zAT f n M pl X i) (hb : X 77 14 = 0) (hc : R32 c ∧ ¬ c = 0) (hk : ¬ tk i = 29) (q : ∀ X1, NFr X X1 → zAT f n M pl X1 (i + 1) → Q X1) : w_X12_must c X Q := by
  intro J hJ
  refine ⟨by omega, fun z => absurd hb z, fun _ => ⟨hc.1, fun _ => hJ X ⟨by omega, fun z => absurd hb z, fun _ => at_next s h hk q⟩, fun z => absurd z hc.2⟩⟩
theorem m_mustF {X : XT} {Q : XT → Prop} (hb : X 77 14 = 0) (q : Q (x_st (x_st X 77 14 1) 77 13 (X 77 9))) : w_X12_must 0 X Q := by
  intro J hJ
  have e : (x_st X 77 14 1) 77 9 = X 77 9 := x_st_ne (by decide)
  rw [e]
  have e2 : (x_st (x_st X 77 14 1) 77 13 (X 77 9)) 77 14 = 1 := by rw [x_st_ne (by decide), x_st_at]
  refine ⟨by omega, fun z => absurd hb z, fun _ => ⟨by decide, fun z => absurd rfl z, fun _ => hJ _ ⟨by rw [e2]; decide, fun _ => q, fun z => absurd z (by rw [e2]; decide)⟩⟩⟩

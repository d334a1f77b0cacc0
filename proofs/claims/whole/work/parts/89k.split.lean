/-! TEXTS: the class splits the tape into tokens -/
def zTok (f : Int → Int) (n p e t : Int) : Prop := (0 ≤ p ∧ p < e ∧ e ≤ n) ∧ ((zLet (f p) ∧ (∀ j : Int, p ≤ j → j < e → zLet (f j)) ∧ (e = n ∨ ¬ zLet (f e)) ∧ zWrd f p (e - p) t) ∨ (zDig (f p) ∧ (∀ j : Int, p ≤ j → j < e → zDig (f j)) ∧ (e = n ∨ ¬ zDig (f e)) ∧ t = 2000 + znC f p (e - p).toNat) ∨ (¬ zLet (f p) ∧ ¬ zDig (f p) ∧ ¬ f p = 32 ∧ e = p + 1 ∧ t = 1000 + f p))
def zLX (f : Int → Int) (n M : Int) (tk pl bh : Int → Int) : Prop := (1 ≤ M ∧ M - 1 ≤ n) ∧ (∀ j : Int, 0 ≤ j → j < M - 1 → zTok f n (pl j) (bh j) (tk j)) ∧ (∀ j : Int, 0 ≤ j → j < M - 1 → bh (j - 1) ≤ pl j ∧ ∀ q : Int, bh (j - 1) ≤ q → q < pl j → f q = 32) ∧ bh (-1) = 0 ∧ (0 ≤ bh (M - 2) ∧ bh (M - 2) ≤ n ∧ ∀ q : Int, bh (M - 2) ≤ q → q < n → f q = 32) ∧ (∀ j : Int, M - 1 ≤ j → tk j = 29) ∧ pl (M - 1) = n
/-- a tape -/
def zTP (X : XT) : Prop := (0 ≤ X 33 4 ∧ X 33 4 ≤ 400) ∧ ∀ j : Int, 0 ≤ j → j < X 33 4 → 0 ≤ X 34 j ∧ X 34 j ≤ 255
theorem e_byte {X : XT} {p : Int} {Q : Int → Prop} (h : zTP X) (p0 : 0 ≤ p) (p1 : p < X 33 4) (q : Q (X 34 p)) : w_X5_byteAt p X Q := by
  have := h.1
  exact ⟨by omega, fun k => absurd k (by omega), fun _ => ⟨by omega, fun k => absurd k (by omega), fun _ => ⟨fun k => absurd k (by omega), fun _ => ⟨by omega, q⟩⟩⟩⟩
theorem e_let {c : Int} {X : XT} {Q : Int → Prop} (r : R32 c) (q1 : zLet c → Q 1) (q0 : ¬ zLet c → Q 0) : w_X5_isLetter c X Q := by
  unfold zLet at q1 q0
  exact ⟨r, fun k => q0 (by omega), fun k => ⟨fun k2 => q0 (by omega), fun k2 => q1 (by omega)⟩⟩
theorem e_dig {c : Int} {X : XT} {Q : Int → Prop} (r : R32 c) (q1 : zDig c → Q 1) (q0 : ¬ zDig c → Q 0) : w_X5_isDigit c X Q := by
  unfold zDig at q1 q0
  exact ⟨r, fun k => q0 (by omega), fun k => ⟨fun k2 => q0 (by omega), fun k2 => q1 (by omega)⟩⟩
theorem e_bhL {X : XT} {p : Int} {Q : Int → Prop} (h : zTP X) (p0 : 0 ≤ p) (p1 : p < X 33 4) (hp : zLet (X 34 p)) (q : ∀ e : Int, p < e → e ≤ X 33 4 → (∀ j : Int, p ≤ j → j < e → zLet (X 34 j)) → (e = X 33 4 ∨ ¬ zLet (X 34 e)) → Q e) : w_X5_behindLetters p X Q := by
  have hn := h.1
  refine ⟨fun a b => a = b ∧ p ≤ b ∧ b ≤ X 33 4 ∧ ∀ j : Int, p ≤ j → j < b → zLet (X 34 j), fun _ b => (X 33 4 - b).toNat, ⟨rfl, Int.le_refl _, by omega, fun j a b => absurd b (by omega)⟩, ?_⟩
  rintro a b ⟨rfl, b0, b1, hb⟩
  have pa : a = p ∨ p < a := by omega
  refine ⟨by omega, by omega, fun k => q a (by omega) b1 hb (Or.inl (by omega)), fun k => ?_⟩
  have rb := h.2 a (by omega) (by omega)
  refine e_byte h (by omega) (by omega) (e_let (by omega) (fun l => ⟨by decide, fun z => absurd z (by decide), fun _ => ⟨⟨rfl, by omega, by omega, fun j j0 j1 => ?_⟩, by dsimp only; omega⟩⟩) (fun l => ⟨by decide, fun _ => ?_, fun z => absurd rfl z⟩))
  · by_cases hj : j = a
    · rw [hj]; exact l
    · exact hb j j0 (by omega)
  · refine q a ?_ b1 hb (Or.inr l)
    rcases pa with rfl | z
    · exact absurd hp l
    · exact z
theorem e_bhD {X : XT} {p : Int} {Q : Int → Prop} (h : zTP X) (p0 : 0 ≤ p) (p1 : p < X 33 4) (hp : zDig (X 34 p)) (q : ∀ e : Int, p < e → e ≤ X 33 4 → (∀ j : Int, p ≤ j → j < e → zDig (X 34 j)) → (e = X 33 4 ∨ ¬ zDig (X 34 e)) → Q e) : w_X5_behindDigits p X Q := by
  have hn := h.1
  refine ⟨fun a b => a = b ∧ p ≤ b ∧ b ≤ X 33 4 ∧ ∀ j : Int, p ≤ j → j < b → zDig (X 34 j), fun _ b => (X 33 4 - b).toNat, ⟨rfl, Int.le_refl _, by omega, fun j a b => absurd b (by omega)⟩, ?_⟩
  rintro a b ⟨rfl, b0, b1, hb⟩
  have pa : a = p ∨ p < a := by omega
  refine ⟨by omega, by omega, fun k => q a (by omega) b1 hb (Or.inl (by omega)), fun k => ?_⟩
  have rb := h.2 a (by omega) (by omega)
  refine e_byte h (by omega) (by omega) (e_dig (by omega) (fun l => ⟨by decide, fun z => absurd z (by decide), fun _ => ⟨⟨rfl, by omega, by omega, fun j j0 j1 => ?_⟩, by dsimp only; omega⟩⟩) (fun l => ⟨by decide, fun _ => ?_, fun z => absurd rfl z⟩))
  · by_cases hj : j = a
    · rw [hj]; exact l
    · exact hb j j0 (by omega)
  · refine q a ?_ b1 hb (Or.inr l)
    rcases pa with rfl | z
    · exact absurd hp l
    · exact z
theorem e_numb {X : XT} {p e : Int} {Q : Int → Prop} (h : zTP X) (p0 : 0 ≤ p) (p1 : p ≤ e) (e1 : e ≤ X 33 4) (hd : ∀ j : Int, p ≤ j → j < e → zDig (X 34 j)) (q : Q (znC (X 34) p (e - p).toNat)) : w_X5_numberOf p e X Q := by
  have hn := h.1
  refine ⟨fun a b => p ≤ b ∧ b ≤ e ∧ a = znC (X 34) p (b - p).toNat, fun _ b => (e - b).toNat, ⟨Int.le_refl _, p1, by rw [show (p - p).toNat = 0 by omega]; rfl⟩, ?_⟩
  rintro a b ⟨b0, b1, rfl⟩
  have zn := zn_eq (f := X 34) (p := p) (b - p).toNat (fun j a c => hd (p + j) (by omega) (by omega))
  refine ⟨by omega, by omega, fun k => ?_, fun k => ?_⟩
  · rw [show b = e by omega]; exact q
  · have l := hd b b0 (by omega)
    unfold zDig at l
    refine e_byte h (by omega) (by omega) ⟨by omega, ⟨by omega, by omega, ?_⟩, by dsimp only; omega⟩
    rw [show (b + 1 - p).toNat = (b - p).toNat + 1 by omega]
    show _ = min 1001 (10 * znC (X 34) p (b - p).toNat + X 34 (p + ((b - p).toNat : Int)) - 48)
    rw [show p + ((b - p).toNat : Int) = b by omega]
theorem e_isWord {X : XT} {s e p : Int} {Q : Int → Prop} (h : zTP X) (s0 : 0 ≤ s) (s1 : s ≤ e) (e1 : e ≤ 130) (p0 : 0 ≤ p) (p1 : p + (e - s) ≤ X 33 4) (r : ∀ j : Int, R32 (wcF j)) (q1 : (∀ j : Int, 0 ≤ j → j < e - s → X 34 (p + j) = wcF (s + j)) → Q 1) (q0 : ¬ (∀ j : Int, 0 ≤ j → j < e - s → X 34 (p + j) = wcF (s + j)) → Q 0) : w_X5_isWordAt s e p X Q := by
  have hn := h.1
  refine ⟨fun b => s ≤ b ∧ b ≤ e ∧ ∀ j : Int, 0 ≤ j → j < b - s → X 34 (p + j) = wcF (s + j), fun b => (e - b).toNat, ⟨Int.le_refl _, s1, fun j a c => absurd c (by omega)⟩, ?_⟩
  rintro b ⟨b0, b1, hb⟩
  refine ⟨by omega, by omega, fun k => q1 (by rw [show e = b by omega]; exact hb), fun k => ⟨by omega, ?_⟩⟩
  have rb := h.2 (p + b - s) (by omega) (by omega)
  refine e_byte h (by omega) (by omega) ⟨r b, by omega, fun z => ⟨⟨by omega, by omega, fun j j0 j1 => ?_⟩, by dsimp only; omega⟩, fun z => q0 (fun hh => z ?_)⟩
  · by_cases hj : j = b - s
    · rw [hj, show p + (b - s) = p + b - s by omega, show s + (b - s) = b by omega]; exact z.symm
    · exact hb j j0 (by omega)
  · have := hh (b - s) (by omega) (by omega)
    rw [show p + (b - s) = p + b - s by omega, show s + (b - s) = b by omega] at this
    exact this.symm
theorem wcF_r : ∀ j : Int, R32 (wcF j) := by
  have k : ∀ k : Nat, k < 131 → R32 (wcF (k : Int)) := by decide +kernel
  intro j
  by_cases h0 : j < 0
  · have : wcF j = wcF 0 := by unfold wcF; rw [show j.toNat = 0 by omega]; rfl
    rw [this]; exact k 0 (by decide)
  by_cases h1 : j < 131
  · have := k j.toNat (by omega)
    rw [show ((j.toNat : Nat) : Int) = j by omega] at this
    exact this
  · have : wcF j = 0 := by
      unfold wcF
      rw [List.getD_eq_getElem?_getD, List.getElem?_eq_none]
      · rfl
      · show 131 ≤ j.toNat
        omega
    rw [this]; decide
theorem e_wordOf {X : XT} {p e : Int} {Q : Int → Prop} (h : zTP X) (p0 : 0 ≤ p) (p1 : p < e) (e1 : e ≤ X 33 4) (q : ∀ t, zWrd (X 34) p (e - p) t → Q t) : w_X5_wordOf p e X Q := by
  have hn := h.1
  refine ⟨fun wd st i => ∃ k : Nat, wd = (k : Int) ∧ k ≤ 28 ∧ (∀ j : Nat, j < k → ¬ zMat (X 34) p (e - p) j) ∧ ((k = 28 ∧ i = 131) ∨ (k < 28 ∧ st = wst k ∧ wst k ≤ i ∧ i ≤ wst k + wln k)), fun _ _ i => (131 - i).toNat, ⟨0, rfl, by decide, fun j hj => absurd hj (Nat.not_lt_zero _), Or.inr ⟨by decide, rfl, by decide, by decide⟩⟩, ?_⟩
  rintro wd st i ⟨k, rfl, k1, nm, hk⟩
  rcases hk with ⟨rfl, rfl⟩ | ⟨k2, rfl, i0, i1⟩
  · exact ⟨by decide, fun _ => q 28 (Or.inl ⟨rfl, nm⟩), fun z => absurd (by decide) z⟩
  obtain ⟨w1, w2, w3, w4, w5⟩ := wrd_all k k2
  have lt := wrd_let k k2 (i - wst k).toNat (by omega)
  rw [show wst k + (((i - wst k).toNat : Nat) : Int) = i by omega] at lt
  refine ⟨by omega, fun z => absurd z (by omega), fun _ => ⟨by omega, wcF_r i, fun c => ?_, fun c => ?_⟩⟩
  · have : ¬ (i - wst k).toNat = (wln k).toNat := fun z => c (lt.2 z)
    exact ⟨⟨k, rfl, k1, nm, Or.inr ⟨k2, rfl, by omega, by omega⟩⟩, by dsimp only; omega⟩
  · have hi : i = wst k + wln k := by
      by_cases z : (i - wst k).toNat < (wln k).toNat
      · have := lt.1 z
        unfold zLet at this; omega
      · omega
    intro J hJ
    have next : ¬ zMat (X 34) p (e - p) k → J := fun nk => by
      refine hJ ⟨⟨k + 1, by omega, by omega, fun j hj => ?_, ?_⟩, by dsimp only; omega⟩
      · by_cases z : j = k
        · rw [z]; exact nk
        · exact nm j (by omega)
      · by_cases z : k = 27
        · subst z
          have := wrd_end
          exact Or.inl ⟨rfl, by omega⟩
        · have := wrd_nx k (by omega)
          have w := wrd_all (k + 1) (by omega)
          exact Or.inr ⟨by omega, by omega, by omega, by omega⟩
    refine ⟨by omega, by omega, fun z => next (fun m => z (by have := m.1; omega)), fun z => ?_⟩
    have el : e - p = wln k := by omega
    refine e_isWord h w2 (by omega) (by omega) p0 (by omega) wcF_r (fun m => ⟨by decide, fun z => absurd z (by decide), fun _ => q k (Or.inr ⟨k, k2, rfl, el, fun j j0 j1 => m j j0 (by omega)⟩)⟩) (fun m => ⟨by decide, fun _ => next (fun mm => m (fun j j0 j1 => mm.2 j j0 (by omega))), fun z => absurd rfl z⟩)

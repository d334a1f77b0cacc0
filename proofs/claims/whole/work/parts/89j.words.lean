/-! TEXTS: words, numbers -/
def zwL : List Int := [24, 25, 278194, 3554980, 12641458, 20186245, 441828, 4153, 113759379, 6685939, 394868, 146885, 19118, 398548, 20976, 8554131, 3653011, 24627848, 67155, 208935, 655, 52, 164968, 21279923, 294, 498, 1476, 14836]
def zwS : List Int := [0, 2, 4, 9, 15, 21, 27, 32, 36, 43, 49, 54, 59, 63, 68, 72, 78, 84, 90, 95, 100, 103, 106, 111, 117, 120, 123, 127]
def zwN : List Int := [1, 1, 4, 5, 5, 5, 4, 3, 6, 5, 4, 4, 3, 4, 3, 5, 5, 5, 4, 4, 2, 2, 4, 5, 2, 2, 3, 3]
def zwc (k : Nat) : Int := zwL.getD k 0
def wst (k : Nat) : Int := zwS.getD k 0
def wln (k : Nat) : Int := zwN.getD k 0
abbrev zLet (c : Int) : Prop := 97 ≤ c ∧ c ≤ 122
abbrev zDig (c : Int) : Prop := 48 ≤ c ∧ c ≤ 57
/-- what the reference reckons of a word, behind so many of its letters -/
def zenc (f : Int → Int) (p : Int) : Nat → Int
  | 0 => 0
  | k + 1 => if k < 10 then zenc f p k * 32 + f (p + k) - 96 else -1
theorem zenc_cg {f g : Int → Int} {p s : Int} : ∀ k : Nat, (∀ j : Int, 0 ≤ j → j < k → f (p + j) = g (s + j)) → zenc f p k = zenc g s k := by
  intro k
  induction k with
  | zero => intro _; rfl
  | succ k ih =>
    intro h
    unfold zenc
    rw [ih (fun j a b => h j a (by omega)), h (k : Int) (by omega) (by omega)]
theorem zenc_pos {f : Int → Int} {p : Int} : ∀ k : Nat, k ≤ 10 → (∀ j : Int, 0 ≤ j → j < k → zLet (f (p + j))) → 0 ≤ zenc f p k ∧ (0 < k → 0 < zenc f p k) := by
  intro k
  induction k with
  | zero => intro _ _; exact ⟨Int.le_refl _, fun h => absurd h (Nat.lt_irrefl _)⟩
  | succ k ih =>
    intro h hl
    have i := ih (by omega) (fun j a b => hl j a (by omega))
    have l := hl (k : Int) (by omega) (by omega)
    unfold zenc
    rw [if_pos (by omega)]
    unfold zLet at l
    omega
theorem zenc_big {f : Int → Int} {p : Int} {k : Nat} (h : 11 ≤ k) : zenc f p k = -1 := by
  obtain ⟨j, rfl⟩ : ∃ j, k = j + 1 := ⟨k - 1, by omega⟩
  unfold zenc
  rw [if_neg (by omega)]
theorem zenc_inj {f g : Int → Int} {p s : Int} : ∀ k k' : Nat, k ≤ 10 → k' ≤ 10 → (∀ j : Int, 0 ≤ j → j < k → zLet (f (p + j))) → (∀ j : Int, 0 ≤ j → j < k' → zLet (g (s + j))) → zenc f p k = zenc g s k' → k = k' ∧ ∀ j : Int, 0 ≤ j → j < k → f (p + j) = g (s + j) := by
  intro k
  induction k with
  | zero =>
    intro k' _ h' _ hl' e
    have := zenc_pos k' h' hl'
    have e0 : zenc f p 0 = 0 := rfl
    exact ⟨by omega, fun j a b => absurd (show j < 0 from b) (by omega)⟩
  | succ k ih =>
    intro k' h h' hl hl' e
    have q := zenc_pos (k + 1) h hl
    cases k' with
    | zero =>
      have e0 : zenc g s 0 = 0 := rfl
      omega
    | succ k' =>
      have l := hl (k : Int) (by omega) (by omega)
      have l' := hl' (k' : Int) (by omega) (by omega)
      have e1 : zenc f p (k + 1) = zenc f p k * 32 + f (p + k) - 96 := if_pos (by omega)
      have e2 : zenc g s (k' + 1) = zenc g s k' * 32 + g (s + k') - 96 := if_pos (by omega)
      unfold zLet at l l'
      obtain ⟨r1, r2⟩ := ih k' (by omega) (by omega) (fun j a b => hl j a (by omega)) (fun j a b => hl' j a (by omega)) (by omega)
      subst r1
      refine ⟨rfl, fun j a b => ?_⟩
      by_cases hj : j = (k : Int)
      · rw [hj]; omega
      · exact r2 j a (by omega)
/-- the letters from p, so many, are the word k -/
def zMat (f : Int → Int) (p L : Int) (k : Nat) : Prop := L = wln k ∧ ∀ j : Int, 0 ≤ j → j < L → f (p + j) = wcF (wst k + j)
/-- the token of a word -/
def zWrd (f : Int → Int) (p L t : Int) : Prop := (t = 28 ∧ ∀ k : Nat, k < 28 → ¬ zMat f p L k) ∨ ∃ k : Nat, k < 28 ∧ t = k ∧ zMat f p L k
theorem wrd_all : ∀ k, k < 28 → (1 ≤ wln k ∧ wln k ≤ 10) ∧ 0 ≤ wst k ∧ wst k + wln k < 131 ∧ zenc wcF (wst k) (wln k).toNat = zwc k ∧ 0 < zwc k := by decide +kernel
theorem wrd_let : ∀ k, k < 28 → ∀ j, j < 11 → (j < (wln k).toNat → zLet (wcF (wst k + (j : Int)))) ∧ (j = (wln k).toNat → wcF (wst k + (j : Int)) = 32) := by decide +kernel
theorem wrd_nx : ∀ k, k < 27 → wst (k + 1) = wst k + wln k + 1 := by decide +kernel
theorem wrd_dif : ∀ k, k < 28 → ∀ j, j < 28 → zwc k = zwc j → k = j := by decide +kernel
theorem wrd_end : wst 27 + wln 27 = 130 := by decide +kernel
/-- the reference knows the words that the class knows -/
theorem wrd_enc {f : Int → Int} {p t : Int} {L : Nat} (hl : ∀ j : Int, 0 ≤ j → j < L → zLet (f (p + j))) (h : zWrd f p L t) {k : Nat} (hk : k < 28) : zenc f p L = zwc k ↔ t = k := by
  obtain ⟨w1, w2, w3, w4, w5⟩ := wrd_all k hk
  have wl : ∀ j : Int, 0 ≤ j → j < ((wln k).toNat : Int) → zLet (wcF (wst k + j)) := fun j a b => by
    have := (wrd_let k hk j.toNat (by omega)).1 (by omega)
    rw [show ((j.toNat : Nat) : Int) = j by omega] at this
    exact this
  constructor
  · intro e
    have L10 : L ≤ 10 := by
      by_cases q : L ≤ 10
      · exact q
      · rw [zenc_big (by omega)] at e; omega
    rw [← w4] at e
    obtain ⟨r1, r2⟩ := zenc_inj L (wln k).toNat L10 (by omega) hl wl e
    have mt : zMat f p L k := ⟨by omega, r2⟩
    rcases h with ⟨_, h⟩ | ⟨k2, hk2, rfl, m2⟩
    · exact absurd mt (h k hk)
    · have e3 : zenc f p L = zwc k2 := by
        rw [← (wrd_all k2 hk2).2.2.2.1, show (wln k2).toNat = L by have := m2.1; omega]
        exact zenc_cg L m2.2
      have e4 : zenc f p L = zwc k := by rw [← w4]; exact e
      rw [wrd_dif k2 hk2 k hk (e3.symm.trans e4)]
  · rintro rfl
    rcases h with ⟨z, _⟩ | ⟨k2, hk2, z, m2⟩
    · omega
    · have : k2 = k := by omega
      subst this
      rw [← w4, show (wln k2).toNat = L by have := m2.1; omega]
      exact zenc_cg L m2.2
/-- a number, as the class has it; as the reference has it -/
def znC (f : Int → Int) (p : Int) : Nat → Int
  | 0 => 0
  | k + 1 => min 1001 (10 * znC f p k + f (p + k) - 48)
def znR (f : Int → Int) (p : Int) : Nat → Int
  | 0 => 0
  | k + 1 => if znR f p k ≤ 1000000 then znR f p k * 10 + f (p + k) - 48 else znR f p k
theorem zn_eq {f : Int → Int} {p : Int} : ∀ k : Nat, (∀ j : Int, 0 ≤ j → j < k → zDig (f (p + j))) → (0 ≤ znC f p k ∧ znC f p k ≤ 1001) ∧ (0 ≤ znR f p k ∧ znR f p k ≤ 10000010) ∧ (znC f p k ≤ 1000 → znR f p k = znC f p k) ∧ (1000 < znC f p k → 1000 < znR f p k) := by
  intro k
  induction k with
  | zero =>
    intro _
    have e : znC f p 0 = 0 := rfl
    have e2 : znR f p 0 = 0 := rfl
    rw [e, e2]
    exact ⟨by omega, by omega, fun _ => rfl, fun h => by omega⟩
  | succ k ih =>
    intro hl
    have i := ih (fun j a b => hl j a (by omega))
    have l := hl (k : Int) (by omega) (by omega)
    unfold zDig at l
    unfold znC znR
    by_cases q : znR f p k ≤ 1000000
    · rw [if_pos q]; omega
    · rw [if_neg q]; omega

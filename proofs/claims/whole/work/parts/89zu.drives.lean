/-! DRIVES: what they mean -/
theorem crun_nc2 {lw : Bool} {g : Int → Int} {f f' : Int → Int → Int} (hg : ∀ p : Int, p % 2 = 0 → ¬ g p = 3) (hf : ∀ o a : Int, zvC lw o a → ¬ o = 3 → f' o a = f o a) : ∀ (n : Nat) (p : Int) (st : List Int), p % 2 = 0 → crun lw g f' n p st = crun lw g f n p st := by
  intro n
  induction n with
  | zero => intro p st _; rfl
  | succ n ih =>
    intro p st hp
    unfold crun
    by_cases c1 : g p < 0 ∨ 14 < g p
    · rw [if_pos c1, if_pos c1]
    rw [if_neg c1, if_neg c1]
    by_cases c2 : 64 ≤ st.length
    · rw [if_pos c2, if_pos c2]
    rw [if_neg c2, if_neg c2]
    by_cases c3 : g p = 1 ∨ g p = 2 ∨ g p = 3
    · rw [if_pos c3, if_pos c3]
      by_cases c4 : zvC lw (g p) (g (p + 1))
      · rw [if_pos c4, if_pos c4, hf _ _ c4 (hg p hp), ih _ _ (by omega)]
      · rw [if_neg c4, if_neg c4]
    rw [if_neg c3, if_neg c3]
    cases st with
    | nil => rfl
    | cons x t =>
      dsimp only
      by_cases c4 : g p = 0
      · rw [if_pos c4, if_pos c4]
      rw [if_neg c4, if_neg c4]
      by_cases c5 : g p = 4
      · rw [if_pos c5, if_pos c5]; exact ih _ _ (by omega)
      rw [if_neg c5, if_neg c5]
      by_cases c6 : g p = 5
      · rw [if_pos c6, if_pos c6]
        by_cases c7 : x = 1
        · rw [if_pos c7, if_pos c7]
          by_cases c8 : g (p + 1) % 2 = 0
          · rw [if_pos c8, if_pos c8]; exact ih _ _ c8
          · rw [if_neg c8, if_neg c8]
        · rw [if_neg c7, if_neg c7]; exact ih _ _ (by omega)
      rw [if_neg c6, if_neg c6]
      by_cases c9 : g p = 6
      · rw [if_pos c9, if_pos c9]
        by_cases c7 : x = 1
        · rw [if_pos c7, if_pos c7]; exact ih _ _ (by omega)
        · rw [if_neg c7, if_neg c7]
          by_cases c8 : g (p + 1) % 2 = 0
          · rw [if_pos c8, if_pos c8]; exact ih _ _ c8
          · rw [if_neg c8, if_neg c8]
      rw [if_neg c9, if_neg c9]
      cases t with
      | nil => rfl
      | cons y u =>
        dsimp only
        cases hz : zjn (g p) y x with
        | none => rfl
        | some w => exact ih _ _ (by omega)
theorem RC_nc2 {lw : Bool} {g : Int → Int} {s e L : Int} {D : zDT} (h : zRC lw g s e D L) (L1 : L ≤ 63) (he : g e = 0) (hg : ∀ p : Int, s ≤ p → p ≤ e → p % 2 = 0 → ¬ g p = 3) {f f' : Int → Int → Int} (hf : ∀ o a : Int, zvC lw o a → ¬ o = 3 → f' o a = f o a) : D f' = D f := by
  obtain ⟨n1, _, r1⟩ := RC_stop h L1 he f
  obtain ⟨n2, _, r2⟩ := RC_stop h L1 he f'
  rw [crun_nc2 (f := f) (fun p hp => by
    split
    · rename_i c; exact hg p c.1 (by omega) hp
    · decide) hf n2 s [] h.2.1.2.1] at r2
  have a1 := crun_ups n2 n1 r1
  have a2 := crun_ups n1 n2 r2
  rw [Nat.add_comm n2 n1, a1] at a2
  exact (Option.some.inj a2).symm
/-- a clause: times, cloud, direction, hour, each, test; the state of a run: row, last hour, how many told, how often the clause -/
abbrev zDC : Type := Int × zDT × zDT × zDT × (Bool × zDT) × (Bool × zDT)
abbrev zDS : Type := (Int → Int) × Int × Int × Int
def cnr (r : Int → Int) (T : TT) (w c h : Int) : Int := if c < r 0 ∧ ¬ spF r T c h.toNat = 576 then (if w = 0 then spF r T c h.toNat % 24 - 8 else spF r T c h.toNat / 24 - 8) else 100
def wDr (S : zDS) (a : Int) : Int := if a = 7 then S.1 6 else if a = 8 then S.1 0 else if a = 9 then S.1 1 else if a = 10 then S.2.1 else if a = 11 then S.2.2.1 else S.2.2.2
def fDr (T : TT) (S : zDS) (o a : Int) : Int := if o = 1 then a else if o = 2 then wDr S a else cnr S.1 T (a / 60) (a / 12 % 5) (a % 12)
def zFl (r : Int → Int) (h c d : Int) : Int → Int := uI (uI (uI (uI r (232 + 3 * r 1) h) (232 + 3 * r 1 + 1) c) (232 + 3 * r 1 + 2) d) 1 (r 1 + 1)
def zTry (S : zDS) (c d h : Int) : Int × zDS := if (0 ≤ h ∧ h ≤ 10) ∧ (0 ≤ d ∧ d ≤ 3) ∧ (0 ≤ c ∧ c < S.1 0) ∧ fRw S.1 c h = -1 then (if S.1 1 < 24 then (0, (zFl S.1 h c d, h, S.2.2.1 + 1, S.2.2.2 + 1)) else (-5, S)) else (-3, S)
def zEa (T : TT) (C : zDC) (S : zDS) : Option Int := if C.2.2.2.2.1.1 = true then C.2.2.2.2.1.2 (fDr T S) else some 0
def zGo (T : TT) (C : zDC) (S : zDS) : Int × zDS := match C.2.1 (fDr T S) with
  | none => (-3, S)
  | some c => match C.2.2.1 (fDr T S) with
    | none => (-3, S)
    | some d => match C.2.2.2.1 (fDr T S) with
      | none => (-3, S)
      | some a => match zEa T C S with
        | none => (-3, S)
        | some e => zTry S c d (a + e * S.2.2.2)
def zOne (T : TT) (C : zDC) (S : zDS) : Int × zDS := if C.2.2.2.2.2.1 = true ∧ ¬ C.2.2.2.2.2.2 (fDr T S) = some 1 then (0, S) else zGo T C S
def zRn (T : TT) (C : zDC) : Nat → zDS → Int × zDS
  | 0, S => (0, S)
  | n + 1, S => if (zOne T C S).1 = 0 then zRn T C n (zOne T C S).2 else zOne T C S
def zAl (T : TT) (Cs : Nat → zDC) : Nat → Nat → zDS → Int × Nat × zDS
  | 0, k, S => (0, k, S)
  | n + 1, k, S => if (zRn T (Cs k) (Cs k).1.toNat (S.1, S.2.1, S.2.2.1, 0)).1 = 0 then zAl T Cs n (k + 1) (zRn T (Cs k) (Cs k).1.toNat (S.1, S.2.1, S.2.2.1, 0)).2 else ((zRn T (Cs k) (Cs k).1.toNat (S.1, S.2.1, S.2.2.1, 0)).1, k, (zRn T (Cs k) (Cs k).1.toNat (S.1, S.2.1, S.2.2.1, 0)).2)
/-- the class's cells are so as the row says: also when a flag is told, or they are taken back -/
theorem RR_mk {o f2 f3 f4 f5 f6 f7 f8 f9 r : Int → Int} (p : Pln o f2 f3 f4 f5 f6 f7 f8 f9 r) : RR (upL [(1, o), (2, f2), (3, f3), (4, f4), (5, f5), (6, f6), (7, f7), (8, f8), (9, f9), (79, r)] X0) := by
  have h := RR_X0
  exact ⟨p, h.2⟩
theorem Pln_flag {o f2 f3 f4 f5 f6 f7 f8 f9 r : Int → Int} {a b c : Int} (p : Pln o f2 f3 f4 f5 f6 f7 f8 f9 r) (hc : 0 ≤ a ∧ a ≤ 10 ∧ 0 ≤ c ∧ c ≤ 3) (hb : 0 ≤ b ∧ b < o 9) (hf : fOf f6 a b (o 10).toNat = -1) (hl : o 10 < 24) : Pln (uI o 10 (o 10 + 1)) f2 f3 f4 f5 (uI (uI (uI f6 (o 10 * 3 + 0) a) (o 10 * 3 + 1) b) (o 10 * 3 + 2) c) f7 f8 f9 (zFl r a b c) := by
  have h := RR_flag (a := a) (b := b) (c := c) (RR_mk p) hc hb hf hl
  exact h.1
theorem Pln_back {o f2 f3 f4 f5 f6 f7 f8 f9 r : Int → Int} {z : Int} (p : Pln o f2 f3 f4 f5 f6 f7 f8 f9 r) (hz : 0 ≤ z ∧ z ≤ o 10) : Pln (uI o 10 z) f2 f3 f4 f5 f6 f7 f8 f9 (uI r 1 z) := by
  obtain ⟨p1, p2, p3, p4, p5, p6, p7, p8⟩ := p
  have k : ∀ j : Int, ¬ j = 1 → uI r 1 z j = r j := fun j hj => uI_ne hj
  have p9 := p4.1
  refine ⟨p1.cg (fun j _ _ => k j (by omega)), p2.cg (fun j _ _ => k j (by omega)), p3.cg rfl (k 0 (by omega)) (fun j _ _ => k j (by omega)), ⟨?_, fun j j0 j1 => (p4.2.1 j j0 j1).trans (k _ (by omega)).symm, fun k0 k1 k2 => p4.2.2.1 k0 k1 (Int.lt_of_lt_of_le (show k0 < z from k2) hz.2), fun k0 l0 q0 q1 q2 => p4.2.2.2 k0 l0 q0 q1 (Int.lt_of_lt_of_le (show l0 < z from q2) hz.2)⟩, p5.cg rfl (k 2 (by omega)) (fun j _ _ => k j (by omega)), p6.cg rfl (k 3 (by omega)) (fun j _ _ => k j (by omega)), p7.cg (fun j _ _ => k j (by omega)), p8.cg rfl rfl (k 4 (by omega)) (k 5 (by omega))⟩
  show z = z ∧ 0 ≤ z ∧ z ≤ 24
  omega
/-- what a run keeps: X where it began -/
def zIv (X : XT) (S : zDS) : Prop := (∃ o f6 : Int → Int, Pln o (X 2) (X 3) (X 4) (X 5) f6 (X 7) (X 8) (X 9) S.1 ∧ (∀ f : Int, ¬ f = 10 → o f = X 1 f) ∧ ∀ f : Int, f < X 1 10 * 3 → f6 f = X 6 f) ∧ (∀ j : Int, ¬ j = 1 → (j < 232 ∨ 304 ≤ j) → S.1 j = X 79 j) ∧ (0 ≤ X 1 10 ∧ X 1 10 ≤ S.1 1 ∧ S.1 1 ≤ 24) ∧ S.2.2.1 = S.1 1 - X 1 10 ∧ (-1 ≤ S.2.1 ∧ S.2.1 ≤ 10) ∧ 0 ≤ S.2.2.2 ∧ S.2.2.2 ≤ 24
theorem zTry_ok {X : XT} {S : zDS} {c d h : Int} (hI : zIv X S) (h24 : S.2.2.2 ≤ 23) : (zTry S c d h).1 = 0 → zIv X (zTry S c d h).2 := by
  obtain ⟨⟨o, f6, p, ho, h6⟩, hr, hn, hd, hl, hu⟩ := hI
  unfold zTry
  have p4 := p.2.2.2.1
  have p3 := p.2.2.1
  have hrow : S.1 1 = o 10 := p4.1.1.symm
  have p41 := p4.1
  split
  · rename_i k
    split
    · rename_i k2
      intro _
      have hf : fOf f6 h c (o 10).toNat = -1 := by
        have := k.2.2.2
        unfold fRw at this
        rw [hrow, fOf_cg (f := fun j => S.1 (232 + j)) (g := f6) _ (fun j j0 j1 => (p4.2.1 j j0 (by omega)).symm)] at this
        exact this
      have p3' := p3.1.1
      refine ⟨⟨_, _, Pln_flag p ⟨k.1.1, k.1.2, k.2.1⟩ (by omega) hf (by omega), fun f hf => (uI_ne hf).trans (ho f hf), fun f hf => ?_⟩, fun j h1 h2 => ?_, ?_, ?_, ⟨by dsimp only; omega, k.1.2⟩, by dsimp only; omega⟩
      · rw [uI_ne (by omega), uI_ne (by omega), uI_ne (by omega)]; exact h6 f hf
      · show zFl S.1 h c d j = _
        unfold zFl
        rw [uI_ne h1, uI_ne (by omega), uI_ne (by omega), uI_ne (by omega)]; exact hr j h1 h2
      · show 0 ≤ X 1 10 ∧ X 1 10 ≤ zFl S.1 h c d 1 ∧ zFl S.1 h c d 1 ≤ 24
        unfold zFl; rw [uI_same]; omega
      · show S.2.2.1 + 1 = zFl S.1 h c d 1 - X 1 10
        unfold zFl; rw [uI_same]; omega
    · intro y; exact absurd y (by dsimp only; decide)
  · intro y; exact absurd y (by dsimp only; decide)
theorem zTry_w {S : zDS} {c d h : Int} : ((zTry S c d h).1 = 0 ∧ (zTry S c d h).2.2.2.2 = S.2.2.2 + 1) ∨ (((zTry S c d h).1 = -3 ∨ (zTry S c d h).1 = -5) ∧ (zTry S c d h).2 = S) := by
  unfold zTry
  split
  · split
    · exact Or.inl ⟨rfl, rfl⟩
    · exact Or.inr ⟨Or.inr rfl, rfl⟩
  · exact Or.inr ⟨Or.inl rfl, rfl⟩
theorem zOne_w {T : TT} {C : zDC} {S : zDS} : ((zOne T C S).1 = 0 ∧ ((zOne T C S).2 = S ∨ ∃ c d h : Int, zOne T C S = zTry S c d h)) ∨ (((zOne T C S).1 = -3 ∨ (zOne T C S).1 = -5) ∧ (zOne T C S).2 = S) := by
  unfold zOne
  split
  · exact Or.inl ⟨rfl, Or.inl rfl⟩
  unfold zGo
  split
  · exact Or.inr ⟨Or.inl rfl, rfl⟩
  split
  · exact Or.inr ⟨Or.inl rfl, rfl⟩
  split
  · exact Or.inr ⟨Or.inl rfl, rfl⟩
  split
  · exact Or.inr ⟨Or.inl rfl, rfl⟩
  · rename_i c _ _ d _ _ a _ _ e _
    rcases zTry_w (S := S) (c := c) (d := d) (h := a + e * S.2.2.2) with w | w
    · exact Or.inl ⟨w.1, Or.inr ⟨_, _, _, rfl⟩⟩
    · exact Or.inr w
theorem zOne_ok {X : XT} {T : TT} {C : zDC} {S : zDS} (hI : zIv X S) (h24 : S.2.2.2 ≤ 23) : zIv X (zOne T C S).2 ∧ S.2.2.2 ≤ (zOne T C S).2.2.2.2 ∧ (zOne T C S).2.2.2.2 ≤ S.2.2.2 + 1 := by
  rcases zOne_w (T := T) (C := C) (S := S) with ⟨w0, w | ⟨c, d, h, w⟩⟩ | ⟨_, w⟩
  · rw [w]; exact ⟨hI, by omega, by omega⟩
  · rw [w] at w0 ⊢
    refine ⟨zTry_ok hI h24 w0, ?_⟩
    rcases zTry_w (S := S) (c := c) (d := d) (h := h) with v | v
    · omega
    · omega
  · rw [w]; exact ⟨hI, by omega, by omega⟩

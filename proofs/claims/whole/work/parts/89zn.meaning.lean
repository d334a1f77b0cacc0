/-! LAWS: what a law's text means, and how both sides keep it -/
theorem crun_cg {lw : Bool} {g : Int → Int} {f f' : Int → Int → Int} (hf : ∀ o a : Int, zvC lw o a → f' o a = f o a) : ∀ (n : Nat) (p : Int) (st : List Int), crun lw g f' n p st = crun lw g f n p st := by
  intro n
  induction n with
  | zero => intro p st; rfl
  | succ n ih =>
    intro p st
    unfold crun
    by_cases c1 : g p < 0 ∨ 14 < g p
    · rw [if_pos c1, if_pos c1]
    rw [if_neg c1, if_neg c1]
    by_cases c2 : 64 ≤ st.length
    · rw [if_pos c2, if_pos c2]
    rw [if_neg c2, if_neg c2]
    by_cases c3 : g p = 1 ∨ g p = 2 ∨ g p = 3
    · rw [if_pos c3, if_pos c3]
      by_cases c4 : zvC lw (g p) (g (p + 1))
      · rw [if_pos c4, if_pos c4, hf _ _ c4, ih]
      · rw [if_neg c4, if_neg c4]
    rw [if_neg c3, if_neg c3]
    cases st with
    | nil => rfl
    | cons x t =>
      dsimp only
      rw [ih, ih, ih]
      cases t with
      | nil => rfl
      | cons y u =>
        dsimp only
        cases hz : zjn (g p) y x with
        | none => rfl
        | some w => dsimp only; rw [ih]
theorem RC_cg {lw : Bool} {g : Int → Int} {s e L : Int} {D : zDT} (h : zRC lw g s e D L) (L1 : L ≤ 63) (he : g e = 0) {f f' : Int → Int → Int} (hf : ∀ o a : Int, zvC lw o a → f' o a = f o a) : D f' = D f := by
  obtain ⟨n1, _, r1⟩ := RC_stop h L1 he f
  obtain ⟨n2, _, r2⟩ := RC_stop h L1 he f'
  rw [crun_cg (f := f) hf n2 s []] at r2
  have a1 := crun_ups n2 n1 r1
  have a2 := crun_ups n1 n2 r2
  rw [Nat.add_comm n2 n1, a1] at a2
  exact (Option.some.inj a2).symm
/-- the clauses of a law: kind (15 .. 18), sum, whether there is a test, the test -/
abbrev zLM : Type := (Nat → Int) × (Nat → zDT) × (Nat → Bool) × (Nat → zDT)
def zTl (Z : zLM) (f : Int → Int → Int) (hd wo : Int) : Nat → Int
  | 0 => wo
  | k + 1 => if Z.1 k = hd ∧ (Z.2.2.1 k = true → Z.2.2.2 k f = some 1) then (match (if hd = 18 then some 1 else Z.2.1 k f) with
    | some v => v
    | none => zTl Z f hd wo k) else zTl Z f hd wo k
/-- a section of the class's code -/
def zSe (zg : Int → Int) (N p : Int) (D : zDT) : Prop := 0 ≤ p ∧ ∃ e L : Int, zRC true zg p e D L ∧ L ≤ 63 ∧ zg e = 0 ∧ e + 2 ≤ N
/-- the class's side: heads zk, code zg of N places -/
def zKl (Z : zLM) (m : Nat) (zk zg : Int → Int) (N : Int) : Prop := ∀ k : Nat, k < m → (15 ≤ Z.1 k ∧ Z.1 k ≤ 18) ∧ zk ((k : Int) * 6 + 0) = Z.1 k ∧ (Z.1 k = 18 → zk ((k : Int) * 6 + 1) = -1) ∧ (¬ Z.1 k = 18 → zSe zg N (zk ((k : Int) * 6 + 1)) (Z.2.1 k)) ∧ (Z.2.2.1 k = true → zSe zg N (zk ((k : Int) * 6 + 5)) (Z.2.2.2 k)) ∧ (Z.2.2.1 k = false → zk ((k : Int) * 6 + 5) = -1)
theorem zTl_cg {Z : zLM} {m : Nat} {zk zg : Int → Int} {N : Int} (h : zKl Z m zk zg N) {f f' : Int → Int → Int} (hf : ∀ o a : Int, zvC true o a → f' o a = f o a) (hd wo : Int) : ∀ k : Nat, k ≤ m → zTl Z f' hd wo k = zTl Z f hd wo k := by
  intro k
  induction k with
  | zero => intro _; rfl
  | succ k ih =>
    intro hk
    have ih := ih (by omega)
    obtain ⟨h1, h2, h3, h4, h5, h6⟩ := h k (by omega)
    unfold zTl
    rw [ih]
    have et : (Z.2.2.1 k = true → Z.2.2.2 k f' = some 1) ↔ (Z.2.2.1 k = true → Z.2.2.2 k f = some 1) := by
      constructor
      · intro a b
        obtain ⟨_, e, L, r1, r2, r3, _⟩ := h5 b
        rw [← RC_cg r1 r2 r3 hf]; exact a b
      · intro a b
        obtain ⟨_, e, L, r1, r2, r3, _⟩ := h5 b
        rw [RC_cg r1 r2 r3 hf]; exact a b
    by_cases c : Z.1 k = hd ∧ (Z.2.2.1 k = true → Z.2.2.2 k f = some 1)
    · rw [if_pos c, if_pos ⟨c.1, et.mpr c.2⟩]
      by_cases c2 : hd = 18
      · rw [if_pos c2, if_pos c2]
      · rw [if_neg c2, if_neg c2]
        obtain ⟨_, e, L, r1, r2, r3, _⟩ := h4 (by rw [c.1]; exact c2)
        rw [RC_cg r1 r2 r3 hf]
    · rw [if_neg c, if_neg (fun y => c ⟨y.1, et.mp y.2⟩)]
def lfF (w : Int → Int) (o a : Int) : Int := ftF o a w (fun _ => 0)
theorem ftF_r {w cn : Int → Int} (hw : ∀ a : Int, 0 ≤ a → a ≤ 7 → -1000 ≤ w a ∧ w a ≤ 1000) {o a : Int} (h : zvC true o a) : -1000000000 ≤ ftF o a w cn ∧ ftF o a w cn ≤ 1000000000 := by
  obtain ⟨a0, h | ⟨h, _, a7⟩ | ⟨_, h, _⟩ | ⟨_, h, _⟩⟩ := h
  · unfold ftF; rw [if_pos (Or.inl h.1)]; omega
  · unfold ftF
    rw [if_neg (by omega), if_pos h, if_pos (by omega)]
    have := hw a a0 a7; omega
  · cases h
  · cases h
theorem ftF_cg {w w' cn cn' : Int → Int} (hw : ∀ a : Int, 0 ≤ a → a ≤ 7 → w' a = w a) {o a : Int} (h : zvC true o a) : ftF o a w' cn' = ftF o a w cn := by
  obtain ⟨a0, h | ⟨h, _, a7⟩ | ⟨_, h, _⟩ | ⟨_, h, _⟩⟩ := h
  · unfold ftF; rw [if_pos (Or.inl h.1), if_pos (Or.inl h.1)]
  · unfold ftF
    rw [if_neg (by omega), if_pos h, if_pos (by omega), if_neg (by omega), if_pos h, if_pos (by omega), hw a a0 a7]
  · cases h
  · cases h
/-- a section's value -/
theorem e_sec {zN : Nat} {zg : Int → Int} {p : Int} {D : zDT} {X Y : XT} {w : Int → Int} {Q : Int → XT → Prop} (h : zSe zg zN p D) (hN : zN ≤ 1000) (hw : ∀ a : Int, 0 ≤ a → a ≤ 7 → -1000 ≤ w a ∧ w a ≤ 1000) (hY : ∀ c, ¬ c = 48 → Y c = X c) (e46 : X 46 = w) (q : ∀ Y1, (∀ c, ¬ c = 48 → Y1 c = X c) → (∀ v, D (lfF w) = some v → -1000001000 ≤ v ∧ v ≤ 1000001000) → Q ((D (lfF w)).getD (-2147483648)) Y1) : w_X6_valueOf zN zg 46 47 48 p Y Q := by
  obtain ⟨p0, e, L, r1, r2, r3, r4⟩ := h
  have y46 : Y 46 = w := (hY 46 (by decide)).trans e46
  obtain ⟨n0, hn, hr⟩ := RC_stop r1 r2 r3 (fun o a => ftF o a (Y 46) (Y 47))
  have ed : D (fun o a => ftF o a (Y 46) (Y 47)) = D (lfF w) := RC_cg r1 r2 r3 (fun o a hz => ftF_cg (fun b _ _ => by rw [y46]) hz)
  rw [ed] at hr
  exact e_value (by decide) hN p0 r4 r3 hn hr r1.2.1.2.1 (fun p' _ _ _ hz => ftF_r (fun b b0 b1 => by rw [y46]; exact hw b b0 b1) hz) (fun Y1 h1 h2 => q Y1 (fun c hc => (h1 c hc).trans (hY c hc)) h2)
/-- the class's told -/
theorem e_toldW {Z : zLM} {m zM zN : Nat} {zk zg zf : Int → Int} {kd wo : Int} {X : XT} {w : Int → Int} {Q : Int → XT → Prop} (hk : zKl Z m zk zg zN) (hm : m ≤ 12) (h2 : zf 2 = (m : Int)) (hM : (zM : Int) = 6 * m) (hN : zN ≤ 1000) (rk : 0 ≤ kd ∧ kd ≤ 100) (rw0 : 0 ≤ wo ∧ wo ≤ 99) (e46 : X 46 = w) (hw : ∀ a : Int, 0 ≤ a → a ≤ 7 → -1000 ≤ w a ∧ w a ≤ 1000) (q : ∀ Y, (∀ c, ¬ c = 48 → Y c = X c) → Q (clF (zTl Z (lfF w) kd wo m)) Y) : w_told zM zN zk zg zf kd wo X Q := by
  refine ⟨fun x1 Y => (-1 ≤ x1 ∧ x1 < (m : Int)) ∧ (∀ c, ¬ c = 48 → Y c = X c) ∧ zTl Z (lfF w) kd wo m = zTl Z (lfF w) kd wo (x1 + 1).toNat, fun x1 _ => (x1 + 1).toNat, ⟨by omega, fun _ _ => rfl, by rw [h2, show ((m : Int) - 1 + 1).toNat = m by omega]⟩, ?_⟩
  rintro x1 Y ⟨hx, hY, ez⟩
  refine ⟨by omega, fun k => ?_, fun k => ?_⟩
  · rw [show (x1 + 1).toNat = 0 by omega] at ez
    have e0 : zTl Z (lfF w) kd wo 0 = wo := rfl
    have := q Y hY
    rw [ez, e0] at this
    unfold clF at this
    rw [if_neg (by omega), if_neg (by omega)] at this
    exact this
  obtain ⟨j, rfl⟩ : ∃ j : Nat, x1 = (j : Int) := ⟨x1.toNat, by omega⟩
  obtain ⟨g1, g2, g3, g4, g5, g6⟩ := hk j (by omega)
  have hv : ∀ b : Int, 0 ≤ b → b < 6 → (if 0 ≤ (j : Int) * 6 + b ∧ (j : Int) * 6 + b < (zM : Int) then zk ((j : Int) * 6 + b) else -1) = zk ((j : Int) * 6 + b) := fun b b0 b1 => if_pos (by omega)
  rw [hv 0 (by decide) (by decide), hv 1 (by decide) (by decide), hv 5 (by decide) (by decide), g2]
  rw [show ((j : Int) + 1).toNat = j + 1 by omega] at ez
  have es : zTl Z (lfF w) kd wo (j + 1) = if Z.1 j = kd ∧ (Z.2.2.1 j = true → Z.2.2.2 j (lfF w) = some 1) then (match (if kd = 18 then some 1 else Z.2.1 j (lfF w)) with
    | some v => v
    | none => zTl Z (lfF w) kd wo j) else zTl Z (lfF w) kd wo j := rfl
  rw [es] at ez
  have next : ∀ Y1 : XT, (∀ c, ¬ c = 48 → Y1 c = X c) → zTl Z (lfF w) kd wo m = zTl Z (lfF w) kd wo j → ((-1 ≤ (j : Int) + (-1) ∧ (j : Int) + (-1) < (m : Int)) ∧ (∀ c, ¬ c = 48 → Y1 c = X c) ∧ zTl Z (lfF w) kd wo m = zTl Z (lfF w) kd wo ((j : Int) + (-1) + 1).toNat) := fun Y1 h1 h2 => ⟨by omega, h1, by rw [show ((j : Int) + (-1) + 1).toNat = j by omega]; exact h2⟩
  refine ⟨by omega, by omega, by omega, fun ne => ⟨next Y hY (by rw [if_neg (fun y => ne y.1)] at ez; exact ez), by dsimp only; omega⟩, fun ek => ⟨by omega, by omega, ?_⟩⟩
  intro J24 hJ24
  have sum : ∀ Y1 : XT, (∀ c, ¬ c = 48 → Y1 c = X c) → (Z.2.2.1 j = true → Z.2.2.2 j (lfF w) = some 1) → J24 Y1 := by
    intro Y1 h1 ht
    rw [if_pos ⟨ek, ht⟩] at ez
    refine hJ24 Y1 ?_
    intro J30 hJ30
    have good : ∀ (v : Int) (Y2 : XT), (∀ c, ¬ c = 48 → Y2 c = X c) → (-1000001000 ≤ v ∧ v ≤ 1000001000) → zTl Z (lfF w) kd wo m = v → J30 v Y2 := by
      intro v Y2 h3 rv hz
      refine hJ30 v Y2 ⟨by omega, fun z => absurd z (by omega), fun _ => ⟨by omega, ?_⟩⟩
      have := q Y2 h3
      rw [hz] at this
      have e : max 0 (min 99 v) = clF v := by unfold clF; split; omega; split <;> omega
      rw [e]; exact this
    by_cases c18 : kd = 18
    · rw [if_pos c18] at ez
      rw [g3 (by omega)]
      exact ⟨by decide, fun z => absurd rfl z, fun _ => good 1 Y1 h1 (by decide) ez⟩
    · rw [if_neg c18] at ez
      have se := g4 (by omega)
      have p0 := se.1
      obtain ⟨e, L, a1, _, _, se4⟩ := id se.2
      have a2 := a1.2.1
      refine ⟨by omega, fun _ => e_sec se hN hw h1 e46 (fun Y2 h3 h4 => ?_), fun z => absurd z (by omega)⟩
      cases hD : Z.2.1 j (lfF w) with
      | none =>
        rw [hD] at ez
        exact hJ30 _ Y2 ⟨by decide, fun _ => ⟨next Y2 h3 ez, by dsimp only; omega⟩, fun z => absurd rfl z⟩
      | some v =>
        rw [hD] at ez
        exact good v Y2 h3 (h4 v hD) ez
  cases hW : Z.2.2.1 j
  · rw [g6 hW]
    exact ⟨by decide, fun _ => sum Y hY (fun y => by rw [hW] at y; cases y), fun z => absurd rfl z⟩
  · have se := g5 hW
    have p0 := se.1
    obtain ⟨e, L, a1, _, _, se4⟩ := id se.2
    have a2 := a1.2.1
    refine ⟨by omega, fun z => absurd z (by omega), fun _ => e_sec se hN hw hY e46 (fun Y2 h3 h4 => ?_)⟩
    have rv : R32 ((Z.2.2.2 j (lfF w)).getD (-2147483648)) := by
      cases hD : Z.2.2.2 j (lfF w) with
      | none => decide
      | some v => have := h4 v hD; show R32 v; omega
    refine ⟨rv, fun n1 => ⟨next Y2 h3 ?_, by dsimp only; omega⟩, fun e1 => sum Y2 h3 (fun _ => ?_)⟩
    · rw [if_neg (fun y => n1 (by rw [y.2 hW]; rfl))] at ez; exact ez
    · cases hD : Z.2.2.2 j (lfF w) with
      | none => rw [hD] at e1; exact absurd e1 (by decide)
      | some v => rw [hD] at e1; have : v = 1 := e1; rw [this]

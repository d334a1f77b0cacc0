/-! TEXTS: the reference's machine -/
def zbnd (o : Int) : Int := if 31 ≤ o then 0 else if o = 30 then 1 else if o = 29 then 2 else if o = 28 then 3 else if 25 ≤ o then 4 else if 22 ≤ o then 6 else 5
abbrev zCD : Type := (Int → Int) × (Int → Int) × Int
abbrev zPL : Type := List (Int × Int)
def zem (c : zCD) (o a : Int) : zCD := (uI c.1 c.2.2 o, uI c.2.1 c.2.2 a, c.2.2 + 1)
def zpt (c : zCD) (a : Int) : zCD := (c.1, uI c.2.1 a c.2.2, c.2.2)
def zf1 (c : zCD) (q : Int × Int) : zCD := if q.1 = 29 ∨ q.1 = 30 then zpt c q.2 else zem c q.1 0
def zfl (l : Int) : zCD → zPL → zCD × zPL
  | c, [] => (c, [])
  | c, q :: p => if zbnd q.1 < l then (c, q :: p) else zfl l (zf1 c q) p
def zflA : zCD → zPL → zCD
  | c, [] => c
  | c, q :: p => zflA (zf1 c q) p
theorem flA_app : ∀ (Z Y : zPL) (c : zCD), zflA c (Z ++ Y) = zflA (zflA c Z) Y := by
  intro Z
  induction Z with
  | nil => intro Y c; rfl
  | cons q Z ih => intro Y c; exact ih Y (zf1 c q)
theorem fl_app {l : Int} {p : zPL} (hp : ∀ q t, p = q :: t → zbnd q.1 < l) : ∀ (Z : zPL) (c : zCD), (∀ q ∈ Z, l ≤ zbnd q.1) → zfl l c (Z ++ p) = (zflA c Z, p) := by
  intro Z
  induction Z with
  | nil =>
    intro c _
    show zfl l c p = (c, p)
    cases p with
    | nil => rfl
    | cons q t =>
      unfold zfl
      rw [if_pos (hp q t rfl)]
  | cons q Z ih =>
    intro c h
    have h1 := h q List.mem_cons_self
    show zfl l c (q :: (Z ++ p)) = (zflA (zf1 c q) Z, p)
    unfold zfl
    rw [if_neg (by omega)]
    exact ih (zf1 c q) (fun x hx => h x (List.mem_cons_of_mem _ hx))
abbrev zST : Type := Int × Bool × Int × Int × zCD × zPL × Int
def zinn : zPL → Int
  | [] => -1
  | q :: p => if 31 ≤ q.1 then q.1 else zinn p
def zcmd : zPL → Bool
  | [] => false
  | q :: p => if 20 ≤ q.1 ∧ q.1 ≤ 24 then zcmd p else decide (25 ≤ q.1 ∧ q.1 ≤ 27)
theorem inn_app : ∀ (Z p : zPL), (∀ q ∈ Z, q.1 < 31) → zinn (Z ++ p) = zinn p := by
  intro Z
  induction Z with
  | nil => intro p _; rfl
  | cons q Z ih =>
    intro p h
    have h1 := h q List.mem_cons_self
    show zinn (q :: (Z ++ p)) = zinn p
    conv => lhs; unfold zinn
    rw [if_neg (by omega)]
    exact ih p (fun x hx => h x (List.mem_cons_of_mem _ hx))
theorem cmd_app : ∀ (Z p : zPL), (∀ q ∈ Z, 20 ≤ q.1 ∧ q.1 ≤ 24) → zcmd (Z ++ p) = zcmd p := by
  intro Z
  induction Z with
  | nil => intro p _; rfl
  | cons q Z ih =>
    intro p h
    have h1 := h q List.mem_cons_self
    show zcmd (q :: (Z ++ p)) = zcmd p
    conv => lhs; unfold zcmd
    rw [if_pos h1]
    exact ih p (fun x hx => h x (List.mem_cons_of_mem _ hx))
def smOb (o t i v : Int) (c : zCD) (p : zPL) (d : Int) : zST := if d < 8 then (t, false, i + 1, v, c, (o, 0) :: p, d + 1) else (t, true, i, v, c, p, d)
def smPt (lw : Bool) (tk : Int → Int) (i v : Int) (c : zCD) (p : zPL) (d : Int) : zST :=
  if tk i = 1091 then smOb 32 1 i v c p d
  else if (lfR lw tk i v).1 = true then (3, false, (lfR lw tk i v).2.1, (lfR lw tk i v).2.2.1, zem c (lfR lw tk i v).2.2.2.2.1 (lfR lw tk i v).2.2.2.2.2, p, d)
  else (3, true, (lfR lw tk i v).2.1, v, c, p, d)
def zmF (lw test : Bool) (tk : Int → Int) (t i v : Int) (c : zCD) (p : zPL) (d : Int) : zST :=
  if t = 0 then
    if tk i = 27 then (0, false, i + 1, v, c, (28, 0) :: p, d)
    else if tk i = 1040 then smOb 31 0 i v c p d
    else smPt lw tk i v c p d
  else if t = 1 then smPt lw tk i v c p d
  else if t = 3 then
    if ¬ ordOf (tk i) = -1 then (1, false, i + 1, v, (zfl (zbnd (ordOf (tk i) + 13)) c p).1, (ordOf (tk i) + 13, 0) :: (zfl (zbnd (ordOf (tk i) + 13)) c p).2, d)
    else if zinn p = 32 then
      if tk i = 1093 then (3, false, i + 1, v, (zfl 5 c p).1, (zfl 5 c p).2.tail, d - 1) else (3, true, i, v, c, p, d)
    else if zinn p = -1 ∧ test = false then (4, false, i, v, c, p, d)
    else if zcmd p = true then (2, false, i, v, c, p, d)
    else if relOf (tk i) = -1 then (1, true, i, v, c, p, d)
    else (1, false, i + 1, v, (zfl 5 c p).1, (relOf (tk i) + 13, 0) :: (zfl 5 c p).2, d)
  else
    if tk i = 26 then (0, false, i + 1, v, zem (zfl 2 c p).1 29 0, (29, (zfl 2 c p).1.2.2) :: (zfl 2 c p).2, d)
    else if tk i = 25 then (0, false, i + 1, v, zem (zfl 1 c p).1 30 0, (30, (zfl 1 c p).1.2.2) :: (zfl 1 c p).2, d)
    else if zinn p = -1 then (4, false, i, v, c, p, d)
    else if tk i = 1041 then (2, false, i + 1, v, (zfl 1 c p).1, (zfl 1 c p).2.tail, d - 1)
    else (2, true, i, v, c, p, d)
def smG (lw test : Bool) (tk : Int → Int) : Nat → zST → zST
  | 0, s => s
  | n + 1, s => if s.2.1 = true ∨ s.1 = 4 then s else smG lw test tk n (zmF lw test tk s.1 s.2.2.1 s.2.2.2.1 s.2.2.2.2.1 s.2.2.2.2.2.1 s.2.2.2.2.2.2)
theorem smG_stop {lw test : Bool} {tk : Int → Int} {s : zST} (h : s.2.1 = true ∨ s.1 = 4) : ∀ n, smG lw test tk n s = s := by
  intro n
  cases n with
  | zero => rfl
  | succ n => unfold smG; rw [if_pos h]
theorem smG_s {lw test : Bool} {tk : Int → Int} {n : Nat} {s : zST} : smG lw test tk (n + 1) s = if s.2.1 = true ∨ s.1 = 4 then s else smG lw test tk n (zmF lw test tk s.1 s.2.2.1 s.2.2.2.1 s.2.2.2.2.1 s.2.2.2.2.2.1 s.2.2.2.2.2.2) := rfl
theorem smG_add {lw test : Bool} {tk : Int → Int} : ∀ (n m : Nat) (s : zST), smG lw test tk (n + m) s = smG lw test tk m (smG lw test tk n s) := by
  intro n
  induction n with
  | zero => intro m s; rw [Nat.zero_add]; rfl
  | succ n ih =>
    intro m s
    rw [show n + 1 + m = (n + m) + 1 by omega, smG_s, smG_s]
    by_cases h : s.2.1 = true ∨ s.1 = 4
    · rw [if_pos h, if_pos h]; exact (smG_stop h m).symm
    · rw [if_neg h, if_neg h]; exact ih m _
def zGO (lw test : Bool) (tk : Int → Int) (s s' : zST) : Prop := ∃ n, smG lw test tk n s = s'
theorem zGO.rf {lw test : Bool} {tk : Int → Int} {s : zST} : zGO lw test tk s s := ⟨0, rfl⟩
theorem zGO.tr {lw test : Bool} {tk : Int → Int} {s s' s'' : zST} (a : zGO lw test tk s s') (b : zGO lw test tk s' s'') : zGO lw test tk s s'' := by
  obtain ⟨n, ha⟩ := a
  obtain ⟨m, hb⟩ := b
  exact ⟨n + m, by rw [smG_add, ha, hb]⟩
theorem zGO.st {lw test : Bool} {tk : Int → Int} {t i v : Int} {c : zCD} {p : zPL} {d : Int} {s' : zST} (ht : ¬ t = 4) (h : zmF lw test tk t i v c p d = s') : zGO lw test tk (t, false, i, v, c, p, d) s' := by
  refine ⟨1, ?_⟩
  unfold smG
  rw [if_neg (by intro z; rcases z with z | z; cases z; exact ht z)]
  exact h
def zGB (lw test : Bool) (tk : Int → Int) (s : zST) (i : Int) : Prop := ∃ s', zGO lw test tk s s' ∧ s'.2.1 = true ∧ s'.2.2.1 = i
theorem zGO.bd {lw test : Bool} {tk : Int → Int} {s s' : zST} {i : Int} (a : zGO lw test tk s s') (b : zGB lw test tk s' i) : zGB lw test tk s i := by
  obtain ⟨s2, h1, h2, h3⟩ := b
  exact ⟨s2, a.tr h1, h2, h3⟩
abbrev zRP (lw : Bool) (c : zCD) (s e : Int) (D : zDT) (L : Int) : Prop := zRR lw c.1 c.2.1 s e D L
/-- what lies below stays -/
def zEX (c c' : zCD) : Prop := c.2.2 ≤ c'.2.2 ∧ (∀ j : Int, j < c.2.2 → c'.1 j = c.1 j) ∧ ∀ j : Int, j < c.2.2 → c'.2.1 j = c.2.1 j
theorem zEX.rf {c : zCD} : zEX c c := ⟨Int.le_refl _, fun _ _ => rfl, fun _ _ => rfl⟩
theorem zEX.tr {c c' c'' : zCD} (a : zEX c c') (b : zEX c' c'') : zEX c c'' := ⟨Int.le_trans a.1 b.1, fun j h => (b.2.1 j (Int.lt_of_lt_of_le h a.1)).trans (a.2.1 j h), fun j h => (b.2.2 j (Int.lt_of_lt_of_le h a.1)).trans (a.2.2 j h)⟩
theorem zEX.em {c : zCD} {o a : Int} : zEX c (zem c o a) := ⟨by show c.2.2 ≤ c.2.2 + 1; omega, fun j h => if_neg (by omega), fun j h => if_neg (by omega)⟩
theorem zEX.rp {lw : Bool} {c c' : zCD} {s e : Int} {D : zDT} {L : Int} (x : zEX c c') (he : e ≤ c.2.2) (h : zRP lw c s e D L) : zRP lw c' s e D L := h.cg (fun j _ j1 => x.2.1 j (by omega)) (fun j _ j1 => x.2.2 j (by omega))
theorem em_op {c : zCD} {o a : Int} : (zem c o a).1 c.2.2 = o := if_pos rfl
theorem em_ar {c : zCD} {o a : Int} : (zem c o a).2.1 c.2.2 = a := if_pos rfl
theorem em_n {c : zCD} {o a : Int} : (zem c o a).2.2 = c.2.2 + 1 := rfl
/-! TEXTS: the machine reads what the recursion reads: sums -/
theorem bnd_ar {o : Int} (h0 : 20 ≤ o) (h1 : o ≤ 24) : 5 ≤ zbnd o := by
  unfold zbnd
  rw [if_neg (by omega), if_neg (by omega), if_neg (by omega), if_neg (by omega), if_neg (by omega)]
  split <;> decide
theorem bnd_t {o : Int} (h0 : 22 ≤ o) (h1 : o ≤ 24) : zbnd o = 6 := by
  unfold zbnd
  rw [if_neg (by omega), if_neg (by omega), if_neg (by omega), if_neg (by omega), if_neg (by omega), if_pos h0]
theorem bnd_p {o : Int} (h0 : 20 ≤ o) (h1 : o ≤ 21) : zbnd o = 5 := by
  unfold zbnd
  rw [if_neg (by omega), if_neg (by omega), if_neg (by omega), if_neg (by omega), if_neg (by omega), if_neg (by omega)]
theorem bnd_hi {o : Int} (h0 : 25 ≤ o) : zbnd o ≤ 4 := by
  unfold zbnd
  split
  · decide
  · split
    · decide
    · split
      · decide
      · split
        · decide
        · omega
theorem bnd_v {o : Int} (h0 : 29 ≤ o) : zbnd o ≤ 2 := by
  unfold zbnd
  split
  · decide
  · split
    · decide
    · split
      · decide
      · omega
theorem f1_em {c : zCD} {o a : Int} (h : ¬ (o = 29 ∨ o = 30)) : zf1 c (o, a) = zem c o 0 := if_neg h
theorem f1_pt {c : zCD} {o a : Int} (h : o = 29 ∨ o = 30) : zf1 c (o, a) = zpt c a := if_pos h
/-- what a part's reading by the machine is -/
def zOP (lw test : Bool) (tk : Int → Int) (part : Int → Int → zRT) (d : Int) : Prop := ∀ (t i v : Int) (c : zCD) (p : zPL), (t = 1 ∨ (t = 0 ∧ ¬ tk i = 27 ∧ ¬ tk i = 1040)) → 0 ≤ i → i ≤ 400 →
  ((part i v).1 = true → ∃ c', zGO lw test tk (t, false, i, v, c, p, d) (3, false, (part i v).2.1, (part i v).2.2.1, c', p, d) ∧ zEX c c' ∧ zRP lw c' c.2.2 c'.2.2 (part i v).2.2.2 ((part i v).2.2.1 - v)) ∧ ((part i v).1 = false → zGB lw test tk (t, false, i, v, c, p, d) (part i v).2.1)
def zOS (lw test : Bool) (tk : Int → Int) (sum : Int → Int → zRT) (d : Int) : Prop := ∀ (t i v : Int) (c : zCD) (p : zPL), (∀ q u, p = q :: u → 25 ≤ q.1) → (t = 1 ∨ (t = 0 ∧ ¬ tk i = 27 ∧ ¬ tk i = 1040)) → 1 ≤ i → i ≤ 400 →
  ((sum i v).1 = true → ordOf (tk (sum i v).2.1) = -1 ∧ ∃ (c' : zCD) (Z : zPL), zGO lw test tk (t, false, i, v, c, p, d) (3, false, (sum i v).2.1, (sum i v).2.2.1, c', Z ++ p, d) ∧ (∀ q ∈ Z, 20 ≤ q.1 ∧ q.1 ≤ 24) ∧ zEX c (zflA c' Z) ∧ zRP lw (zflA c' Z) c.2.2 (zflA c' Z).2.2 (sum i v).2.2.2 ((sum i v).2.2.1 - v)) ∧ ((sum i v).1 = false → zGB lw test tk (t, false, i, v, c, p, d) (sum i v).2.1)
def zWS (lw : Bool) (c1 : zCD) (n0 v0 v : Int) (w : Option (Int × zDT)) (P : zDT) (Zw : zPL) : Prop := (w = none ∧ Zw = [] ∧ zRP lw c1 n0 c1.2.2 P (v - v0)) ∨ ∃ (o : Int) (a : zDT) (m La : Int), w = some (o, a) ∧ (7 ≤ o ∧ o ≤ 8) ∧ Zw = [(o + 13, 0)] ∧ zRP lw c1 n0 m a La ∧ zRP lw c1 m c1.2.2 P (v - v0 - La)
theorem WS_fl {lw : Bool} {c1 : zCD} {n0 v0 v : Int} {w : Option (Int × zDT)} {P : zDT} {Zw : zPL} (h : zWS lw c1 n0 v0 v w P Zw) : zRP lw (zflA c1 Zw) n0 (zflA c1 Zw).2.2 (zcmB w P) (v - v0) ∧ zEX c1 (zflA c1 Zw) := by
  rcases h with ⟨rfl, rfl, h⟩ | ⟨o, a, m, La, rfl, ho, rfl, ha, hP⟩
  · exact ⟨h, zEX.rf⟩
  · have e : zflA c1 [(o + 13, 0)] = zem c1 (o + 13) 0 := f1_em (by omega)
    rw [e]
    have x : zEX c1 (zem c1 (o + 13) 0) := zEX.em
    have l1 := hP.2.1
    have := RR_bin (x.rp (Int.le_of_lt l1) ha) (x.rp (Int.le_refl _) hP) ho.1 (by omega) em_op
    rw [show La + (v - v0 - La) = v - v0 by omega] at this
    exact ⟨this, x⟩
theorem sm_sum {lw test : Bool} {tk : Int → Int} (HT : ∀ j : Int, 400 ≤ j → tk j = 29) {part : Int → Int → zRT} {d : Int} (hm : ∀ i v : Int, 0 ≤ i → i ≤ 400 → zMO i v (part i v)) (hP : zOP lw test tk part d) {pp : zPL} (hpp : ∀ q u, pp = q :: u → 25 ≤ q.1) {cc : zCD} {v0 : Int} : ∀ (n : Nat) (w : Option (Int × zDT)) (P : zDT) (i v : Int) (c : zCD) (Zt Zw : zPL), 402 ≤ (n : Int) + i → 0 ≤ i → i ≤ 400 → (∀ q ∈ Zt, 22 ≤ q.1 ∧ q.1 ≤ 24) → zWS lw (zflA c Zt) cc.2.2 v0 v w P Zw → zEX cc (zflA c Zt) →
    (((rdSm part tk n w P i v).1 = true → ordOf (tk (rdSm part tk n w P i v).2.1) = -1 ∧ ∃ (c' : zCD) (Z : zPL), zGO lw test tk (3, false, i, v, c, Zt ++ (Zw ++ pp), d) (3, false, (rdSm part tk n w P i v).2.1, (rdSm part tk n w P i v).2.2.1, c', Z ++ pp, d) ∧ (∀ q ∈ Z, 20 ≤ q.1 ∧ q.1 ≤ 24) ∧ zEX cc (zflA c' Z) ∧ zRP lw (zflA c' Z) cc.2.2 (zflA c' Z).2.2 (rdSm part tk n w P i v).2.2.2 ((rdSm part tk n w P i v).2.2.1 - v0)) ∧ ((rdSm part tk n w P i v).1 = false → zGB lw test tk (3, false, i, v, c, Zt ++ (Zw ++ pp), d) (rdSm part tk n w P i v).2.1)) := by
  intro n
  induction n with
  | zero => intro w P i v c Zt Zw h i0 i1; omega
  | succ n ih =>
    intro w P i v c Zt Zw h i0 i1 ht hw hx
    have wf := WS_fl hw
    have hZw : ∀ q ∈ Zw, 20 ≤ q.1 ∧ q.1 ≤ 21 := by
      rcases hw with ⟨_, rfl, _⟩ | ⟨o, a, m, La, _, ho, rfl, _⟩
      · intro q hq; cases hq
      · intro q hq
        rw [List.mem_singleton] at hq
        rw [hq]; dsimp only; omega
    rw [rdSm_s]
    by_cases a : ordOf (tk i) = -1
    · rw [if_pos a]
      refine ⟨fun _ => ⟨a, c, Zt ++ Zw, by rw [List.append_assoc]; exact zGO.rf, fun q hq => ?_, by rw [flA_app]; exact hx.tr wf.2, by rw [flA_app]; exact wf.1⟩, fun z => by cases z⟩
      rcases List.mem_append.mp hq with h1 | h1
      · have := ht q h1; omega
      · have := hZw q h1; omega
    rw [if_neg a]
    have lt := tk_lt HT (ordOf_n a)
    have or := ordOf_r a
    have mo := hm (i + 1) v (by omega) (by omega)
    unfold zMO at mo
    generalize ho : ordOf (tk i) = o at *
    have st : ∀ (c2 : zCD) (p2 : zPL), zfl (zbnd (o + 13)) c (Zt ++ (Zw ++ pp)) = (c2, p2) → zGO lw test tk (3, false, i, v, c, Zt ++ (Zw ++ pp), d) (1, false, i + 1, v, c2, (o + 13, 0) :: p2, d) := fun c2 p2 e => by
      refine zGO.st (by decide) ?_
      unfold zmF
      rw [if_neg (by decide), if_neg (by decide), if_pos rfl, ho, if_pos a, e]
    have hZt5 : ∀ q ∈ Zt, 6 ≤ zbnd q.1 := fun q hq => by rw [bnd_t (ht q hq).1 (ht q hq).2]; decide
    by_cases b9 : 9 ≤ o
    · have e6 : zbnd (o + 13) = 6 := bnd_t (by omega) (by omega)
      have ef : zfl (zbnd (o + 13)) c (Zt ++ (Zw ++ pp)) = (zflA c Zt, Zw ++ pp) := by
        rw [e6]
        refine fl_app (fun q u hq => ?_) Zt c hZt5
        cases Zw with
        | nil => have := bnd_hi (hpp q u hq); omega
        | cons z Zw =>
          have h1 := hZw z List.mem_cons_self
          have h2 : z = q := (List.cons.inj hq).1
          rw [← h2, bnd_p h1.1 h1.2]; decide
      have g1 := st _ _ ef
      have hp := hP 1 (i + 1) v (zflA c Zt) ((o + 13, 0) :: (Zw ++ pp)) (Or.inl rfl) (by omega) (by omega)
      by_cases b : (part (i + 1) v).1 = false
      · rw [if_pos b]
        exact ⟨fun z => (by rw [b] at z; cases z), fun _ => g1.bd (hp.2 b)⟩
      rw [if_neg b, if_pos b9]
      obtain ⟨c2, g2, x2, r2⟩ := hp.1 (zbF b)
      have mi := mo.2.1 (zbF b)
      have e2 : zflA c2 [(o + 13, 0)] = zem c2 (o + 13) 0 := f1_em (by omega)
      have x3 : zEX c2 (zem c2 (o + 13) 0) := zEX.em
      have x13 := x2.tr x3
      have q := ih w (dBin o P (part (i + 1) v).2.2.2) (part (i + 1) v).2.1 (part (i + 1) v).2.2.1 c2 [(o + 13, 0)] Zw (by omega) (by omega) (by omega) (fun q hq => by rw [List.mem_singleton] at hq; rw [hq]; dsimp only; omega) (by
        rw [e2]
        rcases hw with ⟨rfl, rfl, hw⟩ | ⟨o2, a2, m, La, rfl, ho2, rfl, ha, hPP⟩
        · left
          refine ⟨rfl, rfl, ?_⟩
          have := RR_bin (x13.rp (Int.le_refl _) hw) (x3.rp (Int.le_refl _) r2) or.1 (by omega) em_op
          rw [show v - v0 + ((part (i + 1) v).2.2.1 - v) = (part (i + 1) v).2.2.1 - v0 by omega] at this
          exact this
        · right
          refine ⟨o2, a2, m, La, rfl, ho2, rfl, x13.rp (Int.le_of_lt hPP.2.1) ha, ?_⟩
          have := RR_bin (x13.rp (Int.le_refl _) hPP) (x3.rp (Int.le_refl _) r2) or.1 (by omega) em_op
          rw [show v - v0 - La + ((part (i + 1) v).2.2.1 - v) = (part (i + 1) v).2.2.1 - v0 - La by omega] at this
          exact this) (by rw [e2]; exact hx.tr x13)
      refine ⟨fun z => ?_, fun z => (g1.tr g2).bd (q.2 z)⟩
      obtain ⟨y1, c3, Z3, y2, y3⟩ := q.1 z
      exact ⟨y1, c3, Z3, (g1.tr g2).tr y2, y3⟩
    · have e5 : zbnd (o + 13) = 5 := bnd_p (by omega) (by omega)
      have ef : zfl (zbnd (o + 13)) c (Zt ++ (Zw ++ pp)) = (zflA (zflA c Zt) Zw, pp) := by
        rw [e5, ← List.append_assoc, ← flA_app]
        refine fl_app (fun q u hq => ?_) (Zt ++ Zw) c (fun q hq => ?_)
        · have := bnd_hi (hpp q u hq); omega
        · rcases List.mem_append.mp hq with h1 | h1
          · have := hZt5 q h1; omega
          · have := hZw q h1
            exact bnd_ar this.1 (by omega)
      have g1 := st _ _ ef
      have hp := hP 1 (i + 1) v (zflA (zflA c Zt) Zw) ((o + 13, 0) :: pp) (Or.inl rfl) (by omega) (by omega)
      by_cases b : (part (i + 1) v).1 = false
      · rw [if_pos b]
        exact ⟨fun z => (by rw [b] at z; cases z), fun _ => g1.bd (hp.2 b)⟩
      rw [if_neg b, if_neg b9]
      obtain ⟨c2, g2, x2, r2⟩ := hp.1 (zbF b)
      have mi := mo.2.1 (zbF b)
      have q := ih (some (o, zcmB w P)) (part (i + 1) v).2.2.2 (part (i + 1) v).2.1 (part (i + 1) v).2.2.1 c2 [] [(o + 13, 0)] (by omega) (by omega) (by omega) (fun q hq => by cases hq) (by
        right
        refine ⟨o, zcmB w P, (zflA (zflA c Zt) Zw).2.2, v - v0, rfl, by omega, rfl, x2.rp (Int.le_refl _) wf.1, ?_⟩
        show zRP lw c2 _ c2.2.2 _ _
        rw [show (part (i + 1) v).2.2.1 - v0 - (v - v0) = (part (i + 1) v).2.2.1 - v by omega]
        exact r2) ((hx.tr wf.2).tr x2)
      refine ⟨fun z => ?_, fun z => (g1.tr g2).bd (q.2 z)⟩
      obtain ⟨y1, c3, Z3, y2, y3⟩ := q.1 z
      exact ⟨y1, c3, Z3, (g1.tr g2).tr y2, y3⟩
/-! TEXTS: the machine reads what the recursion reads: tests, and all of it -/
def dNots : Nat → zDT → zDT
  | 0, D => D
  | k + 1, D => dNots k (dNot D)
theorem dNot2 (D : zDT) : dNot (dNot D) = D := by
  funext f
  unfold dNot
  cases D f with
  | none => rfl
  | some x => show some (1 - (1 - x)) = some x; rw [show 1 - (1 - x) = x by omega]
theorem dNots_eq : ∀ (k : Nat) (D : zDT), dNots k D = if k % 2 = 1 then dNot D else D := by
  intro k
  induction k with
  | zero => intro D; rfl
  | succ k ih =>
    intro D
    show dNots k (dNot D) = _
    rw [ih]
    by_cases h : k % 2 = 1
    · rw [if_pos h, if_neg (by omega), dNot2]
    · rw [if_neg h, if_pos (by omega)]
theorem tn_D (k : Nat) (r : zRT) : (ztn k r).2.2.2 = dNots k r.2.2.2 ∧ (ztn k r).1 = r.1 ∧ (ztn k r).2.1 = r.2.1 ∧ (ztn k r).2.2.1 = r.2.2.1 := by
  rw [dNots_eq]
  unfold ztn
  split
  · exact ⟨rfl, rfl, rfl, rfl⟩
  · exact ⟨rfl, rfl, rfl, rfl⟩
theorem TB_nots : ∀ (k : Nat) (D : zDT), zTB D → zTB (dNots k D) := by
  intro k
  induction k with
  | zero => intro D h; exact h
  | succ k ih => intro D h; exact ih (dNot D) (TB_not h)
abbrev nts (k : Nat) : zPL := List.replicate k (28, 0)
theorem nts_s (k : Nat) (p : zPL) : nts k ++ ((28, 0) :: p) = nts (k + 1) ++ p := by
  induction k with
  | zero => rfl
  | succ k ih =>
    show (28, 0) :: (nts k ++ ((28, 0) :: p)) = (28, 0) :: (nts (k + 1) ++ p)
    rw [ih]
theorem nts_in {k : Nat} {q : Int × Int} (h : q ∈ nts k) : q.1 = 28 := by rw [List.eq_of_mem_replicate h]
theorem nots_fl {lw : Bool} {n0 L : Int} : ∀ (k : Nat) (c : zCD) (D : zDT), zRP lw c n0 c.2.2 D L → zRP lw (zflA c (nts k)) n0 (zflA c (nts k)).2.2 (dNots k D) L ∧ zEX c (zflA c (nts k)) := by
  intro k
  induction k with
  | zero => intro c D h; exact ⟨h, zEX.rf⟩
  | succ k ih =>
    intro c D h
    have e : zflA c (nts (k + 1)) = zflA (zem c 28 0) (nts k) := by
      show zflA (zf1 c (28, 0)) (nts k) = _
      rw [f1_em (by decide)]
    have x : zEX c (zem c 28 0) := zEX.em
    have q := ih (zem c 28 0) (dNot D) (RR_not (x.rp (Int.le_refl _) h) em_op)
    rw [e]
    exact ⟨q.1, x.tr q.2⟩
theorem go_nots {lw test : Bool} {tk : Int → Int} {v d : Int} {c : zCD} : ∀ (n : Nat) (i : Int) (p : zPL), zGO lw test tk (0, false, i, v, c, p, d) (0, false, i + (ntF tk n i : Int), v, c, nts (ntF tk n i) ++ p, d) := by
  intro n
  induction n with
  | zero => intro i p; show zGO lw test tk _ (0, false, i + 0, v, c, p, d); rw [Int.add_zero]; exact zGO.rf
  | succ n ih =>
    intro i p
    unfold ntF
    by_cases a : tk i = 27
    · rw [if_pos a]
      have g : zGO lw test tk (0, false, i, v, c, p, d) (0, false, i + 1, v, c, (28, 0) :: p, d) := zGO.st (by decide) (by unfold zmF; rw [if_pos rfl, if_pos a])
      have q := g.tr (ih (i + 1) ((28, 0) :: p))
      rw [nts_s, show i + 1 + (ntF tk n (i + 1) : Int) = i + ((ntF tk n (i + 1) + 1 : Nat) : Int) by omega] at q
      exact q
    · rw [if_neg a]
      show zGO lw test tk _ (0, false, i + 0, v, c, p, d)
      rw [Int.add_zero]; exact zGO.rf
/-- what a plain test's, a test's reading by the machine is -/
def zOL (lw test : Bool) (tk : Int → Int) (plain : Int → Int → zRT) (d : Int) : Prop := ∀ (i v : Int) (c : zCD) (p : zPL), (∀ q u, p = q :: u → 29 ≤ q.1) → ¬ zinn p = 32 → (zinn p = -1 → test = true) → 1 ≤ i → i ≤ 400 →
  ((plain i v).1 = true → ∃ (c' : zCD) (Z : zPL), zGO lw test tk (0, false, i, v, c, p, d) (2, false, (plain i v).2.1, (plain i v).2.2.1, c', Z ++ p, d) ∧ (∀ q ∈ Z, 20 ≤ q.1 ∧ q.1 ≤ 28) ∧ zEX c (zflA c' Z) ∧ zRP lw (zflA c' Z) c.2.2 (zflA c' Z).2.2 (plain i v).2.2.2 ((plain i v).2.2.1 - v) ∧ zTB (plain i v).2.2.2) ∧ ((plain i v).1 = false → zGB lw test tk (0, false, i, v, c, p, d) (plain i v).2.1)
def zOT (lw test : Bool) (tk : Int → Int) (tst : Int → Int → zRT) (d : Int) : Prop := ∀ (i v : Int) (c : zCD) (p : zPL), (∀ q u, p = q :: u → 31 ≤ q.1) → ¬ zinn p = 32 → (zinn p = -1 → test = true) → 1 ≤ i → i ≤ 400 →
  ((tst i v).1 = true → (¬ tk (tst i v).2.1 = 25 ∧ ¬ tk (tst i v).2.1 = 26) ∧ ∃ (c' : zCD) (Z : zPL), zGO lw test tk (0, false, i, v, c, p, d) (2, false, (tst i v).2.1, (tst i v).2.2.1, c', Z ++ p, d) ∧ (∀ q ∈ Z, 20 ≤ q.1 ∧ q.1 ≤ 30) ∧ zEX c (zflA c' Z) ∧ zRP lw (zflA c' Z) c.2.2 (zflA c' Z).2.2 (tst i v).2.2.2 ((tst i v).2.2.1 - v) ∧ zTB (tst i v).2.2.2) ∧ ((tst i v).1 = false → zGB lw test tk (0, false, i, v, c, p, d) (tst i v).2.1)
def zWT (lw : Bool) (c1 : zCD) (n0 v0 v : Int) (w : Option zDT) (P : zDT) (Zo : zPL) : Prop := zTB P ∧ ((w = none ∧ Zo = [] ∧ zRP lw c1 n0 c1.2.2 P (v - v0)) ∨ ∃ (a : zDT) (m La : Int), w = some a ∧ Zo = [(30, m)] ∧ zTB a ∧ zRP lw c1 n0 m a La ∧ c1.1 m = 30 ∧ zRP lw c1 (m + 1) c1.2.2 P (v - v0 - La))
theorem pt_ar {c : zCD} {a : Int} : (zpt c a).2.1 a = c.2.2 := if_pos rfl
theorem pt_ne {c : zCD} {a j : Int} (h : ¬ j = a) : (zpt c a).2.1 j = c.2.1 j := if_neg h
theorem pt_rp {lw : Bool} {c : zCD} {a s e L : Int} {D : zDT} (h : zRP lw c s e D L) (ha : a < s ∨ e ≤ a) : zRP lw (zpt c a) s e D L := h.cg (fun _ _ _ => rfl) (fun j j0 j1 => pt_ne (by omega))
theorem pt_ex {cc c : zCD} {a : Int} (x : zEX cc c) (h : cc.2.2 ≤ a) : zEX cc (zpt c a) := ⟨x.1, x.2.1, fun j hj => (pt_ne (by omega)).trans (x.2.2 j hj)⟩
theorem WT_fl {lw : Bool} {cc c1 : zCD} {v0 v : Int} {w : Option zDT} {P : zDT} {Zo : zPL} (h : zWT lw c1 cc.2.2 v0 v w P Zo) (x : zEX cc c1) : zRP lw (zflA c1 Zo) cc.2.2 (zflA c1 Zo).2.2 (zcmO w P) (v - v0) ∧ zEX cc (zflA c1 Zo) ∧ zTB (zcmO w P) ∧ (zflA c1 Zo).2.2 = c1.2.2 := by
  obtain ⟨tb, h⟩ := h
  rcases h with ⟨rfl, rfl, h⟩ | ⟨a, m, La, rfl, rfl, ta, ha, hm, hP⟩
  · exact ⟨h, x, tb, rfl⟩
  · have e : zflA c1 [(30, m)] = zpt c1 m := f1_pt (c := c1) (o := 30) (a := m) (by decide)
    rw [e]
    have l1 := hP.2.1
    have l2 := ha.2.1
    have := RR_or (pt_rp ha (a := m) (Or.inr (Int.le_refl _))) hm pt_ar (pt_rp hP (a := m) (Or.inl (by omega)))
    rw [show La + (v - v0 - La) = v - v0 by omega] at this
    exact ⟨this, pt_ex x (by omega), TB_or ta tb, rfl⟩
theorem bnd_ge2 {o : Int} (h0 : 20 ≤ o) (h1 : o ≤ 29) : 2 ≤ zbnd o := by
  unfold zbnd
  rw [if_neg (by omega), if_neg (by omega)]
  split
  · decide
  · split
    · decide
    · split
      · decide
      · split <;> decide
theorem bnd_ge1 {o : Int} (h0 : 20 ≤ o) (h1 : o ≤ 30) : 1 ≤ zbnd o := by
  by_cases h : o = 30
  · rw [h]; decide
  · have := bnd_ge2 h0 (by omega); omega
theorem bnd_0 {o : Int} (h : 31 ≤ o) : zbnd o = 0 := if_pos h
theorem sm_test {lw test : Bool} {tk : Int → Int} (HT : ∀ j : Int, 400 ≤ j → tk j = 29) {plain : Int → Int → zRT} {d : Int} (hm : ∀ i v : Int, 0 ≤ i → i ≤ 400 → zMO i v (plain i v)) (hP : zOL lw test tk plain d) {pp : zPL} (hpp : ∀ q u, pp = q :: u → 31 ≤ q.1) (hin : ¬ zinn pp = 32) (hts : zinn pp = -1 → test = true) {cc : zCD} {v0 : Int} : ∀ (n : Nat) (w : Option zDT) (P : zDT) (i v : Int) (c : zCD) (Z' Zo : zPL), 402 ≤ (n : Int) + i → 1 ≤ i → i ≤ 400 → (∀ q ∈ Z', 20 ≤ q.1 ∧ q.1 ≤ 29) → zWT lw (zflA c Z') cc.2.2 v0 v w P Zo → zEX cc (zflA c Z') →
    (((rdTs plain tk n w P i v).1 = true → (¬ tk (rdTs plain tk n w P i v).2.1 = 25 ∧ ¬ tk (rdTs plain tk n w P i v).2.1 = 26) ∧ ∃ (c' : zCD) (Z : zPL), zGO lw test tk (2, false, i, v, c, Z' ++ (Zo ++ pp), d) (2, false, (rdTs plain tk n w P i v).2.1, (rdTs plain tk n w P i v).2.2.1, c', Z ++ pp, d) ∧ (∀ q ∈ Z, 20 ≤ q.1 ∧ q.1 ≤ 30) ∧ zEX cc (zflA c' Z) ∧ zRP lw (zflA c' Z) cc.2.2 (zflA c' Z).2.2 (rdTs plain tk n w P i v).2.2.2 ((rdTs plain tk n w P i v).2.2.1 - v0) ∧ zTB (rdTs plain tk n w P i v).2.2.2) ∧ ((rdTs plain tk n w P i v).1 = false → zGB lw test tk (2, false, i, v, c, Z' ++ (Zo ++ pp), d) (rdTs plain tk n w P i v).2.1)) := by
  intro n
  induction n with
  | zero => intro w P i v c Z' Zo h i0 i1; omega
  | succ n ih =>
    intro w P i v c Z' Zo h i0 i1 ht hw hx
    have wf := WT_fl hw hx
    have hZo : ∀ q ∈ Zo, q.1 = 30 := by
      rcases hw.2 with ⟨_, rfl, _⟩ | ⟨a, m, La, _, rfl, _⟩
      · intro q hq; cases hq
      · intro q hq
        rw [List.mem_singleton] at hq
        rw [hq]
    have inZo : ∀ p : zPL, zinn (Zo ++ p) = zinn p := fun p => inn_app Zo p (fun q hq => by rw [hZo q hq]; decide)
    rw [rdTs_s]
    by_cases a : tk i = 26
    · rw [if_pos a]
      have lt := tk_lt HT (i := i) (by omega)
      have mo := hm (i + 1) v (by omega) (by omega)
      unfold zMO at mo
      have ef : zfl 2 c (Z' ++ (Zo ++ pp)) = (zflA c Z', Zo ++ pp) := by
        refine fl_app (fun q u hq => ?_) Z' c (fun q hq => bnd_ge2 (ht q hq).1 (ht q hq).2)
        cases Zo with
        | nil => rw [bnd_0 (hpp q u hq)]; decide
        | cons z Zo =>
          have h2 : z = q := (List.cons.inj hq).1
          rw [← h2, hZo z List.mem_cons_self]; decide
      have g1 : zGO lw test tk (2, false, i, v, c, Z' ++ (Zo ++ pp), d) (0, false, i + 1, v, zem (zflA c Z') 29 0, (29, (zflA c Z').2.2) :: (Zo ++ pp), d) := by
        refine zGO.st (by decide) ?_
        unfold zmF
        rw [if_neg (by decide), if_neg (by decide), if_neg (by decide), if_pos a, ef]
      generalize hc1 : zflA c Z' = c1 at *
      have hp := hP (i + 1) v (zem c1 29 0) ((29, c1.2.2) :: (Zo ++ pp)) (fun q u hq => by rw [← (List.cons.inj hq).1]; dsimp only; omega) (by show ¬ zinn (Zo ++ pp) = 32; rw [inZo]; exact hin) (by show zinn (Zo ++ pp) = -1 → _; rw [inZo]; exact hts) (by omega) (by omega)
      by_cases b : (plain (i + 1) v).1 = false
      · rw [if_pos b]
        exact ⟨fun z => (by rw [b] at z; cases z), fun _ => g1.bd (hp.2 b)⟩
      rw [if_neg b]
      obtain ⟨c3, Zp, g2, hZp, x2, r2, t2⟩ := hp.1 (zbF b)
      have mi := mo.2.1 (zbF b)
      have e5 : zflA c3 (Zp ++ [(29, c1.2.2)]) = zpt (zflA c3 Zp) c1.2.2 := by
        rw [flA_app]; exact f1_pt (c := zflA c3 Zp) (o := 29) (a := c1.2.2) (by decide)
      generalize hc4 : zflA c3 Zp = c4 at *
      have x1 : zEX c1 (zem c1 29 0) := zEX.em
      have x14 : zEX c1 c4 := x1.tr x2
      have o29 : c4.1 c1.2.2 = 29 := by
        rw [x2.2.1 c1.2.2 (by show c1.2.2 < c1.2.2 + 1; omega)]; exact em_op
      have nn : c1.2.2 + 1 ≤ c4.2.2 := x2.1
      have eq : (Zp ++ [(29, c1.2.2)]) ++ (Zo ++ pp) = Zp ++ ((29, c1.2.2) :: (Zo ++ pp)) := by rw [List.append_assoc]; rfl
      have q := ih w (dAnd P (plain (i + 1) v).2.2.2) (plain (i + 1) v).2.1 (plain (i + 1) v).2.2.1 c3 (Zp ++ [(29, c1.2.2)]) Zo (by omega) (by omega) (by omega) (fun q hq => by
        rcases List.mem_append.mp hq with h1 | h1
        · have := hZp q h1; omega
        · rw [List.mem_singleton] at h1; rw [h1]; dsimp only; omega) (by
        rw [e5]
        have tP := hw.1
        refine ⟨TB_and tP t2, ?_⟩
        have r2' : zRP lw (zpt c4 c1.2.2) (c1.2.2 + 1) c4.2.2 (plain (i + 1) v).2.2.2 ((plain (i + 1) v).2.2.1 - v) := pt_rp r2 (Or.inl (by omega))
        rcases hw.2 with ⟨rfl, rfl, hw2⟩ | ⟨a2, m, La, rfl, rfl, ta, ha, hmm, hPP⟩
        · left
          refine ⟨rfl, rfl, ?_⟩
          have := RR_and tP (pt_rp (x14.rp (Int.le_refl _) hw2) (Or.inr (Int.le_refl _))) o29 pt_ar r2'
          rw [show v - v0 + ((plain (i + 1) v).2.2.1 - v) = (plain (i + 1) v).2.2.1 - v0 by omega] at this
          exact this
        · right
          have l1 := hPP.2.1
          refine ⟨a2, m, La, rfl, rfl, ta, pt_rp (x14.rp (by omega) ha) (Or.inr (by omega)), (x14.2.1 m (by omega)).trans hmm, ?_⟩
          have := RR_and tP (pt_rp (x14.rp (Int.le_refl _) hPP) (Or.inr (Int.le_refl _))) o29 pt_ar r2'
          rw [show v - v0 - La + ((plain (i + 1) v).2.2.1 - v) = (plain (i + 1) v).2.2.1 - v0 - La by omega] at this
          exact this) (by rw [e5]; exact pt_ex (hx.tr x14) hx.1)
      rw [eq] at q
      refine ⟨fun z => ?_, fun z => (g1.tr g2).bd (q.2 z)⟩
      obtain ⟨y1, c5, Z5, y2, y3⟩ := q.1 z
      exact ⟨y1, c5, Z5, (g1.tr g2).tr y2, y3⟩
    rw [if_neg a]
    by_cases a5 : tk i = 25
    · rw [if_pos a5]
      have lt := tk_lt HT (i := i) (by omega)
      have mo := hm (i + 1) v (by omega) (by omega)
      unfold zMO at mo
      have ef : zfl 1 c (Z' ++ (Zo ++ pp)) = (zflA (zflA c Z') Zo, pp) := by
        rw [← List.append_assoc, ← flA_app]
        refine fl_app (fun q u hq => ?_) (Z' ++ Zo) c (fun q hq => ?_)
        · rw [bnd_0 (hpp q u hq)]; decide
        · rcases List.mem_append.mp hq with h1 | h1
          · have := ht q h1; exact bnd_ge1 this.1 (by omega)
          · rw [hZo q h1]; decide
      have g1 : zGO lw test tk (2, false, i, v, c, Z' ++ (Zo ++ pp), d) (0, false, i + 1, v, zem (zflA (zflA c Z') Zo) 30 0, (30, (zflA (zflA c Z') Zo).2.2) :: pp, d) := by
        refine zGO.st (by decide) ?_
        unfold zmF
        rw [if_neg (by decide), if_neg (by decide), if_neg (by decide), if_neg a, if_pos a5, ef]
      generalize hc1 : zflA (zflA c Z') Zo = c1 at *
      have hp := hP (i + 1) v (zem c1 30 0) ((30, c1.2.2) :: pp) (fun q u hq => by rw [← (List.cons.inj hq).1]; dsimp only; omega) hin hts (by omega) (by omega)
      by_cases b : (plain (i + 1) v).1 = false
      · rw [if_pos b]
        exact ⟨fun z => (by rw [b] at z; cases z), fun _ => g1.bd (hp.2 b)⟩
      rw [if_neg b]
      obtain ⟨c3, Zp, g2, hZp, x2, r2, t2⟩ := hp.1 (zbF b)
      have mi := mo.2.1 (zbF b)
      have x1 : zEX c1 (zem c1 30 0) := zEX.em
      have x14 := x1.tr x2
      have o30 : (zflA c3 Zp).1 c1.2.2 = 30 := by
        rw [x2.2.1 c1.2.2 (by show c1.2.2 < c1.2.2 + 1; omega)]; exact em_op
      have q := ih (some (zcmO w P)) (plain (i + 1) v).2.2.2 (plain (i + 1) v).2.1 (plain (i + 1) v).2.2.1 c3 Zp [(30, c1.2.2)] (by omega) (by omega) (by omega) (fun q hq => by have := hZp q hq; omega) ⟨t2, Or.inr ⟨zcmO w P, c1.2.2, v - v0, rfl, rfl, wf.2.2.1, x14.rp (Int.le_refl _) wf.1, o30, by
          rw [show (plain (i + 1) v).2.2.1 - v0 - (v - v0) = (plain (i + 1) v).2.2.1 - v by omega]
          exact r2⟩⟩ (wf.2.1.tr x14)
      refine ⟨fun z => ?_, fun z => (g1.tr g2).bd (q.2 z)⟩
      obtain ⟨y1, c5, Z5, y2, y3⟩ := q.1 z
      exact ⟨y1, c5, Z5, (g1.tr g2).tr y2, y3⟩
    rw [if_neg a5]
    refine ⟨fun _ => ⟨⟨a5, a⟩, c, Z' ++ Zo, by rw [List.append_assoc]; exact zGO.rf, fun q hq => ?_, by rw [flA_app]; exact wf.2.1, by rw [flA_app]; exact wf.1, wf.2.2.1⟩, fun z => by cases z⟩
    rcases List.mem_append.mp hq with h1 | h1
    · have := ht q h1; omega
    · rw [hZo q h1]; omega
/-! TEXTS: the machine reads what the recursion reads: together -/
theorem rd_s0 {lw : Bool} {tk : Int → Int} {fu : Nat} {d i v : Int} : zrd lw tk (fu + 1) 0 d i v = if (zrd lw tk fu 1 d i v).1 = false then zrd lw tk fu 1 d i v else rdTs (zrd lw tk fu 1 d) tk 400 none (zrd lw tk fu 1 d i v).2.2.2 (zrd lw tk fu 1 d i v).2.1 (zrd lw tk fu 1 d i v).2.2.1 := rfl
theorem rd_s1 {lw : Bool} {tk : Int → Int} {fu : Nat} {d i v : Int} : zrd lw tk (fu + 1) 1 d i v = ztn (ntF tk 400 i) (if tk (i + ntF tk 400 i) = 1040 then (if 8 ≤ d then (false, i + ntF tk 400 i, v, dNo) else zcl 1041 tk (zrd lw tk fu 0 (d + 1) (i + ntF tk 400 i + 1) v)) else rdCm (zrd lw tk fu 2 d) tk (i + ntF tk 400 i) v) := rfl
theorem rd_s2 {lw : Bool} {tk : Int → Int} {fu : Nat} {d i v : Int} : zrd lw tk (fu + 1) 2 d i v = if (zrd lw tk fu 3 d i v).1 = false then zrd lw tk fu 3 d i v else rdSm (zrd lw tk fu 3 d) tk 400 none (zrd lw tk fu 3 d i v).2.2.2 (zrd lw tk fu 3 d i v).2.1 (zrd lw tk fu 3 d i v).2.2.1 := rfl
theorem rd_s3 {lw : Bool} {tk : Int → Int} {fu : Nat} {d i v : Int} : zrd lw tk (fu + 1) 3 d i v = if tk i = 1091 then (if 8 ≤ d then (false, i, v, dNo) else zcl 1093 tk (zrd lw tk fu 2 (d + 1) (i + 1) v)) else ((lfR lw tk i v).1, (lfR lw tk i v).2.1, (lfR lw tk i v).2.2.1, dLf (lfR lw tk i v).2.2.2.1.1 (lfR lw tk i v).2.2.2.1.2) := rfl
theorem lfR_op {lw : Bool} {tk : Int → Int} {i v : Int} : (lfR lw tk i v).2.2.2.2.1 < 20 := by
  unfold lfR
  by_cases a : 50 ≤ v
  · rw [if_pos a]; (try dsimp only); omega
  rw [if_neg a]
  by_cases b : 2000 ≤ tk i ∧ tk i ≤ 3000
  · rw [if_pos b]; (try dsimp only); omega
  rw [if_neg b]
  by_cases c : lw = true
  · rw [if_pos c]
    by_cases e : 0 ≤ tk i ∧ tk i ≤ 7
    · rw [if_pos e]; dsimp only; split
      · omega
      · split <;> omega
    · rw [if_neg e]; (try dsimp only); omega
  rw [if_neg c]
  by_cases e : 7 ≤ tk i ∧ tk i ≤ 12
  · rw [if_pos e]; dsimp only; split <;> omega
  rw [if_neg e]
  by_cases g : 13 ≤ tk i ∧ tk i ≤ 14
  · rw [if_pos g]
    split
    · split
      · dsimp only; omega
      · (try dsimp only); omega
    · (try dsimp only); omega
  · rw [if_neg g]; (try dsimp only); omega
theorem lfR_v {lw : Bool} {tk : Int → Int} {i v : Int} (h : (lfR lw tk i v).1 = true) : (lfR lw tk i v).2.2.1 = v + 1 := by
  unfold lfR at h ⊢
  by_cases a : 50 ≤ v
  · rw [if_pos a] at h; cases h
  rw [if_neg a] at h ⊢
  by_cases b : 2000 ≤ tk i ∧ tk i ≤ 3000
  · rw [if_pos b]
  rw [if_neg b] at h ⊢
  by_cases c : lw = true
  · rw [if_pos c] at h ⊢
    by_cases e : 0 ≤ tk i ∧ tk i ≤ 7
    · rw [if_pos e]
    · rw [if_neg e] at h; cases h
  rw [if_neg c] at h ⊢
  by_cases e : 7 ≤ tk i ∧ tk i ≤ 12
  · rw [if_pos e]
  rw [if_neg e] at h ⊢
  by_cases g : 13 ≤ tk i ∧ tk i ≤ 14
  · rw [if_pos g] at h ⊢
    by_cases h1 : 0 ≤ tk (i + 1) - 2000 ∧ tk (i + 1) - 2000 ≤ 4
    · rw [if_pos h1] at h ⊢
      by_cases h2 : 0 ≤ tk (i + 2) - 2000 ∧ tk (i + 2) - 2000 ≤ 11
      · rw [if_pos h2]
      · rw [if_neg h2] at h; cases h
    · rw [if_neg h1] at h; cases h
  · rw [if_neg g] at h; cases h
theorem sm_pt {lw test : Bool} {tk : Int → Int} {t i v : Int} {c : zCD} {p : zPL} {d : Int} (ht : t = 1 ∨ (t = 0 ∧ ¬ tk i = 27 ∧ ¬ tk i = 1040)) : zGO lw test tk (t, false, i, v, c, p, d) (smPt lw tk i v c p d) := by
  refine zGO.st (by omega) ?_
  unfold zmF
  rcases ht with rfl | ⟨rfl, h1, h2⟩
  · rw [if_neg (by decide), if_pos rfl]
  · rw [if_pos rfl, if_neg h1, if_neg h2]
theorem sm_part {lw test : Bool} {tk : Int → Int} (HT : ∀ j : Int, 400 ≤ j → tk j = 29) {fu : Nat} {d : Int} (d1 : d ≤ 8) (hS : d < 8 → zOS lw test tk (zrd lw tk fu 2 (d + 1)) (d + 1)) : zOP lw test tk (zrd lw tk (fu + 1) 3 d) d := by
  intro t i v c p ht i0 i1
  have g0 := sm_pt (test := test) (lw := lw) (v := v) (c := c) (p := p) (d := d) ht
  rw [rd_s3]
  unfold smPt at g0
  by_cases a : tk i = 1091
  · rw [if_pos a] at g0 ⊢
    have lt := tk_lt HT (i := i) (by omega)
    unfold smOb at g0
    by_cases b : 8 ≤ d
    · rw [if_pos b]
      rw [if_neg (by omega)] at g0
      exact ⟨fun z => (by cases z), fun _ => ⟨_, g0, rfl, rfl⟩⟩
    rw [if_neg b]
    rw [if_pos (by omega)] at g0
    have mo := rd_mov (lw := lw) HT fu 2 (d + 1) (i + 1) v (by omega) (by omega)
    unfold zMO at mo
    have q := hS (by omega) 1 (i + 1) v c ((32, 0) :: p) (fun q u hq => by rw [← (List.cons.inj hq).1]; dsimp only; omega) (Or.inl rfl) (by omega) (by omega)
    unfold zcl
    by_cases b2 : (zrd lw tk fu 2 (d + 1) (i + 1) v).1 = false
    · rw [if_pos b2]
      exact ⟨fun z => (by rw [b2] at z; cases z), fun _ => g0.bd (q.2 b2)⟩
    rw [if_neg b2]
    obtain ⟨ho, c', Z, g1, hZ, x1, r1⟩ := q.1 (zbF b2)
    have hin : zinn (Z ++ ((32, 0) :: p)) = 32 := inn_app Z _ (fun q hq => by have := hZ q hq; omega)
    generalize zrd lw tk fu 2 (d + 1) (i + 1) v = r at *
    by_cases b3 : tk r.2.1 = 1093
    · rw [if_pos b3]
      refine ⟨fun _ => ⟨zflA c' Z, (g0.tr g1).tr (zGO.st (by decide) ?_), x1, r1⟩, fun z => (by cases z)⟩
      unfold zmF
      rw [if_neg (by decide), if_neg (by decide), if_pos rfl, if_neg (by omega), if_pos hin, if_pos b3, fl_app (p := (32, 0) :: p) (fun q u hq => by rw [← (List.cons.inj hq).1]; decide) Z c' (fun q hq => bnd_ar (hZ q hq).1 (hZ q hq).2), show d + 1 - 1 = d by omega]
      rfl
    · rw [if_neg b3]
      refine ⟨fun z => (by cases z), fun _ => (g0.tr g1).bd ⟨_, zGO.st (by decide) rfl, ?_, ?_⟩⟩
      · unfold zmF
        rw [if_neg (by decide), if_neg (by decide), if_pos rfl, if_neg (by omega), if_pos hin, if_neg b3]
      · unfold zmF
        rw [if_neg (by decide), if_neg (by decide), if_pos rfl, if_neg (by omega), if_pos hin, if_neg b3]
  · rw [if_neg a] at g0 ⊢
    by_cases b : (lfR lw tk i v).1 = true
    · rw [if_pos b] at g0
      refine ⟨fun _ => ⟨_, g0, zEX.em, ?_⟩, fun z => (by dsimp only at z; rw [b] at z; cases z)⟩
      have := RR_leaf (lw := lw) (op := (zem c (lfR lw tk i v).2.2.2.2.1 (lfR lw tk i v).2.2.2.2.2).1) (ar := (zem c (lfR lw tk i v).2.2.2.2.1 (lfR lw tk i v).2.2.2.2.2).2.1) (s := c.2.2) b lfR_op em_op em_ar
      show zRR lw _ _ c.2.2 (c.2.2 + 1) _ ((lfR lw tk i v).2.2.1 - v)
      rw [lfR_v b, show v + 1 - v = 1 by omega]
      exact this
    · rw [if_neg b] at g0
      exact ⟨fun z => absurd z b, fun _ => ⟨_, g0, rfl, rfl⟩⟩
theorem sm_sums {lw test : Bool} {tk : Int → Int} (HT : ∀ j : Int, 400 ≤ j → tk j = 29) {fu : Nat} {d : Int} (hP : zOP lw test tk (zrd lw tk fu 3 d) d) : zOS lw test tk (zrd lw tk (fu + 1) 2 d) d := by
  intro t i v c p hp ht i0 i1
  have q := hP t i v c p ht (by omega) i1
  have mo := rd_mov (lw := lw) HT fu 3 d i v (by omega) i1
  unfold zMO at mo
  rw [rd_s2]
  by_cases b : (zrd lw tk fu 3 d i v).1 = false
  · rw [if_pos b]
    exact ⟨fun z => (by rw [b] at z; cases z), fun _ => q.2 b⟩
  rw [if_neg b]
  obtain ⟨c', g1, x1, r1⟩ := q.1 (zbF b)
  have mi := mo.2.1 (zbF b)
  have s := sm_sum HT (fun i v a b => rd_mov (lw := lw) HT fu 3 d i v a b) hP (pp := p) hp (cc := c) (v0 := v) 400 none (zrd lw tk fu 3 d i v).2.2.2 (zrd lw tk fu 3 d i v).2.1 (zrd lw tk fu 3 d i v).2.2.1 c' [] [] (by omega) (by omega) (by omega) (fun q hq => by cases hq) (Or.inl ⟨rfl, rfl, r1⟩) x1
  refine ⟨fun z => ?_, fun z => g1.bd (s.2 z)⟩
  obtain ⟨y1, c3, Z3, y2, y3⟩ := s.1 z
  exact ⟨y1, c3, Z3, g1.tr y2, y3⟩
theorem sm_plain {lw test : Bool} {tk : Int → Int} (HT : ∀ j : Int, 400 ≤ j → tk j = 29) {fu : Nat} {d : Int} (hS : zOS lw test tk (zrd lw tk fu 2 d) d) (hTt : d < 8 → zOT lw test tk (zrd lw tk fu 0 (d + 1)) (d + 1)) : zOL lw test tk (zrd lw tk (fu + 1) 1 d) d := by
  intro i v c p hp hin hts i0 i1
  rw [rd_s1]
  have gn := go_nots (lw := lw) (test := test) (tk := tk) (v := v) (d := d) (c := c) 400 i p
  obtain ⟨k1, k2, k3, k4⟩ := ntF_at HT 400 i i1
  generalize ntF tk 400 i = k at *
  have k5 := k3 (by omega)
  have inN : ∀ q : zPL, zinn (nts k ++ q) = zinn q := fun q => inn_app (nts k) q (fun x hx => by rw [nts_in hx]; decide)
  have tn := tn_D k (if tk (i + (k : Int)) = 1040 then (if 8 ≤ d then (false, i + (k : Int), v, dNo) else zcl 1041 tk (zrd lw tk fu 0 (d + 1) (i + (k : Int) + 1) v)) else rdCm (zrd lw tk fu 2 d) tk (i + (k : Int)) v)
  rw [tn.2.1, tn.2.2.1, tn.2.2.2, tn.1]
  clear tn
  by_cases a : tk (i + (k : Int)) = 1040
  · rw [if_pos a]
    have lt := tk_lt HT (i := i + (k : Int)) (by omega)
    have g0 : zGO lw test tk (0, false, i + (k : Int), v, c, nts k ++ p, d) (smOb 31 0 (i + (k : Int)) v c (nts k ++ p) d) := zGO.st (by decide) (by unfold zmF; rw [if_pos rfl, if_neg k5, if_pos a])
    unfold smOb at g0
    by_cases b : 8 ≤ d
    · rw [if_pos b]
      rw [if_neg (by omega)] at g0
      exact ⟨fun z => (by cases z), fun _ => ⟨_, gn.tr g0, rfl, rfl⟩⟩
    rw [if_neg b]
    rw [if_pos (by omega)] at g0
    have mo := rd_mov (lw := lw) HT fu 0 (d + 1) (i + (k : Int) + 1) v (by omega) (by omega)
    unfold zMO at mo
    have q := hTt (by omega) (i + (k : Int) + 1) v c ((31, 0) :: (nts k ++ p)) (fun q u hq => by rw [← (List.cons.inj hq).1]; dsimp only; omega) (by show ¬ (31 : Int) = 32; decide) (fun z => absurd (show (31 : Int) = -1 from z) (by decide)) (by omega) (by omega)
    unfold zcl
    generalize zrd lw tk fu 0 (d + 1) (i + (k : Int) + 1) v = r at *
    by_cases b2 : r.1 = false
    · rw [if_pos b2]
      exact ⟨fun z => (by rw [b2] at z; cases z), fun _ => (gn.tr g0).bd (q.2 b2)⟩
    rw [if_neg b2]
    obtain ⟨⟨h25, h26⟩, c', Z, g1, hZ, x1, r1, t1⟩ := q.1 (zbF b2)
    have hin2 : zinn (Z ++ ((31, 0) :: (nts k ++ p))) = 31 := inn_app Z _ (fun q hq => by have := hZ q hq; omega)
    by_cases b3 : tk r.2.1 = 1041
    · rw [if_pos b3]
      have nf := nots_fl k (zflA c' Z) r.2.2.2 r1
      refine ⟨fun _ => ⟨zflA c' Z, nts k, ((gn.tr g0).tr g1).tr (zGO.st (by decide) ?_), fun q hq => by rw [nts_in hq]; omega, x1.tr nf.2, nf.1, TB_nots k _ t1⟩, fun z => (by cases z)⟩
      unfold zmF
      rw [if_neg (by decide), if_neg (by decide), if_neg (by decide), if_neg h26, if_neg h25, if_neg (by rw [hin2]; decide), if_pos b3, fl_app (p := (31, 0) :: (nts k ++ p)) (fun q u hq => by rw [← (List.cons.inj hq).1]; decide) Z c' (fun q hq => bnd_ge1 (hZ q hq).1 (hZ q hq).2), show d + 1 - 1 = d by omega]
      rfl
    · rw [if_neg b3]
      refine ⟨fun z => (by cases z), fun _ => ((gn.tr g0).tr g1).bd ⟨_, zGO.st (by decide) rfl, ?_, ?_⟩⟩
      · unfold zmF
        rw [if_neg (by decide), if_neg (by decide), if_neg (by decide), if_neg h26, if_neg h25, if_neg (by rw [hin2]; decide), if_neg b3]
      · unfold zmF
        rw [if_neg (by decide), if_neg (by decide), if_neg (by decide), if_neg h26, if_neg h25, if_neg (by rw [hin2]; decide), if_neg b3]
  · rw [if_neg a]
    have hpn : ∀ q u, nts k ++ p = q :: u → 28 ≤ q.1 := fun q u hq => by
      cases k with
      | zero => have := hp q u hq; omega
      | succ k => rw [← (List.cons.inj hq).1]; dsimp only; omega
    have s1 := hS 0 (i + (k : Int)) v c (nts k ++ p) (fun q u hq => by have := hpn q u hq; omega) (Or.inr ⟨rfl, k5, a⟩) (by omega) (by omega)
    have mo := rd_mov (lw := lw) HT fu 2 d (i + (k : Int)) v (by omega) (by omega)
    unfold zMO at mo
    unfold rdCm
    generalize zrd lw tk fu 2 d (i + (k : Int)) v = r at *
    by_cases b : r.1 = false
    · rw [if_pos b]
      exact ⟨fun z => (by rw [b] at z; cases z), fun _ => gn.bd (s1.2 b)⟩
    rw [if_neg b]
    obtain ⟨ho, c1, Z1, g1, hZ1, x1, r1⟩ := s1.1 (zbF b)
    have mi := mo.2.1 (zbF b)
    have in1 : zinn (Z1 ++ (nts k ++ p)) = zinn p := by rw [inn_app Z1 _ (fun q hq => by have := hZ1 q hq; omega), inN]
    have cm1 : zcmd (Z1 ++ (nts k ++ p)) = false := by
      rw [cmd_app Z1 _ hZ1]
      cases hl : nts k ++ p with
      | nil => rfl
      | cons q u =>
        have := hpn q u hl
        unfold zcmd
        rw [if_neg (by omega), decide_eq_false (by omega)]
    by_cases b2 : relOf (tk r.2.1) = -1
    · rw [if_pos b2]
      refine ⟨fun z => (by cases z), fun _ => (gn.tr g1).bd ⟨_, zGO.st (by decide) rfl, ?_, ?_⟩⟩
      · unfold zmF
        rw [if_neg (by decide), if_neg (by decide), if_pos rfl, if_neg (by omega), in1, if_neg hin, if_neg (fun z => by have := hts z.1; rw [z.2] at this; cases this), if_neg (by rw [cm1]; decide), if_pos b2]
      · unfold zmF
        rw [if_neg (by decide), if_neg (by decide), if_pos rfl, if_neg (by omega), in1, if_neg hin, if_neg (fun z => by have := hts z.1; rw [z.2] at this; cases this), if_neg (by rw [cm1]; decide), if_pos b2]
    rw [if_neg b2]
    have rl := relOf_r b2
    have lt := tk_lt HT (relOf_n b2)
    have g2 : zGO lw test tk (3, false, r.2.1, r.2.2.1, c1, Z1 ++ (nts k ++ p), d) (1, false, r.2.1 + 1, r.2.2.1, zflA c1 Z1, (relOf (tk r.2.1) + 13, 0) :: (nts k ++ p), d) := by
      refine zGO.st (by decide) ?_
      unfold zmF
      rw [if_neg (by decide), if_neg (by decide), if_pos rfl, if_neg (by omega), in1, if_neg hin, if_neg (fun z => by have := hts z.1; rw [z.2] at this; cases this), if_neg (by rw [cm1]; decide), if_neg b2, fl_app (p := nts k ++ p) (fun q u hq => by have := bnd_hi (o := q.1) (by have := hpn q u hq; omega); omega) Z1 c1 (fun q hq => bnd_ar (hZ1 q hq).1 (hZ1 q hq).2)]
    generalize hrl : relOf (tk r.2.1) = rr at *
    have s2 := hS 1 (r.2.1 + 1) r.2.2.1 (zflA c1 Z1) ((rr + 13, 0) :: (nts k ++ p)) (fun q u hq => by rw [← (List.cons.inj hq).1]; dsimp only; omega) (Or.inl rfl) (by omega) (by omega)
    have mo2 := rd_mov (lw := lw) HT fu 2 d (r.2.1 + 1) r.2.2.1 (by omega) (by omega)
    unfold zMO at mo2
    generalize zrd lw tk fu 2 d (r.2.1 + 1) r.2.2.1 = r' at *
    by_cases b3 : r'.1 = false
    · rw [if_pos b3]
      exact ⟨fun z => (by rw [b3] at z; cases z), fun _ => ((gn.tr g1).tr g2).bd (s2.2 b3)⟩
    rw [if_neg b3]
    obtain ⟨ho2, c2, Z2, g3, hZ2, x2, r2⟩ := s2.1 (zbF b3)
    have in2 : zinn (Z2 ++ ((rr + 13, 0) :: (nts k ++ p))) = zinn p := by
      rw [inn_app Z2 _ (fun q hq => by have := hZ2 q hq; omega)]
      show (if 31 ≤ rr + 13 then rr + 13 else zinn (nts k ++ p)) = zinn p
      rw [if_neg (by omega), inN]
    have cm2 : zcmd (Z2 ++ ((rr + 13, 0) :: (nts k ++ p))) = true := by
      rw [cmd_app Z2 _ hZ2]
      show (if 20 ≤ rr + 13 ∧ rr + 13 ≤ 24 then zcmd (nts k ++ p) else decide (25 ≤ rr + 13 ∧ rr + 13 ≤ 27)) = true
      rw [if_neg (by omega), decide_eq_true (by omega)]
    have g4 : zGO lw test tk (3, false, r'.2.1, r'.2.2.1, c2, Z2 ++ ((rr + 13, 0) :: (nts k ++ p)), d) (2, false, r'.2.1, r'.2.2.1, c2, (Z2 ++ ((rr + 13, 0) :: nts k)) ++ p, d) := by
      refine zGO.st (by decide) ?_
      unfold zmF
      rw [if_neg (by decide), if_neg (by decide), if_pos rfl, if_neg (by omega), in2, if_neg hin, if_neg (fun z => by have := hts z.1; rw [z.2] at this; cases this), if_pos cm2, List.append_assoc]
      rfl
    have x12 := x1.tr x2
    have e3 : zflA c2 (Z2 ++ ((rr + 13, 0) :: nts k)) = zflA (zem (zflA c2 Z2) (rr + 13) 0) (nts k) := by
      rw [flA_app]
      show zflA (zf1 (zflA c2 Z2) (rr + 13, 0)) (nts k) = _
      rw [f1_em (by omega)]
    have xe : zEX (zflA c2 Z2) (zem (zflA c2 Z2) (rr + 13) 0) := zEX.em
    have rb := RR_bin ((x2.tr xe).rp (Int.le_refl _) r1) (xe.rp (Int.le_refl _) r2) (show 7 ≤ rr by omega) (by omega) em_op
    rw [show r.2.2.1 - v + (r'.2.2.1 - r.2.2.1) = r'.2.2.1 - v by omega] at rb
    have nf := nots_fl k (zem (zflA c2 Z2) (rr + 13) 0) _ rb
    refine ⟨fun _ => ⟨c2, Z2 ++ ((rr + 13, 0) :: nts k), ((((gn.tr g1).tr g2).tr g3).tr g4), fun q hq => ?_, by rw [e3]; exact (x12.tr xe).tr nf.2, by rw [e3]; exact nf.1, TB_nots k _ (TB_cmp (by omega))⟩, fun z => (by cases z)⟩
    rcases List.mem_append.mp hq with h1 | h1
    · have := hZ2 q h1; omega
    · rcases List.mem_cons.mp h1 with h2 | h2
      · rw [h2]; dsimp only; omega
      · rw [nts_in h2]; omega
theorem sm_tests {lw test : Bool} {tk : Int → Int} (HT : ∀ j : Int, 400 ≤ j → tk j = 29) {fu : Nat} {d : Int} (hL : zOL lw test tk (zrd lw tk fu 1 d) d) : zOT lw test tk (zrd lw tk (fu + 1) 0 d) d := by
  intro i v c p hp hin hts i0 i1
  have q := hL i v c p (fun q u hq => by have := hp q u hq; omega) hin hts i0 i1
  have mo := rd_mov (lw := lw) HT fu 1 d i v (by omega) i1
  unfold zMO at mo
  rw [rd_s0]
  by_cases b : (zrd lw tk fu 1 d i v).1 = false
  · rw [if_pos b]
    exact ⟨fun z => (by rw [b] at z; cases z), fun _ => q.2 b⟩
  rw [if_neg b]
  obtain ⟨c', Z, g1, hZ, x1, r1, t1⟩ := q.1 (zbF b)
  have mi := mo.2.1 (zbF b)
  have s := sm_test HT (fun i v a b => rd_mov (lw := lw) HT fu 1 d i v a b) hL (pp := p) hp hin hts (cc := c) (v0 := v) 400 none (zrd lw tk fu 1 d i v).2.2.2 (zrd lw tk fu 1 d i v).2.1 (zrd lw tk fu 1 d i v).2.2.1 c' Z [] (by omega) (by omega) (by omega) (fun q hq => by have := hZ q hq; omega) ⟨t1, Or.inl ⟨rfl, rfl, r1⟩⟩ x1
  refine ⟨fun z => ?_, fun z => g1.bd (s.2 z)⟩
  obtain ⟨y1, c3, Z3, y2, y3⟩ := s.1 z
  exact ⟨y1, c3, Z3, g1.tr y2, y3⟩
theorem zm_all {lw test : Bool} {tk : Int → Int} (HT : ∀ j : Int, 400 ≤ j → tk j = 29) : ∀ (fu : Nat) (d : Int), d ≤ 8 → (3 * (8 - d) + 1 ≤ (fu : Int) → zOP lw test tk (zrd lw tk fu 3 d) d) ∧ (3 * (8 - d) + 2 ≤ (fu : Int) → zOS lw test tk (zrd lw tk fu 2 d) d) ∧ (3 * (8 - d) + 3 ≤ (fu : Int) → zOL lw test tk (zrd lw tk fu 1 d) d) ∧ (3 * (8 - d) + 4 ≤ (fu : Int) → zOT lw test tk (zrd lw tk fu 0 d) d) := by
  intro fu
  induction fu with
  | zero => intro d hd; exact ⟨fun h => absurd h (by omega), fun h => absurd h (by omega), fun h => absurd h (by omega), fun h => absurd h (by omega)⟩
  | succ fu ih =>
    intro d hd
    refine ⟨fun h => sm_part HT hd (fun h8 => (ih (d + 1) (by omega)).2.1 (by omega)), fun h => sm_sums HT ((ih d hd).1 (by omega)), fun h => sm_plain HT ((ih d hd).2.1 (by omega)) (fun h8 => (ih (d + 1) (by omega)).2.2.2 (by omega)), fun h => sm_tests HT ((ih d hd).2.2.1 (by omega))⟩

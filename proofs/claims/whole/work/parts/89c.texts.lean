/-! TEXTS: what sums and tests mean; the reading of them as it is told: by recursion -/
abbrev zDT : Type := (Int → Int → Int) → Option Int
abbrev zRT : Type := Bool × Int × Int × zDT
def zraw (o x y : Int) : Int := if o = 7 then x + y else if o = 8 then x - y else if o = 9 then x * y else if o = 10 then Int.tdiv x y else if o = 11 then Int.tmod x y else if o = 12 then (if x < y then 1 else 0) else if o = 13 then (if y < x then 1 else 0) else (if x = y then 1 else 0)
def zjn (o x y : Int) : Option Int := if (o = 10 ∨ o = 11) ∧ y = 0 then none else if -1000000000 ≤ zraw o x y ∧ zraw o x y ≤ 1000000000 then some (zraw o x y) else none
def dBin (o : Int) (a b : zDT) : zDT := fun f => match a f with
  | none => none
  | some x => match b f with
    | none => none
    | some y => zjn o x y
def dNot (a : zDT) : zDT := fun f => match a f with
  | none => none
  | some x => some (1 - x)
def dAnd (a b : zDT) : zDT := fun f => match a f with
  | none => none
  | some x => if x = 1 then b f else some x
def dOr (a b : zDT) : zDT := fun f => match a f with
  | none => none
  | some x => if x = 1 then some x else b f
def dLf (o a : Int) : zDT := fun f => some (f o a)
def dNo : zDT := fun _ => none
def zTB (a : zDT) : Prop := ∀ f v, a f = some v → v = 0 ∨ v = 1
theorem TB_and {a b : zDT} (ha : zTB a) (hb : zTB b) : zTB (dAnd a b) := by
  intro f v h
  unfold dAnd at h
  split at h
  · cases h
  · rename_i x hx
    split at h
    · exact hb f v h
    · cases h; exact ha f _ hx
theorem TB_or {a b : zDT} (ha : zTB a) (hb : zTB b) : zTB (dOr a b) := by
  intro f v h
  unfold dOr at h
  split at h
  · cases h
  · rename_i x hx
    split at h
    · cases h; exact ha f _ hx
    · exact hb f v h
theorem TB_not {a : zDT} (ha : zTB a) : zTB (dNot a) := by
  intro f v h
  unfold dNot at h
  split at h
  · cases h
  · rename_i x hx
    have := ha f x hx
    cases h
    omega
theorem jn_tb {o x y v : Int} (ho : 12 ≤ o) (h : zjn o x y = some v) : v = 0 ∨ v = 1 := by
  unfold zjn at h
  rw [if_neg (by omega)] at h
  split at h
  · unfold zraw at h
    rw [if_neg (by omega), if_neg (by omega), if_neg (by omega), if_neg (by omega), if_neg (by omega)] at h
    cases h
    split
    · split <;> omega
    · split
      · split <;> omega
      · split <;> omega
  · cases h
theorem TB_cmp {o : Int} {a b : zDT} (ho : 12 ≤ o) : zTB (dBin o a b) := by
  intro f v h
  unfold dBin at h
  split at h
  · cases h
  · split at h
    · cases h
    · exact jn_tb ho h
def ordOf (t : Int) : Int := if t = 1043 then 7 else if t = 1045 then 8 else if t = 1042 then 9 else if t = 1047 then 10 else if t = 1037 then 11 else -1
def relOf (t : Int) : Int := if t = 1060 then 12 else if t = 1062 then 13 else if t = 1061 then 14 else -1
/-- a leaf: (read, where behind, how many leaves, the leaf as the class has it, as the reference has it) -/
def lfR (lw : Bool) (tk : Int → Int) (i v : Int) : Bool × Int × Int × (Int × Int) × (Int × Int) :=
  if 50 ≤ v then (false, i, v, (0, 0), (0, 0))
  else if 2000 ≤ tk i ∧ tk i ≤ 3000 then (true, i + 1, v + 1, (1, tk i - 2000), (0, tk i - 2000))
  else if lw = true then
    if 0 ≤ tk i ∧ tk i ≤ 7 then (true, i + 1, v + 1, (2, tk i), (if tk i = 7 then 7 else if tk i = 6 then 8 else tk i + 1, 0)) else (false, i, v, (0, 0), (0, 0))
  else if 7 ≤ tk i ∧ tk i ≤ 12 then (true, i + 1, v + 1, (2, tk i), (if tk i = 7 then 6 else tk i - 7, 0))
  else if 13 ≤ tk i ∧ tk i ≤ 14 then
    if 0 ≤ tk (i + 1) - 2000 ∧ tk (i + 1) - 2000 ≤ 4 then
      if 0 ≤ tk (i + 2) - 2000 ∧ tk (i + 2) - 2000 ≤ 11 then (true, i + 3, v + 1, (3, ((tk i - 13) * 5 + (tk (i + 1) - 2000)) * 12 + (tk (i + 2) - 2000)), (tk i - 6, 12 * (tk (i + 1) - 2000) + (tk (i + 2) - 2000)))
      else (false, i + 2, v + 1, (0, 0), (0, 0))
    else (false, i + 1, v + 1, (0, 0), (0, 0))
  else (false, i, v, (0, 0), (0, 0))
def zcmB (w : Option (Int × zDT)) (p : zDT) : zDT := match w with
  | none => p
  | some (o, a) => dBin o a p
def zcmO (w : Option zDT) (p : zDT) : zDT := match w with
  | none => p
  | some a => dOr a p
def rdSm (part : Int → Int → zRT) (tk : Int → Int) : Nat → Option (Int × zDT) → zDT → Int → Int → zRT
  | 0, _, _, i, v => (false, i, v, dNo)
  | n + 1, w, p, i, v =>
    if ordOf (tk i) = -1 then (true, i, v, zcmB w p)
    else if (part (i + 1) v).1 = false then part (i + 1) v
    else if 9 ≤ ordOf (tk i) then rdSm part tk n w (dBin (ordOf (tk i)) p (part (i + 1) v).2.2.2) (part (i + 1) v).2.1 (part (i + 1) v).2.2.1
    else rdSm part tk n (some (ordOf (tk i), zcmB w p)) (part (i + 1) v).2.2.2 (part (i + 1) v).2.1 (part (i + 1) v).2.2.1
def rdTs (plain : Int → Int → zRT) (tk : Int → Int) : Nat → Option zDT → zDT → Int → Int → zRT
  | 0, _, _, i, v => (false, i, v, dNo)
  | n + 1, w, p, i, v =>
    if tk i = 26 then
      if (plain (i + 1) v).1 = false then plain (i + 1) v else rdTs plain tk n w (dAnd p (plain (i + 1) v).2.2.2) (plain (i + 1) v).2.1 (plain (i + 1) v).2.2.1
    else if tk i = 25 then
      if (plain (i + 1) v).1 = false then plain (i + 1) v else rdTs plain tk n (some (zcmO w p)) (plain (i + 1) v).2.2.2 (plain (i + 1) v).2.1 (plain (i + 1) v).2.2.1
    else (true, i, v, zcmO w p)
def ntF (tk : Int → Int) : Nat → Int → Nat
  | 0, _ => 0
  | n + 1, i => if tk i = 27 then ntF tk n (i + 1) + 1 else 0
def ztn (k : Nat) (r : zRT) : zRT := if k % 2 = 1 then (r.1, r.2.1, r.2.2.1, dNot r.2.2.2) else r
def zcl (sg : Int) (tk : Int → Int) (r : zRT) : zRT := if r.1 = false then r else if tk r.2.1 = sg then (true, r.2.1 + 1, r.2.2.1, r.2.2.2) else (false, r.2.1, r.2.2.1, dNo)
def rdCm (sum : Int → Int → zRT) (tk : Int → Int) (i v : Int) : zRT :=
  if (sum i v).1 = false then sum i v
  else if relOf (tk (sum i v).2.1) = -1 then (false, (sum i v).2.1, (sum i v).2.2.1, dNo)
  else if (sum ((sum i v).2.1 + 1) (sum i v).2.2.1).1 = false then sum ((sum i v).2.1 + 1) (sum i v).2.2.1
  else (true, (sum ((sum i v).2.1 + 1) (sum i v).2.2.1).2.1, (sum ((sum i v).2.1 + 1) (sum i v).2.2.1).2.2.1, dBin (relOf (tk (sum i v).2.1)) (sum i v).2.2.2 (sum ((sum i v).2.1 + 1) (sum i v).2.2.1).2.2.2)
/-- 0: a test, 1: a plain one, 2: a sum, 3: a part -/
def zrd (lw : Bool) (tk : Int → Int) : Nat → Nat → Int → Int → Int → zRT
  | 0, _, _, i, v => (false, i, v, dNo)
  | fu + 1, 0, d, i, v => if (zrd lw tk fu 1 d i v).1 = false then zrd lw tk fu 1 d i v else rdTs (zrd lw tk fu 1 d) tk 400 none (zrd lw tk fu 1 d i v).2.2.2 (zrd lw tk fu 1 d i v).2.1 (zrd lw tk fu 1 d i v).2.2.1
  | fu + 1, 1, d, i, v => ztn (ntF tk 400 i) (if tk (i + ntF tk 400 i) = 1040 then (if 8 ≤ d then (false, i + ntF tk 400 i, v, dNo) else zcl 1041 tk (zrd lw tk fu 0 (d + 1) (i + ntF tk 400 i + 1) v)) else rdCm (zrd lw tk fu 2 d) tk (i + ntF tk 400 i) v)
  | fu + 1, 2, d, i, v => if (zrd lw tk fu 3 d i v).1 = false then zrd lw tk fu 3 d i v else rdSm (zrd lw tk fu 3 d) tk 400 none (zrd lw tk fu 3 d i v).2.2.2 (zrd lw tk fu 3 d i v).2.1 (zrd lw tk fu 3 d i v).2.2.1
  | fu + 1, _ + 3, d, i, v => if tk i = 1091 then (if 8 ≤ d then (false, i, v, dNo) else zcl 1093 tk (zrd lw tk fu 2 (d + 1) (i + 1) v)) else ((lfR lw tk i v).1, (lfR lw tk i v).2.1, (lfR lw tk i v).2.2.1, dLf (lfR lw tk i v).2.2.2.1.1 (lfR lw tk i v).2.2.2.1.2)
/-! TEXTS: what the class's code and the reference's code do -/
/-- what leaves can be: the class's, the reference's -/
abbrev zvC (lw : Bool) (o a : Int) : Prop := 0 ≤ a ∧ ((o = 1 ∧ a ≤ 1000) ∨ (o = 2 ∧ lw = true ∧ a ≤ 7) ∨ (o = 2 ∧ lw = false ∧ 7 ≤ a ∧ a ≤ 12) ∨ (o = 3 ∧ lw = false ∧ a ≤ 119))
abbrev zvR (lw : Bool) (o a : Int) : Prop := (o = 0 ∧ 0 ≤ a ∧ a ≤ 1000) ∨ (lw = true ∧ 1 ≤ o ∧ o ≤ 8) ∨ (lw = false ∧ 1 ≤ o ∧ o ≤ 6) ∨ (lw = false ∧ 7 ≤ o ∧ o ≤ 8 ∧ 0 ≤ a ∧ a ≤ 59)
def crun (lw : Bool) (g : Int → Int) (f : Int → Int → Int) : Nat → Int → List Int → Option (Option Int)
  | 0, _, _ => none
  | n + 1, p, st =>
    if g p < 0 ∨ 14 < g p then none
    else if 64 ≤ st.length then some none
    else if g p = 1 ∨ g p = 2 ∨ g p = 3 then (if zvC lw (g p) (g (p + 1)) then crun lw g f n (p + 2) (f (g p) (g (p + 1)) :: st) else none)
    else match st with
      | [] => some none
      | x :: t =>
        if g p = 0 then some (some (t.getLastD x))
        else if g p = 4 then crun lw g f n (p + 2) ((1 - x) :: t)
        else if g p = 5 then (if x = 1 then (if g (p + 1) % 2 = 0 then crun lw g f n (g (p + 1)) (x :: t) else none) else crun lw g f n (p + 2) t)
        else if g p = 6 then (if x = 1 then crun lw g f n (p + 2) t else (if g (p + 1) % 2 = 0 then crun lw g f n (g (p + 1)) (x :: t) else none))
        else match t with
          | [] => some none
          | y :: u => match zjn (g p) y x with
            | none => some none
            | some z => crun lw g f n (p + 2) (z :: u)
def zAG (s e : Int) (g g' : Int → Int) : Prop := ∀ j : Int, s ≤ j → j < e → g' j = g j
theorem zAG.rf {s e : Int} {g : Int → Int} : zAG s e g g := fun _ _ _ => rfl
theorem zAG.tr {s e : Int} {g g' g'' : Int → Int} (a : zAG s e g g') (b : zAG s e g' g'') : zAG s e g g'' := fun j j0 j1 => (b j j0 j1).trans (a j j0 j1)
theorem zAG.sub {s e s' e' : Int} {g g' : Int → Int} (a : zAG s e g g') (h0 : s ≤ s') (h1 : e' ≤ e) : zAG s' e' g g' := fun j j0 j1 => a j (Int.le_trans h0 j0) (Int.lt_of_lt_of_le j1 h1)
/-- the class's code from s to e means D, with L leaves -/
def zRC (lw : Bool) (g : Int → Int) (s e : Int) (D : zDT) (L : Int) : Prop := 1 ≤ L ∧ (s < e ∧ s % 2 = 0 ∧ e % 2 = 0) ∧ ∀ g', zAG s e g g' → ∀ (f : Int → Int → Int) (st : List Int), (st.length : Int) + L ≤ 63 → ∃ n : Nat, 2 * (n : Int) ≤ e - s ∧ ∀ k : Nat, crun lw g' f (n + k) s st = match D f with
  | none => some none
  | some v => crun lw g' f k e (v :: st)
theorem zRC.cg {lw : Bool} {g g' : Int → Int} {s e : Int} {D : zDT} {L : Int} (h : zRC lw g s e D L) (a : zAG s e g g') : zRC lw g' s e D L := ⟨h.1, h.2.1, fun g'' b f st hst => h.2.2 g'' (a.tr b) f st hst⟩
theorem RC_leaf {lw : Bool} {g : Int → Int} {s o a : Int} (hs : s % 2 = 0) (ho : o = 1 ∨ o = 2 ∨ o = 3) (hv : zvC lw o a) (h0 : g s = o) (h1 : g (s + 1) = a) : zRC lw g s (s + 2) (dLf o a) 1 := by
  refine ⟨by decide, by omega, fun g' ag f st hst => ⟨1, by omega, fun k => ?_⟩⟩
  have e0 := ag s (by omega) (by omega)
  have e1 := ag (s + 1) (by omega) (by omega)
  rw [show 1 + k = k + 1 by omega]
  show (if g' s < 0 ∨ 14 < g' s then none else if 64 ≤ st.length then some none else if g' s = 1 ∨ g' s = 2 ∨ g' s = 3 then (if zvC lw (g' s) (g' (s + 1)) then crun lw g' f k (s + 2) (f (g' s) (g' (s + 1)) :: st) else none) else _) = crun lw g' f k (s + 2) (f o a :: st)
  rw [e0, h0, if_neg (by omega), if_neg (by omega), if_pos ho, e1, h1, if_pos hv]
theorem RC_bin {lw : Bool} {g : Int → Int} {s m e o La Lb : Int} {a b : zDT} (ha : zRC lw g s m a La) (hb : zRC lw g m e b Lb) (o0 : 7 ≤ o) (o1 : o ≤ 14) (he : g e = o) : zRC lw g s (e + 2) (dBin o a b) (La + Lb) := by
  obtain ⟨a1, a2, a3⟩ := ha
  obtain ⟨b1, b2, b3⟩ := hb
  refine ⟨by omega, by omega, fun g' ag f st hst => ?_⟩
  obtain ⟨n1, q1, r1⟩ := a3 g' (ag.sub (Int.le_refl _) (by omega)) f st (by omega)
  have e0 := ag e (by omega) (by omega)
  unfold dBin
  cases hA : a f with
  | none =>
    rw [hA] at r1
    exact ⟨n1, by omega, fun k => r1 k⟩
  | some x =>
    rw [hA] at r1
    obtain ⟨n2, q2, r2⟩ := b3 g' (ag.sub (by omega) (by omega)) f (x :: st) (by rw [List.length_cons]; omega)
    cases hB : b f with
    | none =>
      rw [hB] at r2
      exact ⟨n1 + n2, by omega, fun k => by rw [Nat.add_assoc, r1]; exact r2 k⟩
    | some y =>
      rw [hB] at r2
      refine ⟨n1 + n2 + 1, by omega, fun k => ?_⟩
      rw [Nat.add_assoc, Nat.add_assoc, r1]
      dsimp only
      rw [r2 (1 + k)]
      dsimp only
      rw [show 1 + k = k + 1 by omega]
      conv => lhs; unfold crun
      rw [e0, he, if_neg (by omega), if_neg (by rw [List.length_cons, List.length_cons]; omega), if_neg (by omega)]
      dsimp only
      rw [if_neg (by omega), if_neg (by omega), if_neg (by omega), if_neg (by omega)]
theorem RC_not {lw : Bool} {g : Int → Int} {s e L : Int} {a : zDT} (ha : zRC lw g s e a L) (he : g e = 4) : zRC lw g s (e + 2) (dNot a) L := by
  obtain ⟨a1, a2, a3⟩ := ha
  refine ⟨a1, by omega, fun g' ag f st hst => ?_⟩
  obtain ⟨n1, q1, r1⟩ := a3 g' (ag.sub (Int.le_refl _) (by omega)) f st (by omega)
  have e0 := ag e (by omega) (by omega)
  unfold dNot
  cases hA : a f with
  | none =>
    rw [hA] at r1
    exact ⟨n1, by omega, fun k => r1 k⟩
  | some x =>
    rw [hA] at r1
    refine ⟨n1 + 1, by omega, fun k => ?_⟩
    rw [Nat.add_assoc, r1]
    dsimp only
    rw [show 1 + k = k + 1 by omega]
    conv => lhs; unfold crun
    rw [e0, he, if_neg (by decide), if_neg (by rw [List.length_cons]; omega), if_neg (by decide)]
    dsimp only
    rw [if_neg (by decide), if_pos rfl]
theorem RC_and {lw : Bool} {g : Int → Int} {s m e La Lb : Int} {a b : zDT} (ha : zRC lw g s m a La) (hm : g m = 6) (hj : g (m + 1) = e) (hb : zRC lw g (m + 2) e b Lb) : zRC lw g s e (dAnd a b) (La + Lb) := by
  obtain ⟨a1, a2, a3⟩ := ha
  obtain ⟨b1, b2, b3⟩ := hb
  refine ⟨by omega, by omega, fun g' ag f st hst => ?_⟩
  obtain ⟨n1, q1, r1⟩ := a3 g' (ag.sub (Int.le_refl _) (by omega)) f st (by omega)
  have e0 := ag m (by omega) (by omega)
  have e1 := ag (m + 1) (by omega) (by omega)
  unfold dAnd
  cases hA : a f with
  | none =>
    rw [hA] at r1
    exact ⟨n1, by omega, fun k => r1 k⟩
  | some x =>
    rw [hA] at r1
    have stp : ∀ k, crun lw g' f (k + 1) m (x :: st) = if x = 1 then crun lw g' f k (m + 2) st else crun lw g' f k e (x :: st) := fun k => by
      conv => lhs; unfold crun
      rw [e0, hm, if_neg (by decide), if_neg (by rw [List.length_cons]; omega), if_neg (by decide)]
      dsimp only
      rw [if_neg (by decide), if_neg (by decide), if_neg (by decide), if_pos rfl, e1, hj, if_pos (show e % 2 = 0 by omega)]
    by_cases hx : x = 1
    · obtain ⟨n2, q2, r2⟩ := b3 g' (ag.sub (by omega) (by omega)) f st (by omega)
      refine ⟨n1 + (n2 + 1), by omega, fun k => ?_⟩
      rw [Nat.add_assoc, r1]
      dsimp only
      rw [show n2 + 1 + k = (n2 + k) + 1 by omega, stp, if_pos hx, if_pos hx]
      exact r2 k
    · refine ⟨n1 + 1, by omega, fun k => ?_⟩
      rw [Nat.add_assoc, r1]
      dsimp only
      rw [show 1 + k = k + 1 by omega, stp, if_neg hx, if_neg hx]
theorem RC_or {lw : Bool} {g : Int → Int} {s m e La Lb : Int} {a b : zDT} (ha : zRC lw g s m a La) (hm : g m = 5) (hj : g (m + 1) = e) (hb : zRC lw g (m + 2) e b Lb) : zRC lw g s e (dOr a b) (La + Lb) := by
  obtain ⟨a1, a2, a3⟩ := ha
  obtain ⟨b1, b2, b3⟩ := hb
  refine ⟨by omega, by omega, fun g' ag f st hst => ?_⟩
  obtain ⟨n1, q1, r1⟩ := a3 g' (ag.sub (Int.le_refl _) (by omega)) f st (by omega)
  have e0 := ag m (by omega) (by omega)
  have e1 := ag (m + 1) (by omega) (by omega)
  unfold dOr
  cases hA : a f with
  | none =>
    rw [hA] at r1
    exact ⟨n1, by omega, fun k => r1 k⟩
  | some x =>
    rw [hA] at r1
    have stp : ∀ k, crun lw g' f (k + 1) m (x :: st) = if x = 1 then crun lw g' f k e (x :: st) else crun lw g' f k (m + 2) st := fun k => by
      conv => lhs; unfold crun
      rw [e0, hm, if_neg (by decide), if_neg (by rw [List.length_cons]; omega), if_neg (by decide)]
      dsimp only
      rw [if_neg (by decide), if_neg (by decide), if_pos rfl, e1, hj, if_pos (show e % 2 = 0 by omega)]
    by_cases hx : x = 1
    · refine ⟨n1 + 1, by omega, fun k => ?_⟩
      rw [Nat.add_assoc, r1]
      dsimp only
      rw [show 1 + k = k + 1 by omega, stp, if_pos hx, if_pos hx]
    · obtain ⟨n2, q2, r2⟩ := b3 g' (ag.sub (by omega) (by omega)) f st (by omega)
      refine ⟨n1 + (n2 + 1), by omega, fun k => ?_⟩
      rw [Nat.add_assoc, r1]
      dsimp only
      rw [show n2 + 1 + k = (n2 + k) + 1 by omega, stp, if_neg hx, if_neg hx]
      exact r2 k
/-- the whole of a section: code from s, STOP at e -/
theorem RC_stop {lw : Bool} {g : Int → Int} {s e L : Int} {D : zDT} (h : zRC lw g s e D L) (L1 : L ≤ 63) (he : g e = 0) (f : Int → Int → Int) : ∃ n : Nat, 2 * (n : Int) ≤ e - s + 2 ∧ crun lw (fun j => if s ≤ j ∧ j < e + 1 then g j else -9) f n s [] = some (D f) := by
  obtain ⟨a1, a2, a3⟩ := h
  obtain ⟨n, q, r⟩ := a3 (fun j => if s ≤ j ∧ j < e + 1 then g j else -9) (fun j j0 j1 => if_pos ⟨j0, by omega⟩) f [] (by rw [List.length_nil]; omega)
  refine ⟨n + 1, by omega, ?_⟩
  rw [r 1]
  cases hD : D f with
  | none => rfl
  | some v =>
    dsimp only
    unfold crun
    have e0 : (if s ≤ e ∧ e < e + 1 then g e else -9) = 0 := by rw [if_pos (by omega)]; exact he
    rw [e0, if_neg (by decide), if_neg (by rw [List.length_cons, List.length_nil]; omega), if_neg (by decide)]
    rfl
theorem crun_up {lw : Bool} {g : Int → Int} {f : Int → Int → Int} : ∀ (n : Nat) (p : Int) (st : List Int) (r : Option Int), crun lw g f n p st = some r → crun lw g f (n + 1) p st = some r := by
  intro n
  induction n with
  | zero => intro p st r h; cases h
  | succ n ih =>
    intro p st r h
    unfold crun at h ⊢
    by_cases c1 : g p < 0 ∨ 14 < g p
    · rw [if_pos c1] at h; cases h
    rw [if_neg c1] at h ⊢
    by_cases c2 : 64 ≤ st.length
    · rw [if_pos c2] at h ⊢; exact h
    rw [if_neg c2] at h ⊢
    by_cases c3 : g p = 1 ∨ g p = 2 ∨ g p = 3
    · rw [if_pos c3] at h ⊢
      by_cases c4 : zvC lw (g p) (g (p + 1))
      · rw [if_pos c4] at h ⊢; exact ih _ _ _ h
      · rw [if_neg c4] at h; cases h
    rw [if_neg c3] at h ⊢
    cases st with
    | nil => exact h
    | cons x t =>
      dsimp only at h ⊢
      by_cases c4 : g p = 0
      · rw [if_pos c4] at h ⊢; exact h
      rw [if_neg c4] at h ⊢
      by_cases c5 : g p = 4
      · rw [if_pos c5] at h ⊢; exact ih _ _ _ h
      rw [if_neg c5] at h ⊢
      by_cases c6 : g p = 5
      · rw [if_pos c6] at h ⊢
        by_cases c7 : x = 1
        · rw [if_pos c7] at h ⊢
          by_cases c8 : g (p + 1) % 2 = 0
          · rw [if_pos c8] at h ⊢; exact ih _ _ _ h
          · rw [if_neg c8] at h; cases h
        · rw [if_neg c7] at h ⊢; exact ih _ _ _ h
      rw [if_neg c6] at h ⊢
      by_cases c9 : g p = 6
      · rw [if_pos c9] at h ⊢
        by_cases c7 : x = 1
        · rw [if_pos c7] at h ⊢; exact ih _ _ _ h
        · rw [if_neg c7] at h ⊢
          by_cases c8 : g (p + 1) % 2 = 0
          · rw [if_pos c8] at h ⊢; exact ih _ _ _ h
          · rw [if_neg c8] at h; cases h
      rw [if_neg c9] at h ⊢
      cases t with
      | nil => exact h
      | cons y u =>
        dsimp only at h ⊢
        cases hz : zjn (g p) y x with
        | none => rw [hz] at h; exact h
        | some w => rw [hz] at h; exact ih _ _ _ h
theorem crun_ups {lw : Bool} {g : Int → Int} {f : Int → Int → Int} (k n : Nat) {p : Int} {st : List Int} {r : Option Int} (h : crun lw g f n p st = some r) : crun lw g f (n + k) p st = some r := by
  induction k with
  | zero => exact h
  | succ k ih => exact crun_up _ _ _ _ ih
theorem crun_nc {lw : Bool} {g : Int → Int} {f f' : Int → Int → Int} (hg : ∀ p : Int, p % 2 = 0 → ¬ g p = 3) (hf : ∀ o a : Int, ¬ o = 3 → f' o a = f o a) : ∀ (n : Nat) (p : Int) (st : List Int), p % 2 = 0 → crun lw g f' n p st = crun lw g f n p st := by
  intro n
  induction n with
  | zero => intro p st _; rfl
  | succ n ih =>
    intro p st hp
    unfold crun
    by_cases c1 : g p < 0 ∨ 14 < g p
    · rw [if_pos c1, if_pos c1]
    rw [if_neg c1, if_neg c1]
    by_cases c2 : 64 ≤ st.length
    · rw [if_pos c2, if_pos c2]
    rw [if_neg c2, if_neg c2]
    by_cases c3 : g p = 1 ∨ g p = 2 ∨ g p = 3
    · rw [if_pos c3, if_pos c3, hf _ _ (hg p hp), ih _ _ (by omega)]
    rw [if_neg c3, if_neg c3]
    cases st with
    | nil => rfl
    | cons x t =>
      dsimp only
      by_cases c4 : g p = 0
      · rw [if_pos c4, if_pos c4]
      rw [if_neg c4, if_neg c4]
      by_cases c5 : g p = 4
      · rw [if_pos c5, if_pos c5]; exact ih _ _ (by omega)
      rw [if_neg c5, if_neg c5]
      by_cases c6 : g p = 5
      · rw [if_pos c6, if_pos c6]
        by_cases c7 : x = 1
        · rw [if_pos c7, if_pos c7]
          by_cases c8 : g (p + 1) % 2 = 0
          · rw [if_pos c8, if_pos c8]; exact ih _ _ c8
          · rw [if_neg c8, if_neg c8]
        · rw [if_neg c7, if_neg c7]; exact ih _ _ (by omega)
      rw [if_neg c6, if_neg c6]
      by_cases c9 : g p = 6
      · rw [if_pos c9, if_pos c9]
        by_cases c7 : x = 1
        · rw [if_pos c7, if_pos c7]; exact ih _ _ (by omega)
        · rw [if_neg c7, if_neg c7]
          by_cases c8 : g (p + 1) % 2 = 0
          · rw [if_pos c8, if_pos c8]; exact ih _ _ c8
          · rw [if_neg c8, if_neg c8]
      rw [if_neg c9, if_neg c9]
      cases t with
      | nil => rfl
      | cons y u =>
        dsimp only
        cases hz : zjn (g p) y x with
        | none => rfl
        | some w => exact ih _ _ (by omega)
/-- without corners in the code, corners say nothing -/
theorem RC_nc {lw : Bool} {g : Int → Int} {s e L : Int} {D : zDT} (h : zRC lw g s e D L) (L1 : L ≤ 63) (he : g e = 0) (hg : ∀ p : Int, s ≤ p → p ≤ e → p % 2 = 0 → ¬ g p = 3) {f f' : Int → Int → Int} (hf : ∀ o a : Int, ¬ o = 3 → f' o a = f o a) : D f' = D f := by
  obtain ⟨n1, _, r1⟩ := RC_stop h L1 he f
  obtain ⟨n2, _, r2⟩ := RC_stop h L1 he f'
  have sp := h.2.1
  rw [crun_nc (f := f) (fun p hp => by
    split
    · rename_i c; exact hg p c.1 (by omega) hp
    · decide) hf n2 s [] sp.2.1] at r2
  have a1 := crun_ups n2 n1 r1
  have a2 := crun_ups n1 n2 r2
  rw [Nat.add_comm n2 n1, a1] at a2
  exact (Option.some.inj a2).symm
-- the reference's
def rrun (lw : Bool) (op ar : Int → Int) (last : Int) (f : Int → Int → Int) : Nat → Int → List Int → Option (Option Int)
  | 0, _, _ => none
  | n + 1, k, st =>
    if 64 ≤ st.length then none
    else if last ≤ k then match st with
      | [v] => some (some v)
      | _ => none
    else if op k < 0 ∨ 30 < op k then none
    else if op k < 20 then (if zvR lw (op k) (ar k) then rrun lw op ar last f n (k + 1) (f (op k) (ar k) :: st) else none)
    else match st with
      | [] => none
      | x :: t =>
        if op k < 28 then match t with
          | [] => none
          | y :: u => match zjn (op k - 13) y x with
            | none => some none
            | some z => rrun lw op ar last f n (k + 1) (z :: u)
        else if op k = 28 then rrun lw op ar last f n (k + 1) ((1 - x) :: t)
        else if x = (if op k = 29 then 0 else 1) then (if k < ar k ∧ ar k ≤ last then rrun lw op ar last f n (ar k) (x :: t) else none)
        else rrun lw op ar last f n (k + 1) t
theorem lfR_zv {lw : Bool} {tk : Int → Int} {i v : Int} (h : (lfR lw tk i v).1 = true) : zvC lw (lfR lw tk i v).2.2.2.1.1 (lfR lw tk i v).2.2.2.1.2 ∧ zvR lw (lfR lw tk i v).2.2.2.2.1 (lfR lw tk i v).2.2.2.2.2 := by
  revert h
  unfold lfR
  split
  · intro h; cases h
  split
  · intro _; dsimp only; omega
  split
  · rename_i hl
    split
    · intro _
      dsimp only
      refine ⟨⟨by omega, Or.inr (Or.inl ⟨rfl, hl, by omega⟩)⟩, Or.inr (Or.inl ⟨hl, ?_⟩)⟩
      split
      · omega
      · split <;> omega
    · intro h; cases h
  · rename_i hl
    have hl2 : lw = false := by cases lw <;> simp_all
    split
    · intro _
      dsimp only
      refine ⟨⟨by omega, Or.inr (Or.inr (Or.inl ⟨rfl, hl2, by omega⟩))⟩, Or.inr (Or.inr (Or.inl ⟨hl2, ?_⟩))⟩
      split <;> omega
    · split
      · split
        · split
          · intro _
            dsimp only
            exact ⟨⟨by omega, Or.inr (Or.inr (Or.inr ⟨rfl, hl2, by omega⟩))⟩, Or.inr (Or.inr (Or.inr ⟨hl2, by omega⟩))⟩
          · intro h; cases h
        · intro h; cases h
      · intro h; cases h
def cmpL (lw : Bool) (f f2 : Int → Int → Int) : Prop := ∀ (tk : Int → Int) (i v : Int), (lfR lw tk i v).1 = true → f2 (lfR lw tk i v).2.2.2.2.1 (lfR lw tk i v).2.2.2.2.2 = f (lfR lw tk i v).2.2.2.1.1 (lfR lw tk i v).2.2.2.1.2
/-- the reference's code from s to e means D, with L leaves -/
def zRR (lw : Bool) (op ar : Int → Int) (s e : Int) (D : zDT) (L : Int) : Prop := 1 ≤ L ∧ s < e ∧ ∀ op' ar', zAG s e op op' → zAG s e ar ar' → ∀ (last : Int), e ≤ last → ∀ (f f2 : Int → Int → Int), cmpL lw f f2 → ∀ (st : List Int), (st.length : Int) + L ≤ 63 → ∃ n : Nat, (n : Int) ≤ e - s ∧ ∀ k : Nat, rrun lw op' ar' last f2 (n + k) s st = match D f with
  | none => some none
  | some v => rrun lw op' ar' last f2 k e (v :: st)
theorem zRR.cg {lw : Bool} {op ar op' ar' : Int → Int} {s e : Int} {D : zDT} {L : Int} (h : zRR lw op ar s e D L) (a : zAG s e op op') (b : zAG s e ar ar') : zRR lw op' ar' s e D L := ⟨h.1, h.2.1, fun o2 a2 x y => h.2.2 o2 a2 (a.tr x) (b.tr y)⟩
theorem RR_leaf {lw : Bool} {op ar tk : Int → Int} {s i v : Int} (hl : (lfR lw tk i v).1 = true) (ho : (lfR lw tk i v).2.2.2.2.1 < 20) (h0 : op s = (lfR lw tk i v).2.2.2.2.1) (h1 : ar s = (lfR lw tk i v).2.2.2.2.2) : zRR lw op ar s (s + 1) (dLf (lfR lw tk i v).2.2.2.1.1 (lfR lw tk i v).2.2.2.1.2) 1 := by
  refine ⟨by decide, by omega, fun op' ar' a b last hlast f f2 hc st hst => ⟨1, by omega, fun k => ?_⟩⟩
  have e0 := a s (by omega) (by omega)
  have e1 := b s (by omega) (by omega)
  rw [show 1 + k = k + 1 by omega]
  conv => lhs; unfold rrun
  have zv := (lfR_zv hl).2
  rw [if_neg (by omega), if_neg (by omega), e0, h0, if_neg (by omega), if_pos ho, e1, h1, if_pos zv, hc tk i v hl]
  rfl
theorem RR_bin {lw : Bool} {op ar : Int → Int} {s m e o La Lb : Int} {a b : zDT} (ha : zRR lw op ar s m a La) (hb : zRR lw op ar m e b Lb) (o0 : 7 ≤ o) (o1 : o ≤ 14) (he : op e = o + 13) : zRR lw op ar s (e + 1) (dBin o a b) (La + Lb) := by
  obtain ⟨a1, a2, a3⟩ := ha
  obtain ⟨b1, b2, b3⟩ := hb
  refine ⟨by omega, by omega, fun op' ar' x y last hlast f f2 hc st hst => ?_⟩
  obtain ⟨n1, q1, r1⟩ := a3 op' ar' (x.sub (Int.le_refl _) (by omega)) (y.sub (Int.le_refl _) (by omega)) last (by omega) f f2 hc st (by omega)
  have e0 := x e (by omega) (by omega)
  unfold dBin
  cases hA : a f with
  | none =>
    rw [hA] at r1
    exact ⟨n1, by omega, fun k => r1 k⟩
  | some u =>
    rw [hA] at r1
    obtain ⟨n2, q2, r2⟩ := b3 op' ar' (x.sub (by omega) (by omega)) (y.sub (by omega) (by omega)) last (by omega) f f2 hc (u :: st) (by rw [List.length_cons]; omega)
    cases hB : b f with
    | none =>
      rw [hB] at r2
      exact ⟨n1 + n2, by omega, fun k => by rw [Nat.add_assoc, r1]; exact r2 k⟩
    | some w =>
      rw [hB] at r2
      refine ⟨n1 + n2 + 1, by omega, fun k => ?_⟩
      rw [Nat.add_assoc, Nat.add_assoc, r1]
      dsimp only
      rw [r2 (1 + k)]
      dsimp only
      rw [show 1 + k = k + 1 by omega]
      conv => lhs; unfold rrun
      rw [if_neg (by rw [List.length_cons, List.length_cons]; omega), if_neg (by omega), e0, he, if_neg (by omega), if_neg (by omega)]
      dsimp only
      rw [if_pos (by omega), show o + 13 - 13 = o by omega]
theorem RR_not {lw : Bool} {op ar : Int → Int} {s e L : Int} {a : zDT} (ha : zRR lw op ar s e a L) (he : op e = 28) : zRR lw op ar s (e + 1) (dNot a) L := by
  obtain ⟨a1, a2, a3⟩ := ha
  refine ⟨a1, by omega, fun op' ar' x y last hlast f f2 hc st hst => ?_⟩
  obtain ⟨n1, q1, r1⟩ := a3 op' ar' (x.sub (Int.le_refl _) (by omega)) (y.sub (Int.le_refl _) (by omega)) last (by omega) f f2 hc st (by omega)
  have e0 := x e (by omega) (by omega)
  unfold dNot
  cases hA : a f with
  | none =>
    rw [hA] at r1
    exact ⟨n1, by omega, fun k => r1 k⟩
  | some u =>
    rw [hA] at r1
    refine ⟨n1 + 1, by omega, fun k => ?_⟩
    rw [Nat.add_assoc, r1]
    dsimp only
    rw [show 1 + k = k + 1 by omega]
    conv => lhs; unfold rrun
    rw [if_neg (by rw [List.length_cons]; omega), if_neg (by omega), e0, he, if_neg (by decide), if_neg (by decide)]
    dsimp only
    rw [if_neg (by decide), if_pos rfl]
theorem RR_and {lw : Bool} {op ar : Int → Int} {s m e La Lb : Int} {a b : zDT} (ta : zTB a) (ha : zRR lw op ar s m a La) (hm : op m = 29) (hj : ar m = e) (hb : zRR lw op ar (m + 1) e b Lb) : zRR lw op ar s e (dAnd a b) (La + Lb) := by
  obtain ⟨a1, a2, a3⟩ := ha
  obtain ⟨b1, b2, b3⟩ := hb
  refine ⟨by omega, by omega, fun op' ar' x y last hlast f f2 hc st hst => ?_⟩
  obtain ⟨n1, q1, r1⟩ := a3 op' ar' (x.sub (Int.le_refl _) (by omega)) (y.sub (Int.le_refl _) (by omega)) last (by omega) f f2 hc st (by omega)
  have e0 := x m (by omega) (by omega)
  have e1 := y m (by omega) (by omega)
  unfold dAnd
  cases hA : a f with
  | none =>
    rw [hA] at r1
    exact ⟨n1, by omega, fun k => r1 k⟩
  | some u =>
    rw [hA] at r1
    have tu := ta f u hA
    have stp : ∀ k, rrun lw op' ar' last f2 (k + 1) m (u :: st) = if u = 1 then rrun lw op' ar' last f2 k (m + 1) st else rrun lw op' ar' last f2 k e (u :: st) := fun k => by
      conv => lhs; unfold rrun
      rw [if_neg (by rw [List.length_cons]; omega), if_neg (by omega), e0, hm, if_neg (by decide), if_neg (by decide)]
      dsimp only
      rw [if_neg (by decide), if_neg (by decide), if_pos rfl, e1, hj, if_pos (show m < e ∧ e ≤ last by omega)]
      by_cases hu : u = 1
      · rw [if_pos hu, if_neg (by omega)]
      · rw [if_neg hu, if_pos (by omega)]
    by_cases hu : u = 1
    · obtain ⟨n2, q2, r2⟩ := b3 op' ar' (x.sub (by omega) (by omega)) (y.sub (by omega) (by omega)) last (by omega) f f2 hc st (by omega)
      refine ⟨n1 + (n2 + 1), by omega, fun k => ?_⟩
      rw [Nat.add_assoc, r1]
      dsimp only
      rw [show n2 + 1 + k = (n2 + k) + 1 by omega, stp, if_pos hu, if_pos hu]
      exact r2 k
    · refine ⟨n1 + 1, by omega, fun k => ?_⟩
      rw [Nat.add_assoc, r1]
      dsimp only
      rw [show 1 + k = k + 1 by omega, stp, if_neg hu, if_neg hu]
theorem RR_or {lw : Bool} {op ar : Int → Int} {s m e La Lb : Int} {a b : zDT} (ha : zRR lw op ar s m a La) (hm : op m = 30) (hj : ar m = e) (hb : zRR lw op ar (m + 1) e b Lb) : zRR lw op ar s e (dOr a b) (La + Lb) := by
  obtain ⟨a1, a2, a3⟩ := ha
  obtain ⟨b1, b2, b3⟩ := hb
  refine ⟨by omega, by omega, fun op' ar' x y last hlast f f2 hc st hst => ?_⟩
  obtain ⟨n1, q1, r1⟩ := a3 op' ar' (x.sub (Int.le_refl _) (by omega)) (y.sub (Int.le_refl _) (by omega)) last (by omega) f f2 hc st (by omega)
  have e0 := x m (by omega) (by omega)
  have e1 := y m (by omega) (by omega)
  unfold dOr
  cases hA : a f with
  | none =>
    rw [hA] at r1
    exact ⟨n1, by omega, fun k => r1 k⟩
  | some u =>
    rw [hA] at r1
    have stp : ∀ k, rrun lw op' ar' last f2 (k + 1) m (u :: st) = if u = 1 then rrun lw op' ar' last f2 k e (u :: st) else rrun lw op' ar' last f2 k (m + 1) st := fun k => by
      conv => lhs; unfold rrun
      rw [if_neg (by rw [List.length_cons]; omega), if_neg (by omega), e0, hm, if_neg (by decide), if_neg (by decide)]
      dsimp only
      rw [if_neg (by decide), if_neg (by decide), if_neg (show ¬ (30 : Int) = 29 by decide), e1, hj, if_pos (show m < e ∧ e ≤ last by omega)]
    by_cases hu : u = 1
    · refine ⟨n1 + 1, by omega, fun k => ?_⟩
      rw [Nat.add_assoc, r1]
      dsimp only
      rw [show 1 + k = k + 1 by omega, stp, if_pos hu, if_pos hu]
    · obtain ⟨n2, q2, r2⟩ := b3 op' ar' (x.sub (by omega) (by omega)) (y.sub (by omega) (by omega)) last (by omega) f f2 hc st (by omega)
      refine ⟨n1 + (n2 + 1), by omega, fun k => ?_⟩
      rw [Nat.add_assoc, r1]
      dsimp only
      rw [show n2 + 1 + k = (n2 + k) + 1 by omega, stp, if_neg hu, if_neg hu]
      exact r2 k
theorem zRR_fin {lw : Bool} {op ar : Int → Int} {s e L : Int} {D : zDT} (h : zRR lw op ar s e D L) (L1 : L ≤ 63) {f f2 : Int → Int → Int} (hc : cmpL lw f f2) : ∃ n : Nat, (n : Int) ≤ e - s + 1 ∧ rrun lw (fun j => if s ≤ j ∧ j < e then op j else -9) ar e f2 n s [] = some (D f) := by
  obtain ⟨a1, a2, a3⟩ := h
  obtain ⟨n, q, r⟩ := a3 (fun j => if s ≤ j ∧ j < e then op j else -9) ar (fun j j0 j1 => if_pos ⟨j0, j1⟩) zAG.rf e (Int.le_refl _) f f2 hc [] (by rw [List.length_nil]; omega)
  refine ⟨n + 1, by omega, ?_⟩
  rw [r 1]
  cases hD : D f with
  | none => rfl
  | some v =>
    dsimp only
    unfold rrun
    rw [if_neg (by rw [List.length_cons, List.length_nil]; omega), if_pos (Int.le_refl _)]
theorem rrun_up {lw : Bool} {op ar : Int → Int} {last : Int} {f : Int → Int → Int} : ∀ (n : Nat) (k : Int) (st : List Int) (r : Option Int), rrun lw op ar last f n k st = some r → rrun lw op ar last f (n + 1) k st = some r := by
  intro n
  induction n with
  | zero => intro p st r h; cases h
  | succ n ih =>
    intro k st r h
    unfold rrun at h ⊢
    by_cases c1 : 64 ≤ st.length
    · rw [if_pos c1] at h; cases h
    rw [if_neg c1] at h ⊢
    by_cases c2 : last ≤ k
    · rw [if_pos c2] at h ⊢; exact h
    rw [if_neg c2] at h ⊢
    by_cases c3 : op k < 0 ∨ 30 < op k
    · rw [if_pos c3] at h; cases h
    rw [if_neg c3] at h ⊢
    by_cases c4 : op k < 20
    · rw [if_pos c4] at h ⊢
      by_cases c5 : zvR lw (op k) (ar k)
      · rw [if_pos c5] at h ⊢; exact ih _ _ _ h
      · rw [if_neg c5] at h; cases h
    rw [if_neg c4] at h ⊢
    cases st with
    | nil => exact h
    | cons x t =>
      dsimp only at h ⊢
      by_cases c6 : op k < 28
      · rw [if_pos c6] at h ⊢
        cases t with
        | nil => exact h
        | cons y u =>
          dsimp only at h ⊢
          cases hz : zjn (op k - 13) y x with
          | none => rw [hz] at h; exact h
          | some w => rw [hz] at h; exact ih _ _ _ h
      rw [if_neg c6] at h ⊢
      by_cases c7 : op k = 28
      · rw [if_pos c7] at h ⊢; exact ih _ _ _ h
      rw [if_neg c7] at h ⊢
      by_cases c8 : x = (if op k = 29 then 0 else 1)
      · rw [if_pos c8] at h ⊢
        by_cases c9 : k < ar k ∧ ar k ≤ last
        · rw [if_pos c9] at h ⊢; exact ih _ _ _ h
        · rw [if_neg c9] at h; cases h
      · rw [if_neg c8] at h ⊢; exact ih _ _ _ h
theorem rrun_ups {lw : Bool} {op ar : Int → Int} {last : Int} {f : Int → Int → Int} (m n : Nat) {k : Int} {st : List Int} {r : Option Int} (h : rrun lw op ar last f n k st = some r) : rrun lw op ar last f (n + m) k st = some r := by
  induction m with
  | zero => exact h
  | succ m ih => exact rrun_up _ _ _ _ ih
/-- what is meant rests on what leaves can be alone -/
theorem RR_same {lw : Bool} {op ar : Int → Int} {s e L : Int} {D : zDT} (h : zRR lw op ar s e D L) (L1 : L ≤ 63) {f f' f2 : Int → Int → Int} (hc : cmpL lw f f2) (hc' : cmpL lw f' f2) : D f' = D f := by
  obtain ⟨n1, _, r1⟩ := zRR_fin h L1 hc
  obtain ⟨n2, _, r2⟩ := zRR_fin h L1 hc'
  have a1 := rrun_ups n2 n1 r1
  have a2 := rrun_ups n1 n2 r2
  rw [Nat.add_comm n2 n1, a1] at a2
  exact (Option.some.inj a2).symm
/-! TEXTS: where the reading goes; the reference's machine with its pile -/
def zMO (i v : Int) (r : zRT) : Prop := (i ≤ r.2.1 ∧ r.2.1 ≤ 400) ∧ (r.1 = true → i < r.2.1) ∧ v ≤ r.2.2.1 ∧ (v ≤ 50 → r.2.2.1 ≤ 50)
def zMW (i v : Int) (r : zRT) : Prop := (i ≤ r.2.1 ∧ r.2.1 ≤ 400) ∧ v ≤ r.2.2.1 ∧ (v ≤ 50 → r.2.2.1 ≤ 50)
theorem zMO.w {i v : Int} {r : zRT} (h : zMO i v r) : zMW i v r := ⟨h.1, h.2.2⟩
theorem tk_lt {tk : Int → Int} (HT : ∀ j : Int, 400 ≤ j → tk j = 29) {i : Int} (h : ¬ tk i = 29) : i < 400 := by
  by_cases q : 400 ≤ i
  · exact absurd (HT i q) h
  · omega
theorem ordOf_n {t : Int} (h : ¬ ordOf t = -1) : ¬ t = 29 := fun q => h (by rw [q]; decide)
theorem relOf_n {t : Int} (h : ¬ relOf t = -1) : ¬ t = 29 := fun q => h (by rw [q]; decide)
theorem ordOf_r {t : Int} (h : ¬ ordOf t = -1) : 7 ≤ ordOf t ∧ ordOf t ≤ 11 := by
  unfold ordOf at h ⊢
  split
  · omega
  · split
    · omega
    · split
      · omega
      · split
        · omega
        · split
          · omega
          · rename_i h1 h2 h3 h4 h5
            rw [if_neg h1, if_neg h2, if_neg h3, if_neg h4, if_neg h5] at h
            exact absurd rfl h
theorem relOf_r {t : Int} (h : ¬ relOf t = -1) : 12 ≤ relOf t ∧ relOf t ≤ 14 := by
  unfold relOf at h ⊢
  split
  · omega
  · split
    · omega
    · split
      · omega
      · rename_i h1 h2 h3
        rw [if_neg h1, if_neg h2, if_neg h3] at h
        exact absurd rfl h
theorem lfR_mo {lw : Bool} {tk : Int → Int} (HT : ∀ j : Int, 400 ≤ j → tk j = 29) {i v : Int} (i1 : i ≤ 400) : zMO i v ((lfR lw tk i v).1, (lfR lw tk i v).2.1, (lfR lw tk i v).2.2.1, dLf (lfR lw tk i v).2.2.2.1.1 (lfR lw tk i v).2.2.2.1.2) := by
  unfold zMO lfR
  have k0 : ¬ tk i = 29 → i < 400 := tk_lt HT
  have k1 : ¬ tk (i + 1) = 29 → i + 1 < 400 := tk_lt HT
  have k2 : ¬ tk (i + 2) = 29 → i + 2 < 400 := tk_lt HT
  by_cases a : 50 ≤ v
  · rw [if_pos a]; refine ⟨by dsimp only; omega, fun h => (by cases h), by dsimp only; omega, by dsimp only; omega⟩
  rw [if_neg a]
  by_cases b : 2000 ≤ tk i ∧ tk i ≤ 3000
  · rw [if_pos b]; exact ⟨by dsimp only; omega, fun _ => by dsimp only; omega, by dsimp only; omega, by dsimp only; omega⟩
  rw [if_neg b]
  by_cases c : lw = true
  · rw [if_pos c]
    by_cases e : 0 ≤ tk i ∧ tk i ≤ 7
    · rw [if_pos e]; exact ⟨by dsimp only; omega, fun _ => by dsimp only; omega, by dsimp only; omega, by dsimp only; omega⟩
    · rw [if_neg e]; refine ⟨by dsimp only; omega, fun h => (by cases h), by dsimp only; omega, by dsimp only; omega⟩
  rw [if_neg c]
  by_cases e : 7 ≤ tk i ∧ tk i ≤ 12
  · rw [if_pos e]; exact ⟨by dsimp only; omega, fun _ => by dsimp only; omega, by dsimp only; omega, by dsimp only; omega⟩
  rw [if_neg e]
  by_cases g : 13 ≤ tk i ∧ tk i ≤ 14
  · rw [if_pos g]
    by_cases h1 : 0 ≤ tk (i + 1) - 2000 ∧ tk (i + 1) - 2000 ≤ 4
    · rw [if_pos h1]
      by_cases h2 : 0 ≤ tk (i + 2) - 2000 ∧ tk (i + 2) - 2000 ≤ 11
      · rw [if_pos h2]; exact ⟨by dsimp only; omega, fun _ => by dsimp only; omega, by dsimp only; omega, by dsimp only; omega⟩
      · rw [if_neg h2]; refine ⟨by dsimp only; omega, fun h => (by cases h), by dsimp only; omega, by dsimp only; omega⟩
    · rw [if_neg h1]; refine ⟨by dsimp only; omega, fun h => (by cases h), by dsimp only; omega, by dsimp only; omega⟩
  · rw [if_neg g]; refine ⟨by dsimp only; omega, fun h => (by cases h), by dsimp only; omega, by dsimp only; omega⟩
theorem zbF {b : Bool} (h : ¬ b = false) : b = true := by cases b; exact absurd rfl h; rfl
theorem rdSm_s {part : Int → Int → zRT} {tk : Int → Int} {n : Nat} {w : Option (Int × zDT)} {p : zDT} {i v : Int} : rdSm part tk (n + 1) w p i v = if ordOf (tk i) = -1 then (true, i, v, zcmB w p) else if (part (i + 1) v).1 = false then part (i + 1) v else if 9 ≤ ordOf (tk i) then rdSm part tk n w (dBin (ordOf (tk i)) p (part (i + 1) v).2.2.2) (part (i + 1) v).2.1 (part (i + 1) v).2.2.1 else rdSm part tk n (some (ordOf (tk i), zcmB w p)) (part (i + 1) v).2.2.2 (part (i + 1) v).2.1 (part (i + 1) v).2.2.1 := rfl
theorem rdTs_s {plain : Int → Int → zRT} {tk : Int → Int} {n : Nat} {w : Option zDT} {p : zDT} {i v : Int} : rdTs plain tk (n + 1) w p i v = if tk i = 26 then (if (plain (i + 1) v).1 = false then plain (i + 1) v else rdTs plain tk n w (dAnd p (plain (i + 1) v).2.2.2) (plain (i + 1) v).2.1 (plain (i + 1) v).2.2.1) else if tk i = 25 then (if (plain (i + 1) v).1 = false then plain (i + 1) v else rdTs plain tk n (some (zcmO w p)) (plain (i + 1) v).2.2.2 (plain (i + 1) v).2.1 (plain (i + 1) v).2.2.1) else (true, i, v, zcmO w p) := rfl
theorem rdSm_mo {part : Int → Int → zRT} {tk : Int → Int} (HT : ∀ j : Int, 400 ≤ j → tk j = 29) (hp : ∀ i v : Int, 0 ≤ i → i ≤ 400 → zMO i v (part i v)) : ∀ (n : Nat) (w : Option (Int × zDT)) (p : zDT) (i v : Int), 0 ≤ i → i ≤ 400 → zMW i v (rdSm part tk n w p i v) := by
  intro n
  induction n with
  | zero => intro w p i v i0 i1; exact ⟨⟨Int.le_refl _, i1⟩, Int.le_refl _, fun h => h⟩
  | succ n ih =>
    intro w p i v i0 i1
    unfold rdSm
    by_cases a : ordOf (tk i) = -1
    · rw [if_pos a]; exact ⟨⟨Int.le_refl _, i1⟩, Int.le_refl _, fun h => h⟩
    rw [if_neg a]
    have := tk_lt HT (ordOf_n a)
    have m := hp (i + 1) v (by omega) (by omega)
    unfold zMO at m
    by_cases b : (part (i + 1) v).1 = false
    · rw [if_pos b]; unfold zMW; omega
    rw [if_neg b]
    split
    · have q := ih w (dBin (ordOf (tk i)) p (part (i + 1) v).2.2.2) (part (i + 1) v).2.1 (part (i + 1) v).2.2.1 (by omega) (by omega)
      unfold zMW at q ⊢; omega
    · have q := ih (some (ordOf (tk i), zcmB w p)) (part (i + 1) v).2.2.2 (part (i + 1) v).2.1 (part (i + 1) v).2.2.1 (by omega) (by omega)
      unfold zMW at q ⊢; omega
theorem rdTs_mo {plain : Int → Int → zRT} {tk : Int → Int} (HT : ∀ j : Int, 400 ≤ j → tk j = 29) (hp : ∀ i v : Int, 0 ≤ i → i ≤ 400 → zMO i v (plain i v)) : ∀ (n : Nat) (w : Option zDT) (p : zDT) (i v : Int), 0 ≤ i → i ≤ 400 → zMW i v (rdTs plain tk n w p i v) := by
  intro n
  induction n with
  | zero => intro w p i v i0 i1; exact ⟨⟨Int.le_refl _, i1⟩, Int.le_refl _, fun h => h⟩
  | succ n ih =>
    intro w p i v i0 i1
    unfold rdTs
    have m : ¬ tk i = 29 → zMO (i + 1) v (plain (i + 1) v) := fun h => by have := tk_lt HT h; exact hp (i + 1) v (by omega) (by omega)
    by_cases a : tk i = 26
    · rw [if_pos a]
      have m := m (by omega)
      unfold zMO at m
      split
      · unfold zMW; omega
      · have q := ih w (dAnd p (plain (i + 1) v).2.2.2) (plain (i + 1) v).2.1 (plain (i + 1) v).2.2.1 (by omega) (by omega)
        unfold zMW at q ⊢; omega
    rw [if_neg a]
    by_cases b : tk i = 25
    · rw [if_pos b]
      have m := m (by omega)
      unfold zMO at m
      split
      · unfold zMW; omega
      · have q := ih (some (zcmO w p)) (plain (i + 1) v).2.2.2 (plain (i + 1) v).2.1 (plain (i + 1) v).2.2.1 (by omega) (by omega)
        unfold zMW at q ⊢; omega
    rw [if_neg b]; exact ⟨⟨Int.le_refl _, i1⟩, Int.le_refl _, fun h => h⟩
theorem ntF_at {tk : Int → Int} (HT : ∀ j : Int, 400 ≤ j → tk j = 29) : ∀ (n : Nat) (i : Int), i ≤ 400 → i + (ntF tk n i : Int) ≤ 400 ∧ ntF tk n i ≤ n ∧ (ntF tk n i < n → ¬ tk (i + (ntF tk n i : Int)) = 27) ∧ ∀ k : Int, i ≤ k → k < i + (ntF tk n i : Int) → tk k = 27 := by
  intro n
  induction n with
  | zero => intro i h; exact ⟨by show i + 0 ≤ 400; omega, Nat.le_refl _, fun h => absurd h (Nat.not_lt_zero _), fun k a b => absurd (show k < i + 0 from b) (by omega)⟩
  | succ n ih =>
    intro i h
    unfold ntF
    by_cases a : tk i = 27
    · rw [if_pos a]
      have := tk_lt HT (i := i) (by omega)
      obtain ⟨q1, q2, q3, q4⟩ := ih (i + 1) (by omega)
      have e : i + ((ntF tk n (i + 1) + 1 : Nat) : Int) = i + 1 + (ntF tk n (i + 1) : Int) := by omega
      refine ⟨by omega, by omega, fun z => by rw [e]; exact q3 (by omega), fun k k0 k1 => ?_⟩
      by_cases hk : k = i
      · rw [hk]; exact a
      · exact q4 k (by omega) (by omega)
    · rw [if_neg a]
      exact ⟨by show i + 0 ≤ 400; omega, Nat.zero_le _, fun _ => by show ¬ tk (i + 0) = 27; rw [Int.add_zero]; exact a, fun k k0 k1 => absurd (show k < i + 0 from k1) (by omega)⟩
theorem rd_mo {lw : Bool} {tk : Int → Int} (HT : ∀ j : Int, 400 ≤ j → tk j = 29) : ∀ (fu sel : Nat) (d i v : Int), 0 < fu → 0 ≤ i → i ≤ 400 → zMO i v (zrd lw tk fu sel d i v) ∨ (zMW i v (zrd lw tk fu sel d i v) ∧ (zrd lw tk fu sel d i v).1 = false) := by
  intro fu
  induction fu with
  | zero => intro sel d i v h; exact absurd h (Nat.lt_irrefl _)
  | succ fu ih =>
    have tot : ∀ (sel : Nat) (d i v : Int), 0 ≤ i → i ≤ 400 → zMO i v (zrd lw tk fu sel d i v) := fun sel d i v i0 i1 => by
      by_cases h : 0 < fu
      · rcases ih sel d i v h i0 i1 with q | ⟨q, z⟩
        · exact q
        · exact ⟨q.1, fun y => (by rw [z] at y; cases y), q.2⟩
      · have e : fu = 0 := by omega
        subst e
        unfold zrd
        exact ⟨⟨Int.le_refl _, i1⟩, fun y => (by cases y), Int.le_refl _, fun h => h⟩
    intro sel d i v _ i0 i1
    left
    match sel with
    | 0 =>
      unfold zrd
      have m := tot 1 d i v i0 i1
      unfold zMO at m
      by_cases a : (zrd lw tk fu 1 d i v).1 = false
      · rw [if_pos a]; exact tot 1 d i v i0 i1
      rw [if_neg a]
      have s := m.2.1 (zbF a)
      have q := rdTs_mo HT (fun i v a b => tot 1 d i v a b) 400 none (zrd lw tk fu 1 d i v).2.2.2 (zrd lw tk fu 1 d i v).2.1 (zrd lw tk fu 1 d i v).2.2.1 (by omega) (by omega)
      unfold zMW at q
      unfold zMO; exact ⟨by omega, fun _ => by omega, by omega, by omega⟩
    | 1 =>
      unfold zrd
      obtain ⟨q1, q2, q3, q4⟩ := ntF_at HT 400 i i1
      generalize ntF tk 400 i = k at *
      have body : zMO i v (if tk (i + (k : Int)) = 1040 then (if 8 ≤ d then (false, i + (k : Int), v, dNo) else zcl 1041 tk (zrd lw tk fu 0 (d + 1) (i + (k : Int) + 1) v)) else rdCm (zrd lw tk fu 2 d) tk (i + (k : Int)) v) := by
        by_cases a : tk (i + (k : Int)) = 1040
        · rw [if_pos a]
          have lt := tk_lt HT (i := i + (k : Int)) (by omega)
          by_cases b : 8 ≤ d
          · rw [if_pos b]; exact ⟨by dsimp only; omega, fun y => (by cases y), by dsimp only; omega, fun h => h⟩
          rw [if_neg b]
          have m := tot 0 (d + 1) (i + (k : Int) + 1) v (by omega) (by omega)
          unfold zMO at m
          unfold zcl
          split
          · unfold zMO; exact ⟨by omega, fun _ => by omega, by omega, by omega⟩
          · split
            · rename_i c
              have := tk_lt HT (i := (zrd lw tk fu 0 (d + 1) (i + (k : Int) + 1) v).2.1) (by omega)
              unfold zMO; exact ⟨by dsimp only; omega, fun _ => by dsimp only; omega, by dsimp only; omega, by dsimp only; omega⟩
            · unfold zMO; exact ⟨by dsimp only; omega, fun y => (by cases y), by dsimp only; omega, by dsimp only; omega⟩
        · rw [if_neg a]
          have m := tot 2 d (i + (k : Int)) v (by omega) (by omega)
          unfold zMO at m
          unfold rdCm
          split
          · rename_i z
            unfold zMO; exact ⟨by omega, fun y => (by rw [z] at y; cases y), by omega, by omega⟩
          · split
            · unfold zMO; exact ⟨by dsimp only; omega, fun y => (by cases y), by dsimp only; omega, by dsimp only; omega⟩
            · rename_i c
              have lt := tk_lt HT (relOf_n c)
              have m2 := tot 2 d ((zrd lw tk fu 2 d (i + (k : Int)) v).2.1 + 1) (zrd lw tk fu 2 d (i + (k : Int)) v).2.2.1 (by omega) (by omega)
              unfold zMO at m2
              split
              · unfold zMO; exact ⟨by omega, fun _ => by omega, by omega, by omega⟩
              · unfold zMO; exact ⟨by dsimp only; omega, fun _ => by dsimp only; omega, by dsimp only; omega, by dsimp only; omega⟩
      unfold ztn
      split
      · exact body
      · exact body
    | 2 =>
      unfold zrd
      have m := tot 3 d i v i0 i1
      unfold zMO at m
      by_cases a : (zrd lw tk fu 3 d i v).1 = false
      · rw [if_pos a]; exact tot 3 d i v i0 i1
      rw [if_neg a]
      have s := m.2.1 (zbF a)
      have q := rdSm_mo HT (fun i v a b => tot 3 d i v a b) 400 none (zrd lw tk fu 3 d i v).2.2.2 (zrd lw tk fu 3 d i v).2.1 (zrd lw tk fu 3 d i v).2.2.1 (by omega) (by omega)
      unfold zMW at q
      unfold zMO; exact ⟨by omega, fun _ => by omega, by omega, by omega⟩
    | sel + 3 =>
      unfold zrd
      by_cases a : tk i = 1091
      · rw [if_pos a]
        have lt := tk_lt HT (i := i) (by omega)
        by_cases b : 8 ≤ d
        · rw [if_pos b]; exact ⟨⟨Int.le_refl _, i1⟩, fun y => (by cases y), Int.le_refl _, fun h => h⟩
        rw [if_neg b]
        have m := tot 2 (d + 1) (i + 1) v (by omega) (by omega)
        unfold zMO at m
        unfold zcl
        split
        · unfold zMO; exact ⟨by omega, fun _ => by omega, by omega, by omega⟩
        · split
          · rename_i c
            have := tk_lt HT (i := (zrd lw tk fu 2 (d + 1) (i + 1) v).2.1) (by omega)
            unfold zMO; exact ⟨by dsimp only; omega, fun _ => by dsimp only; omega, by dsimp only; omega, by dsimp only; omega⟩
          · unfold zMO; exact ⟨by dsimp only; omega, fun y => (by cases y), by dsimp only; omega, by dsimp only; omega⟩
      · rw [if_neg a]; exact lfR_mo HT i1
theorem rd_mov {lw : Bool} {tk : Int → Int} (HT : ∀ j : Int, 400 ≤ j → tk j = 29) (fu sel : Nat) (d i v : Int) (i0 : 0 ≤ i) (i1 : i ≤ 400) : zMO i v (zrd lw tk fu sel d i v) := by
  by_cases h : 0 < fu
  · rcases rd_mo HT fu sel d i v h i0 i1 with q | ⟨q, z⟩
    · exact q
    · exact ⟨q.1, fun y => (by rw [z] at y; cases y), q.2⟩
  · have e : fu = 0 := by omega
    subst e
    unfold zrd
    exact ⟨⟨Int.le_refl _, i1⟩, fun y => (by cases y), Int.le_refl _, fun h => h⟩

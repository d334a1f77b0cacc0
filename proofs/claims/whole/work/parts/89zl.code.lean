/-! WHAT CODE GIVES: the class's valueOf does what crun says -/
def sK (g : Int → Int) : List Int → Prop
  | [] => True
  | x :: t => g (t.length : Int) = x ∧ sK g t
theorem sK_up {g : Int → Int} {v k : Int} : ∀ st : List Int, (st.length : Int) ≤ k → sK g st → sK (uI g k v) st
  | [], _, _ => trivial
  | x :: t, h, hh => by
    rw [List.length_cons] at h
    exact ⟨(uI_ne (by omega)).trans hh.1, sK_up t (by omega) hh.2⟩
theorem sK_0 {g : Int → Int} : ∀ (t : List Int) (x : Int), sK g (x :: t) → g 0 = t.getLastD x
  | [], _, h => h.1
  | y :: u, x, h => by
    rw [List.getLastD_cons]
    exact sK_0 u y h.2
theorem gl_in {P : Int → Prop} : ∀ (t : List Int) (x : Int), (∀ z ∈ x :: t, P z) → P (t.getLastD x)
  | [], x, h => h x (List.mem_cons_self ..)
  | y :: u, x, h => by
    rw [List.getLastD_cons]
    exact gl_in u y (fun z hz => h z (List.mem_cons_of_mem _ hz))
theorem mul_rB {x y : Int} (hx : -1000001000 ≤ x ∧ x ≤ 1000001000) (hy : -1000001000 ≤ y ∧ y ≤ 1000001000) : -1000002000001000000 ≤ x * y ∧ x * y ≤ 1000002000001000000 := by
  have h1 : (x * y).natAbs ≤ 1000001000 * 1000001000 := by
    rw [Int.natAbs_mul]
    exact Nat.mul_le_mul (by omega) (by omega)
  omega
theorem tmod_rB {a b : Int} : -a.natAbs ≤ Int.tmod a b ∧ Int.tmod a b ≤ a.natAbs := by
  have h : (Int.tmod a b).natAbs ≤ a.natAbs := by
    rw [Int.natAbs_tmod]
    exact Nat.mod_le _ _
  omega
theorem zraw_r {o x y : Int} (hx : -1000001000 ≤ x ∧ x ≤ 1000001000) (hy : -1000001000 ≤ y ∧ y ≤ 1000001000) : -1000002000001000000 ≤ zraw o x y ∧ zraw o x y ≤ 1000002000001000000 := by
  have h1 := mul_rB hx hy
  have h2 := tdiv_r (a := x) (b := y)
  have h3 := tmod_rB (a := x) (b := y)
  unfold zraw
  split
  · omega
  split
  · omega
  split
  · exact h1
  split
  · omega
  split
  · omega
  split
  · split <;> omega
  split
  · split <;> omega
  · split <;> omega
theorem zjn_r {o x y v : Int} (h : zjn o x y = some v) : -1000000000 ≤ v ∧ v ≤ 1000000000 := by
  unfold zjn at h
  split at h
  · cases h
  · split at h
    · rename_i c; cases h; exact c
    · cases h
theorem e_joined {o a b : Int} {X : XT} {Q : Int → Prop} (ho : 7 ≤ o ∧ o ≤ 14) (ha : -1000001000 ≤ a ∧ a ≤ 1000001000) (hb : -1000001000 ≤ b ∧ b ≤ 1000001000) (qn : zjn o a b = none → Q (-2147483648)) (qs : ∀ v, zjn o a b = some v → Q v) : w_X6_joined o a b X Q := by
  intro J hJ
  have kz : ∀ v, zraw o a b = v → ¬ ((o = 10 ∨ o = 11) ∧ b = 0) → J v := by
    rintro v rfl nz
    have r := zraw_r (o := o) ha hb
    refine hJ _ ⟨by omega, fun k => qn ?_, fun k => ⟨fun k2 => qs _ ?_, fun k2 => qn ?_⟩⟩
    · unfold zjn; rw [if_neg nz, if_neg (by omega)]
    · unfold zjn; rw [if_neg nz, if_pos (by omega)]
    · unfold zjn; rw [if_neg nz, if_neg (by omega)]
  have k0 : ((o = 10 ∨ o = 11) ∧ b = 0) → J (-2147483648) := fun nz => hJ _ ⟨by decide, fun _ => qn (by unfold zjn; rw [if_pos nz]), fun k => absurd (by decide) k⟩
  refine ⟨by omega, fun k => kz _ (by unfold zraw; rw [if_pos k]) (by omega), fun k => kz _ (by unfold zraw; rw [if_neg (by omega), if_pos k]) (by omega), fun k => kz _ (by unfold zraw; rw [if_neg (by omega), if_neg (by omega), if_pos k]) (by omega), fun k => ⟨by omega, fun k2 => ⟨by omega, k2, by omega, kz _ (by unfold zraw; rw [if_neg (by omega), if_neg (by omega), if_neg (by omega), if_pos k]) (by omega)⟩, fun k2 => k0 ⟨Or.inl k, k2⟩⟩, fun k => ⟨by omega, fun k2 => ⟨by omega, k2, by omega, kz _ (by unfold zraw; rw [if_neg (by omega), if_neg (by omega), if_neg (by omega), if_neg (by omega), if_pos k]) (by omega)⟩, fun k2 => k0 ⟨Or.inr k, k2⟩⟩, fun k => ⟨by omega, by omega, fun k2 => kz _ ?_ (by omega), fun k2 => kz _ ?_ (by omega)⟩, fun k => ⟨by omega, by omega, fun k2 => kz _ ?_ (by omega), fun k2 => kz _ ?_ (by omega)⟩, fun k => ⟨by omega, by omega, fun k2 => kz _ ?_ (by omega), fun k2 => kz _ ?_ (by omega)⟩, fun k => absurd ho (by omega)⟩
  all_goals unfold zraw
  · rw [if_neg (by omega), if_neg (by omega), if_neg (by omega), if_neg (by omega), if_neg (by omega), if_pos k, if_neg (by omega)]
  · rw [if_neg (by omega), if_neg (by omega), if_neg (by omega), if_neg (by omega), if_neg (by omega), if_pos k, if_pos (by omega)]
  · rw [if_neg (by omega), if_neg (by omega), if_neg (by omega), if_neg (by omega), if_neg (by omega), if_neg (by omega), if_pos k, if_neg (by omega)]
  · rw [if_neg (by omega), if_neg (by omega), if_neg (by omega), if_neg (by omega), if_neg (by omega), if_neg (by omega), if_pos k, if_pos (by omega)]
  · rw [if_neg (by omega), if_neg (by omega), if_neg (by omega), if_neg (by omega), if_neg (by omega), if_neg (by omega), if_neg (by omega), if_neg k2]
  · rw [if_neg (by omega), if_neg (by omega), if_neg (by omega), if_neg (by omega), if_neg (by omega), if_neg (by omega), if_neg (by omega), if_pos k2]
theorem e_value {lw : Bool} {zN : Nat} {zg : Int → Int} {ta sb tc : Nat} {s e : Int} {X : XT} {Q : Int → XT → Prop} {n0 : Nat} {D : Option Int} (hc : ¬ ta = tc ∧ ¬ sb = tc) (hN : zN ≤ 1000) (h0 : 0 ≤ s) (he : e + 2 ≤ (zN : Int)) (hz : zg e = 0) (hn : 2 * (n0 : Int) ≤ e - s + 2) (hr : crun lw (fun j => if s ≤ j ∧ j < e + 1 then zg j else -9) (fun o a => ftF o a (X ta) (X sb)) n0 s [] = some D) (hs2 : s % 2 = 0) (hf : ∀ p : Int, s ≤ p → p ≤ e → p % 2 = 0 → zvC lw (zg p) (zg (p + 1)) → -1000000000 ≤ ftF (zg p) (zg (p + 1)) (X ta) (X sb) ∧ ftF (zg p) (zg (p + 1)) (X ta) (X sb) ≤ 1000000000) (q : ∀ X1, (∀ c, ¬ c = tc → X1 c = X c) → (∀ v, D = some v → -1000001000 ≤ v ∧ v ≤ 1000001000) → Q (D.getD (-2147483648)) X1) : w_X6_valueOf zN zg ta sb tc s X Q := by
  generalize hG : (fun j => if s ≤ j ∧ j < e + 1 then zg j else -9) = G at hr
  generalize hF : (fun o a => ftF o a (X ta) (X sb)) = F at hr
  have gP : ∀ p : Int, ¬ G p < 0 → s ≤ p ∧ p ≤ e ∧ G p = zg p := by
    intro p hp
    rw [← hG] at hp ⊢
    by_cases c : s ≤ p ∧ p < e + 1
    · refine ⟨c.1, by omega, ?_⟩
      dsimp only; rw [if_pos c]
    · dsimp only at hp; rw [if_neg c] at hp; exact absurd (by decide) hp
  have gA : ∀ p : Int, s ≤ p → p < e → G (p + 1) = zg (p + 1) := by
    intro p a b
    rw [← hG]
    dsimp only; rw [if_pos (by omega)]
  refine ⟨fun x1 x2 x3 Y => (∀ c, ¬ c = tc → Y c = X c) ∧ ∃ (n : Nat) (st : List Int), x3 + n = n0 ∧ 0 ≤ x3 ∧ crun lw G F n x1 st = some D ∧ (st.length : Int) = x2 ∧ x2 ≤ x3 ∧ sK (Y tc) st ∧ (∀ x ∈ st, -(1000000000 + x3) ≤ x ∧ x ≤ 1000000000 + x3) ∧ x1 % 2 = 0, fun _ _ x3 _ => (1000 - x3).toNat, ⟨fun _ _ => rfl, n0, [], by omega, by decide, hr, rfl, by decide, trivial, fun x h => absurd h (List.not_mem_nil), hs2⟩, ?_⟩
  rintro x1 x2 x3 Y ⟨hY, n, st, hx3, x30, hrun, hlen, hle, hk, hb, hpar⟩
  have eF : ∀ o a : Int, F o a = ftF o a (Y ta) (Y sb) := fun o a => by rw [← hF, hY ta hc.1, hY sb hc.2]
  cases n with
  | zero =>
    have hh : (none : Option (Option Int)) = some D := hrun
    cases hh
  | succ n =>
  unfold crun at hrun
  by_cases c1 : G x1 < 0 ∨ 14 < G x1
  · rw [if_pos c1] at hrun; cases hrun
  rw [if_neg c1] at hrun
  obtain ⟨p0, p1, gp⟩ := gP x1 (by omega)
  rw [gp] at hrun c1
  have qn : D = none → Q (-2147483648) Y := fun e => by
    have := q Y hY (fun v h => by rw [e] at h; cases h)
    rw [e] at this; exact this
  have qs : ∀ v, D = some v → (-1000001000 ≤ v ∧ v ≤ 1000001000) → Q v Y := fun v e r => by
    have := q Y hY (fun w h => by rw [e] at h; cases h; exact r)
    rw [e] at this; exact this
  have ne : ¬ zg x1 = 0 → x1 < e := fun k => by
    by_cases z : x1 = e
    · rw [z] at k; exact absurd hz k
    · omega
  refine ⟨by omega, by omega, fun k => absurd k (by omega), fun _ => ⟨by omega, fun k => absurd k (by omega), fun _ => ⟨by omega, fun k => absurd k (by omega), fun _ => ⟨by omega, fun k => ?_, fun k => ?_⟩⟩⟩⟩
  rotate_left
  · rw [if_pos (by omega)] at hrun
    exact qn (Option.some.inj hrun).symm
  rw [if_neg (by omega)] at hrun
  refine ⟨by omega, by omega, ?_⟩
  intro J28 hJ
  have leaf : (zg x1 = 1 ∨ zg x1 = 2 ∨ zg x1 = 3) → J28 := by
    intro hl
    rw [if_pos hl, gA x1 p0 (ne (by omega))] at hrun
    by_cases zv : zvC lw (zg x1) (zg (x1 + 1))
    · rw [if_pos zv] at hrun
      have fr := hf x1 p0 p1 hpar zv
      have ef := eF (zg x1) (zg (x1 + 1))
      rw [← hY ta hc.1, ← hY sb hc.2, ← ef] at fr
      refine hJ ⟨by omega, by omega, by omega, ⟨fun c hc2 => by rw [x_st_c hc2]; exact hY c hc2, n, _ :: st, by omega, by omega, hrun, by rw [List.length_cons]; omega, by omega, ⟨?_, ?_⟩, fun x hx => ?_, by omega⟩, by dsimp only; omega⟩
      · rw [hlen, x_st_at, ef]
      · rw [x_st_s]; exact sK_up st (by omega) hk
      · rcases List.mem_cons.mp hx with rfl | hx
        · omega
        · have := hb x hx; omega
    · rw [if_neg zv] at hrun; cases hrun
  refine ⟨by omega, fun k1 => leaf (Or.inl k1), fun k1 => ⟨fun k2 => leaf (Or.inr (Or.inl k2)), fun k2 => ⟨fun k3 => ?_, fun k3 => leaf (Or.inr (Or.inr k3))⟩⟩⟩
  rw [if_neg (by omega)] at hrun
  cases st with
  | nil =>
    rw [List.length_nil] at hlen
    exact ⟨fun k4 => absurd k4 (by omega), fun _ => qn (Option.some.inj hrun).symm⟩
  | cons x t =>
  rw [List.length_cons] at hlen
  dsimp only at hrun
  have top : Y tc (x2 - 1) = x := by
    have := hk.1
    rw [show x2 - 1 = (t.length : Int) by omega]; exact this
  have bx := hb x (List.mem_cons_self ..)
  refine ⟨fun k4 => ⟨fun k5 => ?_, fun k5 => ?_⟩, fun k4 => absurd k4 (by omega)⟩
  rotate_left
  · rw [if_pos k5] at hrun
    rw [sK_0 t x hk]
    refine qs _ (Option.some.inj hrun).symm (gl_in (P := fun z => -1000001000 ≤ z ∧ z ≤ 1000001000) t x (fun z hz => ?_))
    have := hb z hz; omega
  rw [if_neg k5] at hrun
  have lt := ne k5
  refine ⟨fun k6 => ?_, fun k6 => ?_⟩
  rotate_left
  · rw [if_pos k6] at hrun
    refine ⟨by omega, ⟨fun c hc2 => by rw [x_st_c hc2]; exact hY c hc2, n, (1 - x) :: t, by omega, by omega, hrun, by rw [List.length_cons]; omega, by omega, ⟨?_, ?_⟩, fun z hz => ?_, by omega⟩, by dsimp only; omega⟩
    · rw [show (t.length : Int) = x2 - 1 by omega, x_st_at, top]
    · rw [x_st_s]; exact sK_up t (by omega) hk.2
    · rcases List.mem_cons.mp hz with rfl | hz
      · omega
      · have := hb z (List.mem_cons_of_mem _ hz); omega
  rw [if_neg k6] at hrun
  intro J44 hJ44
  have jump : (zg x1 = 5 ∨ zg x1 = 6) → J44 := by
    intro hj
    refine hJ44 ⟨by omega, ?_⟩
    intro J47 hJ47
    have stay : crun lw G F n (x1 + 2) t = some D → ∀ v46 v48 : Int, ¬ v46 = v48 → R32 v46 → R32 v48 → _ := fun hh v46 v48 nv r1 r2 => (show ((∀ c, ¬ c = tc → Y c = X c) ∧ ∃ (n : Nat) (st : List Int), (x3 + 1) + n = n0 ∧ 0 ≤ x3 + 1 ∧ crun lw G F n (x1 + 2) st = some D ∧ (st.length : Int) = x2 + (-1) ∧ x2 + (-1) ≤ x3 + 1 ∧ sK (Y tc) st ∧ (∀ x ∈ st, -(1000000000 + (x3 + 1)) ≤ x ∧ x ≤ 1000000000 + (x3 + 1)) ∧ (x1 + 2) % 2 = 0) from ⟨hY, n, t, by omega, by omega, hh, by omega, by omega, hk.2, fun z hz => by have := hb z (List.mem_cons_of_mem _ hz); omega, by omega⟩)
    have go : crun lw G F n (zg (x1 + 1)) (x :: t) = some D → zg (x1 + 1) % 2 = 0 → ((∀ c, ¬ c = tc → Y c = X c) ∧ ∃ (n : Nat) (st : List Int), (x3 + 1) + n = n0 ∧ 0 ≤ x3 + 1 ∧ crun lw G F n (zg (x1 + 1)) st = some D ∧ (st.length : Int) = x2 ∧ x2 ≤ x3 + 1 ∧ sK (Y tc) st ∧ (∀ x ∈ st, -(1000000000 + (x3 + 1)) ≤ x ∧ x ≤ 1000000000 + (x3 + 1)) ∧ zg (x1 + 1) % 2 = 0) := fun hh h8 => ⟨hY, n, x :: t, by omega, by omega, hh, by rw [List.length_cons]; omega, by omega, hk, fun z hz => by have := hb z hz; omega, h8⟩
    have fin : ∀ v46 : Int, (v46 = 0 ∨ v46 = 1) → (v46 = 1 ↔ x = 1) → J47 v46 := by
      intro v46 rv iv
      refine hJ47 v46 ?_
      intro J49 hJ49
      rw [gA x1 p0 lt] at hrun
      by_cases h5 : zg x1 = 5
      · rw [if_pos h5] at hrun
        refine ⟨fun z => absurd h5 z, fun _ => hJ49 1 ⟨by omega, by decide, fun nv => ⟨?_, by dsimp only; omega⟩, fun ev => ⟨?_, by dsimp only; omega⟩⟩⟩
        · rw [if_neg (by omega)] at hrun
          exact stay hrun v46 1 nv (by omega) (by decide)
        · rw [if_pos (by omega)] at hrun
          by_cases c8 : zg (x1 + 1) % 2 = 0
          · rw [if_pos c8] at hrun; exact go hrun c8
          · rw [if_neg c8] at hrun; cases hrun
      · rw [if_neg h5, if_pos (by omega)] at hrun
        refine ⟨fun _ => hJ49 0 ⟨by omega, by decide, fun nv => ⟨?_, by dsimp only; omega⟩, fun ev => ⟨?_, by dsimp only; omega⟩⟩, fun z => absurd z h5⟩
        · rw [if_pos (by omega)] at hrun
          exact stay hrun v46 0 nv (by omega) (by decide)
        · rw [if_neg (by omega)] at hrun
          by_cases c8 : zg (x1 + 1) % 2 = 0
          · rw [if_pos c8] at hrun; exact go hrun c8
          · rw [if_neg c8] at hrun; cases hrun
    rw [top]
    exact ⟨by omega, fun z => fin 0 (Or.inl rfl) (by omega), fun z => fin 1 (Or.inr rfl) (by omega)⟩
  refine ⟨fun z => jump (Or.inl z), fun k7 => ⟨fun k8 => ?_, fun z => jump (Or.inr z)⟩⟩
  rw [if_neg k7, if_neg k8] at hrun
  cases t with
  | nil =>
    rw [List.length_nil] at hlen
    exact ⟨fun k9 => absurd k9 (by omega), fun _ => qn (Option.some.inj hrun).symm⟩
  | cons y u =>
  rw [List.length_cons] at hlen
  dsimp only at hrun
  have top2 : Y tc (x2 - 2) = y := by
    have := hk.2.1
    rw [show x2 - 2 = (u.length : Int) by omega]; exact this
  have by2 := hb y (List.mem_cons_of_mem _ (List.mem_cons_self ..))
  refine ⟨fun k9 => ?_, fun k9 => absurd k9 (by omega)⟩
  rw [top, top2]
  refine ⟨by omega, by omega, by omega, by omega, e_joined (by omega) (by omega) (by omega) (fun hj => ?_) (fun v hj => ?_)⟩
  · rw [hj] at hrun
    exact ⟨by decide, fun z => absurd rfl z, fun _ => qn (Option.some.inj hrun).symm⟩
  · rw [hj] at hrun
    have rv := zjn_r hj
    refine ⟨by omega, fun _ => ⟨by omega, ⟨fun c hc2 => by rw [x_st_c hc2]; exact hY c hc2, n, v :: u, by omega, by omega, hrun, by rw [List.length_cons]; omega, by omega, ⟨?_, ?_⟩, fun z hz => ?_, by omega⟩, by dsimp only; omega⟩, fun z => absurd z (by omega)⟩
    · rw [show (u.length : Int) = (x2 + (-1)) - 1 by omega, x_st_at]
    · rw [x_st_s]; exact sK_up u (by omega) hk.2.2
    · rcases List.mem_cons.mp hz with rfl | hz
      · omega
      · have := hb z (List.mem_cons_of_mem _ (List.mem_cons_of_mem _ hz)); omega

/-! WHAT CODE GIVES: the reference's reckonAll does what rrun says -/
/-- a corner's place, as drives have it -/
def rcF (o v : Int) : Int := if v = -1 then 100 else if o = 7 then v % 24 - 8 else v / 24 - 8
def rlF (od : Int) (set now : Int → Int) (r0 : Int) (cn : Int → Int) (o a : Int) : Int := if o = 0 then a else if od = 0 then set o else if o < 7 then now o else rcF o (if 0 ≤ a / 12 ∧ a / 12 ≤ r0 - 1 then cn (12 * (a / 12) + a % 12) else -1)
theorem m_toldOf {o a : Int} {X : XT} {Q : Int → Prop} (ho : 7 ≤ o ∧ o ≤ 8) (ha : 0 ≤ a ∧ a ≤ 59) (h0 : 0 ≤ X 79 0 ∧ X 79 0 ≤ 5) (hc : ∀ j : Int, 0 ≤ j → j < 60 → j / 12 ≤ X 79 0 - 1 → -1 ≤ X 94 j ∧ X 94 j ≤ 575) (q : Q (rcF o (if 0 ≤ a / 12 ∧ a / 12 ≤ X 79 0 - 1 then X 94 (12 * (a / 12) + a % 12) else -1))) : w_X12_toldOf o a X Q := by
  refine ⟨by omega, by omega, by omega, h0, ?_⟩
  intro J hJ
  have key : ∀ v : Int, (-1 ≤ v ∧ v ≤ 575) → Q (rcF o v) → J v := by
    intro v rv qv
    unfold rcF at qv
    refine hJ v ⟨by omega, fun k => ⟨by omega, fun k2 => ⟨by omega, by omega, ?_⟩, fun k2 => ⟨by omega, by omega, ?_⟩⟩, fun k => ?_⟩
    · rw [if_neg k, if_neg k2] at qv; exact qv
    · rw [if_neg k, if_pos k2] at qv; exact qv
    · rw [if_pos k] at qv; exact qv
  refine ⟨fun k => key _ (by decide) (by rw [if_neg k] at q; exact q), fun k => ⟨by omega, key _ (hc _ (by omega) (by omega) (by omega)) (by rw [if_pos k] at q; exact q)⟩⟩
theorem m_reckon {o a b : Int} {X : XT} {Q : Int → XT → Prop} (ho : 20 ≤ o ∧ o ≤ 27) (ha : -1000001000 ≤ a ∧ a ≤ 1000001000) (hb : -1000001000 ≤ b ∧ b ≤ 1000001000) (qn : ((o - 13 = 10 ∨ o - 13 = 11) ∧ b = 0) → Q 0 (x_st X 77 33 1)) (qs : ¬ ((o - 13 = 10 ∨ o - 13 = 11) ∧ b = 0) → ∀ X1, (X1 = X ∨ X1 = x_st X 77 33 0) → Q (zraw (o - 13) a b) X1) : w_X12_reckon o a b X Q := by
  have z : ∀ v X1, zraw (o - 13) a b = v → ¬ ((o - 13 = 10 ∨ o - 13 = 11) ∧ b = 0) → (X1 = X ∨ X1 = x_st X 77 33 0) → Q v X1 := by
    rintro v X1 rfl h1 h2; exact qs h1 X1 h2
  have dv : ∀ v : Int, zraw (o - 13) a b = v → (o - 13 = 10 ∨ o - 13 = 11) → (∀ J7 : Int → Prop, (∀ (v6 : Int), ((v6 = 0 ∨ v6 = 1) ∧ R32 ((x_st X 77 33 v6) 77 33) ∧ (((x_st X 77 33 v6) 77 33) = 0 → R64 a ∧ R64 b ∧ (¬ b = 0) ∧ (-1000000000000000000 ≤ a) ∧ Q v (x_st X 77 33 v6)) ∧ (¬ ((x_st X 77 33 v6) 77 33) = 0 → Q 0 (x_st X 77 33 v6))) → J7 v6) → R64 b ∧ (¬ b = 0 → J7 0) ∧ (b = 0 → J7 1)) := by
    intro v ev hd J hJ
    refine ⟨by omega, fun k => hJ 0 ⟨Or.inl rfl, by rw [x_st_at]; decide, fun _ => ⟨by omega, by omega, k, by omega, z v _ ev (by omega) (Or.inr rfl)⟩, fun k2 => absurd x_st_at k2⟩, fun k => hJ 1 ⟨Or.inr rfl, by rw [x_st_at]; decide, fun k2 => absurd k2 (by rw [x_st_at]; decide), fun _ => qn ⟨hd, k⟩⟩⟩
  refine ⟨by omega, fun k => z _ X ?_ (by omega) (Or.inl rfl), fun k => z _ X ?_ (by omega) (Or.inl rfl), fun k => z _ X ?_ (by omega) (Or.inl rfl), fun k => dv _ ?_ (by omega), fun k => dv _ ?_ (by omega), fun k => ⟨by omega, by omega, fun k2 => z _ X ?_ (by omega) (Or.inl rfl), fun k2 => z _ X ?_ (by omega) (Or.inl rfl)⟩, fun k => ⟨by omega, by omega, fun k2 => z _ X ?_ (by omega) (Or.inl rfl), fun k2 => z _ X ?_ (by omega) (Or.inl rfl)⟩, fun k => ⟨by omega, by omega, fun k2 => z _ X ?_ (by omega) (Or.inl rfl), fun k2 => z _ X ?_ (by omega) (Or.inl rfl)⟩⟩
  all_goals unfold zraw
  · rw [if_pos (by omega)]
  · rw [if_neg (by omega), if_pos (by omega)]
  · rw [if_neg (by omega), if_neg (by omega), if_pos (by omega)]
  · rw [if_neg (by omega), if_neg (by omega), if_neg (by omega), if_pos (by omega)]
  · rw [if_neg (by omega), if_neg (by omega), if_neg (by omega), if_neg (by omega), if_pos (by omega)]
  · rw [if_neg (by omega), if_neg (by omega), if_neg (by omega), if_neg (by omega), if_neg (by omega), if_pos (by omega), if_neg (by omega)]
  · rw [if_neg (by omega), if_neg (by omega), if_neg (by omega), if_neg (by omega), if_neg (by omega), if_pos (by omega), if_pos (by omega)]
  · rw [if_neg (by omega), if_neg (by omega), if_neg (by omega), if_neg (by omega), if_neg (by omega), if_neg (by omega), if_pos (by omega), if_neg (by omega)]
  · rw [if_neg (by omega), if_neg (by omega), if_neg (by omega), if_neg (by omega), if_neg (by omega), if_neg (by omega), if_pos (by omega), if_pos (by omega)]
  · rw [if_neg (by omega), if_neg (by omega), if_neg (by omega), if_neg (by omega), if_neg (by omega), if_neg (by omega), if_neg (by omega), if_neg k2]
  · rw [if_neg (by omega), if_neg (by omega), if_neg (by omega), if_neg (by omega), if_neg (by omega), if_neg (by omega), if_neg (by omega), if_pos k2]
def zRk (X X1 : XT) : Prop := (∀ c, ¬ c = 77 → ¬ c = 93 → X1 c = X c) ∧ ∀ f : Int, ¬ f = 33 → ¬ f = 34 → X1 77 f = X 77 f
theorem m_reckonAll {lw : Bool} {op ar : Int → Int} {s e : Int} {X : XT} {Q : XT → Prop} {n0 : Nat} {D : Option Int} {f2 : Int → Int → Int} (s0 : 0 ≤ s) (e1 : e ≤ 400) (se : s ≤ e) (hm : (X 77 15 = 0 ∧ lw = true ∧ ∀ j : Int, s ≤ j → j < e → (0 ≤ X 77 29 + 98 + 2 * j ∧ X 77 29 + 98 + 2 * j + 1 < 5780) ∧ op j = X 79 (X 77 29 + 98 + 2 * j) ∧ ar j = X 79 (X 77 29 + 98 + 2 * j + 1)) ∨ (X 77 15 = 1 ∧ lw = false ∧ ∀ j : Int, s ≤ j → j < e → op j = X 84 j ∧ ar j = X 85 j)) (h2 : f2 = rlF (X 77 15) (X 91) (X 92) (X 79 0) (X 94)) (h0 : 0 ≤ X 79 0 ∧ X 79 0 ≤ 5) (hc : lw = false → ∀ j : Int, 0 ≤ j → j < 60 → j / 12 ≤ X 79 0 - 1 → -1 ≤ X 94 j ∧ X 94 j ≤ 575) (hr : rrun lw (fun j => if s ≤ j ∧ j < e then op j else -9) ar e f2 n0 s [] = some D) (hf : ∀ o a : Int, zvR lw o a → -1000000000 ≤ f2 o a ∧ f2 o a ≤ 1000000000) (q : ∀ X1, zRk X X1 → ((D = none ∧ X1 77 33 = 1) ∨ ∃ v, D = some v ∧ X1 77 33 = 0 ∧ X1 77 34 = v ∧ -1000001000 ≤ v ∧ v ≤ 1000001000) → Q X1) : w_X12_reckonAll s e X Q := by
  generalize hG : (fun j => if s ≤ j ∧ j < e then op j else -9) = G at hr
  have gP : ∀ p : Int, ¬ G p < 0 → s ≤ p ∧ p < e ∧ G p = op p := by
    intro p hp
    rw [← hG] at hp ⊢
    by_cases c : s ≤ p ∧ p < e
    · refine ⟨c.1, c.2, ?_⟩
      dsimp only; rw [if_pos c]
    · dsimp only at hp; rw [if_neg c] at hp; exact absurd (by decide) hp
  refine ⟨fun x6 x7 Y => zRk X Y ∧ (s ≤ x7 ∧ x7 ≤ e) ∧ (0 ≤ x6 ∧ x6 ≤ x7 - s) ∧ ((Y 77 33 = 0 ∧ ∃ (n : Nat) (st : List Int), rrun lw G ar e f2 n x7 st = some D ∧ (st.length : Int) = x6 ∧ sK (Y 93) st ∧ ∀ x ∈ st, -(1000000000 + (x7 - s)) ≤ x ∧ x ≤ 1000000000 + (x7 - s)) ∨ (Y 77 33 = 1 ∧ D = none)), fun _ x7 _ => (e - x7).toNat, ⟨⟨fun c h1 _ => x_st_c h1, fun f h1 _ => x_st_ne h1⟩, ⟨Int.le_refl _, se⟩, ⟨Int.le_refl _, by omega⟩, Or.inl ⟨x_st_at, n0, [], hr, rfl, trivial, fun x h => absurd h (List.not_mem_nil)⟩⟩, ?_⟩
  rintro x6 x7 Y ⟨hY, hx7, hx6, hh⟩
  intro J21 hJ21
  have fin : ∀ w : Int, ((D = none ∧ (x_st Y 77 34 w) 77 33 = 1) ∨ ∃ v, D = some v ∧ (x_st Y 77 34 w) 77 33 = 0 ∧ (x_st Y 77 34 w) 77 34 = v ∧ -1000001000 ≤ v ∧ v ≤ 1000001000) → Q (x_st Y 77 34 w) := fun w h => q _ ⟨fun c h1 h2 => (x_st_c h1).trans (hY.1 c h1 h2), fun f h1 h2 => (x_st_ne h2).trans (hY.2 f h1 h2)⟩ h
  rcases hh with ⟨hb0, n, st, hrun, hlen, hk, hb⟩ | ⟨hb1, hD⟩
  rotate_left
  · have d : J21 := hJ21 ⟨by omega, fun _ => fin _ (Or.inl ⟨hD, by rw [x_st_ne (by decide)]; exact hb1⟩), fun _ => fin _ (Or.inl ⟨hD, by rw [x_st_ne (by decide)]; exact hb1⟩)⟩
    exact ⟨by omega, by omega, fun _ => d, fun _ => ⟨by rw [hb1]; decide, fun _ => d, fun k => absurd k (by rw [hb1]; decide)⟩⟩
  have e15 : Y 77 15 = X 77 15 := hY.2 15 (by decide) (by decide)
  have e29 : Y 77 29 = X 77 29 := hY.2 29 (by decide) (by decide)
  have e79 : Y 79 = X 79 := hY.1 79 (by decide) (by decide)
  cases n with
  | zero =>
    have hh : (none : Option (Option Int)) = some D := hrun
    cases hh
  | succ n =>
  unfold rrun at hrun
  by_cases c1 : 64 ≤ st.length
  · rw [if_pos c1] at hrun; cases hrun
  rw [if_neg c1] at hrun
  refine ⟨by omega, by omega, fun k => ?_, fun k => ⟨by rw [hb0]; decide, fun k2 => absurd hb0 k2, fun _ => ?_⟩⟩
  · rw [if_pos k] at hrun
    match st, hrun, hlen, hk, hb with
    | [], hrun, _, _, _ => cases hrun
    | [v], hrun, hlen, hk, hb =>
      have hl : x6 = 1 := by rw [← hlen]; rfl
      have bv := hb v (List.mem_cons_self ..)
      have v0 : Y 93 0 = v := hk.1
      refine hJ21 ⟨by omega, fun k3 => absurd k3 (by omega), fun _ => fin _ (Or.inr ⟨v, (Option.some.inj hrun).symm, by rw [x_st_ne (by decide)]; exact hb0, by rw [x_st_at]; exact v0, by omega, by omega⟩)⟩
    | _ :: _ :: _, hrun, _, _, _ => cases hrun
  rw [if_neg k] at hrun
  by_cases c3 : G x7 < 0 ∨ 30 < G x7
  · rw [if_pos c3] at hrun; cases hrun
  rw [if_neg c3] at hrun
  obtain ⟨p0, p1, gp⟩ := gP x7 (by omega)
  rw [gp] at hrun c3
  have rd : ∀ J40 : Int → Prop, J40 (op x7) → (R32 (Y 77 15) ∧ ((Y 77 15) = 0 → (0 ≤ (((Y 77 29) + 98) + (2 * x7)) ∧ (((Y 77 29) + 98) + (2 * x7)) < 5780) ∧ J40 (Y 79 (((Y 77 29) + 98) + (2 * x7)))) ∧ (¬ (Y 77 15) = 0 → (0 ≤ x7 ∧ x7 < 400) ∧ J40 (Y 84 x7))) := by
    intro J40 h
    rw [e15, e29, e79, hY.1 84 (by decide) (by decide)]
    rcases hm with ⟨m1, _, m2⟩ | ⟨m1, _, m2⟩
    · obtain ⟨y1, y2, y3⟩ := m2 x7 p0 p1
      rw [y2] at h
      exact ⟨by omega, fun _ => ⟨by omega, h⟩, fun z => absurd m1 z⟩
    · obtain ⟨y2, y3⟩ := m2 x7 p0 p1
      rw [y2] at h
      exact ⟨by omega, fun z => absurd z (by omega), fun _ => ⟨by omega, h⟩⟩
  have ra : ∀ J42 : Int → Prop, J42 (ar x7) → (R32 (Y 77 15) ∧ ((Y 77 15) = 0 → (0 ≤ ((((Y 77 29) + 98) + (2 * x7)) + 1) ∧ ((((Y 77 29) + 98) + (2 * x7)) + 1) < 5780) ∧ J42 (Y 79 ((((Y 77 29) + 98) + (2 * x7)) + 1))) ∧ (¬ (Y 77 15) = 0 → (0 ≤ x7 ∧ x7 < 400) ∧ J42 (Y 85 x7))) := by
    intro J42 h
    rw [e15, e29, e79, hY.1 85 (by decide) (by decide)]
    rcases hm with ⟨m1, _, m2⟩ | ⟨m1, _, m2⟩
    · obtain ⟨y1, y2, y3⟩ := m2 x7 p0 p1
      rw [y3] at h
      exact ⟨by omega, fun _ => ⟨by omega, h⟩, fun z => absurd m1 z⟩
    · obtain ⟨y2, y3⟩ := m2 x7 p0 p1
      rw [y3] at h
      exact ⟨by omega, fun z => absurd z (by omega), fun _ => ⟨by omega, h⟩⟩
  intro J40 hJ40
  refine rd J40 (hJ40 _ ?_)
  intro J42 hJ42
  refine ra J42 (hJ42 _ ?_)
  generalize ho : op x7 = o at *
  generalize ha : ar x7 = a at *
  have kp : ∀ (j w : Int), zRk X (x_st Y 93 j w) := fun j w => ⟨fun c h1 h2 => (x_st_c h2).trans (hY.1 c h1 h2), fun f h1 h2 => by rw [x_st_c (by decide)]; exact hY.2 f h1 h2⟩
  have kb : ∀ (j w : Int), (x_st Y 93 j w) 77 33 = 0 := fun j w => by rw [x_st_c (by decide)]; exact hb0
  refine ⟨by omega, fun k20 => ?_, fun k20 => ?_⟩
  rotate_left
  · rw [if_pos (by omega)] at hrun
    by_cases zv : zvR lw o a
    rotate_left
    · rw [if_neg zv] at hrun; cases hrun
    rw [if_pos zv] at hrun
    have fr := hf o a zv
    intro J89 hJ89
    have ev : ∀ v, f2 o a = v → J89 v := by
      rintro v rfl
      refine hJ89 _ ⟨by omega, ⟨kp _ _, by omega, by omega, Or.inl ⟨kb _ _, n, f2 o a :: st, hrun, by rw [List.length_cons]; omega, ⟨by rw [hlen, x_st_at], by rw [x_st_s]; exact sK_up st (by omega) hk⟩, fun x hx => ?_⟩⟩, by dsimp only; omega⟩
      rcases List.mem_cons.mp hx with rfl | hx
      · omega
      · have := hb x hx; omega
    rw [h2] at ev
    refine ⟨fun k0 => ?_, fun k0 => ?_⟩
    rotate_left
    · refine ⟨by rcases zv with z | z | z | z <;> omega, ev a ?_⟩
      unfold rlF; rw [if_pos k0]
    rw [e15]
    rcases hm with ⟨m1, ml, _⟩ | ⟨m1, ml, _⟩
    · refine ⟨by omega, fun z => absurd m1 z, fun _ => ⟨by subst ml; rcases zv with z | z | z | z <;> (try simp at z) <;> omega, ev _ ?_⟩⟩
      unfold rlF; rw [if_neg k0, if_pos m1, hY.1 91 (by decide) (by decide)]
    · refine ⟨by omega, fun _ => ⟨fun k7 => ?_, fun k7 => ⟨by subst ml; rcases zv with z | z | z | z <;> (try simp at z) <;> omega, ev _ ?_⟩⟩, fun z => absurd z (by omega)⟩
      · have za : (7 ≤ o ∧ o ≤ 8) ∧ 0 ≤ a ∧ a ≤ 59 := by subst ml; rcases zv with z | z | z | z <;> (try simp at z) <;> omega
        refine m_toldOf za.1 za.2 (by rw [e79]; exact h0) (fun j j0 j1 j2 => by rw [e79] at j2; rw [hY.1 94 (by decide) (by decide)]; exact hc ml j j0 j1 j2) (ev _ ?_)
        unfold rlF; rw [if_neg k0, if_neg (by omega), if_neg (by omega), e79, hY.1 94 (by decide) (by decide)]
      · unfold rlF; rw [if_neg k0, if_neg (by omega), if_pos (by omega), hY.1 92 (by decide) (by decide)]
  rw [if_neg (by omega)] at hrun
  cases st with
  | nil => cases hrun
  | cons x t =>
  rw [List.length_cons] at hlen
  dsimp only at hrun
  have top : Y 93 (x6 - 1) = x := by
    have := hk.1
    rw [show x6 - 1 = (t.length : Int) by omega]; exact this
  have bx := hb x (List.mem_cons_self ..)
  refine ⟨fun k28 => ⟨fun n28 => ?_, fun e28 => ?_⟩, fun k28 => ?_⟩
  · rw [if_neg (by omega), if_neg n28] at hrun
    refine ⟨by omega, ?_⟩
    intro J49 hJ49
    have key : ∀ v48 : Int, v48 = (if o = 29 then 0 else 1) → J49 v48 := by
      intro v48 ev
      have r48 : R64 v48 := by rw [ev]; split <;> decide
      rw [← ev] at hrun
      refine hJ49 v48 ⟨by omega, r48, fun nv => ?_, fun nv => ?_⟩
      · rw [top] at nv
        rw [if_neg nv] at hrun
        exact ⟨⟨hY, by omega, by omega, Or.inl ⟨hb0, n, t, hrun, by omega, hk.2, fun z hz => by have := hb z (List.mem_cons_of_mem _ hz); omega⟩⟩, by dsimp only; omega⟩
      · rw [top] at nv
        rw [if_pos nv] at hrun
        by_cases c9 : x7 < a ∧ a ≤ e
        · rw [if_pos c9] at hrun
          exact ⟨⟨hY, by omega, by omega, Or.inl ⟨hb0, n, x :: t, hrun, by rw [List.length_cons]; omega, hk, fun z hz => by have := hb z hz; omega⟩⟩, by dsimp only; omega⟩
        · rw [if_neg c9] at hrun; cases hrun
    exact ⟨fun z => key 1 (by rw [if_neg z]), fun z => key 0 (by rw [if_pos z])⟩
  · rw [if_neg (by omega), if_pos e28] at hrun
    refine ⟨by omega, ⟨kp _ _, by omega, by omega, Or.inl ⟨kb _ _, n, (1 - x) :: t, hrun, by rw [List.length_cons]; omega, ⟨by rw [show (t.length : Int) = x6 - 1 by omega, x_st_at, top], by rw [x_st_s]; exact sK_up t (by omega) hk.2⟩, fun z hz => ?_⟩⟩, by dsimp only; omega⟩
    rcases List.mem_cons.mp hz with rfl | hz
    · omega
    · have := hb z (List.mem_cons_of_mem _ hz); omega
  · rw [if_pos (by omega)] at hrun
    cases t with
    | nil => cases hrun
    | cons y u =>
    rw [List.length_cons] at hlen
    dsimp only at hrun
    have top1 : Y 93 (x6 + (-1)) = x := by rw [show x6 + (-1) = x6 - 1 by omega]; exact top
    have top2 : Y 93 ((x6 + (-1)) - 1) = y := by
      have := hk.2.1
      rw [show (x6 + (-1)) - 1 = (u.length : Int) by omega]; exact this
    have by2 := hb y (List.mem_cons_of_mem _ (List.mem_cons_self ..))
    rw [top1, top2]
    refine ⟨by omega, by omega, m_reckon (by omega) (by omega) (by omega) (fun hz => ?_) (fun hz X63 hX => ?_)⟩
    · have dn : D = none := by
        have ej : zjn (o - 13) y x = none := by unfold zjn; rw [if_pos hz]
        rw [ej] at hrun
        exact (Option.some.inj hrun).symm
      intro J73 hJ73
      have e33 : (x_st (x_st Y 77 33 1) 93 ((x6 + (-1)) - 1) 0) 77 33 = 1 := by rw [x_st_c (by decide), x_st_at]
      refine ⟨by rw [e33]; decide, fun _ => hJ73 ⟨⟨⟨fun c h1 h2 => ?_, fun f h1 h2 => ?_⟩, by omega, by omega, Or.inr ⟨x_st_at, dn⟩⟩, by dsimp only; omega⟩, fun z => absurd z (by rw [e33]; decide)⟩
      · rw [x_st_c h1, x_st_c h2, x_st_c h1]; exact hY.1 c h1 h2
      · rw [x_st_ne h1, x_st_c (by decide), x_st_ne h1]; exact hY.2 f h1 h2
    · have x33 : X63 77 33 = 0 := by
        rcases hX with rfl | rfl
        · exact hb0
        · exact x_st_at
      have xk : zRk X X63 := by
        rcases hX with rfl | rfl
        · exact hY
        · exact ⟨fun c h1 h2 => (x_st_c h1).trans (hY.1 c h1 h2), fun f h1 h2 => (x_st_ne h1).trans (hY.2 f h1 h2)⟩
      have x93 : X63 93 = Y 93 := by
        rcases hX with rfl | rfl
        · rfl
        · exact x_st_c (by decide)
      have rz := zraw_r (o := o - 13) (x := y) (y := x) (by omega) (by omega)
      have e33 : (x_st X63 93 ((x6 + (-1)) - 1) (zraw (o - 13) y x)) 77 33 = 0 := by rw [x_st_c (by decide)]; exact x33
      have kk : ∀ w : Int, zRk X (x_st (x_st X63 93 ((x6 + (-1)) - 1) (zraw (o - 13) y x)) 77 33 w) := fun w => ⟨fun c h1 h2 => by rw [x_st_c h1, x_st_c h2]; exact xk.1 c h1 h2, fun f h1 h2 => by rw [x_st_ne h1, x_st_c (by decide)]; exact xk.2 f h1 h2⟩
      intro J73 hJ73
      refine ⟨by rw [e33]; decide, fun z => absurd e33 z, fun _ => ?_⟩
      rw [x_st_at]
      refine ⟨by omega, fun ir => ⟨⟨kk 0, by omega, by omega, Or.inl ⟨x_st_at, n, zraw (o - 13) y x :: u, ?_, by rw [List.length_cons]; omega, ⟨?_, ?_⟩, fun z hz => ?_⟩⟩, by dsimp only; omega⟩, fun ir => hJ73 ⟨⟨kk 1, by omega, by omega, Or.inr ⟨x_st_at, ?_⟩⟩, by dsimp only; omega⟩⟩
      · have ej : zjn (o - 13) y x = some (zraw (o - 13) y x) := by unfold zjn; rw [if_neg hz, if_pos ir]
        rw [ej] at hrun; exact hrun
      · rw [show (u.length : Int) = (x6 + (-1)) - 1 by omega, x_st_c (by decide), x_st_at]
      · rw [x_st_c (by decide), x_st_s, x93]; exact sK_up u (by omega) hk.2.2
      · rcases List.mem_cons.mp hz with rfl | hz
        · omega
        · have := hb z (List.mem_cons_of_mem _ (List.mem_cons_of_mem _ hz)); omega
      · have ej : zjn (o - 13) y x = none := by unfold zjn; rw [if_neg hz, if_neg ir]
        rw [ej] at hrun
        exact (Option.some.inj hrun).symm

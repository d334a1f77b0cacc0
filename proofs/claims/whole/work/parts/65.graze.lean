/-! PASTURE: the class's yields and choices -/
def gyF (r : Int → Int) (T : TT) (c : Int) (Y : Int → Int → Int) (s h l d : Int) : Int := if d < 4 ∧ l ≤ 0 then -1 else Y (nxF r T c s h d 0) (l - oneF d)
def ygF (r : Int → Int) (T : TT) (c : Int) : Nat → Int → Int → Int
  | 0, s, _ => wkF r T c 11 s
  | k + 1, s, l => wkF r T c (11 - ((k + 1 : Nat) : Int)) s + mxF (fun d => gyF r T c (ygF r T c k) s (11 - ((k + 1 : Nat) : Int)) l d) 5
theorem ygF_0 {r : Int → Int} {T : TT} {c s l : Int} : ygF r T c 0 s l = wkF r T c 11 s := rfl
theorem ygF_s {r : Int → Int} {T : TT} {c s l : Int} {k : Nat} : ygF r T c (k + 1) s l = wkF r T c (11 - ((k + 1 : Nat) : Int)) s + mxF (fun d => gyF r T c (ygF r T c k) s (11 - ((k + 1 : Nat) : Int)) l d) 5 := rfl
theorem gy_r {r : Int → Int} {T : TT} {c s h l d u : Int} {Y : Int → Int → Int} (hY : ∀ t l, 0 ≤ Y t l ∧ Y t l ≤ u) : -1 ≤ gyF r T c Y s h l d ∧ gyF r T c Y s h l d ≤ u ∧ (¬ (d < 4 ∧ l ≤ 0) → 0 ≤ gyF r T c Y s h l d) := by
  unfold gyF
  have y := hY (nxF r T c s h d 0) (l - oneF d)
  split
  · exact ⟨by omega, by omega, fun z => absurd (by assumption) z⟩
  · exact ⟨by omega, by omega, fun _ => by omega⟩
theorem mg_r {r : Int → Int} {T : TT} {c s h l u : Int} {Y : Int → Int → Int} (hY : ∀ t l, 0 ≤ Y t l ∧ Y t l ≤ u) : 0 ≤ mxF (fun d => gyF r T c Y s h l d) 5 ∧ mxF (fun d => gyF r T c Y s h l d) 5 ≤ u := by
  have u0 : 0 ≤ u := by have := hY 0 0; omega
  have g4 := (gy_r (r := r) (T := T) (c := c) (s := s) (h := h) (l := l) (d := 4) hY).2.2 (by omega)
  have l4 := mxF_le (g := fun d => gyF r T c Y s h l d) 5 4 (by decide) (by decide)
  exact ⟨Int.le_trans g4 l4, mxF_b u0 5 (fun d _ _ => (gy_r hY).2.1)⟩
theorem ygF_r {r : Int → Int} {T : TT} {c : Int} (tr : TR T) : ∀ (k : Nat) (s l : Int), 0 ≤ ygF r T c k s l ∧ ygF r T c k s l ≤ 891 * ((k : Int) + 1) := by
  intro k
  induction k with
  | zero => intro s l; have := wkF_r (r := r) tr c 11 s; rw [ygF_0]; omega
  | succ k ih =>
    intro s l
    have a := wkF_r (r := r) tr c (11 - ((k + 1 : Nat) : Int)) s
    have b := mg_r (r := r) (T := T) (c := c) (s := s) (h := 11 - ((k + 1 : Nat) : Int)) (l := l) ih
    rw [ygF_s]; omega
theorem e_yieldOf {X : XT} {h s l : Int} {Q : Int → Prop} (h0 : 0 ≤ h) (h1 : h ≤ 11) (s0 : 0 ≤ s) (s1 : s ≤ 576) (l0 : 0 ≤ l) (l1 : l ≤ 11) (q : Q (X 62 (h % 2 * 6924 + s * 12 + l))) : w_X4_yieldOf h s l X Q := by
  unfold w_X4_yieldOf w_X4_yieldSlot
  rw [oAnd_1 h0 (by omega)]
  exact ⟨by omega, fun k => absurd k (by omega), fun _ => ⟨fun k => absurd k (by omega), fun _ => ⟨by omega, q⟩⟩⟩
theorem e_yieldBy {r : Int → Int} {T : TT} {c : Int} {X : XT} {h s l m d : Int} {Y : Int → Int → Int} {Q : Int → Prop} (w : RW r) (p : PTK r c X) (c0 : 0 ≤ c) (c1 : c < r 0) (mk : MKS r T c X) (h0 : 0 ≤ h) (h1 : h ≤ 10) (s0 : 0 ≤ s) (s1 : s ≤ 576) (hm : ¬ X 59 (h * 577 + s) = 0) (rd : 0 ≤ d ∧ d ≤ 4) (l0 : 0 ≤ l) (l1 : l ≤ m) (m1 : m ≤ 11) (ok : ¬ (d < 4 ∧ l ≤ 0))
    (hv : ∀ d l : Int, 0 ≤ d → d ≤ 4 → 0 ≤ l → l ≤ m → X 62 ((h + 1) % 2 * 6924 + nxF r T c s h d 0 * 12 + l) = Y (nxF r T c s h d 0) l) (q : Q (gyF r T c Y s h l d)) : w_X4_yieldBy h s l d X Q := by
  have nr := nxF_r (r := r) (T := T) (c := c) (h := h) (d := d) (tu := 0) ⟨s0, s1⟩
  unfold gyF at q
  rw [if_neg ok] at q
  intro J hJ
  have key : ∀ v : Int, v = oneF d → J v := by
    rintro v rfl
    have o := oneF_r d
    have lo : 0 ≤ l - oneF d := by
      unfold oneF
      split <;> omega
    refine hJ _ (e_onward w p c0 c1 mk h0 (by omega) s0 s1 hm rd (by omega) (Or.inl rfl) ?_)
    rw [nyF_4]
    refine e_yieldOf (by omega) (by omega) nr.1 nr.2 lo (by omega) ?_
    rw [hv d (l - oneF d) rd.1 rd.2 lo (by omega)]
    exact q
  exact ⟨by omega, fun k => key 1 (by unfold oneF; rw [if_pos (by omega)]), fun k => key 0 (by unfold oneF; rw [if_neg (by omega)])⟩
theorem e_rich {r : Int → Int} {T : TT} {c : Int} {X : XT} {h s l m u : Int} {Y : Int → Int → Int} {Q : Int → Prop} (w : RW r) (p : PTK r c X) (c0 : 0 ≤ c) (c1 : c < r 0) (mk : MKS r T c X) (h0 : 0 ≤ h) (h1 : h ≤ 10) (s0 : 0 ≤ s) (s1 : s ≤ 576) (hm : ¬ X 59 (h * 577 + s) = 0) (l0 : 0 ≤ l) (l1 : l ≤ m) (m1 : m ≤ 11) (hY : ∀ t l, 0 ≤ Y t l ∧ Y t l ≤ u) (hu : u ≤ 20000)
    (hv : ∀ d l : Int, 0 ≤ d → d ≤ 4 → 0 ≤ l → l ≤ m → X 62 ((h + 1) % 2 * 6924 + nxF r T c s h d 0 * 12 + l) = Y (nxF r T c s h d 0) l) (q : ∀ st, STP (fun d => gyF r T c Y s h l d) 5 st → Q st) : w_X4_richStep h s l X Q := by
  have gr := fun d => gy_r (r := r) (T := T) (c := c) (s := s) (h := h) (l := l) (d := d) hY
  obtain ⟨g, hg⟩ : ∃ g : Int → Int, (fun d => gyF r T c Y s h l d) = g := ⟨_, rfl⟩
  have gd : ∀ d, gyF r T c Y s h l d = g d := fun d => by rw [← hg]
  rw [hg] at q
  intro J hJ
  have key : ∀ v : Int, ((l ≤ 0 ∧ v = 4) ∨ (0 < l ∧ v = 0)) → J v := by
    intro v hvv
    refine hJ v ?_
    refine ⟨fun a st d => 0 ≤ d ∧ d ≤ 5 ∧ (0 < l ∨ 4 ≤ d) ∧ a = mxF g d.toNat ∧ ((a = -1 ∧ st = 4) ∨ (0 ≤ a ∧ STP g d.toNat st)), fun _ _ d => (5 - d).toNat, ⟨by omega, by omega, by omega, ?_, Or.inl ⟨rfl, rfl⟩⟩, ?_⟩
    · rcases hvv with ⟨hl, rfl⟩ | ⟨hl, rfl⟩
      · rcases mxF_at (g := g) (4 : Int).toNat with e | ⟨d, d0, d1, e⟩
        · exact e.symm
        · rw [← e, ← gd]
          unfold gyF
          rw [if_pos ⟨by omega, hl⟩]
      · rfl
    rintro a st d ⟨d0, d1, hd, rfl, hst⟩
    have ge := mxF_ge (g := g) d.toNat
    have le := mxF_b (g := g) (u := 20000) (by decide) d.toNat (fun j _ _ => by rw [← gd]; have := (gr j).2.1; omega)
    refine ⟨by omega, fun k => ?_, fun k => ?_⟩
    · have e5 : d.toNat = 5 := by omega
      rw [e5] at hst
      rcases hst with ⟨hst, _⟩ | ⟨_, hst⟩
      · have g4 := (gr 4).2.2 (by omega)
        have l4 := mxF_le (g := g) 5 4 (by decide) (by decide)
        rw [gd] at g4; omega
      · exact q st hst
    · have ok : ¬ (d < 4 ∧ l ≤ 0) := by omega
      have gp := (gr d).2.2 ok
      have gu := (gr d).2.1
      refine e_yieldBy w p c0 c1 mk h0 h1 s0 s1 hm ⟨d0, by omega⟩ l0 l1 m1 ok hv ?_
      rw [gd] at gp gu ⊢
      have ms : mxF g (d + 1).toNat = max (mxF g d.toNat) (g d) := by rw [show (d + 1).toNat = d.toNat + 1 by omega, mxF_s, show ((d.toNat : Nat) : Int) = d by omega]
      refine ⟨by omega, by omega, fun z => ⟨⟨by omega, by omega, by omega, by omega, Or.inr ⟨by omega, ?_⟩⟩, by dsimp only; omega⟩, fun z => ⟨⟨by omega, by omega, by omega, by omega, Or.inr ⟨by omega, ?_⟩⟩, by dsimp only; omega⟩⟩
      · obtain ⟨a1, a2, a3, a4⟩ := (hst.resolve_left (fun y => by omega)).2
        have em : mxF g (d + 1).toNat = mxF g d.toNat := by omega
        rw [← em] at a3 a4
        exact ⟨a1, by omega, a3, a4⟩
      · refine ⟨d0, by omega, by omega, fun j j0 j1 => ?_⟩
        have := mxF_le (g := g) d.toNat j j0 (by omega)
        omega
  exact ⟨by omega, fun z => key 4 (Or.inl ⟨z, rfl⟩), fun z => key 0 (Or.inr ⟨by omega, rfl⟩)⟩
theorem e8_12 {n : Nat} (h : n ≤ 12) : e8 n ≤ 68719476736 := by
  have hh : n = 0 ∨ n = 1 ∨ n = 2 ∨ n = 3 ∨ n = 4 ∨ n = 5 ∨ n = 6 ∨ n = 7 ∨ n = 8 ∨ n = 9 ∨ n = 10 ∨ n = 11 ∨ n = 12 := by omega
  rcases hh with rfl | rfl | rfl | rfl | rfl | rfl | rfl | rfl | rfl | rfl | rfl | rfl | rfl <;> decide +kernel
def CHO (r : Int → Int) (T : TT) (c m : Int) (Y : Int → Int → Int) (h s : Int) (X : XT) : Prop := ∃ a : Nat, a < 68719476736 ∧ X 63 (h * 577 + s) = (a : Int) ∧ ∀ l : Nat, (l : Int) ≤ m → STP (fun d => gyF r T c Y s h (l : Int) d) 5 ((a / e8 l % 8 : Nat) : Int)
theorem e_graze {K : LK} {B X : XT} {r : Int → Int} {T : TT} {c h s m u : Int} {Y : Int → Int → Int} {Q : XT → Prop} (b : CE K B r T) (hx : Fx scC B X) (c0 : 0 ≤ c) (c1 : c < r 0) (p : PTK r c X) (mk : MKS r T c X) (h0 : 0 ≤ h) (h1 : h ≤ 11) (s0 : 0 ≤ s) (s1 : s ≤ 576) (hm : ¬ X 59 (h * 577 + s) = 0) (m0 : 0 ≤ m) (m1 : m ≤ 11) (hw : ∀ f : Int, 0 ≤ f → f < 64 → X 64 f = vF T h f) (hY : ∀ t l, 0 ≤ Y t l ∧ Y t l ≤ u) (hu : u ≤ 20000)
    (hv : h < 11 → ∀ d l : Int, 0 ≤ d → d ≤ 4 → 0 ≤ l → l ≤ m → X 62 ((h + 1) % 2 * 6924 + nxF r T c s h d 0 * 12 + l) = Y (nxF r T c s h d 0) l)
    (q : ∀ X1, Fx [62, 63] X X1 → (∀ j : Int, (j < h % 2 * 6924 + s * 12 ∨ h % 2 * 6924 + s * 12 + 12 ≤ j) → X1 62 j = X 62 j) → (∀ j : Int, ¬ j = h * 577 + s → X1 63 j = X 63 j) → (∀ l : Int, 0 ≤ l → l ≤ m → X1 62 (h % 2 * 6924 + s * 12 + l) = wkF r T c h s + if h = 11 then 0 else mxF (fun d => gyF r T c Y s h l d) 5) → (h < 11 → CHO r T c m Y h s X1) → Q X1) : w_X4_graze h s m X Q := by
  have w := b.rw
  unfold w_X4_graze
  refine e_worth b hx c0 c1 p s0 s1 hw ?_
  refine ⟨fun x7 x8 X9 => 0 ≤ x8 ∧ x8 ≤ m + 1 ∧ Fx [62] X X9 ∧ (∀ j : Int, (j < h % 2 * 6924 + s * 12 ∨ h % 2 * 6924 + s * 12 + 12 ≤ j) → X9 62 j = X 62 j) ∧ (∀ l : Int, 0 ≤ l → l < x8 → X9 62 (h % 2 * 6924 + s * 12 + l) = wkF r T c h s + if h = 11 then 0 else mxF (fun d => gyF r T c Y s h l d) 5) ∧ ∃ a : Nat, a < e8 x8.toNat ∧ x7 = (a : Int) ∧ (h < 11 → ∀ l : Nat, (l : Int) < x8 → STP (fun d => gyF r T c Y s h (l : Int) d) 5 ((a / e8 l % 8 : Nat) : Int)), fun _ x8 _ => (m + 1 - x8).toNat, ⟨by decide, by omega, Fx.rf, fun _ _ => rfl, fun l a b' => absurd (show l < (0 : Int) from b') (by omega), 0, by decide, rfl, fun _ l hl => absurd hl (by omega)⟩, ?_⟩
  rintro x7 x8 X9 ⟨y0, y1, f9, o9, v9, a, ha, rfl, dg⟩
  refine ⟨by omega, by omega, fun k => ?_, fun k => ?_⟩
  · have e8b := e8_12 (n := x8.toNat) (by omega)
    unfold w_X2_slotOf
    refine ⟨by omega, fun k2 => absurd k2 (by omega), fun _ => ⟨fun k2 => ?_, fun k2 => ⟨by omega, ?_⟩⟩⟩
    · exact q X9 (f9.sub (by decide)) o9 (fun j _ => by rw [f9 63 rfl]) (fun l a b' => v9 l a (by omega)) (fun z => absurd z (by omega))
    · refine q _ ((f9.sub (by decide)).st rfl) (fun j hj => by rw [x_st_c (by decide)]; exact o9 j hj) (fun j hj => by rw [x_st_ne hj, f9 63 rfl]) (fun l a b' => by rw [x_st_c (by decide)]; exact v9 l a (by omega)) (fun z => ⟨a, by omega, x_st_at, fun l hl => dg z l (by omega)⟩)
  · intro J41 hJ41
    have mk9 : MKS r T c X9 := fun h s a b c d => by rw [f9 59 rfl]; exact mk h s a b c d
    have hm9 : ¬ X9 59 (h * 577 + s) = 0 := by rw [f9 59 rfl]; exact hm
    have hv9 : h < 11 → ∀ d l : Int, 0 ≤ d → d ≤ 4 → 0 ≤ l → l ≤ m → X9 62 ((h + 1) % 2 * 6924 + nxF r T c s h d 0 * 12 + l) = Y (nxF r T c s h d 0) l := fun hh d l a b' c' d' => by
      have nr := nxF_r (r := r) (T := T) (c := c) (h := h) (d := d) (tu := 0) ⟨s0, s1⟩
      rw [o9 _ (by omega)]; exact hv hh d l a b' c' d'
    have key : ∀ v40 : Int, 0 ≤ v40 → v40 ≤ 4 → (h < 11 → STP (fun d => gyF r T c Y s h x8 d) 5 v40) → J41 v40 := by
      intro v40 d0 d1 hst
      refine hJ41 v40 (fun J43 hJ43 => ?_)
      have dp := dig_put (a := a) (l := x8.toNat) (d := v40.toNat) ha (by omega) (by omega)
      rw [show ((x8.toNat : Nat) : Int) = x8 by omega, show ((v40.toNat : Nat) : Int) = v40 by omega] at dp
      have key43 : ∀ v42 : Int, v42 = (if h = 11 then 0 else mxF (fun d => gyF r T c Y s h x8 d) 5) → J43 v42 := by
        intro v42 hv42
        refine hJ43 v42 ⟨by omega, ?_⟩
        unfold w_X4_yieldSlot
        rw [oAnd_1 h0 (by omega)]
        refine ⟨by omega, fun z => absurd z (by omega), fun _ => ⟨fun z => absurd z (by omega), fun _ => ⟨by omega, ⟨by omega, by omega, f9.st rfl, fun j hj => ?_, fun l a1 b1 => ?_, _, ?_, dp.1, fun hh l hl => ?_⟩, by dsimp only; omega⟩⟩⟩
        · rw [x_st_ne (by omega)]; exact o9 j hj
        · by_cases hq : l = x8
          · rw [hq, x_st_at, hv42]
          · rw [x_st_ne (by omega)]; exact v9 l a1 (by omega)
        · rw [show (x8 + 1).toNat = x8.toNat + 1 by omega]; exact dp.2
        · by_cases hq : (l : Int) = x8
          · have el : l = x8.toNat := by omega
            rw [hq, el, dig_new ha (by omega), show ((v40.toNat : Nat) : Int) = v40 by omega]
            exact hst hh
          · rw [dig_old (show l < x8.toNat by omega)]
            exact dg hh l (by omega)
      refine ⟨by omega, fun z => key43 0 (by rw [if_pos (by omega)]), fun z => ?_⟩
      have st := hst (by omega)
      have mg := mg_r (r := r) (T := T) (c := c) (s := s) (h := h) (l := x8) hY
      have e := st.2.2.1
      have ok : ¬ (v40 < 4 ∧ x8 ≤ 0) := fun y => by
        have : gyF r T c Y s h x8 v40 = -1 := by unfold gyF; rw [if_pos y]
        dsimp only at e
        omega
      refine e_yieldBy (m := m) w (p.fx f9 rfl) c0 c1 mk9 h0 (by omega) s0 s1 hm9 ⟨d0, d1⟩ y0 (by omega) m1 ok (hv9 (by omega)) (key43 _ ?_)
      rw [if_neg (by omega)]
      exact e
    refine ⟨by omega, fun z => key 4 (by decide) (by decide) (fun y => absurd y (by omega)), fun z => ?_⟩
    refine e_rich (m := m) w (p.fx f9 rfl) c0 c1 mk9 h0 (by omega) s0 s1 hm9 y0 (by omega) m1 hY hu (hv9 (by omega)) (fun st hst => key st hst.1 (by have := hst.2.1; omega) (fun _ => hst))

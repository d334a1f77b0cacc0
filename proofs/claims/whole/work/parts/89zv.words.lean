/-! DRIVES: the class tells words and corners, and reckons a section -/
theorem e_corners {K : LK} {B X : XT} {r : Int → Int} {T : TT} {Q : XT → Prop} (b : CE K B r T) (h9 : X 1 9 = r 0) (hl : LOOK r T 51 X) (q : ∀ X1, Fx [42] X X1 → (∀ w c h : Int, (w = 0 ∨ w = 1) → 0 ≤ c → c ≤ 4 → 0 ≤ h → h ≤ 11 → X1 42 ((w * 5 + c) * 12 + h) = cnr r T w c h) → Q X1) : w_X8_tellCorners 50 51 X Q := by
  have w := b.rw
  have r0 := w.2.2.1.1
  refine ⟨fun x Y => (0 ≤ x ∧ x ≤ 5) ∧ Fx [42] X Y ∧ ∀ w c h : Int, (w = 0 ∨ w = 1) → 0 ≤ c → c < x → 0 ≤ h → h ≤ 11 → Y 42 ((w * 5 + c) * 12 + h) = cnr r T w c h, fun x _ => (5 - x).toNat, ⟨by decide, Fx.rf, fun w c h _ a b => absurd b (by omega)⟩, ?_⟩
  rintro x Y ⟨hx, f1, y1⟩
  refine ⟨by omega, fun k => q Y f1 (fun w c h a b c4 d e => y1 w c h a b (by omega) d e), fun k => ?_⟩
  refine ⟨fun y Z => (0 ≤ y ∧ y ≤ 12) ∧ Fx [42] X Z ∧ (∀ w c h : Int, (w = 0 ∨ w = 1) → 0 ≤ c → c < x → 0 ≤ h → h ≤ 11 → Z 42 ((w * 5 + c) * 12 + h) = cnr r T w c h) ∧ ∀ w h : Int, (w = 0 ∨ w = 1) → 0 ≤ h → h < y → Z 42 ((w * 5 + x) * 12 + h) = cnr r T w x h, fun y _ => (12 - y).toNat, ⟨by decide, f1, y1, fun w h _ a b => absurd b (by omega)⟩, ?_⟩
  rintro y Z ⟨hy, f2, z1, z2⟩
  have z9 : Z 1 9 = r 0 := by rw [f2 1 rfl]; exact h9
  refine ⟨by omega, fun k2 => ⟨⟨by omega, f2, fun w c h a b c1 d e => ?_⟩, by dsimp only; omega⟩, fun k2 => ⟨by omega, ?_⟩⟩
  · by_cases e2 : c = x
    · rw [e2]; exact z2 w h a d (by omega)
    · exact z1 w c h a b (by omega) d e
  intro J hJ
  have key : ∀ s : Int, (0 ≤ s ∧ s ≤ 576) → (s = 576 → ¬ (x < r 0 ∧ ¬ spF r T x y.toNat = 576)) → (¬ s = 576 → x < r 0 ∧ spF r T x y.toNat = s) → J s := by
    intro s rs h576 hs
    have v0 : ∀ w : Int, cnr r T w x y = if s = 576 then 100 else if w = 0 then s % 24 - 8 else s / 24 - 8 := by
      intro w
      unfold cnr
      by_cases e : s = 576
      · rw [if_neg (h576 e), if_pos e]
      · obtain ⟨a1, a2⟩ := hs e
        rw [if_pos ⟨a1, by rw [a2]; exact e⟩, if_neg e, a2]
    have fin : ∀ (a b : Int), a = cnr r T 0 x y → b = cnr r T 1 x y → ((0 ≤ y + 1 ∧ y + 1 ≤ 12) ∧ Fx [42] X (x_st (x_st Z 42 ((0 * 5 + x) * 12 + y) a) 42 ((1 * 5 + x) * 12 + y) b) ∧ (∀ w c h : Int, (w = 0 ∨ w = 1) → 0 ≤ c → c < x → 0 ≤ h → h ≤ 11 → (x_st (x_st Z 42 ((0 * 5 + x) * 12 + y) a) 42 ((1 * 5 + x) * 12 + y) b) 42 ((w * 5 + c) * 12 + h) = cnr r T w c h) ∧ ∀ w h : Int, (w = 0 ∨ w = 1) → 0 ≤ h → h < y + 1 → (x_st (x_st Z 42 ((0 * 5 + x) * 12 + y) a) 42 ((1 * 5 + x) * 12 + y) b) 42 ((w * 5 + x) * 12 + h) = cnr r T w x h) := by
      rintro a b rfl rfl
      refine ⟨by omega, (f2.st rfl).st rfl, fun w c h a b c1 d e => ?_, fun w h a d e => ?_⟩
      · rw [x_st_ne (by omega), x_st_ne (by omega)]; exact z1 w c h a b c1 d e
      · by_cases eh : h = y
        · rcases a with rfl | rfl
          · rw [eh, x_st_ne (by omega), x_st_at]
          · rw [eh, x_st_at]
        · rw [x_st_ne (by omega), x_st_ne (by omega)]; exact z2 w h a d (by omega)
    refine hJ s ?_
    refine ⟨by omega, fun z => absurd z (by omega), fun _ => ⟨by omega, fun z => absurd z (by omega), fun _ => ?_⟩⟩
    intro J53 hJ53
    refine ⟨by omega, fun ne => ⟨by omega, hJ53 _ ⟨by omega, by omega, fun _ => ⟨by omega, by omega, fin _ _ ?_ ?_, by dsimp only; omega⟩, fun e => absurd e ne⟩⟩, fun e => hJ53 _ ⟨by omega, by omega, fun ne => absurd e ne, fun _ => ⟨by omega, fin _ _ ?_ ?_, by dsimp only; omega⟩⟩⟩
    · rw [v0, if_neg ne, if_pos rfl]
    · rw [v0, if_neg ne, if_neg (by decide)]
    · rw [v0, if_pos e]
    · rw [v0, if_pos e]
  rw [z9]
  have hlZ : LOOK r T 51 Z := fun c c0 c1 h h1 => by rw [f2 51 rfl]; exact hl c c0 c1 h h1
  refine ⟨fun z => key 576 (by decide) (fun _ y2 => z ⟨hx.1, y2.1⟩) (fun z => absurd rfl z), fun z => ?_⟩
  have sr := spF_r (T := T) w.2.2.1 z.1 z.2 y.toNat
  exact e_spot b hlZ z.1 z.2 hy.1 (by omega) (key _ sr (fun e y2 => y2.2 e) (fun _ => ⟨z.2, rfl⟩))
/-- the words and corners of a run -/
def zWk (S : zDS) (Y : XT) : Prop := Y 41 7 = S.1 6 ∧ Y 41 8 = S.1 0 ∧ Y 41 9 = S.1 1 ∧ Y 41 10 = S.2.1 ∧ Y 41 11 = S.2.2.1 ∧ Y 41 12 = S.2.2.2
def zCk (T : TT) (S : zDS) (Y : XT) : Prop := Y 37 4 = 1 → ∀ w c h : Int, (w = 0 ∨ w = 1) → 0 ≤ c → c ≤ 4 → 0 ≤ h → h ≤ 11 → Y 42 ((w * 5 + c) * 12 + h) = cnr S.1 T w c h
theorem wk_at {S : zDS} {Y : XT} (h : zWk S Y) {a : Int} (a0 : 7 ≤ a) (a1 : a ≤ 12) : Y 41 a = wDr S a := by
  obtain ⟨h1, h2, h3, h4, h5, h6⟩ := h
  rcases (show a = 7 ∨ a = 8 ∨ a = 9 ∨ a = 10 ∨ a = 11 ∨ a = 12 by omega) with rfl | rfl | rfl | rfl | rfl | rfl
  · exact h1
  · exact h2
  · exact h3
  · exact h4
  · exact h5
  · exact h6
theorem ck_at {T : TT} {S : zDS} {Y : XT} (h : zCk T S Y) (h4 : Y 37 4 = 1) {a : Int} (a0 : 0 ≤ a) (a1 : a ≤ 119) : Y 42 a = cnr S.1 T (a / 60) (a / 12 % 5) (a % 12) := by
  have := h h4 (a / 60) (a / 12 % 5) (a % 12) (by omega) (by omega) (by omega) (by omega) (by omega)
  rw [← this]; congr 1; omega
theorem cnr_r {r : Int → Int} {T : TT} (w : W_cld r) {a c h : Int} (c0 : 0 ≤ c) : -8 ≤ cnr r T a c h ∧ cnr r T a c h ≤ 100 := by
  unfold cnr
  split
  · rename_i k
    have := spF_r (T := T) w c0 k.1 h.toNat
    split <;> omega
  · omega
theorem wDr_r {X : XT} {S : zDS} (hI : zIv X S) (a : Int) : -1000 ≤ wDr S a ∧ wDr S a ≤ 1000 := by
  obtain ⟨⟨o, f6, p, ho, h6⟩, hr, hn, hd, hl, hu⟩ := hI
  have w := p.rw
  have w1 := w.2.2.1.1
  have w2 := w.2.2.2.1.1.1
  have w3 := w.2.2.2.2.2.2
  unfold W_trm at w3
  unfold wDr
  split; omega
  split; omega
  split; omega
  split; omega
  split; omega
  omega
theorem fDr_r {X : XT} {T : TT} {S : zDS} (hI : zIv X S) {o a : Int} (ha : 0 ≤ a ∧ a ≤ 1000) : -1000 ≤ fDr T S o a ∧ fDr T S o a ≤ 1000 := by
  unfold fDr
  split; omega
  split; exact wDr_r hI a
  obtain ⟨⟨o, f6, p, ho, h6⟩, _⟩ := hI
  have := cnr_r (T := T) p.rw.2.2.1 (a := a / 60) (c := a / 12 % 5) (h := a % 12) (by omega)
  omega
theorem ftF_d {X : XT} {T : TT} {S : zDS} {Y : XT} (hw : zWk S Y) (hc : zCk T S Y) {o a : Int} (hz : zvC false o a) (h3 : ¬ o = 3 ∨ Y 37 4 = 1) : ftF o a (Y 41) (Y 42) = fDr T S o a := by
  obtain ⟨a0, h | ⟨_, h, _⟩ | ⟨h, _, a1, a2⟩ | ⟨h, _, a1⟩⟩ := hz
  · unfold ftF fDr; rw [if_pos (Or.inl h.1), if_pos h.1]
  · cases h
  · unfold ftF fDr
    rw [if_neg (by omega), if_pos h, if_pos (by omega), if_neg (by omega), if_pos h]
    exact wk_at hw a1 a2
  · unfold ftF fDr
    rw [if_neg (by omega), if_neg (by omega), if_pos (by omega), if_neg (by omega), if_neg (by omega)]
    rcases h3 with h3 | h3
    · exact absurd h h3
    · exact ck_at hc h3 a0 a1
/-- a section of the reader's own script -/
theorem e_secD {X : XT} {T : TT} {S : zDS} {Y : XT} {k L : Int} {D : zDT} {Q : Int → XT → Prop} (hI : zIv X S) (hw : zWk S Y) (hc : zCk T S Y) (nc : zNC Y) (h : kSm false Y k D L) (L1 : L ≤ 63) (q : ∀ Y1, (∀ c, ¬ c = 43 → Y1 c = Y c) → (∀ v, D (fDr T S) = some v → -1000001000 ≤ v ∧ v ≤ 1000001000) → Q ((D (fDr T S)).getD (-2147483648)) Y1) : w_X6_valueD 41 42 43 (Y 38 k) Y Q := by
  obtain ⟨p0, e, r1, r3, r4⟩ := h
  obtain ⟨⟨n1, n2, n3⟩, n4⟩ := nc
  have sp := r1.2.1
  obtain ⟨n0, hn, hr⟩ := RC_stop r1 L1 r3 (fun o a => ftF o a (Y 41) (Y 42))
  have no3 : Y 37 4 = 0 → ∀ p : Int, Y 38 k ≤ p → p ≤ e → p % 2 = 0 → ¬ Y 39 p = 3 := fun h4 p a b c => n4 h4 p (by omega) (by omega) c
  have ed : D (fun o a => ftF o a (Y 41) (Y 42)) = D (fDr T S) := by
    rcases n1 with h4 | h4
    · exact RC_nc2 r1 L1 r3 (no3 h4) (fun o a hz h3 => ftF_d (X := X) hw hc hz (Or.inl h3))
    · exact RC_cg r1 L1 r3 (fun o a hz => ftF_d (X := X) hw hc hz (Or.inr h4))
  rw [ed] at hr
  refine e_value (zN := 800) (by decide) (by decide) p0 (by omega) r3 hn hr sp.2.1 (fun p a b c hz => ?_) (fun Y1 h1 h2 => q Y1 h1 h2)
  have e2 : ftF (Y 39 p) (Y 39 (p + 1)) (Y 41) (Y 42) = fDr T S (Y 39 p) (Y 39 (p + 1)) := by
    refine ftF_d (X := X) hw hc hz ?_
    rcases n1 with h4 | h4
    · exact Or.inl (no3 h4 p a b c)
    · exact Or.inr h4
  rw [e2]
  have := fDr_r (T := T) hI (o := Y 39 p) (a := Y 39 (p + 1)) (by rcases hz with ⟨a0, h | h | h | h⟩ <;> omega)
  omega

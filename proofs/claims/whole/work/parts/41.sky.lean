/-! THE SKY, the class's: where clouds go -/
theorem CE.fld {K : LK} {B : XT} {r : Int → Int} {T : TT} (b : CE K B r T) {f k : Int} (f0 : 0 ≤ f) (f1 : f ≤ 63) (k0 : 0 ≤ k) (k1 : k ≤ 2) : B 2 (k * 64 + f) = r (40 + 3 * f + k) := (b.1.1 f k f0 f1 k0 k1).1
theorem CE.cld {K : LK} {B : XT} {r : Int → Int} {T : TT} (b : CE K B r T) {c k : Int} (c0 : 0 ≤ c) (c1 : c ≤ 4) (k0 : 0 ≤ k) (k1 : k ≤ 4) : B 5 (c * 5 + k) = r (15 + 5 * c + k) := by
  rw [b.1.2.2.1.2.1 (c * 5 + k) (by omega) (by omega)]; congr 1; omega
theorem CE.nc {K : LK} {B : XT} {r : Int → Int} {T : TT} (b : CE K B r T) : B 1 9 = r 0 := b.1.2.2.1.1.1
theorem CE.nf {K : LK} {B : XT} {r : Int → Int} {T : TT} (b : CE K B r T) : B 1 10 = r 1 := b.1.2.2.2.1.1.1
theorem CE.nk {K : LK} {B : XT} {r : Int → Int} {T : TT} (b : CE K B r T) : B 1 11 = r 2 := b.1.2.2.2.2.1.1.1
theorem CE.ns {K : LK} {B : XT} {r : Int → Int} {T : TT} (b : CE K B r T) : B 1 12 = r 3 := b.1.2.2.2.2.2.1.1.1
theorem CE.flg {K : LK} {B : XT} {r : Int → Int} {T : TT} (b : CE K B r T) {j : Int} (j0 : 0 ≤ j) (j1 : j < 72) : B 6 j = r (232 + j) := b.1.2.2.2.1.2.1 j j0 j1
theorem CE.con {K : LK} {B : XT} {r : Int → Int} {T : TT} (b : CE K B r T) {c k : Int} (c0 : 0 ≤ c) (c1 : c ≤ 7) (k0 : 0 ≤ k) (k1 : k ≤ 4) : B 7 (c * 5 + k) = r (304 + 5 * c + k) := by
  rw [b.1.2.2.2.2.1.2.1 (c * 5 + k) (by omega) (by omega)]; congr 1; omega
theorem CE.sgt {K : LK} {B : XT} {r : Int → Int} {T : TT} (b : CE K B r T) {c k : Int} (c0 : 0 ≤ c) (c1 : c ≤ 9) (k0 : 0 ≤ k) (k1 : k ≤ 2) : B 8 (c * 3 + k) = r (344 + 3 * c + k) := by
  rw [b.1.2.2.2.2.2.1.2.1 (c * 3 + k) (by omega) (by omega)]; congr 1; omega
theorem CE.trm {K : LK} {B : XT} {r : Int → Int} {T : TT} (b : CE K B r T) {j : Int} (j0 : 0 ≤ j) (j1 : j ≤ 2) : B 9 j = r (6 + j) := (b.1.2.2.2.2.2.2.1 j j0 j1).1
theorem CE.wx {K : LK} {B : XT} {r : Int → Int} {T : TT} (b : CE K B r T) {l : Int} (l0 : 0 ≤ l) (l1 : l ≤ 2) : B 3 l = r (9 + 2 * l) := (b.1.2.1 l l0 l1).1
theorem CE.wy {K : LK} {B : XT} {r : Int → Int} {T : TT} (b : CE K B r T) {l : Int} (l0 : 0 ≤ l) (l1 : l ≤ 2) : B 4 l = r (9 + 2 * l + 1) := (b.1.2.1 l l0 l1).2.1
theorem CE.rw {K : LK} {B : XT} {r : Int → Int} {T : TT} (b : CE K B r T) : RW r := b.1.rw
/-- the class's scratch cells -/
def scC : List Nat := [46, 48, 50, 51, 53, 55, 56, 57, 58, 59, 61, 62, 63, 64, 65, 66, 67, 68, 69, 71, 72, 73, 74, 75]
theorem e_told {K : LK} {B X : XT} {r : Int → Int} {T : TT} {hd wo : Int} {Q : Int → XT → Prop} (b : CE K B r T) (hx : Fx scC B X) (h0 : 0 ≤ hd) (h1 : hd ≤ 3) (w0 : 0 ≤ wo) (w1 : wo ≤ 99) (hw : wok (X 46)) (e6 : X 46 6 = r 8) (e7 : X 46 7 = r 6) (q : ∀ X1, Fx [48] X X1 → Q (T hd (X 46 0) (X 46 1) (X 46 2) (X 46 3) (X 46 4) (X 46 5) wo) X1) {kd : Int} (ek : kd = 15 + hd) : w_X0_toldBy K kd wo X Q := by
  subst ek
  have el : lawc X = lawc B := lawc_cg (hx 1 rfl) (hx 10 rfl)
  refine ⟨by rw [el]; exact b.2.1, hw, by omega, by omega, fun X1 e => ?_⟩
  rw [el, b.2.2.1 hd (X 46) wo h0 h1 hw w0 w1 e6 e7]
  refine q X1 (fun c hc => e c (fun h => ?_))
  subst h; cases hc
abbrev hinF (r : Int → Int) (T : TT) (c s h : Int) : Int := if barP r T c s h then 1 else if wetP r s then 2 else 0
theorem e_words {a0 a1 a2 a3 : Int} {X : XT} {Q : XT → Prop} (q : ∀ X1, Fx [46] X X1 → X1 46 0 = a0 → X1 46 1 = a1 → X1 46 2 = a2 → X1 46 5 = a3 → X1 46 6 = X 9 2 → X1 46 7 = X 9 0 → X1 46 3 = X 46 3 → X1 46 4 = X 46 4 → Q X1) : w_X0_tellWords a0 a1 a2 a3 X Q := by
  refine q _ (Fx.st (Fx.st (Fx.st (Fx.st (Fx.st (Fx.st Fx.rf rfl) rfl) rfl) rfl) rfl) rfl) ?_ ?_ ?_ ?_ ?_ ?_ ?_ ?_ <;> rfl
theorem wok_of {w : Int → Int} (h0 : -1000 ≤ w 0 ∧ w 0 ≤ 1000) (h1 : -1000 ≤ w 1 ∧ w 1 ≤ 1000) (h2 : -1000 ≤ w 2 ∧ w 2 ≤ 1000) (h3 : -1000 ≤ w 3 ∧ w 3 ≤ 1000) (h4 : -1000 ≤ w 4 ∧ w 4 ≤ 1000) (h5 : -1000 ≤ w 5 ∧ w 5 ≤ 1000) (h6 : -1000 ≤ w 6 ∧ w 6 ≤ 1000) (h7 : -1000 ≤ w 7 ∧ w 7 ≤ 1000) : wok w := by
  intro j j0 j1
  rcases (show j = 0 ∨ j = 1 ∨ j = 2 ∨ j = 3 ∨ j = 4 ∨ j = 5 ∨ j = 6 ∨ j = 7 by omega) with rfl | rfl | rfl | rfl | rfl | rfl | rfl | rfl <;> assumption
theorem e_hind {K : LK} {B X : XT} {r : Int → Int} {T : TT} {c h s : Int} {Q : Int → XT → Prop} (b : CE K B r T) (hx : Fx scC B X) (c0 : 0 ≤ c) (c1 : c < r 0) (h0 : 0 ≤ h) (h1 : h ≤ 11) (s0 : 0 ≤ s) (s1 : s < 576) (q : ∀ X1, Fx [46, 48] X X1 → Q (hinF r T c s h) X1) : w_X0_hindrance K c h s X Q := by
  have w := b.rw
  have hc := w.2.2.1.2 c c0 c1
  have hn := w.2.2.1.1
  have ht := w.2.2.2.2.2.2
  unfold W_trm at ht
  refine ⟨by omega, e_words (fun X1 f1 e0 e1 e2 e5 e6 e7 _ _ => ?_)⟩
  have g : ∀ d, [46].elem d = false → X1 d = X d := f1
  have x9 : X 9 = B 9 := hx 9 rfl
  have n9 : X1 1 9 = r 0 := by rw [f1 1 rfl, hx 1 rfl, b.nc]
  have x5 : X1 5 (c * 5 + 2) = r (15 + 5 * c + 2) := by rw [f1 5 rfl, hx 5 rfl, b.cld c0 (by omega) (by omega) (by omega)]
  rw [x9, show (2 : Int) = 2 from rfl, b.trm (by omega) (by omega)] at e6
  rw [x9, b.trm (by omega) (by omega)] at e7
  have e6 : X1 46 6 = r 8 := e6
  have e7 : X1 46 7 = r 6 := e7
  refine ⟨⟨c0, ?_, ?_⟩, ?_⟩
  · show c < x_st X1 46 3 c 1 9
    rw [x_st_c (by decide), n9]; exact c1
  · show x_st X1 46 3 c 1 9 ≤ 5
    rw [x_st_c (by decide), n9]; omega
  rw [show x_st X1 46 3 c 5 (c * 5 + 2) = r (15 + 5 * c + 2) by rw [x_st_c (by decide), x5]]
  generalize hX2 : x_st (x_st X1 46 3 c) 46 4 (r (15 + 5 * c + 2)) = X2
  have f2 : Fx [46] X X2 := by rw [← hX2]; exact Fx.st (Fx.st f1 rfl) rfl
  have y : ∀ j : Int, X2 46 j = if j = 4 then r (15 + 5 * c + 2) else if j = 3 then c else X1 46 j := fun j => by rw [← hX2, x_st_s]; unfold uI; rw [x_st_s]; rfl
  have y0 : X2 46 0 = s % 24 - 8 := by rw [y, if_neg (by decide), if_neg (by decide), e0]
  have y1 : X2 46 1 = s / 24 - 8 := by rw [y, if_neg (by decide), if_neg (by decide), e1]
  have y2 : X2 46 2 = h := by rw [y, if_neg (by decide), if_neg (by decide), e2]
  have y3 : X2 46 3 = c := by rw [y, if_neg (by decide), if_pos rfl]
  have y4 : X2 46 4 = r (15 + 5 * c + 2) := by rw [y, if_pos rfl]
  have y5 : X2 46 5 = -1 := by rw [y, if_neg (by decide), if_neg (by decide), e5]
  have y6 : X2 46 6 = r 8 := by rw [y, if_neg (by decide), if_neg (by decide), e6]
  have y7 : X2 46 7 = r 6 := by rw [y, if_neg (by decide), if_neg (by decide), e7]
  refine e_told (hd := 3) b (hx.trans (f2.sub (by decide))) (by decide) (by decide) (by decide) (by decide) (wok_of (by omega) (by omega) (by omega) (by omega) (by omega) (by omega) (by omega) (by omega)) y6 y7 (fun X3 f3 => ?_) rfl
  rw [y0, y1, y2, y3, y4, y5]
  have f4 : Fx [46, 48] X X3 := (f2.sub (by decide)).trans (f3.sub (by decide))
  have tr := b.2.2.2 3 (s % 24 - 8) (s / 24 - 8) h c (r (15 + 5 * c + 2)) (-1) 0 (by decide) (by decide)
  refine ⟨by omega, fun n1 => ?_, fun n1 => ?_⟩
  · have qq := q X3 f4
    rw [hinF, if_neg n1] at qq
    have z : ∀ j : Int, X3 2 j = B 2 j := fun j => by rw [f4 2 rfl, hx 2 rfl]
    have k0 : ¬ wetP r s → Q 0 X3 := fun k => by rw [if_neg k] at qq; exact qq
    refine ⟨by omega, by omega, fun k => ⟨by decide, fun _ => k0 (fun k2 => k (by omega)), fun k2 => absurd rfl k2⟩, fun k => ⟨by omega, fun k1 => ?_, fun k1 => ⟨by decide, fun _ => k0 (fun k2 => k1 (by omega)), fun k2 => absurd rfl k2⟩⟩⟩
    have e2 := b.fld (f := 8 * (s / 24 - 8) + (s % 24 - 8)) (k := 2) (by omega) (by omega) (by decide) (by decide)
    have rg := w.1 (8 * (s / 24 - 8) + (s % 24 - 8)) 2 (by omega) (by omega) (by decide) (by decide)
    refine ⟨by omega, ?_⟩
    rw [z, e2]
    refine ⟨by omega, fun k2 => ⟨by decide, fun _ => k0 (fun k3 => k2 k3.2.2.2.2), fun k3 => absurd rfl k3⟩, fun k2 => ⟨by decide, fun k3 => absurd k3 (by decide), fun _ => ?_⟩⟩
    rw [if_pos ⟨k.1, k.2, k1.1, k1.2, k2⟩] at qq; exact qq
  · have qq := q X3 f4
    rw [hinF, if_pos n1] at qq; exact qq

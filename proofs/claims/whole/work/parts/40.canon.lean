/-! WHAT THE CALLS ARE ABOUT: the row r of all that is told, T what the law in force tells; both sides are tied to these -/
abbrev TT : Type := Int → Int → Int → Int → Int → Int → Int → Int → Int
-- frames
def Fx (l : List Nat) (X X1 : XT) : Prop := ∀ c, l.elem c = false → X1 c = X c
theorem Fx.rf {l : List Nat} {X : XT} : Fx l X X := fun _ _ => rfl
theorem Fx.trans {l : List Nat} {X X1 X2 : XT} (a : Fx l X X1) (b : Fx l X1 X2) : Fx l X X2 := fun c h => (b c h).trans (a c h)
theorem el_sub {l l2 : List Nat} (h : l.all (fun c => l2.elem c) = true) {c : Nat} (hc : l2.elem c = false) : l.elem c = false := by
  cases hq : l.elem c with
  | false => rfl
  | true =>
    have h1 := List.all_eq_true.mp h c (List.elem_iff.mp hq)
    rw [hc] at h1; cases h1
theorem Fx.sub {l l2 : List Nat} {X X1 : XT} (a : Fx l X X1) (h : l.all (fun c => l2.elem c) = true) : Fx l2 X X1 := fun c hc => a c (el_sub h hc)
theorem Fx.st {l : List Nat} {X X1 : XT} {c : Nat} {i v : Int} (a : Fx l X X1) (h : l.elem c = true) : Fx l X (x_st X1 c i v) := fun d hd => by
  have hne : ¬ d = c := fun e => by rw [e, h] at hd; cases hd
  rw [x_st_c hne]; exact a d hd
theorem Fx.at {l : List Nat} {X X1 : XT} (a : Fx l X X1) (c : Nat) (h : l.elem c = false) : X1 c = X c := a c h
-- the row
def rC (r : Int → Int) (c k : Int) : Int := r (15 + 5 * c + k)
abbrev wetP (r : Int → Int) (s : Int) : Prop := 0 ≤ s % 24 - 8 ∧ s % 24 - 8 ≤ 7 ∧ 0 ≤ s / 24 - 8 ∧ s / 24 - 8 ≤ 7 ∧ r (40 + 3 * (8 * (s / 24 - 8) + (s % 24 - 8)) + 2) = 1
abbrev barP (r : Int → Int) (T : TT) (c s h : Int) : Prop := T 3 (s % 24 - 8) (s / 24 - 8) h c (r (15 + 5 * c + 2)) (-1) 0 = 1
abbrev freP (r : Int → Int) (T : TT) (c s h : Int) : Prop := ¬ wetP r s ∧ ¬ barP r T c s h
def wxF (r : Int → Int) (l tu : Int) : Int := if tu = 0 then r (9 + 2 * l) else -r (9 + 2 * l + 1)
def wyF (r : Int → Int) (l tu : Int) : Int := if tu = 0 then r (9 + 2 * l + 1) else r (9 + 2 * l)
/-- a cloud's corner (576: gone) behind an hour -/
def nxF (r : Int → Int) (T : TT) (c s h d tu : Int) : Int := if s = 576 then 576 else mvF s (wxF r (r (15 + 5 * c + 2)) tu + (if freP r T c s h then sxF d else 0)) (wyF r (r (15 + 5 * c + 2)) tu + (if freP r T c s h then syF d else 0))
def bgF (r : Int → Int) (c : Int) : Int := 24 * (r (15 + 5 * c + 4) + 8) + r (15 + 5 * c + 3) + 8
def spF (r : Int → Int) (T : TT) (c : Int) : Nat → Int
  | 0 => bgF r c
  | h + 1 => nxF r T c (spF r T c h) (h : Int) (fRw r c (h : Int)) 0
abbrev shP (r : Int → Int) (c s f : Int) : Prop := ¬ s = 576 ∧ cvB s (r (15 + 5 * c + 0)) (r (15 + 5 * c + 1)) f
/-- by how many of the first m clouds a field is in shade, their corners told by s -/
def sdF (r : Int → Int) (s : Int → Int) (f : Int) : Nat → Int
  | 0 => 0
  | m + 1 => sdF r s f m + (if shP r (m : Int) (s (m : Int)) f then 1 else 0)
/-- the row is as it can be -/
def W_fld (r : Int → Int) : Prop := ∀ f b : Int, 0 ≤ f → f ≤ 63 → 0 ≤ b → b ≤ 2 → 0 ≤ r (40 + 3 * f + b) ∧ r (40 + 3 * f + b) ≤ 999 ∧ (b = 0 → r (40 + 3 * f + b) ≤ 99) ∧ (b = 1 → 1 ≤ r (40 + 3 * f + b)) ∧ (b = 2 → r (40 + 3 * f + b) ≤ 1)
def W_wnd (r : Int → Int) : Prop := ∀ l : Int, 0 ≤ l → l ≤ 2 → -1 ≤ r (9 + 2 * l) ∧ r (9 + 2 * l) ≤ 1 ∧ -1 ≤ r (9 + 2 * l + 1) ∧ r (9 + 2 * l + 1) ≤ 1
def W_cld (r : Int → Int) : Prop := (0 ≤ r 0 ∧ r 0 ≤ 5) ∧ ∀ c : Int, 0 ≤ c → c < r 0 → 1 ≤ r (15 + 5 * c + 0) ∧ r (15 + 5 * c + 0) ≤ 3 ∧ 1 ≤ r (15 + 5 * c + 1) ∧ r (15 + 5 * c + 1) ≤ 3 ∧ 0 ≤ r (15 + 5 * c + 2) ∧ r (15 + 5 * c + 2) ≤ 2 ∧ -8 ≤ r (15 + 5 * c + 3) ∧ r (15 + 5 * c + 3) ≤ 15 ∧ -8 ≤ r (15 + 5 * c + 4) ∧ r (15 + 5 * c + 4) ≤ 15
def W_flg (r : Int → Int) : Prop := FLK r ∧ (∀ k : Int, 0 ≤ k → k < r 1 → r (232 + (k * 3 + 1)) < r 0) ∧ ∀ k l : Int, 0 ≤ k → k < l → l < r 1 → ¬ (r (232 + k * 3) = r (232 + l * 3) ∧ r (232 + (k * 3 + 1)) = r (232 + (l * 3 + 1)))
def W_con (r : Int → Int) : Prop := (0 ≤ r 2 ∧ r 2 ≤ 8) ∧ ∀ k : Int, 0 ≤ k → k < r 2 → 0 ≤ r (304 + 5 * k + 0) ∧ r (304 + 5 * k + 0) ≤ 63 ∧ 0 ≤ r (304 + 5 * k + 1) ∧ r (304 + 5 * k + 1) ≤ r (304 + 5 * k + 2) ∧ r (304 + 5 * k + 2) ≤ 11 ∧ 0 ≤ r (304 + 5 * k + 3) ∧ r (304 + 5 * k + 3) ≤ 1 ∧ 1 ≤ r (304 + 5 * k + 4) ∧ r (304 + 5 * k + 4) ≤ 99
def W_sgt (r : Int → Int) : Prop := (0 ≤ r 3 ∧ r 3 ≤ 10) ∧ ∀ k : Int, 0 ≤ k → k < r 3 → 0 ≤ r (344 + 3 * k) ∧ r (344 + 3 * k) ≤ 11 ∧ 0 ≤ r (344 + 3 * k + 1) ∧ r (344 + 3 * k + 1) ≤ 63 ∧ 0 ≤ r (344 + 3 * k + 2) ∧ r (344 + 3 * k + 2) ≤ 1
def W_trm (r : Int → Int) : Prop := 0 ≤ r 6 ∧ r 6 ≤ 99 ∧ 0 ≤ r 7 ∧ r 7 ≤ 10 ∧ 0 ≤ r 8 ∧ r 8 ≤ 9
def RW (r : Int → Int) : Prop := W_fld r ∧ W_wnd r ∧ W_cld r ∧ W_flg r ∧ W_con r ∧ W_sgt r ∧ W_trm r
/-- what the law in force tells is small -/
def TR (T : TT) : Prop := ∀ hd x y h c l s wo : Int, 0 ≤ wo → wo ≤ 99 → 0 ≤ T hd x y h c l s wo ∧ T hd x y h c l s wo ≤ 99
theorem Pln.rw {o f2 f3 f4 f5 f6 f7 f8 f9 r : Int → Int} (p : Pln o f2 f3 f4 f5 f6 f7 f8 f9 r) : RW r := by
  obtain ⟨p1, p2, p3, p4, p5, p6, p7, p8⟩ := p
  refine ⟨fun f b f0 f1 b0 b1 => ?_, fun l l0 l1 => ?_, ⟨?_, fun c c0 c1 => ?_⟩, ⟨⟨?_, fun k k0 k1 => ?_⟩, fun k k0 k1 => ?_, fun k l k0 k1 k2 => ?_⟩, ⟨?_, fun k k0 k1 => ?_⟩, ⟨?_, fun k k0 k1 => ?_⟩, ?_⟩
  · have h := p1 f b f0 f1 b0 b1
    rw [← h.1]; exact h.2
  · have h := p2 l l0 l1
    rw [← h.1, ← h.2.1]; exact h.2.2
  · have h := p3.1; omega
  · have h := p3.2.2 c c0 (by have := p3.1; omega)
    have h3 := p3.1
    have e : ∀ j : Int, 0 ≤ j → j ≤ 4 → r (15 + 5 * c + j) = f5 (c * 5 + j) := fun j j0 j1 => by
      rw [p3.2.1 (c * 5 + j) (by omega) (by omega)]; congr 1; omega
    have e0 := e 0 (by omega) (by omega)
    rw [Int.add_zero (c * 5)] at e0
    rw [e0, e 1 (by omega) (by omega), e 2 (by omega) (by omega), e 3 (by omega) (by omega), e 4 (by omega) (by omega)]
    exact h
  · have h := p4.1; omega
  · have h := p4.2.2.1 k k0 (by have := p4.1; omega)
    have h4 := p4.1
    have h3 := p3.1
    rw [← p4.2.1 (k * 3) (by omega) (by omega), ← p4.2.1 (k * 3 + 1) (by omega) (by omega), ← p4.2.1 (k * 3 + 2) (by omega) (by omega)]
    omega
  · have h := p4.2.2.1 k k0 (by have := p4.1; omega)
    have h4 := p4.1
    have h3 := p3.1
    rw [← p4.2.1 (k * 3 + 1) (by omega) (by omega)]
    omega
  · have h4 := p4.1
    have h := p4.2.2.2 k l k0 k1 (by omega)
    rw [← p4.2.1 (k * 3) (by omega) (by omega), ← p4.2.1 (k * 3 + 1) (by omega) (by omega), ← p4.2.1 (l * 3) (by omega) (by omega), ← p4.2.1 (l * 3 + 1) (by omega) (by omega)]
    exact h
  · have h := p5.1; omega
  · have h := p5.2.2 k k0 (by have := p5.1; omega)
    have h3 := p5.1
    have e : ∀ j : Int, 0 ≤ j → j ≤ 4 → r (304 + 5 * k + j) = f7 (k * 5 + j) := fun j j0 j1 => by
      rw [p5.2.1 (k * 5 + j) (by omega) (by omega)]; congr 1; omega
    have e0 := e 0 (by omega) (by omega)
    rw [Int.add_zero (k * 5)] at e0
    rw [e0, e 1 (by omega) (by omega), e 2 (by omega) (by omega), e 3 (by omega) (by omega), e 4 (by omega) (by omega)]
    exact h
  · have h := p6.1; omega
  · have h := p6.2.2 k k0 (by have := p6.1; omega)
    have h3 := p6.1
    have e : ∀ j : Int, 0 ≤ j → j ≤ 2 → r (344 + 3 * k + j) = f8 (k * 3 + j) := fun j j0 j1 => by
      rw [p6.2.1 (k * 3 + j) (by omega) (by omega)]; congr 1; omega
    have e0 := e 0 (by omega) (by omega)
    rw [Int.add_zero (k * 3), Int.add_zero (344 + 3 * k)] at e0
    rw [e0, e 1 (by omega) (by omega), e 2 (by omega) (by omega)]
    exact h
  · have h0 := p7 0 (by omega) (by omega)
    have h1 := p7 1 (by omega) (by omega)
    have h2 := p7 2 (by omega) (by omega)
    have h3 := h1.2.2.2.1 rfl
    have h4 := h2.2.2.2.2 rfl
    simp only [Int.add_zero, show (6 : Int) + 1 = 7 from rfl, show (6 : Int) + 2 = 8 from rfl] at h0 h1 h2
    unfold W_trm
    omega
/-- the class's side of it: the plain's cells, the laws -/
def CE (K : LK) (B : XT) (r : Int → Int) (T : TT) : Prop := Pln (B 1) (B 2) (B 3) (B 4) (B 5) (B 6) (B 7) (B 8) (B 9) r ∧ K.1 (lawc B) ∧ (∀ (hd : Int) (w : Int → Int) (wo : Int), 0 ≤ hd → hd ≤ 3 → wok w → 0 ≤ wo → wo ≤ 99 → w 6 = r 8 → w 7 = r 6 → K.2 (lawc B) (15 + hd) w wo = T hd (w 0) (w 1) (w 2) (w 3) (w 4) (w 5) wo) ∧ TR T
theorem lawc_cg {X X1 : XT} (h1 : X1 1 = X 1) (h2 : X1 10 = X 10) : lawc X1 = lawc X := by unfold lawc; rw [h1, h2]
theorem mvF_r {a x y : Int} (h : 0 ≤ a ∧ a ≤ 576) : 0 ≤ mvF a x y ∧ mvF a x y ≤ 576 := by
  unfold mvF
  split <;> omega
theorem bgF_r {r : Int → Int} (w : W_cld r) {c : Int} (h0 : 0 ≤ c) (h1 : c < r 0) : 0 ≤ bgF r c ∧ bgF r c ≤ 575 := by
  have h := w.2 c h0 h1
  unfold bgF; omega
theorem nxF_r {r : Int → Int} {T : TT} {c s h d tu : Int} (hs : 0 ≤ s ∧ s ≤ 576) : 0 ≤ nxF r T c s h d tu ∧ nxF r T c s h d tu ≤ 576 := by
  unfold nxF
  split
  · omega
  · exact mvF_r hs
theorem spF_r {r : Int → Int} {T : TT} (w : W_cld r) {c : Int} (h0 : 0 ≤ c) (h1 : c < r 0) : ∀ h : Nat, 0 ≤ spF r T c h ∧ spF r T c h ≤ 576 := by
  intro h
  induction h with
  | zero => have := bgF_r w h0 h1; unfold spF; omega
  | succ h ih => exact nxF_r ih
theorem sx_r (d : Int) : -1 ≤ sxF d ∧ sxF d ≤ 1 := by unfold sxF; split <;> (try split) <;> omega
theorem sy_r (d : Int) : -1 ≤ syF d ∧ syF d ≤ 1 := by unfold syF; split <;> (try split) <;> omega
theorem wx_r {r : Int → Int} (w : W_wnd r) {l tu : Int} (h0 : 0 ≤ l) (h1 : l ≤ 2) : -1 ≤ wxF r l tu ∧ wxF r l tu ≤ 1 := by
  have := w l h0 h1
  unfold wxF; split <;> omega
theorem wy_r {r : Int → Int} (w : W_wnd r) {l tu : Int} (h0 : 0 ≤ l) (h1 : l ≤ 2) : -1 ≤ wyF r l tu ∧ wyF r l tu ≤ 1 := by
  have := w l h0 h1
  unfold wyF; split <;> omega

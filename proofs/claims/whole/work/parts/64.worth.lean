/-! PASTURE: what lies under a shadow is worth -/
def vF (T : TT) (h f : Int) : Int := T 2 (f % 8) (f / 8) h (-1) (-1) (-1) 1
def w3 (r : Int → Int) (T : TT) (c h s i : Int) : Int := smI (fun j => if j < r (15 + 5 * c + 0) ∧ 0 ≤ s % 24 - 8 + j ∧ s % 24 - 8 + j ≤ 7 then vF T h (8 * (s / 24 - 8 + i) + (s % 24 - 8 + j)) else 0) 3
def w9 (r : Int → Int) (T : TT) (c h s i : Int) : Int := if i < r (15 + 5 * c + 1) ∧ 0 ≤ s / 24 - 8 + i ∧ s / 24 - 8 + i ≤ 7 then w3 r T c h s i else 0
def wkF (r : Int → Int) (T : TT) (c h s : Int) : Int := if s = 576 then 0 else smI (fun i => w9 r T c h s i) 3
theorem smI_fin {F : Int → Int} {n m : Nat} (h1 : ∀ j : Int, (n : Int) ≤ j → F j = 0) (h2 : ∀ j : Int, (m : Int) ≤ j → F j = 0) : smI F n = smI F m := by
  have up : ∀ (a : Nat), (∀ j : Int, (a : Int) ≤ j → F j = 0) → ∀ k : Nat, smI F (a + k) = smI F a := by
    intro a ha k
    induction k with
    | zero => rfl
    | succ k ih => rw [show a + (k + 1) = (a + k) + 1 from rfl, smI_s, ih, ha _ (by omega), Int.add_zero]
  rcases Nat.le_total n m with h | h
  · obtain ⟨k, rfl⟩ : ∃ k, m = n + k := ⟨m - n, by omega⟩
    exact (up n h1 k).symm
  · obtain ⟨k, rfl⟩ : ∃ k, n = m + k := ⟨n - m, by omega⟩
    exact up m h2 k
theorem smI_low {F : Int → Int} : ∀ n : Nat, (∀ j : Int, 0 ≤ j → j < n → F j = 0) → smI F n = 0 := by
  intro n
  induction n with
  | zero => intro _; rfl
  | succ n ih => intro h; rw [smI_s, ih (fun j a b => h j a (by omega)), h n (by omega) (by omega)]; rfl
theorem smI3 {F : Int → Int} : smI F 3 = F 0 + F 1 + F 2 := by
  show 0 + F 0 + F 1 + F 2 = _
  rw [Int.zero_add]
theorem vF_r {T : TT} (tr : TR T) (h f : Int) : 0 ≤ vF T h f ∧ vF T h f ≤ 99 := tr 2 _ _ h (-1) (-1) (-1) 1 (by decide) (by decide)
theorem w9_r {r : Int → Int} {T : TT} (tr : TR T) (c h s i : Int) : 0 ≤ w9 r T c h s i ∧ w9 r T c h s i ≤ 297 := by
  unfold w9
  split
  · unfold w3
    rw [smI3]
    have a0 := vF_r tr h (8 * (s / 24 - 8 + i) + (s % 24 - 8 + 0))
    have a1 := vF_r tr h (8 * (s / 24 - 8 + i) + (s % 24 - 8 + 1))
    have a2 := vF_r tr h (8 * (s / 24 - 8 + i) + (s % 24 - 8 + 2))
    (try dsimp only)
    split <;> split <;> split <;> omega
  · omega
theorem wkF_r {r : Int → Int} {T : TT} (tr : TR T) (c h s : Int) : 0 ≤ wkF r T c h s ∧ wkF r T c h s ≤ 891 := by
  unfold wkF
  split
  · omega
  · rw [smI3]
    have a0 := w9_r (r := r) tr c h s 0
    have a1 := w9_r (r := r) tr c h s 1
    have a2 := w9_r (r := r) tr c h s 2
    (try dsimp only)
    omega
theorem e_worth {K : LK} {B X : XT} {r : Int → Int} {T : TT} {c h s : Int} {Q : Int → Prop} (b : CE K B r T) (hx : Fx scC B X) (c0 : 0 ≤ c) (c1 : c < r 0) (p : PTK r c X) (s0 : 0 ≤ s) (s1 : s ≤ 576) (hv : ∀ f : Int, 0 ≤ f → f < 64 → X 64 f = vF T h f) (q : Q (wkF r T c h s)) : w_X4_worthUnder s X Q := by
  have wc := b.rw.2.2.1.1
  have hc := b.rw.2.2.1.2 c c0 c1
  have eW : X 5 (c * 5 + 0) = r (15 + 5 * c + 0) := by rw [hx 5 rfl]; exact b.cld c0 (by omega) (by decide) (by decide)
  have eL : X 5 (c * 5 + 1) = r (15 + 5 * c + 1) := by rw [hx 5 rfl]; exact b.cld c0 (by omega) (by decide) (by decide)
  have eN : X 1 9 = r 0 := by rw [hx 1 rfl]; exact b.nc
  unfold w_X4_worthUnder
  rw [p.1, eW, eL, eN]
  unfold wkF at q
  refine ⟨by omega, fun z => ?_, fun z => by rw [if_pos z] at q; exact q⟩
  rw [if_neg z] at q
  obtain ⟨cy, ey⟩ : ∃ cy, s / 24 - 8 = cy := ⟨_, rfl⟩
  obtain ⟨cx, ex⟩ : ∃ cx, s % 24 - 8 = cx := ⟨_, rfl⟩
  obtain ⟨wd, ew⟩ : ∃ wd, r (15 + 5 * c + 0) = wd := ⟨_, rfl⟩
  obtain ⟨tl, el⟩ : ∃ tl, r (15 + 5 * c + 1) = tl := ⟨_, rfl⟩
  have hF : ∀ i : Int, w9 r T c h s i = if i < tl ∧ 0 ≤ cy + i ∧ cy + i ≤ 7 then w3 r T c h s i else 0 := fun i => by unfold w9; rw [el, ey]
  have hG : ∀ i : Int, w3 r T c h s i = smI (fun j => if j < wd ∧ 0 ≤ cx + j ∧ cx + j ≤ 7 then vF T h (8 * (cy + i) + (cx + j)) else 0) 3 := fun i => by unfold w3; rw [ew, ex, ey]
  rw [ex, ey, ew, el]
  refine ⟨by omega, by omega, by omega, by omega, by omega, by omega, ?_⟩
  refine ⟨fun a y => max 0 cy ≤ y ∧ y ≤ max (max 0 cy) (min 8 (cy + tl)) ∧ a = smI (fun i => w9 r T c h s i) (y - cy).toNat, fun _ y => (20 - y).toNat, ⟨Int.le_refl _, by omega, ?_⟩, ?_⟩
  · rw [smI_low]
    intro j j0 j1
    (try dsimp only)
    rw [hF, if_neg (by omega)]
  rintro a y ⟨y0, y1, rfl⟩
  refine ⟨by omega, by omega, fun k => ?_, fun k => ?_⟩
  · rw [smI_fin (m := 3) (fun j hj => by (try dsimp only); rw [hF, if_neg (by omega)]) (fun j hj => by (try dsimp only); rw [hF, if_neg (by omega)])]
    exact q
  · have es : smI (fun i => w9 r T c h s i) (y + 1 - cy).toNat = smI (fun i => w9 r T c h s i) (y - cy).toNat + w3 r T c h s (y - cy) := by
      rw [show (y + 1 - cy).toNat = (y - cy).toNat + 1 by omega, smI_s, show (((y - cy).toNat : Nat) : Int) = y - cy by omega]
      (try dsimp only)
      rw [hF, if_pos (by omega)]
    have hG := hG (y - cy)
    rw [show cy + (y - cy) = y by omega] at hG
    refine ⟨fun a x => max 0 cx ≤ x ∧ x ≤ max (max 0 cx) (min 8 (cx + wd)) ∧ a = smI (fun i => w9 r T c h s i) (y - cy).toNat + smI (fun j => if j < wd ∧ 0 ≤ cx + j ∧ cx + j ≤ 7 then vF T h (8 * y + (cx + j)) else 0) (x - cx).toNat, fun _ x => (20 - x).toNat, ⟨Int.le_refl _, by omega, ?_⟩, ?_⟩
    · rw [smI_low (n := (max 0 cx - cx).toNat)]
      · rw [Int.add_zero]
      · intro j j0 j1
        (try dsimp only)
        rw [if_neg (by omega)]
    rintro a x ⟨x0, x1, rfl⟩
    refine ⟨by omega, by omega, fun k2 => ⟨⟨by omega, by omega, ?_⟩, by (try dsimp only); omega⟩, fun k2 => ⟨by omega, ⟨by omega, by omega, ?_⟩, by (try dsimp only); omega⟩⟩
    · rw [es, hG, smI_fin (n := (x - cx).toNat) (m := 3) (fun j hj => by (try dsimp only); rw [if_neg (by omega)]) (fun j hj => by (try dsimp only); rw [if_neg (by omega)])]
    · rw [show (x + 1 - cx).toNat = (x - cx).toNat + 1 by omega, smI_s, show (((x - cx).toNat : Nat) : Int) = x - cx by omega, hv _ (by omega) (by omega), Int.add_assoc]
      (try dsimp only)
      rw [if_pos (by omega), show cx + (x - cx) = x by omega]
def WOR (T : TT) (X : XT) : Prop := ∀ h f : Int, 0 ≤ h → h ≤ 11 → 0 ≤ f → f < 64 → X 99 (64 * h + f) = vF T h f
theorem m_worth {r : Int → Int} {T : TT} {X : XT} {c h s : Int} {Q : Int → Prop} (w : RW r) (e : X 79 = r) (k : WOR T X) (c0 : 0 ≤ c) (c1 : c < r 0) (h0 : 0 ≤ h) (h1 : h ≤ 11) (s0 : 0 ≤ s) (s1 : s < 576) (q : Q (wkF r T c h s)) : w_X12_worthAt c h s X Q := by
  have wc := w.2.2.1.1
  have hc := w.2.2.1.2 c c0 c1
  obtain ⟨cy, ey⟩ : ∃ cy, s / 24 - 8 = cy := ⟨_, rfl⟩
  obtain ⟨cx, ex⟩ : ∃ cx, s % 24 - 8 = cx := ⟨_, rfl⟩
  obtain ⟨wd, ew⟩ : ∃ wd, r (15 + 5 * c + 0) = wd := ⟨_, rfl⟩
  obtain ⟨tl, el⟩ : ∃ tl, r (15 + 5 * c + 1) = tl := ⟨_, rfl⟩
  unfold w_X12_worthAt
  rw [e, ex, ey, ew, el]
  have eq : wkF r T c h s = smI (fun k => if k % 3 < wd ∧ k / 3 < tl ∧ (0 ≤ cx + k % 3 ∧ cx + k % 3 ≤ 7) ∧ 0 ≤ cy + k / 3 ∧ cy + k / 3 ≤ 7 then vF T h (8 * (cy + k / 3) + (cx + k % 3)) else 0) 9 := by
    unfold wkF
    rw [if_neg (by omega), smI3]
    (try dsimp only)
    have row : ∀ i : Int, w9 r T c h s i = if i < tl ∧ 0 ≤ cy + i ∧ cy + i ≤ 7 then ((if 0 < wd ∧ 0 ≤ cx + 0 ∧ cx + 0 ≤ 7 then vF T h (8 * (cy + i) + (cx + 0)) else 0) + (if 1 < wd ∧ 0 ≤ cx + 1 ∧ cx + 1 ≤ 7 then vF T h (8 * (cy + i) + (cx + 1)) else 0) + (if 2 < wd ∧ 0 ≤ cx + 2 ∧ cx + 2 ≤ 7 then vF T h (8 * (cy + i) + (cx + 2)) else 0)) else 0 := fun i => by
      unfold w9 w3
      rw [el, ey, ew, ex, smI3]
    rw [row, row, row]
    generalize hGG : (fun k : Int => if k % 3 < wd ∧ k / 3 < tl ∧ (0 ≤ cx + k % 3 ∧ cx + k % 3 ≤ 7) ∧ 0 ≤ cy + k / 3 ∧ cy + k / 3 ≤ 7 then vF T h (8 * (cy + k / 3) + (cx + k % 3)) else 0) = G
    have e9 : smI G 9 = (G 0 + G 1 + G 2) + (G 3 + G 4 + G 5) + (G 6 + G 7 + G 8) := by
      show 0 + G 0 + G 1 + G 2 + G 3 + G 4 + G 5 + G 6 + G 7 + G 8 = _
      omega
    have cell : ∀ i j : Int, (i = 0 ∨ i = 1 ∨ i = 2) → (j = 0 ∨ j = 1 ∨ j = 2) → G (3 * i + j) = if i < tl ∧ 0 ≤ cy + i ∧ cy + i ≤ 7 then (if j < wd ∧ 0 ≤ cx + j ∧ cx + j ≤ 7 then vF T h (8 * (cy + i) + (cx + j)) else 0) else 0 := by
      intro i j hi hj
      rw [← hGG]
      (try dsimp only)
      rw [show (3 * i + j) % 3 = j by omega, show (3 * i + j) / 3 = i by omega]
      by_cases ha : i < tl ∧ 0 ≤ cy + i ∧ cy + i ≤ 7
      · rw [if_pos ha]
        by_cases hb : j < wd ∧ 0 ≤ cx + j ∧ cx + j ≤ 7
        · rw [if_pos hb, if_pos ⟨hb.1, ha.1, hb.2, ha.2⟩]
        · rw [if_neg hb, if_neg (fun z => hb ⟨z.1, z.2.2.1⟩)]
      · rw [if_neg ha, if_neg (fun z => ha ⟨z.2.1, z.2.2.2⟩)]
    have gr : ∀ i : Int, (i = 0 ∨ i = 1 ∨ i = 2) → G (3 * i + 0) + G (3 * i + 1) + G (3 * i + 2) = if i < tl ∧ 0 ≤ cy + i ∧ cy + i ≤ 7 then ((if 0 < wd ∧ 0 ≤ cx + 0 ∧ cx + 0 ≤ 7 then vF T h (8 * (cy + i) + (cx + 0)) else 0) + (if 1 < wd ∧ 0 ≤ cx + 1 ∧ cx + 1 ≤ 7 then vF T h (8 * (cy + i) + (cx + 1)) else 0) + (if 2 < wd ∧ 0 ≤ cx + 2 ∧ cx + 2 ≤ 7 then vF T h (8 * (cy + i) + (cx + 2)) else 0)) else 0 := by
      intro i hi
      rw [cell i 0 hi (by decide), cell i 1 hi (by decide), cell i 2 hi (by decide)]
      by_cases ha : i < tl ∧ 0 ≤ cy + i ∧ cy + i ≤ 7
      · rw [if_pos ha, if_pos ha, if_pos ha, if_pos ha]
      · rw [if_neg ha, if_neg ha, if_neg ha, if_neg ha]; rfl
    rw [e9, ← gr 0 (by decide), ← gr 1 (by decide), ← gr 2 (by decide)]
    rfl
  rw [eq] at q
  generalize hGG : (fun k : Int => if k % 3 < wd ∧ k / 3 < tl ∧ (0 ≤ cx + k % 3 ∧ cx + k % 3 ≤ 7) ∧ 0 ≤ cy + k / 3 ∧ cy + k / 3 ≤ 7 then vF T h (8 * (cy + k / 3) + (cx + k % 3)) else 0) = G at q
  have gk : ∀ k : Int, G k = if k % 3 < wd ∧ k / 3 < tl ∧ (0 ≤ cx + k % 3 ∧ cx + k % 3 ≤ 7) ∧ 0 ≤ cy + k / 3 ∧ cy + k / 3 ≤ 7 then vF T h (8 * (cy + k / 3) + (cx + k % 3)) else 0 := fun k => by rw [← hGG]
  refine ⟨by omega, fun a x => 0 ≤ x ∧ x ≤ 9 ∧ a = smI G x.toNat, fun _ x => (9 - x).toNat, ⟨by decide, by decide, rfl⟩, ?_⟩
  rintro a x ⟨x0, x1, rfl⟩
  refine ⟨by omega, fun z => by rw [show x.toNat = 9 by omega]; exact q, fun z => ⟨x0, by omega, ?_⟩⟩
  have es : smI G (x + 1).toNat = smI G x.toNat + G x := by
    rw [show (x + 1).toNat = x.toNat + 1 by omega, smI_s, show ((x.toNat : Nat) : Int) = x by omega]
  intro J hJ
  have no : ¬ (x % 3 < wd ∧ x / 3 < tl ∧ (0 ≤ cx + x % 3 ∧ cx + x % 3 ≤ 7) ∧ 0 ≤ cy + x / 3 ∧ cy + x / 3 ≤ 7) → J 0 := fun hn => hJ 0 (fun J2 hJ2 => ⟨by decide, fun _ => hJ2 0 ⟨⟨by omega, by omega, by rw [es, gk, if_neg hn]⟩, by (try dsimp only); omega⟩, fun y => absurd rfl y⟩)
  refine ⟨by omega, by omega, fun y => no (by omega), fun y => ⟨by omega, by omega, fun y2 => no (by omega), fun y2 => ⟨by omega, fun y3 => no (by omega), fun y3 => ⟨by omega, fun y4 => no (by omega), fun y4 => hJ 1 (fun J2 hJ2 => ⟨by decide, fun y => absurd y (by decide), fun _ => ⟨by omega, hJ2 _ ⟨⟨by omega, by omega, ?_⟩, by (try dsimp only); omega⟩⟩⟩)⟩⟩⟩⟩
  rw [es, gk, if_pos (by omega), show 64 * h + 8 * (cy + x / 3) + cx + x % 3 = 64 * h + (8 * (cy + x / 3) + (cx + x % 3)) by omega, k h _ h0 h1 (by omega) (by omega)]

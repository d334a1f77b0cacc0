/-! PAIRS OF CALLS THAT ONLY ASK: likely -/
def smI (f : Int → Int) : Nat → Int
  | 0 => 0
  | m + 1 => smI f m + f (m : Int)
theorem smI_s {f : Int → Int} {m : Nat} : smI f (m + 1) = smI f m + f (m : Int) := rfl
theorem smI_cg {f g : Int → Int} (h : ∀ t, f t = g t) : ∀ m : Nat, smI f m = smI g m := by
  intro m
  induction m with
  | zero => rfl
  | succ m ih => rw [smI_s, smI_s, ih, h]
theorem smI_add {f g : Int → Int} : ∀ m : Nat, smI (fun t => f t + g t) m = smI f m + smI g m := by
  intro m
  induction m with
  | zero => rfl
  | succ m ih => rw [smI_s, smI_s, smI_s, ih]; omega
theorem smI_one {a x : Int} (a0 : 0 ≤ a) : ∀ m : Nat, smI (fun t => if a = t then x else 0) m = if a < (m : Int) then x else 0 := by
  intro m
  induction m with
  | zero => rw [if_neg (by omega)]; rfl
  | succ m ih =>
    rw [smI_s, ih]
    by_cases h1 : a < (m : Int)
    · rw [if_pos h1, if_neg (by omega), if_pos (by omega)]; omega
    · by_cases h2 : a = (m : Int)
      · rw [if_neg h1, if_pos h2, if_pos (by omega)]; omega
      · rw [if_neg h1, if_neg h2, if_neg (by omega)]; rfl
theorem smI_ge {f : Int → Int} (h : ∀ t, 0 ≤ f t) : ∀ m : Nat, 0 ≤ smI f m := by
  intro m
  induction m with
  | zero => exact Int.le_refl _
  | succ m ih => have := h (m : Int); rw [smI_s]; omega
theorem smI_in {f : Int → Int} (h : ∀ t, 0 ≤ f t) : ∀ (m : Nat) (t : Int), 0 ≤ t → t < m → f t ≤ smI f m := by
  intro m
  induction m with
  | zero => intro t a b; omega
  | succ m ih =>
    intro t a b
    have p := h (m : Int)
    have q := smI_ge h m
    rw [smI_s]
    by_cases hq : t = (m : Int)
    · rw [hq]; omega
    · have := ih t a (by omega); omega
/-- where the chances of the first m corners go -/
def dfF (r : Int → Int) (T : TT) (c h d : Int) (P : Int → Int) : Nat → Int → Int
  | 0, _ => 0
  | m + 1, t => dfF r T c h d P m t + (if nxF r T c (m : Int) h d 0 = t then P (m : Int) / 10 * (10 - r 7) else 0) + (if nxF r T c (m : Int) h d 1 = t then P (m : Int) / 10 * r 7 else 0)
theorem dfF_s {r : Int → Int} {T : TT} {c h d t : Int} {P : Int → Int} {m : Nat} : dfF r T c h d P (m + 1) t = dfF r T c h d P m t + (if nxF r T c (m : Int) h d 0 = t then P (m : Int) / 10 * (10 - r 7) else 0) + (if nxF r T c (m : Int) h d 1 = t then P (m : Int) / 10 * r 7 else 0) := rfl
theorem dfF_ge {r : Int → Int} {T : TT} {c h d : Int} {P : Int → Int} (p0 : 0 ≤ r 7) (p1 : r 7 ≤ 10) (hP : ∀ s, 0 ≤ P s) : ∀ (m : Nat) (t : Int), 0 ≤ dfF r T c h d P m t := by
  intro m
  induction m with
  | zero => intro t; exact Int.le_refl _
  | succ m ih =>
    intro t
    rw [dfF_s]
    have a := ih t
    have hd : 0 ≤ P (m : Int) / 10 := Int.ediv_nonneg (hP _) (by decide)
    have x := Int.mul_nonneg hd (show 0 ≤ 10 - r 7 by omega)
    have y := Int.mul_nonneg hd p0
    split <;> split <;> omega
theorem dfF_mass {r : Int → Int} {T : TT} {c h d : Int} {P : Int → Int} (hP : ∀ s, 0 ≤ P s) : ∀ m : Nat, m ≤ 577 → smI (dfF r T c h d P m) 577 ≤ smI P m := by
  intro m
  induction m with
  | zero =>
    intro _
    have : ∀ n : Nat, smI (dfF r T c h d P 0) n = 0 := by
      intro n
      induction n with
      | zero => rfl
      | succ n ihn => rw [smI_s, ihn]; rfl
    rw [this]; exact Int.le_refl _
  | succ m ih =>
    intro hm
    have i := ih (by omega)
    have n0 := nxF_r (r := r) (T := T) (c := c) (h := h) (d := d) (tu := 0) (show 0 ≤ (m : Int) ∧ (m : Int) ≤ 576 by omega)
    have n1 := nxF_r (r := r) (T := T) (c := c) (h := h) (d := d) (tu := 1) (show 0 ≤ (m : Int) ∧ (m : Int) ≤ 576 by omega)
    have e : smI (dfF r T c h d P (m + 1)) 577 = smI (dfF r T c h d P m) 577 + P (m : Int) / 10 * (10 - r 7) + P (m : Int) / 10 * r 7 := by
      rw [smI_cg (g := fun t => (dfF r T c h d P m t + (if nxF r T c (m : Int) h d 0 = t then P (m : Int) / 10 * (10 - r 7) else 0)) + (if nxF r T c (m : Int) h d 1 = t then P (m : Int) / 10 * r 7 else 0)) (fun t => dfF_s) 577, smI_add, smI_add, smI_one n0.1, smI_one n1.1, if_pos (by omega), if_pos (by omega)]
    have f : P (m : Int) / 10 * (10 - r 7) + P (m : Int) / 10 * r 7 = P (m : Int) / 10 * 10 := by
      rw [← Int.mul_add, show 10 - r 7 + r 7 = 10 by omega]
    have hp := hP (m : Int)
    rw [e, show smI P (m + 1) = smI P m + P (m : Int) from rfl]
    omega
def lkF (r : Int → Int) (T : TT) (c : Int) : Nat → Int → Int
  | 0, s => if bgF r c = s then 1000000000000 else 0
  | h + 1, t => dfF r T c (h : Int) (tlF (fRw r c (h : Int))) (lkF r T c h) 577 t
theorem lkF_s {r : Int → Int} {T : TT} {c t : Int} {h : Nat} : lkF r T c (h + 1) t = dfF r T c (h : Int) (tlF (fRw r c (h : Int))) (lkF r T c h) 577 t := rfl
theorem lkF_r {r : Int → Int} {T : TT} {c : Int} (w : RW r) (c0 : 0 ≤ c) (c1 : c < r 0) : ∀ h : Nat, (∀ s, 0 ≤ lkF r T c h s) ∧ smI (lkF r T c h) 577 ≤ 1000000000000 := by
  have wt := w.2.2.2.2.2.2
  have bg := bgF_r w.2.2.1 c0 c1
  intro h
  induction h with
  | zero =>
    refine ⟨fun s => by unfold lkF; split <;> omega, ?_⟩
    rw [smI_cg (f := lkF r T c 0) (g := fun t => if bgF r c = t then 1000000000000 else 0) (fun t => rfl) 577, smI_one bg.1, if_pos (by omega)]
    exact Int.le_refl _
  | succ h ih =>
    refine ⟨fun s => dfF_ge wt.2.2.1 wt.2.2.2.1 ih.1 577 s, ?_⟩
    rw [smI_cg (f := lkF r T c (h + 1)) (g := dfF r T c (h : Int) (tlF (fRw r c (h : Int))) (lkF r T c h) 577) (fun t => lkF_s) 577]
    exact Int.le_trans (dfF_mass ih.1 577 (Nat.le_refl _)) ih.2
theorem lkF_b {r : Int → Int} {T : TT} {c : Int} (w : RW r) (c0 : 0 ≤ c) (c1 : c < r 0) (h : Nat) {s : Int} (s0 : 0 ≤ s) (s1 : s ≤ 576) : 0 ≤ lkF r T c h s ∧ lkF r T c h s ≤ 1000000000000 := by
  have l := lkF_r (T := T) w c0 c1 h
  exact ⟨l.1 s, Int.le_trans (smI_in l.1 577 s s0 (by omega)) l.2⟩
theorem e_flag {r : Int → Int} {c h : Int} {X : XT} {Q : Int → Prop} (hh : HEAR r 50 X) (c0 : 0 ≤ c) (c1 : c ≤ 4) (h0 : 0 ≤ h) (h1 : h ≤ 10) (q : Q (tlF (fRw r c h))) : w_X8_flagOf 50 51 c h X Q := by
  unfold w_X8_flagOf
  rw [hh c h c0 c1 h0 h1]
  exact ⟨by omega, fun z => absurd ⟨c0, c1⟩ z, fun _ => ⟨by omega, fun _ => ⟨by omega, q⟩, fun z => absurd ⟨h0, h1⟩ z⟩⟩
theorem e_drift1 {r : Int → Int} {T : TT} {c h d : Int} {P : Int → Int} {X : XT} {Q : XT → Prop} (w : RW r) (p : PTK r c X) (c0 : 0 ≤ c) (c1 : c < r 0) (mk : MKS r T c X) (h0 : 0 ≤ h) (h1 : h ≤ 10) (rd : 0 ≤ d ∧ d ≤ 4) (e3 : X 68 3 = r 7) (hP : ∀ s : Int, 0 ≤ s → s ≤ 576 → 0 ≤ P s ∧ P s ≤ 1000000000000) (hv : ∀ s : Int, 0 ≤ s → s ≤ 576 → X 69 (h % 2 * 577 + s) = P s) (hm : ∀ s : Int, 0 ≤ s → s ≤ 576 → ¬ P s = 0 → ¬ X 59 (h * 577 + s) = 0)
    (q : ∀ X1, Fx [69] X X1 → (∀ t : Int, 0 ≤ t → t ≤ 576 → X1 69 ((h + 1) % 2 * 577 + t) = dfF r T c h d P 577 t) → Q X1) : w_X1_drift h d X Q := by
  have wt := w.2.2.2.2.2.2
  unfold W_trm at wt
  refine ⟨fun s X1 => 0 ≤ s ∧ s ≤ 577 ∧ Fx [69] X X1 ∧ (∀ s : Int, 0 ≤ s → s ≤ 576 → X1 69 (h % 2 * 577 + s) = P s) ∧ ∀ t : Int, 0 ≤ t → t < s → X1 69 ((h + 1) % 2 * 577 + t) = 0, fun s _ => (577 - s).toNat, ⟨by decide, by decide, Fx.rf, hv, fun s' a b => absurd (show s' < (0 : Int) from b) (by omega)⟩, ?_⟩
  rintro s X1 ⟨s0, s1, f1, k1, k2⟩
  refine ⟨by omega, fun z => ?_, fun z => e_setChance (by omega) (by omega) s0 (by omega) ⟨⟨by omega, by omega, f1.st rfl, fun s' a b => ?_, fun t a b => ?_⟩, by dsimp only; omega⟩⟩
  rotate_left
  · rw [x_st_ne (by omega)]; exact k1 s' a b
  · by_cases hq : t = s
    · rw [hq, x_st_at]
    · rw [x_st_ne (by omega)]; exact k2 t a (by omega)
  refine ⟨fun s X2 => 0 ≤ s ∧ s ≤ 577 ∧ Fx [69] X X2 ∧ (∀ s : Int, 0 ≤ s → s ≤ 576 → X2 69 (h % 2 * 577 + s) = P s) ∧ ∀ t : Int, 0 ≤ t → t ≤ 576 → X2 69 ((h + 1) % 2 * 577 + t) = dfF r T c h d P s.toNat t, fun s _ => (577 - s).toNat, ⟨by decide, by decide, f1, k1, fun t a b => k2 t a (by omega)⟩, ?_⟩
  rintro s X2 ⟨s0', s1', f2, k3, k4⟩
  refine ⟨by omega, fun z2 => q X2 f2 (fun t a b => by rw [k4 t a b, show s.toNat = 577 by omega]), fun z2 => e_chanceOf h0 (by omega) s0' (by omega) ?_⟩
  have es : (s + 1).toNat = s.toNat + 1 := by omega
  have ec : ((s.toNat : Nat) : Int) = s := by omega
  have pr := hP s s0' (by omega)
  rw [k3 s s0' (by omega)]
  have n0 := nxF_r (r := r) (T := T) (c := c) (h := h) (d := d) (tu := 0) ⟨s0', show s ≤ 576 by omega⟩
  have n1 := nxF_r (r := r) (T := T) (c := c) (h := h) (d := d) (tu := 1) ⟨s0', show s ≤ 576 by omega⟩
  refine ⟨by omega, by omega, by omega, fun z3 => ⟨⟨by omega, by omega, f2, k3, fun t a b => ?_⟩, by dsimp only; omega⟩, fun z3 => ?_⟩
  · have e0 : P s / 10 = 0 := by omega
    rw [k4 t a b, es, dfF_s, ec, e0, Int.zero_mul, Int.zero_mul, ite_self, ite_self, Int.add_zero, Int.add_zero]
  · have mk2 : MKS r T c X2 := fun h s a b c d => by rw [f2 59 rfl]; exact mk h s a b c d
    have hm2 : ¬ X2 59 (h * 577 + s) = 0 := by rw [f2 59 rfl]; exact hm s s0' (by omega) (by omega)
    have e32 : X2 68 3 = r 7 := by rw [f2 68 rfl]; exact e3
    refine e_onward w (p.fx f2 rfl) c0 c1 mk2 h0 (by omega) s0' (by omega) hm2 rd (by omega) (Or.inl rfl) (e_onward w (p.fx f2 rfl) c0 c1 mk2 h0 (by omega) s0' (by omega) hm2 rd (by omega) (Or.inr rfl) ?_)
    rw [nyF_4, nyF_4]
    refine e_chanceOf (by omega) (by omega) n0.1 n0.2 ?_
    rw [e32]
    refine ⟨by omega, e_setChance (by omega) (by omega) n0.1 n0.2 (e_chanceOf (by omega) (by omega) n1.1 n1.2 ?_)⟩
    have e33 : ∀ v, (x_st X2 69 ((h + 1) % 2 * 577 + nxF r T c s h d 0) v) 68 3 = r 7 := fun v => by rw [x_st_c (by decide)]; exact e32
    rw [e33]
    refine ⟨by omega, e_setChance (by omega) (by omega) n1.1 n1.2 ⟨⟨by omega, by omega, (f2.st rfl).st rfl, fun s' a b => ?_, fun t a b => ?_⟩, by dsimp only; omega⟩⟩
    · rw [x_st_ne (by omega), x_st_ne (by omega)]; exact k3 s' a b
    · rw [es, dfF_s, ec, ← k4 t a b]
      by_cases q1 : nxF r T c s h d 1 = t
      · rw [if_pos q1, q1, x_st_at]
        by_cases q0 : nxF r T c s h d 0 = t
        · rw [if_pos q0, q0, x_st_at]
        · rw [if_neg q0, x_st_ne (by omega), Int.add_zero]
      · rw [if_neg q1, x_st_ne (by omega), Int.add_zero]
        by_cases q0 : nxF r T c s h d 0 = t
        · rw [if_pos q0, q0, x_st_at]
        · rw [if_neg q0, x_st_ne (by omega), Int.add_zero]
theorem lk_next {r : Int → Int} {T : TT} {c h d t : Int} {P : Int → Int} : ∀ m : Nat, m ≤ 577 → ¬ dfF r T c h d P m t = 0 → ∃ s : Int, 0 ≤ s ∧ s ≤ 576 ∧ ¬ P s = 0 ∧ (nxF r T c s h d 0 = t ∨ nxF r T c s h d 1 = t) := by
  intro m
  induction m with
  | zero => intro _ h; exact absurd rfl h
  | succ m ih =>
    intro hm hn
    by_cases hz : dfF r T c h d P m t = 0
    · rw [dfF_s, hz] at hn
      by_cases hp : P (m : Int) = 0
      · rw [hp, show (0 : Int) / 10 = 0 from rfl, Int.zero_mul, Int.zero_mul, ite_self, ite_self] at hn
        exact absurd rfl hn
      · refine ⟨m, by omega, by omega, hp, ?_⟩
        by_cases q0 : nxF r T c (m : Int) h d 0 = t
        · exact Or.inl q0
        · by_cases q1 : nxF r T c (m : Int) h d 1 = t
          · exact Or.inr q1
          · rw [if_neg q0, if_neg q1] at hn; exact absurd rfl hn
    · exact ih (by omega) hz

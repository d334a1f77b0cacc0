/-! PAIRS OF CALLS THAT ONLY ASK: part -/
abbrev okP (r : Int → Int) (T : TT) (c o : Int) : Int → Int → Bool := fun h s => decide (cmF r c s o (spF r T o h.toNat) = 0)
theorem okP_t {r : Int → Int} {T : TT} {c o h s : Int} : okP r T c o h s = true ↔ cmF r c s o (spF r T o h.toNat) = 0 := decide_eq_true_iff
theorem okP_576 {r : Int → Int} {T : TT} {c o h : Int} : okP r T c o h 576 = true := okP_t.mpr (cmF_no (Or.inl rfl))
theorem coP_576 {r : Int → Int} {T : TT} {c o till : Int} : ∀ k : Nat, coF r T c (okP r T c o) till k 576 = 0 := by
  intro k
  induction k with
  | zero => rw [coF_0, if_pos okP_576]
  | succ k ih =>
    rw [coF_s, if_pos okP_576, mnF_s]
    have lo : ∀ m : Nat, 0 ≤ mnF (fun d => coF r T c (okP r T c o) till k (nxF r T c 576 (till - ((k + 1 : Nat) : Int)) d 0) + oneF d) m := by
      intro m
      rcases mnF_at (g := fun d => coF r T c (okP r T c o) till k (nxF r T c 576 (till - ((k + 1 : Nat) : Int)) d 0) + oneF d) m with h | ⟨d', _, _, e⟩
      · rw [h]; decide
      · rw [← e]
        have := coF_r (r := r) (T := T) (c := c) (ok := okP r T c o) (till := till) k (nxF r T c 576 (till - ((k + 1 : Nat) : Int)) d' 0)
        have o := oneF_r d'
        omega
    have := lo 4
    rw [nxF_576, ih, show oneF ((4 : Nat) : Int) = 0 from rfl]
    omega
theorem m_findPart {r : Int → Int} {T : TT} {X : XT} {c o : Int} {Q : XT → Prop} (w : RW r) (e : X 79 = r) (k : WKS r T c X) (l : LAID r T X) (c0 : 0 ≤ c) (c1 : c < r 0) (o0 : 0 ≤ o) (o1 : o < r 0) (q : ∀ X1, Fx [97] X X1 → (∀ h : Int, 0 ≤ h → h ≤ 11 → FWS r T c (okP r T c o) 11 h X1) → Q X1) : (∃ (I26 : Int → XT → Prop) (m27 : Int → XT → Nat), I26 11 X ∧ ∀ (x24 : Int) (X25 : XT), I26 x24 X25 → R32 x24 ∧ (x24 < 0 → Q X25) ∧ (¬ x24 < 0 → ∃ (I51 : Int → XT → Prop) (m52 : Int → XT → Nat), I51 0 X25 ∧ ∀ (x49 : Int) (X50 : XT), I51 x49 X50 → R32 x49 ∧ (576 ≤ x49 → I26 (x24 + (-1)) X50 ∧ m27 (x24 + (-1)) X50 < m27 x24 X25) ∧ (¬ 576 ≤ x49 → ∀ J66 : Int → Prop, (∀ (v65 : Int), (∃ (I69 : Int → Int → Prop) (m70 : Int → Int → Nat), I69 v65 0 ∧ ∀ (x67 : Int) (x68 : Int), I69 x67 x68 → ∀ J78 : Prop, (((0 ≤ ((12 * o) + x24) ∧ ((12 * o) + x24) < 60) ∧ w_X12_common  c x49 o (X50 94 ((12 * o) + x24)) X50 (fun (v80 : Int) => R32 v80 ∧ (v80 ≤ 0 → (0 ≤ ((576 * x24) + x49) ∧ ((576 * x24) + x49) < 6912) ∧ I51 (x49 + 1) (x_st X50 97 ((576 * x24) + x49) x67) ∧ m52 (x49 + 1) (x_st X50 97 ((576 * x24) + x49) x67) < m52 x49 X50) ∧ (¬ v80 ≤ 0 → (0 ≤ ((576 * x24) + x49) ∧ ((576 * x24) + x49) < 6912) ∧ I51 (x49 + 1) (x_st X50 97 ((576 * x24) + x49) 100000000) ∧ m52 (x49 + 1) (x_st X50 97 ((576 * x24) + x49) 100000000) < m52 x49 X50))) → J78) → R32 x68 ∧ (5 ≤ x68 → J78 ) ∧ (¬ 5 ≤ x68 → (11 ≤ x24 → J78 ) ∧ (¬ 11 ≤ x24 → w_X12_nextOf  c x24 x49 0 x68 X50 (fun (v103 : Int) => ∀ J110 : Int → Prop, (∀ (v109 : Int), (∀ J112 : Int → Prop, (∀ (v111 : Int), (R32 (v109 + v111) ∧ R32 x67 ∧ (x67 ≤ (v109 + v111) → I69 x67 (x68 + 1) ∧ m70 x67 (x68 + 1) < m70 x67 x68) ∧ (¬ x67 ≤ (v109 + v111) → I69 (v109 + v111) (x68 + 1) ∧ m70 (v109 + v111) (x68 + 1) < m70 x67 x68)) → J112 v111) → (4 ≤ x68 → J112 0) ∧ (¬ 4 ≤ x68 → J112 1)) → J110 v109) → R32 v103 ∧ (¬ v103 = (-1) → (0 ≤ ((576 * (x24 + 1)) + v103) ∧ ((576 * (x24 + 1)) + v103) < 6912) ∧ J110 (X50 97 ((576 * (x24 + 1)) + v103))) ∧ (v103 = (-1) → J110 0))))) → J66 v65) → (¬ x24 = 11 → J66 100000000) ∧ (x24 = 11 → J66 0)))) := by
  have wc := w.2.2.1
  have wc1 := wc.1
  refine ⟨fun x X1 => -1 ≤ x ∧ x ≤ 11 ∧ Fx [97] X X1 ∧ ∀ h : Int, x < h → h ≤ 11 → FWS r T c (okP r T c o) 11 h X1, fun x _ => (x + 1).toNat, ⟨by decide, by decide, Fx.rf, fun h a b => absurd b (by omega)⟩, ?_⟩
  rintro x X1 ⟨x0, x1, g1, k1⟩
  refine ⟨by omega, fun z => q X1 g1 (fun h a b => k1 h (by omega) b), fun z => ?_⟩
  refine ⟨fun s X2 => 0 ≤ s ∧ s ≤ 576 ∧ Fx [97] X X2 ∧ (∀ h : Int, x < h → h ≤ 11 → FWS r T c (okP r T c o) 11 h X2) ∧ ∀ s' : Int, 0 ≤ s' → s' < s → X2 97 (576 * x + s') = fw (coF r T c (okP r T c o) 11 (11 - x).toNat s'), fun s _ => (576 - s).toNat, ⟨by decide, by decide, g1, k1, fun s' a b => absurd (show s' < (0 : Int) from b) (by omega)⟩, ?_⟩
  rintro s X2 ⟨s0, s1, g2, k2, k3⟩
  refine ⟨by omega, fun z2 => ⟨⟨by omega, by omega, g2, fun h a b => ?_⟩, by dsimp only; omega⟩, fun z2 => ?_⟩
  · by_cases hq : h = x
    · rw [hq]; exact fun s' c d => k3 s' c (by omega)
    · exact k2 h (by omega) b
  · have st : ∀ v : Int, v = fw (coF r T c (okP r T c o) 11 (11 - x).toNat s) → (0 ≤ s + 1 ∧ s + 1 ≤ 576 ∧ Fx [97] X (x_st X2 97 ((576 * x) + s) v) ∧ (∀ h : Int, x < h → h ≤ 11 → FWS r T c (okP r T c o) 11 h (x_st X2 97 ((576 * x) + s) v)) ∧ ∀ s' : Int, 0 ≤ s' → s' < s + 1 → (x_st X2 97 ((576 * x) + s) v) 97 (576 * x + s') = fw (coF r T c (okP r T c o) 11 (11 - x).toNat s')) := by
      rintro v rfl
      refine ⟨by omega, by omega, g2.st rfl, fun h a b s' d e => ?_, fun s' a b => ?_⟩
      · rw [x_st_ne (by omega)]; exact k2 h a b s' d e
      · by_cases hq : s' = s
        · rw [hq, x_st_at]
        · rw [x_st_ne (by omega)]; exact k3 s' a (by omega)
    have e2 : X2 79 = r := by rw [g2 79 rfl]; exact e
    have kw : WKS r T c X2 := fun h s a b c d => by rw [g2 96 rfl]; exact k h s a b c d
    intro J hJ
    have key : ∀ v : Int, ((x = 11 ∧ v = 0) ∨ (x < 11 ∧ v = 100000000)) → J v := by
      intro v hv
      refine hJ v ?_
      refine ⟨fun u d => 0 ≤ d ∧ d ≤ 5 ∧ ((x = 11 ∧ u = 0) ∨ (x < 11 ∧ u = fw (mnF (fun d => gF r T c (okP r T c o) 11 x s d) d.toNat))), fun _ d => (5 - d).toNat, ⟨by decide, by decide, by rcases hv with hv | hv; exact Or.inl hv; exact Or.inr hv⟩, ?_⟩
      rintro u d ⟨d0, d1, hu⟩
      intro J2 hJ2
      have fin : (x = 11 ∨ d = 5) → J2 := by
        intro hd
        refine hJ2 ⟨by omega, ?_⟩
        have la := l o o0 o1 x.toNat (by omega)
        rw [show ((x.toNat : Nat) : Int) = x by omega] at la
        rw [g2 94 rfl, la]
        have so := spF_r (T := T) wc o0 o1 x.toNat
        have cr := cmF_r (r := r) (c := c) (s := s) (c2 := o) (s2 := spF r T o x.toNat)
        have mc := m_common (r := r) (X := X2) (c := c) (s := s) (c2 := o) (s2 := spF r T o x.toNat) (Q := fun (v80 : Int) => R32 v80 ∧ (v80 ≤ 0 → (0 ≤ ((576 * x) + s) ∧ ((576 * x) + s) < 6912) ∧ (0 ≤ s + 1 ∧ s + 1 ≤ 576 ∧ Fx [97] X (x_st X2 97 ((576 * x) + s) u) ∧ (∀ h : Int, x < h → h ≤ 11 → FWS r T c (okP r T c o) 11 h (x_st X2 97 ((576 * x) + s) u)) ∧ ∀ s' : Int, 0 ≤ s' → s' < s + 1 → (x_st X2 97 ((576 * x) + s) u) 97 (576 * x + s') = fw (coF r T c (okP r T c o) 11 (11 - x).toNat s')) ∧ (576 - (s + 1)).toNat < (576 - s).toNat) ∧ (¬ v80 ≤ 0 → (0 ≤ ((576 * x) + s) ∧ ((576 * x) + s) < 6912) ∧ (0 ≤ s + 1 ∧ s + 1 ≤ 576 ∧ Fx [97] X (x_st X2 97 ((576 * x) + s) 100000000) ∧ (∀ h : Int, x < h → h ≤ 11 → FWS r T c (okP r T c o) 11 h (x_st X2 97 ((576 * x) + s) 100000000)) ∧ ∀ s' : Int, 0 ≤ s' → s' < s + 1 → (x_st X2 97 ((576 * x) + s) 100000000) 97 (576 * x + s') = fw (coF r T c (okP r T c o) 11 (11 - x).toNat s')) ∧ (576 - (s + 1)).toNat < (576 - s).toNat)) w e2 c0 c1 o0 o1 s0 (by omega) so.1 so.2 ?_
        · rw [gN_id (show ¬ s = 576 by omega)] at mc; exact mc
        · refine ⟨by omega, fun z3 => ⟨by omega, st u ?_, by omega⟩, fun z3 => ⟨by omega, st _ ?_, by omega⟩⟩
          · have ok : okP r T c o x s = true := okP_t.mpr (by omega)
            rcases hu with ⟨hx, rfl⟩ | ⟨hx, rfl⟩
            · rw [show (11 - x).toNat = 0 by omega, coF_0, if_pos (by rw [← hx]; exact ok)]; rfl
            · obtain ⟨k5, ek⟩ : ∃ k5 : Nat, (11 - x).toNat = k5 + 1 := ⟨(11 - x).toNat - 1, by omega⟩
              have eh : 11 - ((k5 + 1 : Nat) : Int) = x := by omega
              rw [ek, coF_s, eh, if_pos ok, show d.toNat = 5 by omega]
              have el : (11 - (x + 1)).toNat = k5 := by omega
              unfold gF; rw [el]
          · have ok : ¬ okP r T c o x s = true := fun z => by have := okP_t.mp z; omega
            have no : coF r T c (okP r T c o) 11 (11 - x).toNat s = 1000 := by
              rcases Nat.eq_zero_or_pos (11 - x).toNat with h | h
              · rw [h, coF_0, if_neg (by rw [show (11 : Int) = x by omega]; exact ok)]
              · obtain ⟨k5, ek⟩ : ∃ k5 : Nat, (11 - x).toNat = k5 + 1 := ⟨(11 - x).toNat - 1, by omega⟩
                rw [ek, coF_s, show 11 - ((k5 + 1 : Nat) : Int) = x by omega, if_neg ok]
            rw [no]; rfl
      refine ⟨by omega, fun z3 => fin (Or.inr (by omega)), fun z3 => ⟨fun z4 => fin (Or.inl (by omega)), fun z4 => ?_⟩⟩
      have hx : x < 11 := by omega
      have hu : u = fw (mnF (fun d => gF r T c (okP r T c o) 11 x s d) d.toNat) := by rcases hu with hu | hu; omega; exact hu.2
      have nr := nxF_r (r := r) (T := T) (c := c) (h := x) (d := d) (tu := 0) ⟨s0, show s ≤ 576 by omega⟩
      have gr := gN_r nr
      refine m_next w e2 kw c0 c1 (by omega) (by omega) s0 (by omega) (Or.inl rfl) d0 (by omega) ?_
      intro J4 hJ4
      have r1 := coF_r (r := r) (T := T) (c := c) (ok := okP r T c o) (till := 11) (11 - (x + 1)).toNat (nxF r T c s x d 0)
      have ge : gF r T c (okP r T c o) 11 x s d = coF r T c (okP r T c o) 11 (11 - (x + 1)).toNat (nxF r T c s x d 0) + oneF d := rfl
      have mle := mnF_m (g := fun d => gF r T c (okP r T c o) 11 x s d) d.toNat
      have mlo : 0 ≤ mnF (fun d => gF r T c (okP r T c o) 11 x s d) d.toNat := by
        rcases mnF_at (g := fun d => gF r T c (okP r T c o) 11 x s d) d.toNat with h | ⟨d', _, _, e'⟩
        · rw [h]; decide
        · rw [← e']
          have := coF_r (r := r) (T := T) (c := c) (ok := okP r T c o) (till := 11) (11 - (x + 1)).toNat (nxF r T c s x d' 0)
          have o' := oneF_r d'
          show 0 ≤ gF r T c (okP r T c o) 11 x s d'
          unfold gF; omega
      have ms : mnF (fun d => gF r T c (okP r T c o) 11 x s d) (d + 1).toNat = min (mnF (fun d => gF r T c (okP r T c o) 11 x s d) d.toNat) (gF r T c (okP r T c o) 11 x s d) := by
        rw [show (d + 1).toNat = d.toNat + 1 by omega, mnF_s, show ((d.toNat : Nat) : Int) = d by omega]
      have key2 : ∀ v : Int, v = fw (coF r T c (okP r T c o) 11 (11 - (x + 1)).toNat (nxF r T c s x d 0)) → J4 v := by
        rintro v hv
        refine hJ4 _ ?_
        intro J5 hJ5
        generalize mnF (fun d => gF r T c (okP r T c o) 11 x s d) d.toNat = M at hu mle mlo ms
        have fwM : fw M = if M = 1000 then 100000000 else M := rfl
        have ud : (M = 1000 ∧ u = 100000000) ∨ (M < 1000 ∧ u = M) := by rw [hu, fwM]; split <;> omega
        have vd : (coF r T c (okP r T c o) 11 (11 - (x + 1)).toNat (nxF r T c s x d 0) = 1000 ∧ v = 100000000) ∨ (coF r T c (okP r T c o) 11 (11 - (x + 1)).toNat (nxF r T c s x d 0) ≤ 12 ∧ v = coF r T c (okP r T c o) 11 (11 - (x + 1)).toNat (nxF r T c s x d 0)) := by rw [hv]; unfold fw; split <;> omega
        have both : ∀ t : Int, t = oneF d → J5 t := by
          intro t ht
          have o' := oneF_r d
          refine hJ5 t ⟨by omega, by omega, fun z5 => ⟨⟨by omega, by omega, Or.inr ⟨hx, ?_⟩⟩, by dsimp only; omega⟩, fun z5 => ⟨⟨by omega, by omega, Or.inr ⟨hx, ?_⟩⟩, by dsimp only; omega⟩⟩
          · rw [ms, show min M (gF r T c (okP r T c o) 11 x s d) = M by omega]; exact hu
          · rw [ms, show min M (gF r T c (okP r T c o) 11 x s d) = gF r T c (okP r T c o) 11 x s d by omega]
            unfold fw; rw [if_neg (by omega)]; omega
        exact ⟨fun z5 => both 0 (by unfold oneF; rw [if_neg (by omega)]), fun z5 => both 1 (by unfold oneF; rw [if_pos (by omega)])⟩
      refine ⟨by omega, fun z5 => ?_, fun z5 => ?_⟩
      · have hs : ¬ nxF r T c s x d 0 = 576 := fun y => z5 ((gN_no nr).mpr y)
        rw [gN_id hs]
        exact ⟨by omega, key2 _ (k2 (x + 1) (by omega) (by omega) _ nr.1 (by omega))⟩
      · have hs := (gN_no nr).mp z5
        refine key2 _ ?_
        rw [hs, coP_576]; rfl
    exact ⟨fun z3 => key _ (Or.inr ⟨by omega, rfl⟩), fun z3 => key _ (Or.inl ⟨z3, rfl⟩)⟩
theorem q_part {LW : s_LW} (hW : LWq LW) (hst : LWst LW) (a1 a2 : Int32) : Pair m_X11_part m_X12_part 0 0 (INV LW) [.int a1, .int a2] := by
  obtain ⟨c, rfl, rc⟩ := iI_of a1
  obtain ⟨o, rfl, ro⟩ := iI_of a2
  refine pair_q hW hst (fun K X Q => w_X11_part K c o X Q) (fun X Q => w_X12_part c o X Q) (by decide) (by decide) (fun hK hn hp hf w => so_X11_part hK hn hp hf w) (fun hn hp w => so_X12_part hn hp w) (fun K X T b hT e => ?_)
  have w := b.rw
  have wc := w.2.2.1
  have wc1 := wc.1
  obtain ⟨r, hr⟩ : ∃ r, X 79 = r := ⟨_, rfl⟩
  rw [hr] at b hT e w wc wc1
  have e0 : ∀ X1 : XT, ME r X1 → x_st X1 77 0 0 79 0 = r 0 := fun X1 m => by rw [x_st_c (by decide), m.1]
  have bad : ¬ (0 ≤ c ∧ c < r 0) ∨ ¬ (0 ≤ o ∧ o < r 0) ∨ c = o → w_X12_part c o X (fun v2 X2 => v2 = -1 ∧ Gx kpL X X2) := fun hb => by
    have B : ((-1 : Int) = -1 ∧ Gx kpL X (x_st X 77 0 0)) := ⟨rfl, Gx_of Fx.rf Gx_th⟩
    unfold w_X12_part
    rw [e0 X e]
    exact ⟨rc, wc1, fun _ => B, fun z1 => ⟨ro, fun _ => B, fun z2 => ⟨fun z => absurd hb (by omega), fun _ => B⟩⟩⟩
  unfold w_X11_part
  rw [b.nc]
  refine ⟨rc, by omega, fun z => bad (Or.inl z), fun z1 => ⟨ro, fun z => bad (Or.inr (Or.inl z)), fun z2 => ⟨fun z3 => ?_, fun z => bad (Or.inr (Or.inr z))⟩⟩⟩
  have bg := bgF_r wc z1.1 z1.2
  have cr := coF_r (r := r) (T := T) (c := c) (ok := okP r T c o) (till := 11) (11 : Int).toNat (bgF r c)
  have mm : ∀ (X1 : XT) (V : Int), Fx scC X X1 → V = (if coF r T c (okP r T c o) 11 (11 : Int).toNat (bgF r c) < 1000 then coF r T c (okP r T c o) 11 (11 : Int).toNat (bgF r c) else -1) → w_X12_part c o X1 (fun v2 X2 => v2 = V ∧ Gx kpL X X2) := by
    intro X1 V f1 v0
    have e1 : ME r X1 := e.fx f1
    unfold w_X12_part
    rw [e0 X1 e1]
    refine ⟨rc, wc1, fun z => absurd (by omega) z, fun _ => ⟨ro, fun z => absurd (by omega) z, fun _ => ⟨fun _ => ?_, fun z => absurd z z3⟩⟩⟩
    refine m_lay0 w hT b.2.2.2 e1 (fun X2 e2 g2 l2 => ?_)
    refine m_works w hT b.2.2.2 e2 z1.1 z1.2 (fun X3 g3 k3 => ?_)
    have e3 : ME r X3 := e2.go g3 rfl
    have l3 : LAID r T X3 := fun c' a0 a1 h hh => by rw [g3.1 94 rfl (by decide)]; exact l2 c' a0 a1 h hh
    refine m_findPart w e3.1 k3 l3 z1.1 z1.2 z2.1 z2.2 (fun X4 f4 k4 => ?_)
    have g4 : Gx scM X1 X4 := (g2.trans (g3.sub (by decide))).trans ⟨fun d hd k => f4 d (el_sub (l2 := scM) (by decide) hd), fun _ _ => by rw [f4 77 rfl]⟩
    refine m_begins w (by rw [f4 79 rfl]; exact e3.1) z1.1 z1.2 ?_
    have fv := k4 0 (by decide) (by decide) (bgF r c) bg.1 (by omega)
    rw [show 576 * 0 + bgF r c = bgF r c by omega, show (11 : Int) - 0 = 11 from rfl] at fv
    rw [fv]
    unfold fw
    by_cases hc : coF r T c (okP r T c o) 11 (11 : Int).toNat (bgF r c) = 1000
    · rw [if_pos hc]
      rw [if_neg (by omega)] at v0
      exact ⟨by omega, by decide, fun z => absurd z (by decide), fun _ => ⟨v0.symm, Gx_of f1 g4⟩⟩
    · rw [if_neg hc]
      rw [if_pos (by omega)] at v0
      exact ⟨by omega, by omega, fun _ => ⟨v0.symm, Gx_of f1 g4⟩, fun z => absurd (by omega) z⟩
  refine e_look0 b (fun X1 f1 _ l1 => ?_)
  refine e_start b f1 z1.1 z1.2 (e_take b f1 z1.1 z1.2 (fun X2 f2 p2 => ?_))
  have f2b : Fx scC X X2 := f1.trans (f2.sub (by decide))
  refine e_spread b f2b z1.1 z1.2 p2 (by decide) (by decide) (by decide) bg.1 (by omega) (Or.inl rfl) (Or.inl rfl) (fun X3 f3 sp3 => ?_)
  have f3b : Fx scC X X3 := f2b.trans (f3.sub (by decide))
  obtain ⟨mk3, p3, st3, _, cl3⟩ := sp3
  have l3 : LOOK r T 51 X3 := fun c' a0 a1 h hh => by rw [f3 51 rfl, f2 51 rfl]; exact l1 c' a0 a1 h hh
  refine ⟨fun x X4 => 0 ≤ x ∧ x ≤ 12 ∧ Fx [59] X3 X4 ∧ ∀ h s : Int, 0 ≤ h → h ≤ 11 → 0 ≤ s → s ≤ 576 → X4 59 (h * 577 + s) = if h < x ∧ ¬ okP r T c o h s = true then 0 else X3 59 (h * 577 + s), fun x _ => (12 - x).toNat, ⟨by decide, by decide, Fx.rf, fun h s _ _ _ _ => (if_neg (fun z => by have := z.1; omega)).symm⟩, ?_⟩
  rintro x X4 ⟨x0, x1, f4, k4⟩
  refine ⟨by omega, fun y => ?_, fun y => ?_⟩
  · have ex : x = 12 := by omega
    subst ex
    have f4b : Fx scC X X4 := f3b.trans (f4.sub (by decide))
    have mk4 : MKS r T c X4 := fun h s a b c d => by
      rw [k4 h s a b c d]
      split
      · exact Or.inl rfl
      · exact mk3 h s a b c d
    have hr4 : ∀ h s : Int, 0 ≤ h → h ≤ 11 → 0 ≤ s → s ≤ 576 → ¬ X3 59 (h * 577 + s) = 0 → (¬ X4 59 (h * 577 + s) = 0 ↔ okP r T c o h s = true) := fun h s a b c' d hm => by
      rw [k4 h s a (by omega) c' d]
      by_cases hq : h < 12 ∧ ¬ okP r T c o h s = true
      · rw [if_pos hq]
        exact ⟨fun z => absurd rfl z, fun z => absurd z hq.2⟩
      · rw [if_neg hq]
        refine ⟨fun _ => ?_, fun _ => hm⟩
        by_cases hs : okP r T c o h s = true
        · exact hs
        · exact absurd ⟨by omega, hs⟩ hq
    have hn4 : ∀ h s : Int, 0 ≤ h → h < 11 → 0 ≤ s → s ≤ 576 → ¬ X4 59 (h * 577 + s) = 0 → ¬ X3 59 (h * 577 + s) = 0 := fun h s a b c' d hm hz => by
      rw [k4 h s a (by omega) c' d] at hm
      split at hm
      · exact hm rfl
      · exact hm hz
    have hc4 : ∀ h s d : Int, 0 ≤ h → h < 11 → 0 ≤ s → s ≤ 576 → ¬ X3 59 (h * 577 + s) = 0 → 0 ≤ d → d ≤ 4 → ¬ X3 59 ((h + 1) * 577 + nxF r T c s h d 0) = 0 := fun h s d a b c' d' hm d0 d1 => by
      have := cl3 h s a b c' d' hm d 4 0 ⟨d0, d1, Or.inl ⟨rfl, rfl⟩, Or.inl rfl⟩
      rw [nyF_4] at this; exact this
    refine e_costs (RS := fun h s => ¬ X3 59 (h * 577 + s) = 0) (ok := okP r T c o) w (p3.fx f4 rfl) z1.1 z1.2 mk4 (by decide) (by decide) hr4 hn4 hc4 (fun X5 f5 k5 => ?_)
    have f5b : Fx scC X X5 := f4b.trans (f5.sub (by decide))
    refine e_costOf (by decide) (by decide) bg.1 (by omega) ?_
    have v0 := k5 0 (bgF r c) (by decide) (by decide) bg.1 (by omega) st3
    rw [show (11 : Int) - 0 = 11 from rfl] at v0
    rw [v0]
    exact ⟨by omega, fun hc => mm X5 _ f5b (by rw [if_pos hc]), fun hc => mm X5 _ f5b (by rw [if_neg hc])⟩
  · have l4 : LOOK r T 51 X4 := fun c' a0 a1 h hh => by rw [f4 51 rfl]; exact l3 c' a0 a1 h hh
    have so := spF_r (T := T) wc z2.1 z2.2 x.toNat
    refine e_spot b l4 z2.1 z2.2 x0 (by omega) ?_
    refine ⟨fun s X5 => 0 ≤ s ∧ s ≤ 577 ∧ Fx [59] X3 X5 ∧ ∀ h s' : Int, 0 ≤ h → h ≤ 11 → 0 ≤ s' → s' ≤ 576 → X5 59 (h * 577 + s') = if (h < x ∨ (h = x ∧ s' < s)) ∧ ¬ okP r T c o h s' = true then 0 else X3 59 (h * 577 + s'), fun s _ => (577 - s).toNat, ⟨by decide, by decide, f4, fun h s' a b c' d => ?_⟩, ?_⟩
    · rw [k4 h s' a b c' d]
      by_cases hq : h < x ∧ ¬ okP r T c o h s' = true
      · rw [if_pos hq, if_pos ⟨Or.inl hq.1, hq.2⟩]
      · rw [if_neg hq, if_neg]
        rintro ⟨a2, a3⟩
        exact hq ⟨by omega, a3⟩
    rintro s X5 ⟨s0, s1, f5, k5⟩
    have f5b : Fx scC X X5 := f3b.trans (f5.sub (by decide))
    refine ⟨by omega, fun y2 => ⟨⟨by omega, by omega, f5, fun h s' a b c' d => ?_⟩, by dsimp only; omega⟩, fun y2 => ?_⟩
    · rw [k5 h s' a b c' d]
      by_cases hq : h < x + 1 ∧ ¬ okP r T c o h s' = true
      · rw [if_pos hq, if_pos ⟨by omega, hq.2⟩]
      · rw [if_neg hq, if_neg]
        rintro ⟨a2, a3⟩
        exact hq ⟨by omega, a3⟩
    · have cr2 := cmF_r (r := r) (c := c) (s := s) (c2 := o) (s2 := spF r T o x.toNat)
      refine e_common b f5b z1.1 z1.2 z2.1 z2.2 s0 (by omega) so.1 so.2 ⟨by omega, fun hs => ⟨⟨by omega, by omega, f5, fun h s' a b c' d => ?_⟩, by dsimp only; omega⟩, fun hs => ⟨by omega, fun z => absurd z (by omega), fun _ => ⟨fun z => absurd z (by omega), fun _ => ⟨by omega, ⟨by omega, by omega, f5.st rfl, fun h s' a b c' d => ?_⟩, by dsimp only; omega⟩⟩⟩⟩
      · rw [k5 h s' a b c' d]
        by_cases hq : h = x ∧ s' = s
        · obtain ⟨rfl, rfl⟩ := hq
          have ok : okP r T c o h s' = true := okP_t.mpr (by omega)
          rw [if_neg (fun z => z.2 ok), if_neg (fun z => z.2 ok)]
        · by_cases hq2 : (h < x ∨ h = x ∧ s' < s) ∧ ¬ okP r T c o h s' = true
          · rw [if_pos hq2, if_pos ⟨by omega, hq2.2⟩]
          · rw [if_neg hq2, if_neg]
            rintro ⟨a2, a3⟩
            exact hq2 ⟨by omega, a3⟩
      · by_cases hq : h * 577 + s' = x * 577 + s
        · obtain ⟨rfl, rfl⟩ : h = x ∧ s' = s := by omega
          have ok : ¬ okP r T c o h s' = true := fun z => by have := okP_t.mp z; omega
          rw [x_st_at, if_pos ⟨by omega, ok⟩]
        · rw [x_st_ne hq, k5 h s' a b c' d]
          by_cases hq2 : (h < x ∨ h = x ∧ s' < s) ∧ ¬ okP r T c o h s' = true
          · rw [if_pos hq2, if_pos ⟨by omega, hq2.2⟩]
          · rw [if_neg hq2, if_neg]
            rintro ⟨a2, a3⟩
            exact hq2 ⟨by omega, a3⟩

/-! THE PAIRS image, back -/
/-- what more the laws' texts rest on, for copies: the first six of the laws' cells; they are scripts or none -/
def LWcp (LW : s_LW) : Prop := (∀ n h lt lt' o r, LW n h lt o r → (∀ j : Int, 0 ≤ j → j < 6 → lt' j = lt j) → LW n h lt' o r) ∧ ∀ n h lt o r, LW n h lt o r → ∀ j : Int, 0 ≤ j → j < 6 → lt j < 0 ∨ ((115 ≤ (lt j).toNat ∧ (lt j).toNat < n) ∧ ∃ vs : List Value, h (lt j).toNat = .inr (7, vs))
def LWm (X X2 : XT) : Prop := ∀ L : (Int → Int) → (Int → Int) → (Int → Int) → Prop, (∀ lt lt' o o' r r', L lt o r → (∀ j : Int, 0 ≤ j → j < 6 → lt' j = lt j) → o' 13 = o 13 → (∀ j : Int, 380 ≤ j → j < 5780 → r' j = r j) → L lt' o' r') → L (X 10) (X 1) (X 79) → (X 32 0 = 1 → L (X 21) (X 12) (X 80)) → (X 32 1 = 1 → L (X 31) (X 22) (fun j => X 80 (5780 + j))) → L (X2 10) (X2 1) (X2 79) ∧ (X2 32 0 = 1 → L (X2 21) (X2 12) (X2 80)) ∧ (X2 32 1 = 1 → L (X2 31) (X2 22) (fun j => X2 80 (5780 + j)))
theorem pair_i {LW : s_LW} (hst : LWst LW) (hcp : LWcp LW) {mx mm : s_M} {dx dm : Nat} {as : List Value} (wx : (Int → Prop) → XT → (Int → XT → Prop) → Prop) (wm : XT → (Int → XT → Prop) → Prop) (hdx : dx + 1 ≤ 2048) (hdm : dm + 1 ≤ 2048)
    (sx : ∀ {n : Nat} {h hk : Nat → sE} {X : XT} {KQ : Int → Prop} {Q : Int → XT → Prop}, KQok KQ n hk → 115 ≤ n → Pic X h → Fr hk h → wx KQ X Q → Sp mx dx 0 0 (.ref 0 :: as) n h (pIw n h Q))
    (sm : ∀ {n : Nat} {h : Nat → sE} {X : XT} {Q : Int → XT → Prop}, 115 ≤ n → Pic X h → wm X Q → Sp mm dm 0 0 (.ref 77 :: as) n h (pIw n h Q))
    (main : ∀ (KQ : Int → Prop) (X : XT), RR X → (∀ j : Int, 0 ≤ j → j < 6 → KQ (X 10 j)) → (X 32 0 = 1 → ∀ j : Int, 0 ≤ j → j < 6 → KQ (X 21 j)) → (X 32 1 = 1 → ∀ j : Int, 0 ≤ j → j < 6 → KQ (X 31 j)) → wx KQ X (fun v X1 => wm X1 (fun v2 X2 => v2 = v ∧ RR X2 ∧ LWm X X2))) : Pair mx mm 0 0 (INV LW) as := by
  rintro n h ⟨X, hp, hn, hR, l0, l1, l2⟩
  refine ⟨dx, dm, hdx, hdm, (sx (KQ := fun z => z < 0 ∨ ((115 ≤ z.toNat ∧ z.toNat < n) ∧ ∃ vs : List Value, h z.toNat = .inr (7, vs))) (hk := h) (fun z hz => hz) hn hp (fun _ _ => rfl) (main _ X hR (hcp.2 _ _ _ _ _ l0) (fun q => hcp.2 _ _ _ _ _ (l1 q)) (fun q => hcp.2 _ _ _ _ _ (l2 q)))).mono ?_⟩
  rintro r n1 h1 ⟨rfl, f1, v, X1, rfl, p1, w1⟩
  refine ⟨iI v, rfl, ⟨hn, _, (p1 77 (by decide)).trans (ent_77 _)⟩, (sm hn p1 w1).mono ?_⟩
  rintro r n2 h2 ⟨rfl, f2, v2, X2, rfl, p2, rfl, hR2, mv⟩
  have g := mv (LW n h2) (fun lt lt' o o' r r' hl e1 e2 e3 => hst n h2 h2 lt' o o' r r' (hcp.1 n h2 lt lt' o r hl e1) (fun _ _ => rfl) e2 e3) (hst n h h2 _ _ _ _ _ l0 (Fr.trans f1 f2) rfl (fun _ _ _ => rfl)) (fun q => hst n h h2 _ _ _ _ _ (l1 q) (Fr.trans f1 f2) rfl (fun _ _ _ => rfl)) (fun q => hst n h h2 _ _ _ _ _ (l2 q) (Fr.trans f1 f2) rfl (fun _ _ _ => rfl))
  exact ⟨rfl, rfl, X2, p2, hn, hR2, g⟩
theorem LWm_of {X X2 : XT} (c : ∀ d, d = 10 ∨ d = 1 ∨ d = 79 ∨ d = 32 ∨ d = 21 ∨ d = 12 ∨ d = 80 ∨ d = 31 ∨ d = 22 → X2 d = X d) : LWm X X2 := by
  intro L _ l0 l1 l2
  rw [c 10 (by decide), c 1 (by decide), c 79 (by decide), c 32 (by decide), c 21 (by decide), c 12 (by decide), c 80 (by decide), c 31 (by decide), c 22 (by decide)]
  exact ⟨l0, l1, l2⟩
theorem RR_refuse {X Y : XT} {z s : Int} (hR : RR X) (h : (z = -1 ∧ s = 0) ∨ (z = -2 ∧ s = 1)) (hY : x_st (x_st (x_st (x_st (x_st X 0 13 z) 76 s (X 76 s + 1)) 77 0 0) 77 1 z) 78 (-z) ((x_st (x_st (x_st X 0 13 z) 76 s (X 76 s + 1)) 77 0 0) 78 (-z) + 1) = Y) : RR Y ∧ ∀ d, ¬ d = 0 → ¬ d = 76 → ¬ d = 77 → ¬ d = 78 → Y d = X d := by
  have yc : ∀ d, ¬ d = 0 → ¬ d = 76 → ¬ d = 77 → ¬ d = 78 → Y d = X d := fun d d2 d3 d4 d5 => by
    rw [← hY, x_st_c d5, x_st_c d4, x_st_c d4, x_st_c d3, x_st_c d2]
  have y77 : ∀ f : Int, Y 77 f = if f = 1 then z else if f = 0 then 0 else X 77 f := fun f => by
    rw [← hY, x_st_c (by decide), x_st_s]; unfold uI; rw [x_st_s]; unfold uI; rw [x_st_c (by decide), x_st_c (by decide)]
  have y0 : ∀ f : Int, Y 0 f = if f = 13 then z else X 0 f := fun f => by
    rw [← hY, x_st_c (by decide), x_st_c (by decide), x_st_c (by decide), x_st_c (by decide), x_st_s]; rfl
  have y76 : ∀ f : Int, Y 76 f = if f = s then X 76 s + 1 else X 76 f := fun f => by
    rw [← hY, x_st_c (by decide), x_st_c (by decide), x_st_c (by decide), x_st_s]; unfold uI; rw [x_st_c (by decide)]
  have y78 : ∀ f : Int, Y 78 f = if f = -z then X 78 (-z) + 1 else X 78 f := fun f => by
    rw [← hY, x_st_s, x_st_c (by decide), x_st_c (by decide), x_st_c (by decide), x_st_c (by decide)]; rfl
  refine ⟨RR_tell hR z (fun d dk d0 d76 d77 d78 => yc d d0 d76 d77 d78) ?_ ?_ ?_ ?_ ?_ ?_ ?_ ?_ ?_, yc⟩
  · rw [y0]; rfl
  · rw [y77]; rfl
  · rw [y0, y77]; exact hR.2.1.2.1
  · rw [y0, y77]; exact hR.2.1.2.2
  · rw [y77]; rfl
  · rw [y77]; rfl
  · rw [y77]; rfl
  · rw [y77]; rfl
  · unfold R_ref
    rw [y76, y76, y76, y76, y76, y78, y78, y78, y78, y78]
    obtain ⟨z0, z1, z2, z3, z4⟩ := hR.2.2.2.1
    rcases h with ⟨rfl, rfl⟩ | ⟨rfl, rfl⟩
    · exact ⟨congrArg (· + 1) z0, z1, z2, z3, z4⟩
    · exact ⟨z0, congrArg (· + 1) z1, z2, z3, z4⟩
theorem RR_of {X X2 : XT} (hR : RR X) (p : Pln (X2 1) (X2 2) (X2 3) (X2 4) (X2 5) (X2 6) (X2 7) (X2 8) (X2 9) (X2 79)) (i0 : X2 32 0 = 1 → Pln (X2 12) (X2 13) (X2 14) (X2 15) (X2 16) (X2 17) (X2 18) (X2 19) (X2 20) (X2 80)) (i1 : X2 32 1 = 1 → Pln (X2 22) (X2 23) (X2 24) (X2 25) (X2 26) (X2 27) (X2 28) (X2 29) (X2 30) (fun j => X2 80 (5780 + j))) (s1 : X2 0 13 = X2 77 1) (s2 : X2 0 14 = X 0 14) (s3 : X2 0 15 = X 0 15) (m : ∀ f : Int, ¬ f = 0 → ¬ f = 1 → X2 77 f = X 77 f) (kp : R_kpt (X2 32) (X2 81)) (c : ∀ d, d = 11 ∨ d = 33 ∨ d = 34 ∨ d = 82 ∨ d = 76 ∨ d = 78 ∨ d = 52 ∨ d = 54 ∨ d = 114 ∨ d = 88 ∨ d = 89 ∨ d = 90 → X2 d = X d) : RR X2 := by
  obtain ⟨_, s, t, rf, sm, _, _, _, cs⟩ := hR
  refine ⟨p, ⟨s1, by rw [s2, m 6 (by decide) (by decide)]; exact s.2.1, by rw [s3, m 59 (by decide) (by decide)]; exact s.2.2⟩, ?_, ?_, ?_, kp, i0, i1, ?_⟩
  · rw [c 33 (by decide), c 34 (by decide), c 82 (by decide)]
    exact t.cg (m 13 (by decide) (by decide)) (m 8 (by decide) (by decide))
  · rw [c 76 (by decide), c 78 (by decide)]; exact rf
  · rw [c 52 (by decide), c 54 (by decide), c 114 (by decide)]
    exact sm.cg (m 63 (by decide) (by decide))
  · rw [c 11 (by decide), c 88 (by decide), c 89 (by decide), c 90 (by decide)]
    exact cs.cg (m 15 (by decide) (by decide))
theorem q_image {LW : s_LW} (hst : LWst LW) (hcp : LWcp LW) (a1 : Int32) : Pair m_X11_image m_X12_image 0 0 (INV LW) [.int a1] := by
  obtain ⟨a, rfl, ra⟩ := iI_of a1
  refine pair_i hst hcp (fun KQ X Q => w_X11_image KQ a X Q) (fun X Q => w_X12_image a X Q) (by decide) (by decide) (fun hK hn hp hf w => so_X11_image hK hn hp hf w) (fun hn hp w => so_X12_image hn hp w) (fun KQ X hR kq0 kq1 kq2 => ?_)
  have hR0 := hR
  obtain ⟨p, s, t, rf, sm, kp, i0, i1, cs⟩ := hR
  have x11 : X 11 0 = 12 ∧ X 11 1 = 22 := by rw [cs.1]; exact ⟨rfl, rfl⟩
  refine ⟨ra, fun c1 => ⟨by omega, fun k0 => ⟨by rw [k0]; exact x11.1, ?_⟩, fun k0 => ⟨by rw [show a = 1 by omega]; exact x11.2, ?_⟩⟩, fun c1 => e_refuse (s := 0) (by omega) ?_⟩
  · subst k0
    refine e_copy 12 1 (by decide) kq0 (fun X1 o1 d1 => ?_)
    obtain ⟨d1, d2, d3, d4, d5, d6, d7, d8, d9, d0⟩ := d1
    show w_X12_image 0 (x_st (x_st X1 32 0 1) 0 13 0) _
    have oc : ∀ c : Nat, ¬ c = 32 → ¬ c = 0 → (x_st (x_st X1 32 0 1) 0 13 0) c = X1 c := fun c h1 h2 => by rw [x_st_c h2, x_st_c h1]
    have n32 : ∀ f : Int, (x_st (x_st X1 32 0 1) 0 13 0) 32 f = if f = 0 then 1 else X 32 f := fun f => by
      rw [x_st_c (by decide), x_st_s, o1 32 (by decide)]; rfl
    have n0 : ∀ f : Int, (x_st (x_st X1 32 0 1) 0 13 0) 0 f = if f = 13 then 0 else X 0 f := fun f => by
      rw [x_st_s, x_st_c (by decide), o1 0 (by decide)]; rfl
    refine m_image (by decide) (by decide) (fun X2 y1 y2 y3 y4 y5 y6 y7 => ?_)
    have z1 : ∀ c : Nat, ¬ c = 77 → ¬ c = 80 → ¬ c = 81 → ¬ c = 32 → ¬ c = 0 → X2 c = X1 c := fun c h1 h2 h3 h4 h5 => (y1 c h1 h2 h3).trans (oc c h4 h5)
    have z2 : ∀ c : Nat, ¬ c = 77 → ¬ c = 80 → ¬ c = 81 → ¬ c = 32 → ¬ c = 0 → (c < 12 ∨ 21 < c) → X2 c = X c := fun c h1 h2 h3 h4 h5 h6 => (z1 c h1 h2 h3 h4 h5).trans (o1 c h6)
    have e80 : ∀ j : Int, 0 ≤ j → j < 5780 → X2 80 j = X 79 j := fun j j0 j1 => by
      have := y4 j j0 j1
      rw [show 5780 * (0 : Int) + j = j by omega, oc 79 (by decide) (by decide), o1 79 (by decide)] at this
      exact this
    have f80 : ∀ j : Int, 5780 ≤ j → X2 80 j = X 80 j := fun j j0 => by
      rw [y5 j (by omega), oc 80 (by decide) (by decide), o1 80 (by decide)]
    have e32 : X2 32 = (x_st (x_st X1 32 0 1) 0 13 0) 32 := y1 32 (by decide) (by decide) (by decide)
    refine ⟨rfl, RR_of hR0 ?_ (fun _ => ?_) (fun q => ?_) ?_ ?_ ?_ (fun f f0 f1 => ?_) (fun k k0 k1 => ?_) (fun d hd => z2 d (by omega) (by omega) (by omega) (by omega) (by omega) (by omega)), ?_⟩
    · rw [z2 1 (by decide) (by decide) (by decide) (by decide) (by decide) (by decide), z2 2 (by decide) (by decide) (by decide) (by decide) (by decide) (by decide), z2 3 (by decide) (by decide) (by decide) (by decide) (by decide) (by decide), z2 4 (by decide) (by decide) (by decide) (by decide) (by decide) (by decide), z2 5 (by decide) (by decide) (by decide) (by decide) (by decide) (by decide), z2 6 (by decide) (by decide) (by decide) (by decide) (by decide) (by decide), z2 7 (by decide) (by decide) (by decide) (by decide) (by decide) (by decide), z2 8 (by decide) (by decide) (by decide) (by decide) (by decide) (by decide), z2 9 (by decide) (by decide) (by decide) (by decide) (by decide) (by decide), z2 79 (by decide) (by decide) (by decide) (by decide) (by decide) (by decide)]
      exact p
    · have w : ∀ c : Nat, 12 ≤ c → c ≤ 21 → X2 c = X1 c := fun c h1 h2 => z1 c (by omega) (by omega) (by omega) (by omega) (by omega)
      rw [w 12 (by decide) (by decide), w 13 (by decide) (by decide), w 14 (by decide) (by decide), w 15 (by decide) (by decide), w 16 (by decide) (by decide), w 17 (by decide) (by decide), w 18 (by decide) (by decide), w 19 (by decide) (by decide), w 20 (by decide) (by decide)]
      exact p.cp d0 d1 d2 d3 d4 d5 d6 d7 d8 e80
    · rw [e32, n32] at q
      rw [z2 22 (by decide) (by decide) (by decide) (by decide) (by decide) (by decide), z2 23 (by decide) (by decide) (by decide) (by decide) (by decide) (by decide), z2 24 (by decide) (by decide) (by decide) (by decide) (by decide) (by decide), z2 25 (by decide) (by decide) (by decide) (by decide) (by decide) (by decide), z2 26 (by decide) (by decide) (by decide) (by decide) (by decide) (by decide), z2 27 (by decide) (by decide) (by decide) (by decide) (by decide) (by decide), z2 28 (by decide) (by decide) (by decide) (by decide) (by decide) (by decide), z2 29 (by decide) (by decide) (by decide) (by decide) (by decide) (by decide), z2 30 (by decide) (by decide) (by decide) (by decide) (by decide) (by decide)]
      exact (i1 q).cp (fun _ _ _ => rfl) (fun _ _ _ => rfl) (fun _ _ _ => rfl) (fun _ _ _ => rfl) (fun _ _ _ => rfl) (fun _ _ _ => rfl) (fun _ _ _ => rfl) (fun _ _ _ => rfl) (fun _ _ _ => rfl) (fun j j0 _ => f80 _ (by omega))
    · rw [y1 0 (by decide) (by decide) (by decide), n0, y3]; rfl
    · rw [y1 0 (by decide) (by decide) (by decide), n0]; rfl
    · rw [y1 0 (by decide) (by decide) (by decide), n0]; rfl
    · rw [y2 f f0 f1, oc 77 (by decide) (by decide), o1 77 (by decide)]
    · rw [e32, n32]
      by_cases h : k = 0
      · rw [if_pos h, h, y6]; decide
      · rw [if_neg h, y7 k h, oc 81 (by decide) (by decide), o1 81 (by decide)]; exact kp k k0 k1
    · intro L cg l0 l1 l2
      have w : ∀ c : Nat, 12 ≤ c → c ≤ 21 → X2 c = X1 c := fun c h1 h2 => z1 c (by omega) (by omega) (by omega) (by omega) (by omega)
      refine ⟨?_, fun _ => ?_, fun q => ?_⟩
      · rw [z2 10 (by decide) (by decide) (by decide) (by decide) (by decide) (by decide), z2 1 (by decide) (by decide) (by decide) (by decide) (by decide) (by decide), z2 79 (by decide) (by decide) (by decide) (by decide) (by decide) (by decide)]; exact l0
      · rw [w 21 (by decide) (by decide), w 12 (by decide) (by decide)]
        exact cg _ _ _ _ _ _ l0 d9 (d0 13 (by decide) (by decide)) (fun j j0 j1 => e80 j (by omega) j1)
      · rw [e32, n32] at q
        rw [z2 31 (by decide) (by decide) (by decide) (by decide) (by decide) (by decide), z2 22 (by decide) (by decide) (by decide) (by decide) (by decide) (by decide)]
        exact cg _ _ _ _ _ _ (l2 q) (fun _ _ _ => rfl) rfl (fun j j0 j1 => f80 _ (by omega))
  · have ha : a = 1 := by omega
    subst ha
    refine e_copy 22 1 (by decide) kq0 (fun X1 o1 d1 => ?_)
    obtain ⟨d1, d2, d3, d4, d5, d6, d7, d8, d9, d0⟩ := d1
    show w_X12_image 1 (x_st (x_st X1 32 1 1) 0 13 0) _
    have oc : ∀ c : Nat, ¬ c = 32 → ¬ c = 0 → (x_st (x_st X1 32 1 1) 0 13 0) c = X1 c := fun c h1 h2 => by rw [x_st_c h2, x_st_c h1]
    have n32 : ∀ f : Int, (x_st (x_st X1 32 1 1) 0 13 0) 32 f = if f = 1 then 1 else X 32 f := fun f => by
      rw [x_st_c (by decide), x_st_s, o1 32 (by decide)]; rfl
    have n0 : ∀ f : Int, (x_st (x_st X1 32 1 1) 0 13 0) 0 f = if f = 13 then 0 else X 0 f := fun f => by
      rw [x_st_s, x_st_c (by decide), o1 0 (by decide)]; rfl
    refine m_image (by decide) (by decide) (fun X2 y1 y2 y3 y4 y5 y6 y7 => ?_)
    have z1 : ∀ c : Nat, ¬ c = 77 → ¬ c = 80 → ¬ c = 81 → ¬ c = 32 → ¬ c = 0 → X2 c = X1 c := fun c h1 h2 h3 h4 h5 => (y1 c h1 h2 h3).trans (oc c h4 h5)
    have z2 : ∀ c : Nat, ¬ c = 77 → ¬ c = 80 → ¬ c = 81 → ¬ c = 32 → ¬ c = 0 → (c < 22 ∨ 31 < c) → X2 c = X c := fun c h1 h2 h3 h4 h5 h6 => (z1 c h1 h2 h3 h4 h5).trans (o1 c h6)
    have e80 : ∀ j : Int, 0 ≤ j → j < 5780 → X2 80 (5780 + j) = X 79 j := fun j j0 j1 => by
      have := y4 j j0 j1
      rw [show 5780 * (1 : Int) + j = 5780 + j by omega, oc 79 (by decide) (by decide), o1 79 (by decide)] at this
      exact this
    have f80 : ∀ j : Int, j < 5780 → X2 80 j = X 80 j := fun j j0 => by
      rw [y5 j (by omega), oc 80 (by decide) (by decide), o1 80 (by decide)]
    have e32 : X2 32 = (x_st (x_st X1 32 1 1) 0 13 0) 32 := y1 32 (by decide) (by decide) (by decide)
    refine ⟨rfl, RR_of hR0 ?_ (fun q => ?_) (fun _ => ?_) ?_ ?_ ?_ (fun f f0 f1 => ?_) (fun k k0 k1 => ?_) (fun d hd => z2 d (by omega) (by omega) (by omega) (by omega) (by omega) (by omega)), ?_⟩
    · rw [z2 1 (by decide) (by decide) (by decide) (by decide) (by decide) (by decide), z2 2 (by decide) (by decide) (by decide) (by decide) (by decide) (by decide), z2 3 (by decide) (by decide) (by decide) (by decide) (by decide) (by decide), z2 4 (by decide) (by decide) (by decide) (by decide) (by decide) (by decide), z2 5 (by decide) (by decide) (by decide) (by decide) (by decide) (by decide), z2 6 (by decide) (by decide) (by decide) (by decide) (by decide) (by decide), z2 7 (by decide) (by decide) (by decide) (by decide) (by decide) (by decide), z2 8 (by decide) (by decide) (by decide) (by decide) (by decide) (by decide), z2 9 (by decide) (by decide) (by decide) (by decide) (by decide) (by decide), z2 79 (by decide) (by decide) (by decide) (by decide) (by decide) (by decide)]
      exact p
    · rw [e32, n32] at q
      rw [z2 12 (by decide) (by decide) (by decide) (by decide) (by decide) (by decide), z2 13 (by decide) (by decide) (by decide) (by decide) (by decide) (by decide), z2 14 (by decide) (by decide) (by decide) (by decide) (by decide) (by decide), z2 15 (by decide) (by decide) (by decide) (by decide) (by decide) (by decide), z2 16 (by decide) (by decide) (by decide) (by decide) (by decide) (by decide), z2 17 (by decide) (by decide) (by decide) (by decide) (by decide) (by decide), z2 18 (by decide) (by decide) (by decide) (by decide) (by decide) (by decide), z2 19 (by decide) (by decide) (by decide) (by decide) (by decide) (by decide), z2 20 (by decide) (by decide) (by decide) (by decide) (by decide) (by decide)]
      exact (i0 q).cp (fun _ _ _ => rfl) (fun _ _ _ => rfl) (fun _ _ _ => rfl) (fun _ _ _ => rfl) (fun _ _ _ => rfl) (fun _ _ _ => rfl) (fun _ _ _ => rfl) (fun _ _ _ => rfl) (fun _ _ _ => rfl) (fun j _ j1 => f80 _ (by omega))
    · have w : ∀ c : Nat, 22 ≤ c → c ≤ 31 → X2 c = X1 c := fun c h1 h2 => z1 c (by omega) (by omega) (by omega) (by omega) (by omega)
      rw [w 22 (by decide) (by decide), w 23 (by decide) (by decide), w 24 (by decide) (by decide), w 25 (by decide) (by decide), w 26 (by decide) (by decide), w 27 (by decide) (by decide), w 28 (by decide) (by decide), w 29 (by decide) (by decide), w 30 (by decide) (by decide)]
      exact p.cp d0 d1 d2 d3 d4 d5 d6 d7 d8 e80
    · rw [y1 0 (by decide) (by decide) (by decide), n0, y3]; rfl
    · rw [y1 0 (by decide) (by decide) (by decide), n0]; rfl
    · rw [y1 0 (by decide) (by decide) (by decide), n0]; rfl
    · rw [y2 f f0 f1, oc 77 (by decide) (by decide), o1 77 (by decide)]
    · rw [e32, n32]
      by_cases h : k = 1
      · rw [if_pos h, h, y6]; decide
      · rw [if_neg h, y7 k h, oc 81 (by decide) (by decide), o1 81 (by decide)]; exact kp k k0 k1
    · intro L cg l0 l1 l2
      have w : ∀ c : Nat, 22 ≤ c → c ≤ 31 → X2 c = X1 c := fun c h1 h2 => z1 c (by omega) (by omega) (by omega) (by omega) (by omega)
      refine ⟨?_, fun q => ?_, fun _ => ?_⟩
      · rw [z2 10 (by decide) (by decide) (by decide) (by decide) (by decide) (by decide), z2 1 (by decide) (by decide) (by decide) (by decide) (by decide) (by decide), z2 79 (by decide) (by decide) (by decide) (by decide) (by decide) (by decide)]; exact l0
      · rw [e32, n32] at q
        rw [z2 21 (by decide) (by decide) (by decide) (by decide) (by decide) (by decide), z2 12 (by decide) (by decide) (by decide) (by decide) (by decide) (by decide)]
        exact cg _ _ _ _ _ _ (l1 q) (fun _ _ _ => rfl) rfl (fun j j0 j1 => f80 _ (by omega))
      · rw [w 31 (by decide) (by decide), w 22 (by decide) (by decide)]
        exact cg _ _ _ _ _ _ l0 d9 (d0 13 (by decide) (by decide)) (fun j j0 j1 => e80 j (by omega) j1)
  · refine ⟨ra, fun k => absurd k c1, fun _ => m_tellN (by decide) (by decide) ?_⟩
    have g := RR_refuse (z := -1) (s := 0) hR0 (by omega) rfl
    exact ⟨rfl, g.1, LWm_of (fun d hd => g.2 d (by omega) (by omega) (by omega) (by omega))⟩

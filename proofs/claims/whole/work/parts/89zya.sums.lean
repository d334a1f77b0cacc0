/-! DRIVES: what the reference reckons -/
def zWn (S : zDS) (g : Int → Int) : Prop := g 1 = S.1 0 ∧ g 2 = S.1 1 ∧ g 3 = S.2.1 ∧ g 4 = S.2.2.1 ∧ g 5 = S.2.2.2 ∧ g 6 = S.1 6
theorem lfR_drive {tk : Int → Int} {i v : Int} (h : (lfR false tk i v).1 = true) : (∃ a : Int, (lfR false tk i v).2.2.2 = ((1, a), (0, a))) ∨ (∃ a : Int, (7 ≤ a ∧ a ≤ 12) ∧ (lfR false tk i v).2.2.2 = ((2, a), (if a = 7 then 6 else a - 7, 0))) ∨ ∃ w c d : Int, (w = 0 ∨ w = 1) ∧ (0 ≤ c ∧ c ≤ 4) ∧ (0 ≤ d ∧ d ≤ 11) ∧ (lfR false tk i v).2.2.2 = ((3, (w * 5 + c) * 12 + d), (w + 7, 12 * c + d)) := by
  revert h
  unfold lfR
  split
  · intro h; cases h
  split
  · intro _; exact Or.inl ⟨_, rfl⟩
  rw [if_neg (by decide : ¬ false = true)]
  split
  · rename_i hk
    intro _; exact Or.inr (Or.inl ⟨_, hk, rfl⟩)
  split
  · rename_i hk
    split
    · rename_i hc
      split
      · rename_i hd
        intro _
        refine Or.inr (Or.inr ⟨tk i - 13, _, _, by omega, hc, hd, ?_⟩)
        dsimp only
        rw [show tk i - 13 + 7 = tk i - 6 by omega]
      · intro h; cases h
    · intro h; cases h
  · intro h; cases h
theorem rc_cnr {r : Int → Int} {T : TT} {cn : Int → Int} {w c d : Int} (wc : W_cld r) (hw : w = 0 ∨ w = 1) (hc : 0 ≤ c ∧ c ≤ 4) (hd : 0 ≤ d ∧ d ≤ 11) (hl : ∀ c : Int, 0 ≤ c → c < r 0 → ∀ h : Nat, h ≤ 11 → cn (12 * c + (h : Int)) = gN (spF r T c h)) : rcF (w + 7) (if 0 ≤ (12 * c + d) / 12 ∧ (12 * c + d) / 12 ≤ r 0 - 1 then cn (12 * ((12 * c + d) / 12) + (12 * c + d) % 12) else -1) = cnr r T w c d := by
  have e1 : (12 * c + d) / 12 = c := by omega
  have e2 : (12 * c + d) % 12 = d := by omega
  rw [e1, e2]
  unfold cnr
  by_cases k : c < r 0
  · rw [if_pos (by omega)]
    have := hl c hc.1 k d.toNat (by omega)
    rw [show ((d.toNat : Nat) : Int) = d by omega] at this
    rw [this]
    unfold gN
    by_cases z : spF r T c d.toNat = 576
    · rw [if_pos z, if_neg (fun y => y.2 z)]
      unfold rcF; rw [if_pos rfl]
    · rw [if_neg z, if_pos ⟨k, z⟩]
      have rs := spF_r (T := T) wc hc.1 k d.toNat
      unfold rcF
      rw [if_neg (by omega)]
      rcases hw with rfl | rfl
      · rw [if_pos (by decide), if_pos rfl]
      · rw [if_neg (by decide), if_neg (by decide)]
  · rw [if_neg (by omega), if_neg (fun y => k y.1)]
    unfold rcF; rw [if_pos rfl]
theorem cmp_drive {T : TT} {S : zDS} {set g cn : Int → Int} (wc : W_cld S.1) (h : zWn S g) (hl : ∀ c : Int, 0 ≤ c → c < S.1 0 → ∀ h : Nat, h ≤ 11 → cn (12 * c + (h : Int)) = gN (spF S.1 T c h)) : cmpL false (fDr T S) (rlF 1 set g (S.1 0) cn) := by
  obtain ⟨g1, g2, g3, g4, g5, g6⟩ := h
  intro tk i v hh
  rcases lfR_drive hh with ⟨a, e⟩ | ⟨a, ha, e⟩ | ⟨w, c, d, hw, hc, hd, e⟩
  · rw [e]
    show rlF 1 set g (S.1 0) cn 0 a = fDr T S 1 a
    unfold rlF fDr
    rw [if_pos rfl, if_pos rfl]
  · rw [e]
    show rlF 1 set g (S.1 0) cn (if a = 7 then 6 else a - 7) 0 = fDr T S 2 a
    have e2 : fDr T S 2 a = wDr S a := by
      unfold fDr
      rw [if_neg (by decide), if_pos rfl]
    have e1 : ∀ o : Int, 1 ≤ o → o ≤ 6 → rlF 1 set g (S.1 0) cn o 0 = g o := fun o h1 h2 => by
      unfold rlF
      rw [if_neg (by omega), if_neg (by decide), if_pos (by omega)]
    rw [e2]
    rcases (show a = 7 ∨ a = 8 ∨ a = 9 ∨ a = 10 ∨ a = 11 ∨ a = 12 by omega) with rfl | rfl | rfl | rfl | rfl | rfl
    · exact (e1 6 (by decide) (by decide)).trans g6
    · exact (e1 1 (by decide) (by decide)).trans g1
    · exact (e1 2 (by decide) (by decide)).trans g2
    · exact (e1 3 (by decide) (by decide)).trans g3
    · exact (e1 4 (by decide) (by decide)).trans g4
    · exact (e1 5 (by decide) (by decide)).trans g5
  · rw [e]
    show rlF 1 set g (S.1 0) cn (w + 7) (12 * c + d) = fDr T S 3 ((w * 5 + c) * 12 + d)
    have e1 : fDr T S 3 ((w * 5 + c) * 12 + d) = cnr S.1 T w c d := by
      unfold fDr
      rw [if_neg (by decide), if_neg (by decide)]
      congr 1 <;> omega
    have e2 : rlF 1 set g (S.1 0) cn (w + 7) (12 * c + d) = rcF (w + 7) (if 0 ≤ (12 * c + d) / 12 ∧ (12 * c + d) / 12 ≤ S.1 0 - 1 then cn (12 * ((12 * c + d) / 12) + (12 * c + d) % 12) else -1) := by
      unfold rlF
      rw [if_neg (by omega), if_neg (by decide), if_neg (by omega)]
    rw [e1, e2]
    exact rc_cnr wc hw hc hd hl
theorem rlF_rD {X : XT} {S : zDS} {set g cn : Int → Int} (hI : zIv X S) (h : zWn S g) (hc : ∀ j : Int, 0 ≤ j → j < 60 → j / 12 ≤ S.1 0 - 1 → -1 ≤ cn j ∧ cn j ≤ 575) {o a : Int} (hz : zvR false o a) : -1000000000 ≤ rlF 1 set g (S.1 0) cn o a ∧ rlF 1 set g (S.1 0) cn o a ≤ 1000000000 := by
  obtain ⟨g1, g2, g3, g4, g5, g6⟩ := h
  have b7 := wDr_r hI 7
  have b8 := wDr_r hI 8
  have b9 := wDr_r hI 9
  have b10 := wDr_r hI 10
  have b11 := wDr_r hI 11
  have b12 := wDr_r hI 12
  have w7 : wDr S 7 = S.1 6 := rfl
  have w8 : wDr S 8 = S.1 0 := rfl
  have w9 : wDr S 9 = S.1 1 := rfl
  have w10 : wDr S 10 = S.2.1 := rfl
  have w11 : wDr S 11 = S.2.2.1 := rfl
  have w12 : wDr S 12 = S.2.2.2 := rfl
  unfold rlF
  rcases hz with ⟨z1, z2⟩ | ⟨z, _⟩ | ⟨_, z2⟩ | ⟨_, z1, z2⟩
  · rw [if_pos z1]; omega
  · cases z
  · rw [if_neg (by omega), if_neg (by decide), if_pos (by omega)]
    rcases (show o = 1 ∨ o = 2 ∨ o = 3 ∨ o = 4 ∨ o = 5 ∨ o = 6 by omega) with e | e | e | e | e | e <;> rw [e] <;> omega
  · rw [if_neg (by omega), if_neg (by decide), if_neg (by omega)]
    have rc : ∀ v : Int, (-1 ≤ v ∧ v ≤ 575) → -1000000000 ≤ rcF o v ∧ rcF o v ≤ 1000000000 := fun v hv => by
      unfold rcF
      split
      · omega
      split <;> omega
    split
    · rename_i k
      refine rc _ (hc _ (by omega) (by omega) (by omega))
    · exact rc _ (by decide)
theorem laid_r {r : Int → Int} {T : TT} {X : XT} (wc : W_cld r) (h : LAID r T X) (j : Int) (j0 : 0 ≤ j) (j1 : j < 60) (j2 : j / 12 ≤ r 0 - 1) : -1 ≤ X 94 j ∧ X 94 j ≤ 575 := by
  have e := h (j / 12) (by omega) (by omega) (j % 12).toNat (by omega)
  rw [show 12 * (j / 12) + (((j % 12).toNat : Nat) : Int) = j by omega] at e
  have rs := spF_r (T := T) wc (c := j / 12) (by omega) (by omega) (j % 12).toNat
  rw [e]
  unfold gN
  split <;> omega
/-- the reference while drives run: B where the runs began -/
def zMs (B : XT) (m k : Nat) (S : zDS) (Y : XT) : Prop := ((∀ c, [79, 91, 92, 93, 94, 113].elem c = false → ¬ c = 77 → Y c = B c) ∧ ∀ f, kpf f → ¬ f = 57 → ¬ f = 58 → Y 77 f = B 77 f) ∧ Y 79 = S.1 ∧ (Y 77 57 = S.2.2.1 ∧ Y 77 58 = S.2.1) ∧ (∀ j : Int, ¬ j % 12 = 11 → Y 113 j = B 113 j) ∧ (k < m → Y 113 (12 * (k : Int) + 11) = S.2.2.2) ∧ ∀ i : Int, (k : Int) < i → Y 113 (12 * i + 11) = B 113 (12 * i + 11)
theorem zMs.gx {B Y Y1 : XT} {m k : Nat} {S : zDS} (h : zMs B m k S Y) (g : Gx [91, 92, 93, 94] Y Y1) : zMs B m k S Y1 := by
  obtain ⟨⟨h1, h2⟩, h3, h4, h5, h6, h7⟩ := h
  have e13 : Y1 113 = Y 113 := g.1 113 rfl (by decide)
  refine ⟨⟨fun c a b => (g.1 c (el_sub (l := [91, 92, 93, 94]) (l2 := [79, 91, 92, 93, 94, 113]) (by decide) a) b).trans (h1 c a b), fun f a b c => (g.2 f a).trans (h2 f a b c)⟩, (g.1 79 rfl (by decide)).trans h3, ⟨(g.2 57 (by decide)).trans h4.1, (g.2 58 (by decide)).trans h4.2⟩, by rw [e13]; exact h5, by rw [e13]; exact h6, by rw [e13]; exact h7⟩
def zMw (T : TT) (B : XT) (m k : Nat) (S : zDS) (Y : XT) : Prop := zMs B m k S Y ∧ zWn S (Y 92) ∧ LAID S.1 T Y
theorem zMw.gx {T : TT} {B Y Y1 : XT} {m k : Nat} {S : zDS} (h : zMw T B m k S Y) (g : Gx [93] Y Y1) : zMw T B m k S Y1 := by
  obtain ⟨h1, h2, h3⟩ := h
  refine ⟨h1.gx (g.sub (by decide)), ?_, ?_⟩
  · rw [g.1 92 rfl (by decide)]; exact h2
  · unfold LAID; rw [g.1 94 rfl (by decide)]; exact h3
theorem m_sumX {a0 : Int} {Y : XT} {Q : Int → XT → Prop} (h : Y 77 60 = 1) (q : Q 0 Y) : w_X12_sumOf a0 Y Q := ⟨by rw [h]; decide, fun _ => q, fun z => absurd z (by rw [h]; decide)⟩
theorem m_sumE {a0 : Int} {Y : XT} {Q : Int → XT → Prop} (h : Y 77 60 = 0) (ra : 0 ≤ a0 ∧ a0 + 1 < 144) (e0 : Y 113 a0 = 0) (e1 : Y 113 (a0 + 1) = 0) (q : Q 0 Y) : w_X12_sumOf a0 Y Q := ⟨by rw [h]; decide, fun z => absurd h z, fun _ => ⟨by omega, by omega, by rw [e0]; decide, by rw [e1]; decide, fun z => absurd (e0.trans e1.symm) z, fun _ => q⟩⟩
theorem m_sumD {X B Y : XT} {S : zDS} {T : TT} {m k : Nat} {a0 L N : Int} {D : zDT} {Q : Int → XT → Prop} (hI : zIv X S) (h : zMw T B m k S Y) (b15 : B 77 15 = 0) (h60 : Y 77 60 = 0) (ra : 0 ≤ a0 ∧ a0 + 1 < 144) (r1 : ¬ a0 % 12 = 11) (r2 : ¬ (a0 + 1) % 12 = 11) (hs : zSr (B 84) (B 85) (B 113) a0 N D L) (hN : N ≤ 400) (q0 : D (fDr T S) = none → ∀ v Y1, zMw T B m k S Y1 → Y1 77 60 = 1 → Q v Y1) (q1 : ∀ v, D (fDr T S) = some v → (-1000001000 ≤ v ∧ v ≤ 1000001000) → ∀ Y1, zMw T B m k S Y1 → Y1 77 60 = 0 → Q v Y1) : w_X12_sumOf a0 Y Q := by
  obtain ⟨hr, L50, zr⟩ := hs
  obtain ⟨ms, wn, ld⟩ := id h
  have e0 : Y 113 a0 = B 113 a0 := ms.2.2.2.1 a0 r1
  have e1 : Y 113 (a0 + 1) = B 113 (a0 + 1) := ms.2.2.2.1 (a0 + 1) r2
  have y15 : Y 77 15 = 0 := (ms.1.2 15 (by decide) (by decide) (by decide)).trans b15
  have y79 : Y 79 = S.1 := ms.2.1
  have e84 : Y 84 = B 84 := ms.1.1 84 rfl (by decide)
  have e85 : Y 85 = B 85 := ms.1.1 85 rfl (by decide)
  obtain ⟨o, f6, p, _⟩ := hI.1
  have wc := p.rw.2.2.1
  have lt := zr.2.1
  refine ⟨by rw [h60]; decide, fun z => absurd h60 z, fun _ => ⟨by omega, by omega, by rw [e0]; omega, by rw [e1]; omega, fun _ => ?_, fun z => absurd z (by rw [e0, e1]; omega)⟩⟩
  rw [x_st_c (by decide : ¬ 113 = 77), e0, e1]
  obtain ⟨n0, hn, hrun⟩ := zRR_fin zr (by omega) (cmp_drive (T := T) (set := Y 91) wc wn ld)
  have z15 : (x_st Y 77 15 1) 77 15 = 1 := x_st_at
  have ec : ∀ c, ¬ c = 77 → (x_st Y 77 15 1) c = Y c := fun c hc => x_st_c hc
  refine m_reckonAll (lw := false) (op := B 84) (ar := B 85) (by omega) (by omega) (by omega) (Or.inr ⟨z15, rfl, fun j _ _ => ⟨by rw [ec 84 (by decide), e84], by rw [ec 85 (by decide), e85]⟩⟩) (by rw [z15, ec 91 (by decide), ec 92 (by decide), ec 79 (by decide), ec 94 (by decide), y79]) (by rw [ec 79 (by decide), y79]; exact wc.1) (fun _ j a b c => by rw [ec 79 (by decide), y79] at c; rw [ec 94 (by decide)]; exact laid_r wc ld j a b c) hrun (fun o a hz => rlF_rD hI wn (laid_r wc ld) hz) (fun X14 hk hD => ?_)
  have st : ∀ w : Int, zMw T B m k S (x_st (x_st X14 77 15 0) 77 60 w) := fun w => h.gx ⟨fun c h1 h2 => by rw [x_st_c h2, x_st_c h2, hk.1 c h2 (fun e => by rw [e] at h1; cases h1), ec c h2], fun f hf => by
    rw [x_st_ne (fun e => by rw [e] at hf; exact absurd hf (by decide))]
    by_cases c : f = 15
    · rw [c, x_st_at, y15]
    · rw [x_st_ne c, hk.2 f (fun e => by rw [e] at hf; exact absurd hf (by decide)) (fun e => by rw [e] at hf; exact absurd hf (by decide)), x_st_ne c]⟩
  have e33 : (x_st X14 77 15 0) 77 33 = X14 77 33 := x_st_ne (by decide)
  rw [e33]
  rcases hD with ⟨d1, d2⟩ | ⟨v, d1, d2, d3, d4⟩
  · rw [d2]
    exact ⟨Or.inr rfl, q0 d1 _ _ (st 1) x_st_at⟩
  · have e34 : (x_st (x_st X14 77 15 0) 77 60 0) 77 34 = v := by rw [x_st_ne (by decide), x_st_ne (by decide)]; exact d3
    rw [d2, e34]
    exact ⟨Or.inl rfl, q1 v d1 d4 _ (st 0) x_st_at⟩

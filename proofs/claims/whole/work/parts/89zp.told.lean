/-! LAWS: both sides tell the same -/
theorem clF_r (v : Int) : 0 ≤ clF v ∧ clF v ≤ 99 := by
  unfold clF
  split
  · omega
  split <;> omega
theorem clF_id {v : Int} (h : 0 ≤ v ∧ v ≤ 99) : clF v = v := by
  unfold clF
  rw [if_neg (by omega), if_neg (by omega)]
theorem zTl_18 {Z : zLM} {f : Int → Int → Int} : ∀ k : Nat, zTl Z f 18 0 k = 0 ∨ zTl Z f 18 0 k = 1 := by
  intro k
  induction k with
  | zero => exact Or.inl rfl
  | succ k ih =>
    unfold zTl
    split
    · rw [if_pos rfl]; exact Or.inr rfl
    · exact ih
theorem m_tellsL {Z : zLM} {m : Nat} {r : Int → Int} {b j : Int} (hR : zRl Z m r b) (hm : m ≤ 12) (hZ : ∀ k : Nat, k < m → 15 ≤ Z.1 k ∧ Z.1 k ≤ 18) (h5 : r 5 = j) (j0 : 0 ≤ j ∧ j ≤ 5) (hb : b = 380 + 900 * j) (r0 : 0 ≤ r 0 ∧ r 0 ≤ 5) (ht : W_trm r) : HRt r (fun hd x y h c l s wo => clF (zTl Z (lfF (wdF x y h c l s (r 8) (r 6))) (15 + hd) wo m)) := by
  intro X hd x y h c l s wo Q me d0 d3 rx ry rh rc rl rs w0 w1 q
  unfold W_trm at ht
  have hw := fun (a : Int) (_ : 0 ≤ a) (_ : a ≤ 7) => wdF_r rx ry rh rc rl rs (show -1000 ≤ r 8 ∧ r 8 ≤ 1000 by omega) (show -1000 ≤ r 6 ∧ r 6 ≤ 1000 by omega) a
  have e5 : X 79 5 = j := by rw [me.1]; exact h5
  refine ⟨by omega, fun _ => ⟨by omega, by omega, by omega, by omega, by omega, by omega, ?_, ?_, ?_⟩, fun z => absurd z (by omega)⟩
  · rw [x_st_c (by decide), x_st_c (by decide), x_st_c (by decide), x_st_c (by decide), x_st_c (by decide), x_st_c (by decide), x_st_c (by decide), me.1]; omega
  · rw [x_st_c (by decide), x_st_c (by decide), x_st_c (by decide), x_st_c (by decide), x_st_c (by decide), x_st_c (by decide), x_st_c (by decide), x_st_c (by decide), me.1]; omega
  have rt : R64 wo := by omega
  refine ⟨fun told k Y => (0 ≤ k ∧ k ≤ (m : Int)) ∧ told = zTl Z (lfF (wdF x y h c l s (r 8) (r 6))) (15 + hd) wo k.toNat ∧ R64 told ∧ zTs r (wdF x y h c l s (r 8) (r 6)) b X Y, fun _ k _ => ((m : Int) - k).toNat, ⟨by omega, rfl, rt, ?_, ?_, ?_, ?_, ?_⟩, ?_⟩
  · exact ((((((((Gx.rf.st7 (by decide)).st rfl (by decide)).st rfl (by decide)).st rfl (by decide)).st rfl (by decide)).st rfl (by decide)).st rfl (by decide)).st rfl (by decide)).st rfl (by decide)
  · rw [x_st_c (by decide), x_st_c (by decide), x_st_c (by decide), x_st_c (by decide), x_st_c (by decide), x_st_c (by decide), x_st_c (by decide), x_st_c (by decide), x_st_c (by decide)]; exact me.1
  · rw [x_st_c (by decide), x_st_c (by decide), x_st_c (by decide), x_st_c (by decide), x_st_c (by decide), x_st_c (by decide), x_st_c (by decide), x_st_c (by decide), x_st_ne (by decide)]; exact me.2
  · rw [x_st_c (by decide), x_st_c (by decide), x_st_c (by decide), x_st_c (by decide), x_st_c (by decide), x_st_c (by decide), x_st_c (by decide), x_st_c (by decide), x_st_at, e5, hb]
  · refine ⟨?_, ?_, ?_, ?_, ?_, ?_, ?_, ?_⟩
    · rw [x_st_ne (by decide), x_st_ne (by decide), x_st_ne (by decide), x_st_ne (by decide), x_st_ne (by decide), x_st_ne (by decide), x_st_ne (by decide), x_st_at]; rfl
    · rw [x_st_ne (by decide), x_st_ne (by decide), x_st_ne (by decide), x_st_ne (by decide), x_st_ne (by decide), x_st_ne (by decide), x_st_at]; rfl
    · rw [x_st_ne (by decide), x_st_ne (by decide), x_st_ne (by decide), x_st_ne (by decide), x_st_ne (by decide), x_st_at]; rfl
    · rw [x_st_ne (by decide), x_st_ne (by decide), x_st_ne (by decide), x_st_ne (by decide), x_st_at]; rfl
    · rw [x_st_ne (by decide), x_st_ne (by decide), x_st_ne (by decide), x_st_at]; rfl
    · rw [x_st_ne (by decide), x_st_ne (by decide), x_st_at]; rfl
    · rw [x_st_ne (by decide), x_st_at, x_st_c (by decide), x_st_c (by decide), x_st_c (by decide), x_st_c (by decide), x_st_c (by decide), x_st_c (by decide), x_st_c (by decide), me.1]; rfl
    · rw [x_st_at, x_st_c (by decide), x_st_c (by decide), x_st_c (by decide), x_st_c (by decide), x_st_c (by decide), x_st_c (by decide), x_st_c (by decide), x_st_c (by decide), me.1]; rfl
  have q2 : ∀ (v : Int) (X1 : XT), Gx [91, 93] X X1 → R64 v → clF v = clF (zTl Z (lfF (wdF x y h c l s (r 8) (r 6))) (15 + hd) wo m) → (hd = 3 → wo = 0 → v = clF (zTl Z (lfF (wdF x y h c l s (r 8) (r 6))) (15 + hd) wo m)) → Q v X1 := q
  clear q
  generalize wdF x y h c l s (r 8) (r 6) = w at *
  rintro told k Y ⟨hk, et, rtd, st⟩
  have e79 := st.2.1
  have e29 := st.2.2.2.1
  rw [e29, e79, hR.1]
  refine ⟨by omega, by omega, by omega, fun z => ?_, fun z => ?_⟩
  · have ek : k.toNat = m := by omega
    rw [ek] at et
    refine q2 told Y st.1 rtd (by rw [et]) (fun e3 ew => ?_)
    subst e3 ew
    have := zTl_18 (Z := Z) (f := lfF w) m
    rw [et]
    refine (clF_id ?_).symm
    show 0 ≤ zTl Z (lfF w) 18 0 m ∧ zTl Z (lfF w) 18 0 m ≤ 99
    omega
  obtain ⟨i, rfl⟩ : ∃ i : Nat, k = (i : Int) := ⟨k.toNat, by omega⟩
  have im : i < m := by omega
  obtain ⟨p, qq, u, _, a2, _⟩ := hR.2 i im
  have zi := hZ i im
  rw [a2]
  rw [show ((i : Int)).toNat = i by omega] at et
  have es : zTl Z (lfF w) (15 + hd) wo (i + 1) = if Z.1 i = 15 + hd ∧ (Z.2.2.1 i = true → Z.2.2.2 i (lfF w) = some 1) then (match (if 15 + hd = 18 then some 1 else Z.2.1 i (lfF w)) with
    | some v => v
    | none => zTl Z (lfF w) (15 + hd) wo i) else zTl Z (lfF w) (15 + hd) wo i := rfl
  have step : ∀ (t : Int) (Y1 : XT), zTs r w b X Y1 → R64 t → t = zTl Z (lfF w) (15 + hd) wo (i + 1) → ((0 ≤ (i : Int) + 1 ∧ (i : Int) + 1 ≤ (m : Int)) ∧ t = zTl Z (lfF w) (15 + hd) wo ((i : Int) + 1).toNat ∧ R64 t ∧ zTs r w b X Y1) := fun t Y1 g rt1 e => ⟨by omega, by rw [show ((i : Int) + 1).toNat = i + 1 by omega]; exact e, rt1, g⟩
  refine ⟨by omega, by omega, by omega, fun ne => ⟨step told Y st rtd ?_, by dsimp only; omega⟩, fun ee => ?_⟩
  · rw [es, if_neg (fun y => ne (by omega))]; exact et
  have ek : Z.1 i = 15 + hd := by omega
  refine m_isSo st hR im hm zi hw r0 (by omega) (fun no Y1 g => ⟨by decide, fun _ => ⟨step told Y1 g rtd ?_, by dsimp only; omega⟩, fun y => absurd rfl y⟩) (fun ht' v hv Y1 g h35 => ⟨by decide, fun y => absurd y (by decide), fun _ => ⟨fun n3 => ?_, fun e3 => ?_⟩⟩)
  · rw [es]
    by_cases c1 : Z.1 i = 15 + hd ∧ (Z.2.2.1 i = true → Z.2.2.2 i (lfF w) = some 1)
    · rw [if_pos c1]
      by_cases c2 : 15 + hd = 18
      · exact absurd ⟨c1.2, fun y => absurd (by omega) y⟩ no
      · rw [if_neg c2]
        cases hD : Z.2.1 i (lfF w) with
        | none => exact et
        | some v => exact absurd ⟨c1.2, fun _ => ⟨v, hD⟩⟩ no
    · rw [if_neg c1]; exact et
  · have n18 : ¬ Z.1 i = 18 := by omega
    obtain ⟨y1, y2⟩ := h35 n18
    rw [y1]
    refine ⟨step v Y1 g (by omega) ?_, by dsimp only; omega⟩
    rw [es, if_pos ⟨ek, ht'⟩, if_neg (by omega), hv n18]
  · refine ⟨step 1 Y1 g (by decide) ?_, by dsimp only; omega⟩
    rw [es, if_pos ⟨ek, ht'⟩, if_pos (by omega)]
theorem m_tells0 {r : Int → Int} (h5 : r 5 = -1) : HRt r (fun _ _ _ _ _ _ _ wo => clF wo) := by
  intro X hd x y h c l s wo Q me d0 d3 rx ry rh rc rl rs w0 w1 q
  have e5 : X 79 5 = -1 := by rw [me.1]; exact h5
  refine ⟨by rw [e5]; decide, fun z => absurd e5 z, fun _ => q wo X Gx.rf (by omega) rfl (fun _ _ => (clF_id ⟨w0, w1⟩).symm)⟩

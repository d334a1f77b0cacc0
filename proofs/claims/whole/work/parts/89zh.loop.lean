/-! TEXTS: the class reads a text's clauses -/
def kAll (lw : Bool) (tk : Int → Int) (m : Nat) (Y : XT) : Prop := (Y 37 2 = (m : Int) ∧ zNC Y) ∧ ∀ j : Nat, j < m → kCl lw tk Y (j : Int) (zsx lw tk j).1 (zsx lw tk j).2
def kTx (lw : Bool) (tk : Int → Int) (X : XT) (x29 x30 x31 : Int) (Y : XT) : Prop := Fx [33, 37, 38, 39] X Y ∧ (∀ f : Int, ¬ f = 6 → ¬ f = 7 → Y 33 f = X 33 f) ∧ ∃ m : Nat, x31 = (m : Int) ∧ m ≤ 12 ∧ ((x29 = 1 ∧ x30 = 1 ∧ kQS lw tk Y (zsx lw tk m).1 (zsx lw tk m).2 ∧ kAll lw tk m Y ∧ ztx lw tk 12 0 0 = ztx lw tk (12 - m) (zsx lw tk m).1 (zsx lw tk m).2 ∧ ∀ j : Nat, j < m → zfo lw tk j = 1059) ∨ (x29 = 0 ∧ x30 = 1 ∧ 1 ≤ m ∧ kAll lw tk m Y ∧ tk (zrx lw tk (zsx lw tk (m - 1)).1 (zsx lw tk (m - 1)).2).2.1 = 29 ∧ ztx lw tk 12 0 0 = (true, Y 33 6) ∧ ∀ j : Nat, j + 1 < m → zfo lw tk j = 1059) ∨ (x29 = 1 ∧ x30 = 0 ∧ ztx lw tk 12 0 0 = (false, Y 33 6) ∧ 0 ≤ Y 33 6 ∧ Y 33 6 ≤ 400))
theorem e_loop {lw : Bool} {tk : Int → Int} {X : XT} {Q : Int → XT → Prop} (z : kQS lw tk X 0 0) (h2 : X 37 2 = 0) (q : ∀ X1, Fx [33, 37, 38, 39] X X1 → (∀ f : Int, ¬ f = 6 → ¬ f = 7 → X1 33 f = X 33 f) → ((ztx lw tk 12 0 0).1 = false → 0 ≤ (ztx lw tk 12 0 0).2) → ((ztx lw tk 12 0 0).1 = true → ∃ m : Nat, (1 ≤ m ∧ m ≤ 12) ∧ kAll lw tk m X1 ∧ tk (zrx lw tk (zsx lw tk (m - 1)).1 (zsx lw tk (m - 1)).2).2.1 = 29 ∧ ∀ j : Nat, j + 1 < m → zfo lw tk j = 1059) → Q (if (ztx lw tk 12 0 0).1 = true then 1 else 0) (x_st X1 33 8 (if (ztx lw tk 12 0 0).1 = true then -1 else X 36 (ztx lw tk 12 0 0).2))) : ∃ (I33 : Int → Int → Int → XT → Prop) (m34 : Int → Int → Int → XT → Nat), I33 1 1 0 X ∧ ∀ (x29 : Int) (x30 : Int) (x31 : Int) (X32 : XT), I33 x29 x30 x31 X32 → ∀ J45 : Prop, ((∀ J47 : Int → Prop, (∀ (v46 : Int), (R32 v46 ∧ (v46 = 0 → w_X5_placeOfNext   X32 (fun (v50 : Int) => (v46 = 0 ∨ v46 = 1) ∧ Q v46 (x_st X32 33 8 v50))) ∧ (¬ v46 = 0 → (v46 = 0 ∨ v46 = 1) ∧ Q v46 (x_st X32 33 8 (-1)))) → J47 v46) → R32 x30 ∧ (x30 = 0 → J47 0) ∧ (¬ x30 = 0 → R32 x29 ∧ (¬ x29 = 0 → J47 0) ∧ (x29 = 0 → J47 1))) → J45) → R32 x31 ∧ (12 ≤ x31 → J45 ) ∧ (¬ 12 ≤ x31 → R32 x30 ∧ (x30 = 0 → J45 ) ∧ (¬ x30 = 0 → R32 x29 ∧ (x29 = 0 → J45 ) ∧ (¬ x29 = 0 → w_X7_addClause   X32 (fun (X79 : XT) => ∀ J86 : Int → XT → Prop, (∀ (v84 : Int) (X85 : XT), (∀ J92 : Int → XT → Prop, (∀ (v90 : Int) (X91 : XT), (∀ J96 : Prop, ((∀ J98 : XT → Prop, (∀  (X97 : XT), (I33 x29 0 (x31 + 1) X97 ∧ m34 x29 0 (x31 + 1) X97 < m34 x29 x30 x31 X32) → J98  X97) → R32 v90 ∧ (v90 = 0 → J98  X91) ∧ (¬ v90 = 0 → w_X5_take  1059 X91 (fun (v104 : Int) (X105 : XT) => R32 v104 ∧ (v104 = 0 → J98  X105) ∧ (¬ v104 = 0 → I33 x29 1 (x31 + 1) X105 ∧ m34 x29 1 (x31 + 1) X105 < m34 x29 x30 x31 X32)))) → J96) → R32 v90 ∧ (v90 = 0 → J96 ) ∧ (¬ v90 = 0 → w_X5_token   X91 (fun (v114 : Int) => R32 v114 ∧ (¬ v114 = 29 → J96 ) ∧ (v114 = 29 → I33 0 v90 (x31 + 1) X91 ∧ m34 0 v90 (x31 + 1) X91 < m34 x29 x30 x31 X32)))) → J92 v90 X91) → R32 v84 ∧ (v84 = 0 → J92 v84 X85) ∧ (¬ v84 = 0 → w_X5_take  24 X85 (fun (v124 : Int) (X125 : XT) => R32 v124 ∧ (v124 = 0 → J92 v84 X125) ∧ (¬ v124 = 0 → w_X7_setHead  x31 5 (X125 37 3) X125 (fun (X133 : XT) => w_parse 60 0  0 X133 (fun (v138 : Int) (X139 : XT) => w_X7_emit  0 0 X139 (fun (X145 : XT) => J92 v138 X145))))))) → J86 v84 X85) → R32 (X79 33 9) ∧ ((X79 33 9) = 0 → w_X5_readDriveHead  x31 X79 (fun (v152 : Int) (X153 : XT) => J86 v152 X153)) ∧ (¬ (X79 33 9) = 0 → w_X5_readLawHead  x31 X79 (fun (v158 : Int) (X159 : XT) => J86 v158 X159)))))) := by
  refine ⟨kTx lw tk X, fun _ _ x31 _ => (12 - x31).toNat, ⟨Fx.rf, fun _ _ _ => rfl, 0, rfl, by decide, Or.inl ⟨rfl, rfl, z, ⟨⟨h2, z.2.2.2.2.2.1.2.2⟩, fun j hj => absurd hj (Nat.not_lt_zero _)⟩, rfl, fun j hj => absurd hj (Nat.not_lt_zero _)⟩⟩, ?_⟩
  rintro x29 x30 x31 Y ⟨F1, F2, m, rfl, m12, hc⟩
  intro J45 hJ45
  have bad : (ztx lw tk 12 0 0).1 = false → (ztx lw tk 12 0 0).2 = Y 33 6 → 0 ≤ Y 33 6 → Y 33 6 ≤ 400 → ∀ J47 : Int → Prop, (∀ (v46 : Int), (R32 v46 ∧ (v46 = 0 → w_X5_placeOfNext Y (fun (v50 : Int) => (v46 = 0 ∨ v46 = 1) ∧ Q v46 (x_st Y 33 8 v50))) ∧ (¬ v46 = 0 → (v46 = 0 ∨ v46 = 1) ∧ Q v46 (x_st Y 33 8 (-1)))) → J47 v46) → J47 0 := fun hb h6 p0 p1 J47 hJ47 => by
    have qq := q Y F1 F2 (fun _ => by rw [h6]; exact p0) (fun y => by rw [hb] at y; cases y)
    rw [hb, h6] at qq
    refine hJ47 0 ⟨by decide, fun _ => ⟨by omega, fun y => absurd y (by omega), fun _ => ⟨fun y => absurd y (by omega), fun _ => ⟨by omega, Or.inl rfl, ?_⟩⟩⟩, fun y => absurd rfl y⟩
    rw [F1 36 rfl]
    exact qq
  rcases hc with ⟨rfl, rfl, zY, kA, ez, zfA⟩ | ⟨rfl, rfl, m1, kA, t29, ez, zfB⟩ | ⟨rfl, rfl, ez, p0, p1⟩
  rotate_left
  · have fin : J45 := hJ45 (fun J47 hJ47 => ⟨by decide, fun y => absurd y (by decide), fun _ => ⟨by decide, fun y => absurd rfl y, fun _ => ?_⟩⟩)
    · exact ⟨by omega, fun _ => fin, fun _ => ⟨by decide, fun y => absurd y (by decide), fun _ => ⟨by decide, fun _ => fin, fun y => absurd rfl y⟩⟩⟩
    · have qq := q Y F1 F2 (fun y => by rw [ez] at y; cases y) (fun _ => ⟨m, ⟨m1, m12⟩, kA, t29, zfB⟩)
      rw [ez] at qq
      exact hJ47 1 ⟨by decide, fun y => absurd y (by decide), fun _ => ⟨Or.inr rfl, qq⟩⟩
  · have fin : J45 := hJ45 (fun J47 hJ47 => ⟨by decide, fun _ => bad (by rw [ez]) (by rw [ez]) p0 p1 J47 hJ47, fun y => absurd rfl y⟩)
    exact ⟨by omega, fun _ => fin, fun _ => ⟨by decide, fun _ => fin, fun y => absurd rfl y⟩⟩
  refine ⟨by omega, fun y => ?_, fun y => ⟨by decide, fun w => absurd w (by decide), fun _ => ⟨by decide, fun w => absurd w (by decide), fun _ => ?_⟩⟩⟩
  · have e12 : 12 - m = 0 := by omega
    rw [e12] at ez
    have e6 := zY.2.1
    refine hJ45 (fun J47 hJ47 => ⟨by decide, fun w => absurd w (by decide), fun _ => ⟨by decide, fun _ => bad (by rw [ez]; rfl) (by rw [ez, e6]; rfl) (by rw [e6]; exact zY.2.2.2.1.1) (by rw [e6]; exact zY.2.2.2.1.2) J47 hJ47, fun w => absurd w (by decide)⟩⟩)
  have eS : 12 - m = (11 - m) + 1 := by omega
  rw [eS] at ez
  have hz2 : zsx lw tk (m + 1) = ((zrx lw tk (zsx lw tk m).1 (zsx lw tk m).2).2.1 + 1, (zrx lw tk (zsx lw tk m).1 (zsx lw tk m).2).2.2.1) := rfl
  have ez2 : ztx lw tk 12 0 0 = if (zrx lw tk (zsx lw tk m).1 (zsx lw tk m).2).1 = false then (false, (zrx lw tk (zsx lw tk m).1 (zsx lw tk m).2).2.1) else if tk (zrx lw tk (zsx lw tk m).1 (zsx lw tk m).2).2.1 = 29 then (true, (zrx lw tk (zsx lw tk m).1 (zsx lw tk m).2).2.1) else if tk (zrx lw tk (zsx lw tk m).1 (zsx lw tk m).2).2.1 = 1059 then ztx lw tk (11 - m) ((zrx lw tk (zsx lw tk m).1 (zsx lw tk m).2).2.1 + 1) (zrx lw tk (zsx lw tk m).1 (zsx lw tk m).2).2.2.1 else (false, (zrx lw tk (zsx lw tk m).1 (zsx lw tk m).2).2.1) := ez
  refine e_addClause (m := (m : Int)) (by omega) zY kA.1.1 (fun X79 f1 f2 f3 f4 f5 z79 => ?_)
  refine e_clause (m := (m : Int)) (by omega) z79 ⟨f4 1 (by decide) (by decide), f4 4 (by decide) (by decide), f4 5 (by decide) (by decide)⟩ (r := zrx lw tk (zsx lw tk m).1 (zsx lw tk m).2) rfl (fun X1 k1 z1 c1 => ?_)
  have G1 : Fx [33, 37, 38, 39] X X1 := (F1.trans (f1.sub (by decide))).trans k1.1
  have G2 : ∀ f : Int, ¬ f = 6 → ¬ f = 7 → X1 33 f = X 33 f := fun f a b => (k1.2.1 f a b).trans ((congrFun (f1 33 rfl) f).trans (F2 f a b))
  generalize hr : zrx lw tk (zsx lw tk m).1 (zsx lw tk m).2 = r at *
  have kN : r.1 = true → kAll lw tk (m + 1) X1 := fun h => ⟨⟨by rw [k1.2.2.1 2 (by decide) (by decide), f3]; omega, z1.2.2.2.2.2.1.2.2⟩, fun j hj => by
    by_cases e : j = m
    · rw [e]; exact (c1 h).2
    · exact ((kA.2 j (by omega)).ad f1 f2 (m2 := (m : Int)) f5 (by omega)).kp k1 (Int.le_refl _) (by omega)⟩
  have e6 := z1.2.1
  intro J96 hJ96
  cases h1 : r.1
  · rw [if_pos h1] at ez2
    have ev : (if r.1 = true then (1 : Int) else 0) = 0 := if_neg (by rw [h1]; decide)
    rw [ev] at hJ96
    have c : kTx lw tk X 1 0 ((m : Int) + 1) X1 := ⟨G1, G2, m + 1, by omega, by omega, Or.inr (Or.inr ⟨rfl, rfl, by rw [ez2, e6], by rw [e6]; exact z1.2.2.2.1.1, by rw [e6]; exact z1.2.2.2.1.2⟩)⟩
    exact ⟨by decide, fun _ => hJ96 (fun J98 hJ98 => ⟨by decide, fun _ => hJ98 X1 ⟨c, by dsimp only; omega⟩, fun w => absurd rfl w⟩), fun w => absurd rfl w⟩
  · rw [if_neg (by rw [h1]; decide)] at ez2
    have ev : (if r.1 = true then (1 : Int) else 0) = 1 := if_pos h1
    rw [ev] at hJ96
    have rt := z1.1.2.2.2.2.1 r.2.1
    refine ⟨by decide, fun w => absurd w (by decide), fun _ => e_token z1.1 e6 z1.2.2.2.1.1 z1.2.2.2.1.2 ⟨by omega, fun ne => hJ96 (fun J98 hJ98 => ⟨by decide, fun w => absurd w (by decide), fun _ => e_takeT z1.1 e6 z1.2.2.2.1.1 z1.2.2.2.1.2 (by decide) (by decide) (fun e => ⟨by decide, fun w => absurd w (by decide), fun _ => ⟨?_, by dsimp only; omega⟩⟩) (fun e => ⟨by decide, fun _ => hJ98 X1 ⟨?_, by dsimp only; omega⟩, fun w => absurd rfl w⟩)⟩), fun e29 => ⟨?_, by dsimp only; omega⟩⟩⟩
    · rw [if_neg ne, if_pos e] at ez2
      have zn := z1.nx ne
      refine ⟨G1.st rfl, fun f a b => by rw [x_st_ne a]; exact G2 f a b, m + 1, by omega, by omega, Or.inl ⟨rfl, rfl, by rw [hz2]; exact zn, ⟨⟨by rw [x_st_c (by decide)]; exact (kN h1).1.1, zn.2.2.2.2.2.1.2.2⟩, fun j hj => ((kN h1).2 j hj).kp (kKp.nx (s := X1 37 3) (k := 999) (e := 999)) (Int.le_refl _) (by omega)⟩, by rw [ez2, hz2, show 12 - (m + 1) = 11 - m by omega], fun j hj => by
        by_cases ej : j = m
        · rw [ej]
          show tk (zrx lw tk (zsx lw tk m).1 (zsx lw tk m).2).2.1 = 1059
          rw [hr]; exact e
        · exact zfA j (by omega)⟩⟩
    · rw [if_neg ne, if_neg e] at ez2
      exact ⟨G1, G2, m + 1, by omega, by omega, Or.inr (Or.inr ⟨rfl, rfl, by rw [ez2, e6], by rw [e6]; exact z1.2.2.2.1.1, by rw [e6]; exact z1.2.2.2.1.2⟩)⟩
    · rw [if_pos e29] at ez2
      exact ⟨G1, G2, m + 1, by omega, by omega, Or.inr (Or.inl ⟨rfl, rfl, by omega, kN h1, by rw [show m + 1 - 1 = m by omega, hr]; exact e29, by rw [ez2, e6], fun j hj => zfA j (by omega)⟩)⟩

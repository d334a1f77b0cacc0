/-! THE PAIR men -/
theorem m_men {r : Int → Int} {T : TT} {X : XT} {Q : Int → XT → Prop} (w : RW r) (hT : HRt r T) (tr : TR T) (e : ME r X) (q : ∀ (n s : Int) (ee : Int → Int) (X1 : XT), Gx scM X X1 → 0 ≤ n → ENM n (r 1) ee (mK r T) → HUN (r 1) (mEf r T) s → Q (n - s) X1) : w_X12_men X Q := by
  have wf := w.2.2.2.1.1.1
  refine m_lay0 w hT tr e (fun X1 e1 g1 l1 => ?_)
  refine ⟨fun t Y => 0 ≤ t ∧ t ≤ 12 ∧ Gx [106, 107] X1 Y ∧ ∃ (n : Int) (ee : Int → Int), rLST r T n t 0 ee Y, fun t _ => (12 - t).toNat, ⟨by decide, by decide, Gx.rf.st7 (by decide), 0, fun i => i, by decide, fun i a c => absurd (show i < (0 : Int) from c) (by omega), fun i j a c d => absurd (show j < (0 : Int) from d) (by omega), fun l l0 l1 _ b => ?_, fun i a c => absurd (show i < (0 : Int) from c) (by omega), x_st_at⟩, ?_⟩
  · have := (mS_r (T := T) w l0 l1).2.1
    unfold rBEF at b; omega
  rintro t Y ⟨t0, t1, gY, n, ee, lY⟩
  refine ⟨by omega, fun z => ?_, fun z => ?_⟩
  · rw [show t = 12 by omega] at lY
    have n0 := lY.1
    have nr := rLST_le lY wf.1
    have c50 : ∀ Z : XT, Z 77 = Y 77 → Z 77 50 = n := fun Z h => by rw [h]; exact lY.2.2.2.2.2
    refine ⟨fun i Z => 0 ≤ i ∧ i ≤ n ∧ Fx [108] Y Z ∧ ∀ j : Int, 0 ≤ j → j < i → Z 108 j = -1, fun i _ => (n - i).toNat, ⟨by decide, n0, Fx.rf, fun j a c => absurd (show j < (0 : Int) from c) (by omega)⟩, ?_⟩
    rintro i Z ⟨i0, i1, fZ, kZ⟩
    rw [c50 Z (fZ 77 rfl)]
    refine ⟨by omega, by omega, fun y => ?_, fun y => ⟨by omega, ⟨by omega, by omega, fZ.st rfl, fun j a c => ?_⟩, by dsimp only; omega⟩⟩
    rotate_left
    · by_cases hq : j = i
      · rw [hq, x_st_at]
      · rw [x_st_ne hq]; exact kZ j a (by omega)
    refine ⟨fun v i Z2 => 0 ≤ i ∧ i ≤ n ∧ Fx [108, 109, 110, 111] Y Z2 ∧ TRY n (fun i j => mEf r T (ee i) (ee j)) (Z2 108) i (n - v), fun _ i _ => (n - i).toNat, ⟨by decide, n0, fZ.sub (by decide), by rw [Int.sub_self]; exact TRY_0 (fun j a c => kZ j a (by omega)) n0⟩, ?_⟩
    rintro v x Z2 ⟨x0, x1, fZ2, tZ⟩
    rw [c50 Z2 (fZ2 77 rfl)]
    refine ⟨by omega, by omega, fun y2 => ?_, fun y2 => ?_⟩
    · rw [show x = n by omega] at tZ
      have hu := HUN_map n0 wf.1 (rLST_e w lY) (fun _ _ _ _ _ _ => rfl) (fun k l _ _ _ _ z => (mEf_t.mp z).1) (TRY_end tZ)
      have gg : Gx scM X Z2 := g1.trans ((gY.sub (by decide)).trans ⟨fun c hc _ => fZ2 c (el_sub (l := [108, 109, 110, 111]) (l2 := scM) (by decide) hc), fun f _ => by rw [fZ2 77 rfl]⟩)
      have := q n (n - v) ee Z2 gg n0 (rLST_e w lY) hu
      rw [show n - (n - v) = v by omega] at this
      exact this
    · obtain ⟨ta, tb, tc, td, te⟩ := tZ
      have can := m_can w lY
      refine m_aug (n := n) (E := fun i j => mEf r T (ee i) (ee j)) (by omega) (c50 Z2 (fZ2 77 rfl)) (fun X1 l j Q h1 h2 => can X1 l j Q (h1.trans (fZ2 106 rfl)) (h2.trans (fZ2 107 rfl))) x0 (by omega) ta tb (fun j a c => by have := tc j a c; omega) (fun X3 f3 el nw => ?_) (fun X3 f3 b3 pl dd => ?_)
      · intro J hJ
        refine ⟨by decide, fun _ => hJ 0 ⟨⟨by omega, by omega, fZ2.trans (f3.sub (by decide)), ?_⟩, by dsimp only; omega⟩, fun y => absurd rfl y⟩
        rw [f3 108 rfl, show n - (v - 0) = n - v by omega]
        exact TRY_no (v := X3 109) ⟨ta, tb, tc, td, te⟩ x0 el nw
      · intro J hJ
        refine ⟨by decide, fun y => absurd y (by decide), fun _ => hJ 1 ⟨⟨by omega, by omega, fZ2.trans f3, ?_⟩, by dsimp only; omega⟩⟩
        rw [show n - (v - 1) = n - v + 1 by omega]
        exact TRY_yes ⟨ta, tb, tc, td, te⟩ n0 x0 (by omega) b3 pl dd
  · refine ⟨fun k Z => 0 ≤ k ∧ k ≤ r 1 ∧ Gx [106, 107] X1 Z ∧ ∃ (n : Int) (ee : Int → Int), rLST r T n t k ee Z, fun k _ => (r 1 - k).toNat, ⟨by decide, wf.1, gY, n, ee, lY⟩, ?_⟩
    rintro k Z ⟨k0, k1, gZ, m, ff, lZ⟩
    have eZ : ME r Z := e1.go gZ rfl
    have n1 : Z 79 1 = r 1 := by rw [eZ.1]
    rw [n1]
    refine ⟨by omega, by omega, fun y => ⟨⟨by omega, by omega, gZ, m, ff, rLST_h lZ y⟩, by dsimp only; omega⟩, fun y => ?_⟩
    have bk := mS_r (T := T) w k0 (show k < r 1 by omega)
    have wc := w.2.2.1.1
    have eh : Z 79 (232 + (3 * k)) = mH r k := by rw [eZ.1, Int.mul_comm]; rfl
    have ec : Z 79 ((232 + (3 * k)) + 1) = r (232 + (k * 3 + 1)) := by rw [eZ.1]; congr 1; omega
    rw [eh, ec]
    refine ⟨by omega, by omega, by omega, by omega, fun g => ⟨⟨by omega, by omega, gZ, m, ff, rLST_s lZ (Or.inl g)⟩, by dsimp only; omega⟩, fun g => ?_⟩
    have e94 : Z 94 ((12 * r (232 + (k * 3 + 1))) + t) = gN (mS r T k) := by
      have a := l1 _ bk.2.2.1 bk.2.2.2 t.toNat (by omega)
      rw [show ((t.toNat : Nat) : Int) = t by omega] at a
      rw [gZ.1 94 rfl (by decide), a]
      unfold mS
      rw [show r (232 + k * 3) = t from g]
    rw [e94]
    have gr := gN_r bk.1
    refine ⟨by omega, fun g2 => ⟨⟨by omega, by omega, gZ, m, ff, rLST_s lZ (Or.inr ((gN_no bk.1).mp g2))⟩, by dsimp only; omega⟩, fun g2 => ?_⟩
    have hs : ¬ mS r T k = 576 := fun h => g2 ((gN_no bk.1).mpr h)
    rw [gN_id hs]
    have lt := rLST_lt lZ k0 (by omega) g
    have m0 := lZ.1
    have c50 : Z 77 50 = m := lZ.2.2.2.2.2
    have d50 : (x_st Z 106 m (mS r T k)) 77 50 = m := by rw [x_st_c (by decide)]; exact c50
    have d51 : (x_st (x_st Z 106 m (mS r T k)) 107 m t) 77 50 = m := by rw [x_st_c (by decide)]; exact d50
    rw [c50, d50, d51]
    refine ⟨by omega, by omega, ⟨by omega, by omega, ((gZ.st rfl (by decide)).st rfl (by decide)).st7 (by decide), m + 1, _, rLST_t lZ k0 (by omega) g hs ?_ (fun i hi => ?_) ?_ (fun i hi => ?_) ?_⟩, by dsimp only; omega⟩
    · rw [x_st_c (by decide), x_st_c (by decide), x_st_at]
    · rw [x_st_c (by decide), x_st_c (by decide), x_st_ne hi]
    · rw [x_st_c (by decide), x_st_at]
    · rw [x_st_c (by decide), x_st_ne hi, x_st_c (by decide)]
    · rw [x_st_at]
theorem q_men {LW : s_LW} (hW : LWq LW) (hst : LWst LW) : Pair m_X11_men m_X12_men 0 0 (INV LW) [] := by
  refine pair_q hW hst (fun K X Q => w_X11_men K X Q) (fun X Q => w_X12_men X Q) (by decide) (by decide) (fun hK hn hp hf w => so_X11_men hK hn hp hf w) (fun hn hp w => so_X12_men hn hp w) (fun K X T b hT e => ?_)
  have w := b.rw
  have wf := w.2.2.2.1.1.1
  unfold w_X11_men
  refine e_look0 b (fun X1 f1 _ l1 => ?_)
  refine e_men b f1 l1 (fun n s ee X2 f2 n0 en hu => ?_)
  have f12 : Fx scC X X2 := f1.trans (f2.sub (by decide))
  refine m_men w hT b.2.2.2 (e.fx f12) (fun n' s' ee' X3 g3 n0' en' hu' => ⟨?_, Gx_of f12 g3⟩)
  rw [ENM_eq n0 n0' en en', HUN_eq hu hu']

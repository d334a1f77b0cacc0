/-! THE CLASS'S READER, 1 of 1: texts over the picture, by program (tools/wp.py) -/
theorem v_wlenI {P : s_C} {k u n pc : Nat} {h : Nat → sE} {lv : List (Nat × Value)} {st : List Value} (hc : P.1.1.cls = "ShadowHerds$Reader") (hdg : decode P.1.2.1 pc = .ok (.ldc 122, 2)) (hdg2 : decode P.1.2.1 (pc + 2) = .ok (.invokevirtual 124, 3)) (hcat : (st.map fun v => v.category).sum ≤ 8) (hd : 2 ≤ P.2.1) (hk : k ≤ P.2.2.1) (hu : u ≤ P.2.2.2.1) (kk : V P k u n h (pc + 2 + 3) lv (.int (iI 131) :: st)) : V P k u n h pc lv st := v_wlen hc hdg hdg2 hcat hd hk hu (by rw [show iI 131 = (131 : Int32) by decide] at kk; exact kk)
theorem s_bytI_all : ∀ k, k < 131 → s_byt.getD k 0 = Int32.ofInt (([120, 32, 121, 32, 104, 111, 117, 114, 32, 99, 108, 111, 117, 100, 32, 108, 97, 121, 101, 114, 32, 115, 104, 97, 100, 101, 32, 109, 111, 111, 100, 32, 100, 97, 121, 32, 99, 108, 111, 117, 100, 115, 32, 102, 108, 97, 103, 115, 32, 108, 97, 115, 116, 32, 100, 111, 110, 101, 32, 114, 117, 110, 32, 108, 101, 102, 116, 32, 116, 111, 112, 32, 104, 101, 97, 116, 115, 32, 99, 111, 111, 108, 115, 32, 119, 111, 114, 116, 104, 32, 98, 97, 114, 115, 32, 102, 108, 97, 103, 32, 116, 111, 32, 97, 116, 32, 101, 97, 99, 104, 32, 116, 105, 109, 101, 115, 32, 105, 102, 32, 111, 114, 32, 97, 110, 100, 32, 110, 111, 116, 32] : List Int).getD k 0) := by decide +kernel
def wcF (a : Int) : Int := ([120, 32, 121, 32, 104, 111, 117, 114, 32, 99, 108, 111, 117, 100, 32, 108, 97, 121, 101, 114, 32, 115, 104, 97, 100, 101, 32, 109, 111, 111, 100, 32, 100, 97, 121, 32, 99, 108, 111, 117, 100, 115, 32, 102, 108, 97, 103, 115, 32, 108, 97, 115, 116, 32, 100, 111, 110, 101, 32, 114, 117, 110, 32, 108, 101, 102, 116, 32, 116, 111, 112, 32, 104, 101, 97, 116, 115, 32, 99, 111, 111, 108, 115, 32, 119, 111, 114, 116, 104, 32, 98, 97, 114, 115, 32, 102, 108, 97, 103, 32, 116, 111, 32, 97, 116, 32, 101, 97, 99, 104, 32, 116, 105, 109, 101, 115, 32, 105, 102, 32, 111, 114, 32, 97, 110, 100, 32, 110, 111, 116, 32] : List Int).getD a.toNat 0
theorem v_wchrI {P : s_C} {k u n pc : Nat} {h : Nat → sE} {lv : List (Nat × Value)} {st : List Value} {a : Int} {L : Nat} (hc : P.1.1.cls = "ShadowHerds$Reader") (hdg : decode P.1.2.1 pc = .ok (.ldc 122, 2)) (hdg1 : decode P.1.2.1 (pc + 2) = .ok (.iload L, 2)) (hdg2 : decode P.1.2.1 (pc + 2 + 2) = .ok (.invokevirtual 128, 3)) (hx : s_lk lv L = some (.int (iI a))) (h0 : 0 ≤ a) (h1 : a < 131) (hcat : (st.map fun v => v.category).sum ≤ 8) (hd : 4 ≤ P.2.1) (hk : k ≤ P.2.2.1) (hu : u ≤ P.2.2.2.1) (kk : V P k u n h (pc + 2 + 2 + 3) lv (.int (iI (wcF a)) :: st)) : V P k u n h pc lv st := by
  have e : s_chr (iI a) = iI (wcF a) := by
    have h3 := iI_nat h0 (by omega)
    unfold s_chr
    rw [show (iI a).toNatClampNeg = a.toNat by omega, s_bytI_all a.toNat (by omega)]
    rfl
  refine v_wchr hc hdg hdg1 hdg2 hx ?_ ?_ hcat hd hk hu (by rw [e]; exact kk)
  · rw [show (0 : Int32) = iI 0 from rfl, iI_lt (by omega) (by omega) (by decide) (by decide)]; omega
  · rw [show (131 : Int32) = iI 131 from rfl, iI_lt (by omega) (by omega) (by decide) (by decide)]; omega
theorem dX5_isLetter_0 : decode cX5_isLetter 0 = .ok (.iload_n 0, 1) := by decide +kernel
theorem dX5_isLetter_1 : decode cX5_isLetter 1 = .ok (.bipush 97, 2) := by decide +kernel
theorem dX5_isLetter_3 : decode cX5_isLetter 3 = .ok (.if_icmp .lt 13, 3) := by decide +kernel
theorem dX5_isLetter_6 : decode cX5_isLetter 6 = .ok (.iload_n 0, 1) := by decide +kernel
theorem dX5_isLetter_7 : decode cX5_isLetter 7 = .ok (.bipush 122, 2) := by decide +kernel
theorem dX5_isLetter_9 : decode cX5_isLetter 9 = .ok (.if_icmp .gt 7, 3) := by decide +kernel
theorem dX5_isLetter_12 : decode cX5_isLetter 12 = .ok (.iconst 1, 1) := by decide +kernel
theorem dX5_isLetter_13 : decode cX5_isLetter 13 = .ok (.goto 4, 3) := by decide +kernel
theorem dX5_isLetter_16 : decode cX5_isLetter 16 = .ok (.iconst 0, 1) := by decide +kernel
theorem dX5_isLetter_17 : decode cX5_isLetter 17 = .ok (.ireturn, 1) := by decide +kernel
def w_X5_isLetter (a0 : Int) (X : XT) (Q : Int → Prop) : Prop :=
  R32 a0 ∧ (a0 < 97 → Q 0) ∧ (¬ a0 < 97 → (122 < a0 → Q 0) ∧ (¬ 122 < a0 → Q 1))
set_option maxRecDepth 20000 in
theorem so_X5_isLetter {n : Nat} {h : Nat → sE} {X : XT} {a0 : Int} {Q : Int → Prop} (hn : 115 ≤ n) (hp : Pic X h) (w : w_X5_isLetter  a0 X Q) : Sp m_X5_isLetter 0 0 0 [.int (iI a0)] n h (pIr n h Q) := by
  unfold w_X5_isLetter at w
  refine Sp.ofV (by decide +kernel) (Nat.le_of_ble_eq_true rfl) ?_
  have hf : Fr h h := fun _ _ => rfl
  refine v_iload_n dX5_isLetter_0 rfl ?_
  refine v_bipushI dX5_isLetter_1 rfl ?_
  obtain ⟨q1, w⟩ := w
  refine v_icmp_ltI (tgt := 16) dX5_isLetter_3 (by decide) q1.1 q1.2 (by decide) (by decide) (fun c2 => ?_) (fun c2 => ?_)
  · replace w := w.1 c2
    refine v_iconstI dX5_isLetter_16 ?_
    exact v_z0 dX5_isLetter_17 rfl (Nat.zero_le _) (Nat.zero_le _) ⟨rfl, rfl, _, rfl, w⟩
  · replace w := w.2 c2
    refine v_iload_n dX5_isLetter_6 rfl ?_
    refine v_bipushI dX5_isLetter_7 rfl ?_
    refine v_icmp_gtI (tgt := 16) dX5_isLetter_9 (by decide) q1.1 q1.2 (by decide) (by decide) (fun c3 => ?_) (fun c3 => ?_)
    · replace w := w.1 c3
      refine v_iconstI dX5_isLetter_16 ?_
      exact v_z0 dX5_isLetter_17 rfl (Nat.zero_le _) (Nat.zero_le _) ⟨rfl, rfl, _, rfl, w⟩
    · replace w := w.2 c3
      refine v_iconstI dX5_isLetter_12 ?_
      refine v_goto (tgt := 17) dX5_isLetter_13 (by decide) ?_
      exact v_z1 dX5_isLetter_17 rfl (Nat.zero_le _) (Nat.zero_le _) ⟨rfl, rfl, _, rfl, w⟩
theorem dX5_behindLetters_0 : decode cX5_behindLetters 0 = .ok (.iload_n 1, 1) := by decide +kernel
theorem dX5_behindLetters_1 : decode cX5_behindLetters 1 = .ok (.istore_n 2, 1) := by decide +kernel
theorem dX5_behindLetters_2 : decode cX5_behindLetters 2 = .ok (.iload_n 1, 1) := by decide +kernel
theorem dX5_behindLetters_3 : decode cX5_behindLetters 3 = .ok (.istore_n 3, 1) := by decide +kernel
theorem dX5_behindLetters_4 : decode cX5_behindLetters 4 = .ok (.iload_n 3, 1) := by decide +kernel
theorem dX5_behindLetters_5 : decode cX5_behindLetters 5 = .ok (.aload_n 0, 1) := by decide +kernel
theorem dX5_behindLetters_6 : decode cX5_behindLetters 6 = .ok (.getfield 30, 3) := by decide +kernel
theorem dX5_behindLetters_9 : decode cX5_behindLetters 9 = .ok (.if_icmp .ge 24, 3) := by decide +kernel
theorem dX5_behindLetters_12 : decode cX5_behindLetters 12 = .ok (.aload_n 0, 1) := by decide +kernel
theorem dX5_behindLetters_13 : decode cX5_behindLetters 13 = .ok (.iload_n 3, 1) := by decide +kernel
theorem dX5_behindLetters_14 : decode cX5_behindLetters 14 = .ok (.invokevirtual 91, 3) := by decide +kernel
theorem dX5_behindLetters_17 : decode cX5_behindLetters 17 = .ok (.invokestatic 95, 3) := by decide +kernel
theorem dX5_behindLetters_20 : decode cX5_behindLetters 20 = .ok (.ifCond .eq 13, 3) := by decide +kernel
theorem dX5_behindLetters_23 : decode cX5_behindLetters 23 = .ok (.iload_n 3, 1) := by decide +kernel
theorem dX5_behindLetters_24 : decode cX5_behindLetters 24 = .ok (.iconst 1, 1) := by decide +kernel
theorem dX5_behindLetters_25 : decode cX5_behindLetters 25 = .ok (.iadd, 1) := by decide +kernel
theorem dX5_behindLetters_26 : decode cX5_behindLetters 26 = .ok (.istore_n 2, 1) := by decide +kernel
theorem dX5_behindLetters_27 : decode cX5_behindLetters 27 = .ok (.iinc 3 1, 3) := by decide +kernel
theorem dX5_behindLetters_30 : decode cX5_behindLetters 30 = .ok (.goto (-26), 3) := by decide +kernel
theorem dX5_behindLetters_33 : decode cX5_behindLetters 33 = .ok (.iload_n 2, 1) := by decide +kernel
theorem dX5_behindLetters_34 : decode cX5_behindLetters 34 = .ok (.ireturn, 1) := by decide +kernel
def w_X5_behindLetters (a0 : Int) (X : XT) (Q : Int → Prop) : Prop :=
  ∃ (I3 : Int → Int → Prop) (m4 : Int → Int → Nat), I3 a0 a0 ∧ ∀ (x1 : Int) (x2 : Int), I3 x1 x2 → R32 x2 ∧ R32 (X 33 4) ∧ ((X 33 4) ≤ x2 → Q x1) ∧ (¬ (X 33 4) ≤ x2 → w_X5_byteAt  x2 X (fun (v15 : Int) => w_X5_isLetter  v15 X (fun (v21 : Int) => R32 v21 ∧ (v21 = 0 → Q x1) ∧ (¬ v21 = 0 → I3 (x2 + 1) (x2 + 1) ∧ m4 (x2 + 1) (x2 + 1) < m4 x1 x2))))
set_option maxRecDepth 20000 in
theorem so_X5_behindLetters {n : Nat} {h : Nat → sE} {X : XT} {a0 : Int} {Q : Int → Prop} (hn : 115 ≤ n) (hp : Pic X h) (w : w_X5_behindLetters  a0 X Q) : Sp m_X5_behindLetters 1 0 0 [.ref 33, .int (iI a0)] n h (pIr n h Q) := by
  unfold w_X5_behindLetters at w
  refine Sp.ofV (by decide +kernel) (Nat.le_of_ble_eq_true rfl) ?_
  have hf : Fr h h := fun _ _ => rfl
  refine v_iload_n dX5_behindLetters_0 rfl ?_
  refine v_istore_n dX5_behindLetters_1 (Nat.le_of_ble_eq_true rfl) ?_
  refine v_iload_n dX5_behindLetters_2 rfl ?_
  refine v_istore_n dX5_behindLetters_3 (Nat.le_of_ble_eq_true rfl) ?_
  refine v_pick [2, 1, 0] rfl ?_
  obtain ⟨I3, m4, wi7, wl6⟩ := w
  have hL8 : ∀ (N11 : Nat) (x1 : Int) (x2 : Int), m4 x1 x2 < N11 → I3 x1 x2 → V (m_X5_behindLetters, 1, 0, 0, n, pIr n h Q, s_G0) 0 0 n h 4 [(0, .ref 33), (2, .int (iI x1)), (3, .int (iI x2))] [] := by
    intro N11
    induction N11 with
    | zero => intro x1 x2  hm9; exact absurd hm9 (Nat.not_lt_zero _)
    | succ N11 ih5 =>
      intro x1 x2  hm9 hI10
      have w := wl6 x1 x2 hI10
      refine v_iload_n dX5_behindLetters_4 rfl ?_
      refine v_aload_n dX5_behindLetters_5 rfl ?_
      refine v_get dX5_behindLetters_6 fl_X5_30 ((hp 33 (by decide)).trans (ent_33 _)) rfl (s_lt hn rfl) ?_
      obtain ⟨q12, q13, w⟩ := w
      refine v_icmp_geI (tgt := 33) dX5_behindLetters_9 (by decide) q12.1 q12.2 q13.1 q13.2 (fun c14 => ?_) (fun c14 => ?_)
      · replace w := w.1 c14
        refine v_iload_n dX5_behindLetters_33 rfl ?_
        exact v_iret dX5_behindLetters_34 rfl (Nat.zero_le _) (Nat.zero_le _) ⟨rfl, rfl, _, rfl, w⟩
      · replace w := w.2 c14
        refine v_aload_n dX5_behindLetters_12 rfl ?_
        refine v_iload_n dX5_behindLetters_13 rfl ?_
        refine v_callVIr dX5_behindLetters_14 ml_X5_91 (so_X5_byteAt hn hp  w) ((hp 33 (by decide)).trans (ent_33 _)) rfl (s_lt hn rfl) rfl rfl (Nat.le_of_ble_eq_true rfl) (Nat.le_of_ble_eq_true rfl) (Nat.zero_le _) (Nat.zero_le _) (fun v15 w => ?_)
        refine v_callSIr dX5_behindLetters_17 ml_X5_95 (so_X5_isLetter hn hp  w) rfl rfl (Nat.le_of_ble_eq_true rfl) (Nat.le_of_ble_eq_true rfl) (Nat.zero_le _) (Nat.zero_le _) (fun v21 w => ?_)
        obtain ⟨q27, w⟩ := w
        refine v_if_eqI (tgt := 33) dX5_behindLetters_20 (by decide) q27.1 q27.2 (fun c28 => ?_) (fun c28 => ?_)
        · replace w := w.1 c28
          refine v_iload_n dX5_behindLetters_33 rfl ?_
          exact v_iret dX5_behindLetters_34 rfl (Nat.zero_le _) (Nat.zero_le _) ⟨rfl, rfl, _, rfl, w⟩
        · replace w := w.2 c28
          refine v_iload_n dX5_behindLetters_23 rfl ?_
          refine v_iconstI dX5_behindLetters_24 ?_
          refine v_iaddI dX5_behindLetters_25 ?_
          refine v_istore_n dX5_behindLetters_26 (Nat.le_of_ble_eq_true rfl) ?_
          refine v_iincI dX5_behindLetters_27 rfl (Nat.le_of_ble_eq_true rfl) ?_
          refine v_goto (tgt := 4) dX5_behindLetters_30 (by decide) ?_
          refine v_pick [2, 1, 0] rfl ?_
          exact ih5 _ _ (Nat.lt_of_lt_of_le w.2 (Nat.le_of_lt_succ hm9)) w.1
  exact hL8 _ _ _ (Nat.lt_succ_self _) wi7
theorem dX5_isWordAt_0 : decode cX5_isWordAt 0 = .ok (.iload_n 1, 1) := by decide +kernel
theorem dX5_isWordAt_1 : decode cX5_isWordAt 1 = .ok (.istore 4, 2) := by decide +kernel
theorem dX5_isWordAt_3 : decode cX5_isWordAt 3 = .ok (.iload 4, 2) := by decide +kernel
theorem dX5_isWordAt_5 : decode cX5_isWordAt 5 = .ok (.iload_n 2, 1) := by decide +kernel
theorem dX5_isWordAt_6 : decode cX5_isWordAt 6 = .ok (.if_icmp .ge 31, 3) := by decide +kernel
theorem dX5_isWordAt_9 : decode cX5_isWordAt 9 = .ok (.ldc 122, 2) := by decide +kernel
theorem dX5_isWordAt_11 : decode cX5_isWordAt 11 = .ok (.iload 4, 2) := by decide +kernel
theorem dX5_isWordAt_13 : decode cX5_isWordAt 13 = .ok (.invokevirtual 128, 3) := by decide +kernel
theorem dX5_isWordAt_16 : decode cX5_isWordAt 16 = .ok (.aload_n 0, 1) := by decide +kernel
theorem dX5_isWordAt_17 : decode cX5_isWordAt 17 = .ok (.iload_n 3, 1) := by decide +kernel
theorem dX5_isWordAt_18 : decode cX5_isWordAt 18 = .ok (.iload 4, 2) := by decide +kernel
theorem dX5_isWordAt_20 : decode cX5_isWordAt 20 = .ok (.iadd, 1) := by decide +kernel
theorem dX5_isWordAt_21 : decode cX5_isWordAt 21 = .ok (.iload_n 1, 1) := by decide +kernel
theorem dX5_isWordAt_22 : decode cX5_isWordAt 22 = .ok (.isub, 1) := by decide +kernel
theorem dX5_isWordAt_23 : decode cX5_isWordAt 23 = .ok (.invokevirtual 91, 3) := by decide +kernel
theorem dX5_isWordAt_26 : decode cX5_isWordAt 26 = .ok (.if_icmp .eq 5, 3) := by decide +kernel
theorem dX5_isWordAt_29 : decode cX5_isWordAt 29 = .ok (.iconst 0, 1) := by decide +kernel
theorem dX5_isWordAt_30 : decode cX5_isWordAt 30 = .ok (.ireturn, 1) := by decide +kernel
theorem dX5_isWordAt_31 : decode cX5_isWordAt 31 = .ok (.iinc 4 1, 3) := by decide +kernel
theorem dX5_isWordAt_34 : decode cX5_isWordAt 34 = .ok (.goto (-31), 3) := by decide +kernel
theorem dX5_isWordAt_37 : decode cX5_isWordAt 37 = .ok (.iconst 1, 1) := by decide +kernel
theorem dX5_isWordAt_38 : decode cX5_isWordAt 38 = .ok (.ireturn, 1) := by decide +kernel
def w_X5_isWordAt (a0 a1 a2 : Int) (X : XT) (Q : Int → Prop) : Prop :=
  ∃ (I2 : Int → Prop) (m3 : Int → Nat), I2 a0 ∧ ∀ (x1 : Int), I2 x1 → R32 x1 ∧ R32 a1 ∧ (a1 ≤ x1 → Q 1) ∧ (¬ a1 ≤ x1 → (0 ≤ x1 ∧ x1 < 131) ∧ w_X5_byteAt  ((a2 + x1) - a0) X (fun (v15 : Int) => R32 (wcF x1) ∧ R32 v15 ∧ ((wcF x1) = v15 → I2 (x1 + 1) ∧ m3 (x1 + 1) < m3 x1) ∧ (¬ (wcF x1) = v15 → Q 0)))
set_option maxRecDepth 20000 in
theorem so_X5_isWordAt {n : Nat} {h : Nat → sE} {X : XT} {a0 a1 a2 : Int} {Q : Int → Prop} (hn : 115 ≤ n) (hp : Pic X h) (w : w_X5_isWordAt  a0 a1 a2 X Q) : Sp m_X5_isWordAt 4 0 0 [.ref 33, .int (iI a0), .int (iI a1), .int (iI a2)] n h (pIr n h Q) := by
  unfold w_X5_isWordAt at w
  refine Sp.ofV (by decide +kernel) (Nat.le_of_ble_eq_true rfl) ?_
  have hf : Fr h h := fun _ _ => rfl
  refine v_iload_n dX5_isWordAt_0 rfl ?_
  refine v_istore dX5_isWordAt_1 (Nat.le_of_ble_eq_true rfl) ?_
  refine v_pick [1, 2, 3, 4, 0] rfl ?_
  obtain ⟨I2, m3, wi6, wl5⟩ := w
  have hL7 : ∀ (N10 : Nat) (x1 : Int), m3 x1 < N10 → I2 x1 → V (m_X5_isWordAt, 4, 0, 0, n, pIr n h Q, s_G0) 0 0 n h 3 [(0, .ref 33), (1, .int (iI a0)), (2, .int (iI a1)), (3, .int (iI a2)), (4, .int (iI x1))] [] := by
    intro N10
    induction N10 with
    | zero => intro x1  hm8; exact absurd hm8 (Nat.not_lt_zero _)
    | succ N10 ih4 =>
      intro x1  hm8 hI9
      have w := wl5 x1 hI9
      refine v_iload dX5_isWordAt_3 rfl ?_
      refine v_iload_n dX5_isWordAt_5 rfl ?_
      obtain ⟨q11, q12, w⟩ := w
      refine v_icmp_geI (tgt := 37) dX5_isWordAt_6 (by decide) q11.1 q11.2 q12.1 q12.2 (fun c13 => ?_) (fun c13 => ?_)
      · replace w := w.1 c13
        refine v_iconstI dX5_isWordAt_37 ?_
        exact v_z1 dX5_isWordAt_38 rfl (Nat.zero_le _) (Nat.zero_le _) ⟨rfl, rfl, _, rfl, w⟩
      · replace w := w.2 c13
        obtain ⟨q14, w⟩ := w
        refine v_wchrI rfl dX5_isWordAt_9 dX5_isWordAt_11 dX5_isWordAt_13 rfl q14.1 q14.2 (Nat.le_of_ble_eq_true rfl) (Nat.le_of_ble_eq_true rfl) (Nat.zero_le _) (Nat.zero_le _) ?_
        refine v_aload_n dX5_isWordAt_16 rfl ?_
        refine v_iload_n dX5_isWordAt_17 rfl ?_
        refine v_iload dX5_isWordAt_18 rfl ?_
        refine v_iaddI dX5_isWordAt_20 ?_
        refine v_iload_n dX5_isWordAt_21 rfl ?_
        refine v_isubI dX5_isWordAt_22 ?_
        refine v_callVIr dX5_isWordAt_23 ml_X5_91 (so_X5_byteAt hn hp  w) ((hp 33 (by decide)).trans (ent_33 _)) rfl (s_lt hn rfl) rfl rfl (Nat.le_of_ble_eq_true rfl) (Nat.le_of_ble_eq_true rfl) (Nat.zero_le _) (Nat.zero_le _) (fun v15 w => ?_)
        obtain ⟨q21, q22, w⟩ := w
        refine v_icmp_eqI (tgt := 31) dX5_isWordAt_26 (by decide) q21.1 q21.2 q22.1 q22.2 (fun c23 => ?_) (fun c23 => ?_)
        · replace w := w.1 c23
          refine v_iincI dX5_isWordAt_31 rfl (Nat.le_of_ble_eq_true rfl) ?_
          refine v_goto (tgt := 3) dX5_isWordAt_34 (by decide) ?_
          refine v_pick [1, 2, 3, 4, 0] rfl ?_
          exact ih4 _ (Nat.lt_of_lt_of_le w.2 (Nat.le_of_lt_succ hm8)) w.1
        · replace w := w.2 c23
          refine v_iconstI dX5_isWordAt_29 ?_
          exact v_z0 dX5_isWordAt_30 rfl (Nat.zero_le _) (Nat.zero_le _) ⟨rfl, rfl, _, rfl, w⟩
  exact hL7 _ _ (Nat.lt_succ_self _) wi6
theorem dX5_wordOf_0 : decode cX5_wordOf 0 = .ok (.iconst 0, 1) := by decide +kernel
theorem dX5_wordOf_1 : decode cX5_wordOf 1 = .ok (.istore_n 3, 1) := by decide +kernel
theorem dX5_wordOf_2 : decode cX5_wordOf 2 = .ok (.iconst 0, 1) := by decide +kernel
theorem dX5_wordOf_3 : decode cX5_wordOf 3 = .ok (.istore 4, 2) := by decide +kernel
theorem dX5_wordOf_5 : decode cX5_wordOf 5 = .ok (.iconst 0, 1) := by decide +kernel
theorem dX5_wordOf_6 : decode cX5_wordOf 6 = .ok (.istore 5, 2) := by decide +kernel
theorem dX5_wordOf_8 : decode cX5_wordOf 8 = .ok (.iload 5, 2) := by decide +kernel
theorem dX5_wordOf_10 : decode cX5_wordOf 10 = .ok (.ldc 122, 2) := by decide +kernel
theorem dX5_wordOf_12 : decode cX5_wordOf 12 = .ok (.invokevirtual 124, 3) := by decide +kernel
theorem dX5_wordOf_15 : decode cX5_wordOf 15 = .ok (.if_icmp .ge 55, 3) := by decide +kernel
theorem dX5_wordOf_18 : decode cX5_wordOf 18 = .ok (.ldc 122, 2) := by decide +kernel
theorem dX5_wordOf_20 : decode cX5_wordOf 20 = .ok (.iload 5, 2) := by decide +kernel
theorem dX5_wordOf_22 : decode cX5_wordOf 22 = .ok (.invokevirtual 128, 3) := by decide +kernel
theorem dX5_wordOf_25 : decode cX5_wordOf 25 = .ok (.bipush 32, 2) := by decide +kernel
theorem dX5_wordOf_27 : decode cX5_wordOf 27 = .ok (.if_icmp .ne 37, 3) := by decide +kernel
theorem dX5_wordOf_30 : decode cX5_wordOf 30 = .ok (.iload 5, 2) := by decide +kernel
theorem dX5_wordOf_32 : decode cX5_wordOf 32 = .ok (.iload 4, 2) := by decide +kernel
theorem dX5_wordOf_34 : decode cX5_wordOf 34 = .ok (.isub, 1) := by decide +kernel
theorem dX5_wordOf_35 : decode cX5_wordOf 35 = .ok (.iload_n 2, 1) := by decide +kernel
theorem dX5_wordOf_36 : decode cX5_wordOf 36 = .ok (.iload_n 1, 1) := by decide +kernel
theorem dX5_wordOf_37 : decode cX5_wordOf 37 = .ok (.isub, 1) := by decide +kernel
theorem dX5_wordOf_38 : decode cX5_wordOf 38 = .ok (.if_icmp .ne 17, 3) := by decide +kernel
theorem dX5_wordOf_41 : decode cX5_wordOf 41 = .ok (.aload_n 0, 1) := by decide +kernel
theorem dX5_wordOf_42 : decode cX5_wordOf 42 = .ok (.iload 4, 2) := by decide +kernel
theorem dX5_wordOf_44 : decode cX5_wordOf 44 = .ok (.iload 5, 2) := by decide +kernel
theorem dX5_wordOf_46 : decode cX5_wordOf 46 = .ok (.iload_n 1, 1) := by decide +kernel
theorem dX5_wordOf_47 : decode cX5_wordOf 47 = .ok (.invokevirtual 132, 3) := by decide +kernel
theorem dX5_wordOf_50 : decode cX5_wordOf 50 = .ok (.ifCond .eq 5, 3) := by decide +kernel
theorem dX5_wordOf_53 : decode cX5_wordOf 53 = .ok (.iload_n 3, 1) := by decide +kernel
theorem dX5_wordOf_54 : decode cX5_wordOf 54 = .ok (.ireturn, 1) := by decide +kernel
theorem dX5_wordOf_55 : decode cX5_wordOf 55 = .ok (.iinc 3 1, 3) := by decide +kernel
theorem dX5_wordOf_58 : decode cX5_wordOf 58 = .ok (.iload 5, 2) := by decide +kernel
theorem dX5_wordOf_60 : decode cX5_wordOf 60 = .ok (.iconst 1, 1) := by decide +kernel
theorem dX5_wordOf_61 : decode cX5_wordOf 61 = .ok (.iadd, 1) := by decide +kernel
theorem dX5_wordOf_62 : decode cX5_wordOf 62 = .ok (.istore 4, 2) := by decide +kernel
theorem dX5_wordOf_64 : decode cX5_wordOf 64 = .ok (.iinc 5 1, 3) := by decide +kernel
theorem dX5_wordOf_67 : decode cX5_wordOf 67 = .ok (.goto (-59), 3) := by decide +kernel
theorem dX5_wordOf_70 : decode cX5_wordOf 70 = .ok (.bipush 28, 2) := by decide +kernel
theorem dX5_wordOf_72 : decode cX5_wordOf 72 = .ok (.ireturn, 1) := by decide +kernel
def w_X5_wordOf (a0 a1 : Int) (X : XT) (Q : Int → Prop) : Prop :=
  ∃ (I4 : Int → Int → Int → Prop) (m5 : Int → Int → Int → Nat), I4 0 0 0 ∧ ∀ (x1 : Int) (x2 : Int) (x3 : Int), I4 x1 x2 x3 → R32 x3 ∧ (131 ≤ x3 → Q 28) ∧ (¬ 131 ≤ x3 → (0 ≤ x3 ∧ x3 < 131) ∧ R32 (wcF x3) ∧ (¬ (wcF x3) = 32 → I4 x1 x2 (x3 + 1) ∧ m5 x1 x2 (x3 + 1) < m5 x1 x2 x3) ∧ ((wcF x3) = 32 → ∀ J18 : Prop, ((I4 (x1 + 1) (x3 + 1) (x3 + 1) ∧ m5 (x1 + 1) (x3 + 1) (x3 + 1) < m5 x1 x2 x3) → J18) → R32 (x3 - x2) ∧ R32 (a1 - a0) ∧ (¬ (x3 - x2) = (a1 - a0) → J18 ) ∧ ((x3 - x2) = (a1 - a0) → w_X5_isWordAt  x2 x3 a0 X (fun (v22 : Int) => R32 v22 ∧ (v22 = 0 → J18 ) ∧ (¬ v22 = 0 → Q x1)))))
set_option maxRecDepth 20000 in
theorem so_X5_wordOf {n : Nat} {h : Nat → sE} {X : XT} {a0 a1 : Int} {Q : Int → Prop} (hn : 115 ≤ n) (hp : Pic X h) (w : w_X5_wordOf  a0 a1 X Q) : Sp m_X5_wordOf 5 0 0 [.ref 33, .int (iI a0), .int (iI a1)] n h (pIr n h Q) := by
  unfold w_X5_wordOf at w
  refine Sp.ofV (by decide +kernel) (Nat.le_of_ble_eq_true rfl) ?_
  have hf : Fr h h := fun _ _ => rfl
  refine v_iconstI dX5_wordOf_0 ?_
  refine v_istore_n dX5_wordOf_1 (Nat.le_of_ble_eq_true rfl) ?_
  refine v_iconstI dX5_wordOf_2 ?_
  refine v_istore dX5_wordOf_3 (Nat.le_of_ble_eq_true rfl) ?_
  refine v_iconstI dX5_wordOf_5 ?_
  refine v_istore dX5_wordOf_6 (Nat.le_of_ble_eq_true rfl) ?_
  refine v_pick [3, 4, 5, 2, 1, 0] rfl ?_
  obtain ⟨I4, m5, wi8, wl7⟩ := w
  have hL9 : ∀ (N12 : Nat) (x1 : Int) (x2 : Int) (x3 : Int), m5 x1 x2 x3 < N12 → I4 x1 x2 x3 → V (m_X5_wordOf, 5, 0, 0, n, pIr n h Q, s_G0) 0 0 n h 8 [(0, .ref 33), (1, .int (iI a0)), (2, .int (iI a1)), (3, .int (iI x1)), (4, .int (iI x2)), (5, .int (iI x3))] [] := by
    intro N12
    induction N12 with
    | zero => intro x1 x2 x3  hm10; exact absurd hm10 (Nat.not_lt_zero _)
    | succ N12 ih6 =>
      intro x1 x2 x3  hm10 hI11
      have w := wl7 x1 x2 x3 hI11
      refine v_iload dX5_wordOf_8 rfl ?_
      refine v_wlenI rfl dX5_wordOf_10 dX5_wordOf_12 (Nat.le_of_ble_eq_true rfl) (Nat.le_of_ble_eq_true rfl) (Nat.zero_le _) (Nat.zero_le _) ?_
      obtain ⟨q13, w⟩ := w
      refine v_icmp_geI (tgt := 70) dX5_wordOf_15 (by decide) q13.1 q13.2 (by decide) (by decide) (fun c14 => ?_) (fun c14 => ?_)
      · replace w := w.1 c14
        refine v_bipushI dX5_wordOf_70 rfl ?_
        exact v_iret dX5_wordOf_72 rfl (Nat.zero_le _) (Nat.zero_le _) ⟨rfl, rfl, _, rfl, w⟩
      · replace w := w.2 c14
        obtain ⟨q15, w⟩ := w
        refine v_wchrI rfl dX5_wordOf_18 dX5_wordOf_20 dX5_wordOf_22 rfl q15.1 q15.2 (Nat.le_of_ble_eq_true rfl) (Nat.le_of_ble_eq_true rfl) (Nat.zero_le _) (Nat.zero_le _) ?_
        refine v_bipushI dX5_wordOf_25 rfl ?_
        obtain ⟨q16, w⟩ := w
        refine v_icmp_neI (tgt := 64) dX5_wordOf_27 (by decide) q16.1 q16.2 (by decide) (by decide) (fun c17 => ?_) (fun c17 => ?_)
        · replace w := w.1 c17
          refine v_iincI dX5_wordOf_64 rfl (Nat.le_of_ble_eq_true rfl) ?_
          refine v_goto (tgt := 8) dX5_wordOf_67 (by decide) ?_
          refine v_pick [1, 2, 3, 4, 5, 0] rfl ?_
          exact ih6 _ _ _ (Nat.lt_of_lt_of_le w.2 (Nat.le_of_lt_succ hm10)) w.1
        · replace w := w.2 c17
          refine v_iload dX5_wordOf_30 rfl ?_
          refine v_iload dX5_wordOf_32 rfl ?_
          refine v_isubI dX5_wordOf_34 ?_
          refine v_iload_n dX5_wordOf_35 rfl ?_
          refine v_iload_n dX5_wordOf_36 rfl ?_
          refine v_isubI dX5_wordOf_37 ?_
          replace w := w (V (m_X5_wordOf, 5, 0, 0, n, pIr n h Q, s_G0) 0 0 n h 55 [(0, .ref 33), (1, .int (iI a0)), (2, .int (iI a1)), (3, .int (iI x1)), (5, .int (iI x3))] []) (by
            intro  w
            refine v_iincI dX5_wordOf_55 rfl (Nat.le_of_ble_eq_true rfl) ?_
            refine v_iload dX5_wordOf_58 rfl ?_
            refine v_iconstI dX5_wordOf_60 ?_
            refine v_iaddI dX5_wordOf_61 ?_
            refine v_istore dX5_wordOf_62 (Nat.le_of_ble_eq_true rfl) ?_
            refine v_iincI dX5_wordOf_64 rfl (Nat.le_of_ble_eq_true rfl) ?_
            refine v_goto (tgt := 8) dX5_wordOf_67 (by decide) ?_
            refine v_pick [3, 4, 5, 2, 1, 0] rfl ?_
            exact ih6 _ _ _ (Nat.lt_of_lt_of_le w.2 (Nat.le_of_lt_succ hm10)) w.1
          )
          obtain ⟨q19, q20, w⟩ := w
          refine v_icmp_neI (tgt := 55) dX5_wordOf_38 (by decide) q19.1 q19.2 q20.1 q20.2 (fun c21 => ?_) (fun c21 => ?_)
          · replace w := w.1 c21
            refine v_pick [0, 1, 2, 3, 5] rfl ?_
            exact w
          · replace w := w.2 c21
            refine v_aload_n dX5_wordOf_41 rfl ?_
            refine v_iload dX5_wordOf_42 rfl ?_
            refine v_iload dX5_wordOf_44 rfl ?_
            refine v_iload_n dX5_wordOf_46 rfl ?_
            refine v_callVIr dX5_wordOf_47 ml_X5_132 (so_X5_isWordAt hn hp  w) ((hp 33 (by decide)).trans (ent_33 _)) rfl (s_lt hn rfl) rfl rfl (Nat.le_of_ble_eq_true rfl) (Nat.le_of_ble_eq_true rfl) (Nat.zero_le _) (Nat.zero_le _) (fun v22 w => ?_)
            obtain ⟨q28, w⟩ := w
            refine v_if_eqI (tgt := 55) dX5_wordOf_50 (by decide) q28.1 q28.2 (fun c29 => ?_) (fun c29 => ?_)
            · replace w := w.1 c29
              refine v_pick [0, 1, 2, 3, 5] rfl ?_
              exact w
            · replace w := w.2 c29
              refine v_iload_n dX5_wordOf_53 rfl ?_
              exact v_iret dX5_wordOf_54 rfl (Nat.zero_le _) (Nat.zero_le _) ⟨rfl, rfl, _, rfl, w⟩
  exact hL9 _ _ _ _ (Nat.lt_succ_self _) wi8
theorem dX5_addToken_0 : decode cX5_addToken 0 = .ok (.aload_n 0, 1) := by decide +kernel
theorem dX5_addToken_1 : decode cX5_addToken 1 = .ok (.getfield 34, 3) := by decide +kernel
theorem dX5_addToken_4 : decode cX5_addToken 4 = .ok (.aload_n 0, 1) := by decide +kernel
theorem dX5_addToken_5 : decode cX5_addToken 5 = .ok (.getfield 15, 3) := by decide +kernel
theorem dX5_addToken_8 : decode cX5_addToken 8 = .ok (.arraylength, 1) := by decide +kernel
theorem dX5_addToken_9 : decode cX5_addToken 9 = .ok (.if_icmp .ge 33, 3) := by decide +kernel
theorem dX5_addToken_12 : decode cX5_addToken 12 = .ok (.aload_n 0, 1) := by decide +kernel
theorem dX5_addToken_13 : decode cX5_addToken 13 = .ok (.getfield 15, 3) := by decide +kernel
theorem dX5_addToken_16 : decode cX5_addToken 16 = .ok (.aload_n 0, 1) := by decide +kernel
theorem dX5_addToken_17 : decode cX5_addToken 17 = .ok (.getfield 34, 3) := by decide +kernel
theorem dX5_addToken_20 : decode cX5_addToken 20 = .ok (.iload_n 1, 1) := by decide +kernel
theorem dX5_addToken_21 : decode cX5_addToken 21 = .ok (.iastore, 1) := by decide +kernel
theorem dX5_addToken_22 : decode cX5_addToken 22 = .ok (.aload_n 0, 1) := by decide +kernel
theorem dX5_addToken_23 : decode cX5_addToken 23 = .ok (.getfield 18, 3) := by decide +kernel
theorem dX5_addToken_26 : decode cX5_addToken 26 = .ok (.aload_n 0, 1) := by decide +kernel
theorem dX5_addToken_27 : decode cX5_addToken 27 = .ok (.getfield 34, 3) := by decide +kernel
theorem dX5_addToken_30 : decode cX5_addToken 30 = .ok (.iload_n 2, 1) := by decide +kernel
theorem dX5_addToken_31 : decode cX5_addToken 31 = .ok (.iastore, 1) := by decide +kernel
theorem dX5_addToken_32 : decode cX5_addToken 32 = .ok (.aload_n 0, 1) := by decide +kernel
theorem dX5_addToken_33 : decode cX5_addToken 33 = .ok (.dup, 1) := by decide +kernel
theorem dX5_addToken_34 : decode cX5_addToken 34 = .ok (.getfield 34, 3) := by decide +kernel
theorem dX5_addToken_37 : decode cX5_addToken 37 = .ok (.iconst 1, 1) := by decide +kernel
theorem dX5_addToken_38 : decode cX5_addToken 38 = .ok (.iadd, 1) := by decide +kernel
theorem dX5_addToken_39 : decode cX5_addToken 39 = .ok (.putfield 34, 3) := by decide +kernel
theorem dX5_addToken_42 : decode cX5_addToken 42 = .ok (.return_, 1) := by decide +kernel
def w_X5_addToken (a0 a1 : Int) (X : XT) (Q : XT → Prop) : Prop :=
  R32 (X 33 5) ∧ (401 ≤ (X 33 5) → Q X) ∧ (¬ 401 ≤ (X 33 5) → (0 ≤ (X 33 5) ∧ (X 33 5) < 401) ∧ (0 ≤ ((x_st X 35 (X 33 5) a0) 33 5) ∧ ((x_st X 35 (X 33 5) a0) 33 5) < 401) ∧ Q (x_st (x_st (x_st X 35 (X 33 5) a0) 36 ((x_st X 35 (X 33 5) a0) 33 5) a1) 33 5 (((x_st (x_st X 35 (X 33 5) a0) 36 ((x_st X 35 (X 33 5) a0) 33 5) a1) 33 5) + 1)))
set_option maxRecDepth 20000 in
theorem so_X5_addToken {n : Nat} {h : Nat → sE} {X : XT} {a0 a1 : Int} {Q : XT → Prop} (hn : 115 ≤ n) (hp : Pic X h) (w : w_X5_addToken  a0 a1 X Q) : Sp m_X5_addToken 0 0 0 [.ref 33, .int (iI a0), .int (iI a1)] n h (pVw n h Q) := by
  unfold w_X5_addToken at w
  refine Sp.ofV (by decide +kernel) (Nat.le_of_ble_eq_true rfl) ?_
  have hf : Fr h h := fun _ _ => rfl
  refine v_aload_n dX5_addToken_0 rfl ?_
  refine v_get dX5_addToken_1 fl_X5_34 ((hp 33 (by decide)).trans (ent_33 _)) rfl (s_lt hn rfl) ?_
  refine v_aload_n dX5_addToken_4 rfl ?_
  refine v_get dX5_addToken_5 fl_X5_15 ((hp 33 (by decide)).trans (ent_33 _)) rfl (s_lt hn rfl) ?_
  refine v_alen_aI dX5_addToken_8 ((hp 35 (by decide)).trans (ent_35 _)) (s_lt hn rfl) ?_
  obtain ⟨q1, w⟩ := w
  refine v_icmp_geI (tgt := 42) dX5_addToken_9 (by decide) q1.1 q1.2 (by decide) (by decide) (fun c2 => ?_) (fun c2 => ?_)
  · replace w := w.1 c2
    exact v_vret dX5_addToken_42 rfl (Nat.zero_le _) (Nat.zero_le _) ⟨rfl, hf, _, rfl, hp, w⟩
  · replace w := w.2 c2
    refine v_aload_n dX5_addToken_12 rfl ?_
    refine v_get dX5_addToken_13 fl_X5_15 ((hp 33 (by decide)).trans (ent_33 _)) rfl (s_lt hn rfl) ?_
    refine v_aload_n dX5_addToken_16 rfl ?_
    refine v_get dX5_addToken_17 fl_X5_34 ((hp 33 (by decide)).trans (ent_33 _)) rfl (s_lt hn rfl) ?_
    refine v_iload_n dX5_addToken_20 rfl ?_
    obtain ⟨q3, w⟩ := w
    refine v_iastI dX5_addToken_21 ((hp 35 (by decide)).trans (ent_35 _)) (s_lt hn rfl) q3.1 q3.2 (ix_le q3.2 (by decide)) (fun h4 E5 F6 => ?_)
    have hp7 := pic_st hp (show h4 35 = ent 35 (uI _ (X 33 5) a0) from E5) F6
    have hf8 := Fr.up (c := 35) hf F6 rfl
    refine v_aload_n dX5_addToken_22 rfl ?_
    refine v_get dX5_addToken_23 fl_X5_18 ((hp7 33 (by decide)).trans (ent_33 _)) rfl (s_lt hn rfl) ?_
    refine v_aload_n dX5_addToken_26 rfl ?_
    refine v_get dX5_addToken_27 fl_X5_34 ((hp7 33 (by decide)).trans (ent_33 _)) rfl (s_lt hn rfl) ?_
    refine v_iload_n dX5_addToken_30 rfl ?_
    obtain ⟨q9, w⟩ := w
    refine v_iastI dX5_addToken_31 ((hp7 36 (by decide)).trans (ent_36 _)) (s_lt hn rfl) q9.1 q9.2 (ix_le q9.2 (by decide)) (fun h10 E11 F12 => ?_)
    have hp13 := pic_st hp7 (show h10 36 = ent 36 (uI _ ((x_st X 35 (X 33 5) a0) 33 5) a1) from E11) F12
    have hf14 := Fr.up (c := 36) hf8 F12 rfl
    refine v_aload_n dX5_addToken_32 rfl ?_
    refine v_dup dX5_addToken_33 rfl ?_
    refine v_get dX5_addToken_34 fl_X5_34 ((hp13 33 (by decide)).trans (ent_33 _)) rfl (s_lt hn rfl) ?_
    refine v_iconstI dX5_addToken_37 ?_
    refine v_iaddI dX5_addToken_38 ?_
    refine v_put dX5_addToken_39 fl_X5_34 ((hp13 33 (by decide)).trans (ent_33 _)) (s_lt hn rfl) (Nat.le_of_ble_eq_true rfl) (fun _ => ⟨rfl, rfl⟩) trivial (fun h15 E16 F17 => ?_)
    have hp18 := pic_st hp13 (show h15 33 = ent 33 (uI _ 5 (((x_st (x_st X 35 (X 33 5) a0) 36 ((x_st X 35 (X 33 5) a0) 33 5) a1) 33 5) + 1)) from E16) F17
    have hf19 := Fr.up (c := 33) hf14 F17 rfl
    exact v_vret dX5_addToken_42 rfl (Nat.zero_le _) (Nat.zero_le _) ⟨rfl, hf19, _, rfl, hp18, w⟩
theorem dX5_isDigit_0 : decode cX5_isDigit 0 = .ok (.iload_n 0, 1) := by decide +kernel
theorem dX5_isDigit_1 : decode cX5_isDigit 1 = .ok (.bipush 48, 2) := by decide +kernel
theorem dX5_isDigit_3 : decode cX5_isDigit 3 = .ok (.if_icmp .lt 13, 3) := by decide +kernel
theorem dX5_isDigit_6 : decode cX5_isDigit 6 = .ok (.iload_n 0, 1) := by decide +kernel
theorem dX5_isDigit_7 : decode cX5_isDigit 7 = .ok (.bipush 57, 2) := by decide +kernel
theorem dX5_isDigit_9 : decode cX5_isDigit 9 = .ok (.if_icmp .gt 7, 3) := by decide +kernel
theorem dX5_isDigit_12 : decode cX5_isDigit 12 = .ok (.iconst 1, 1) := by decide +kernel
theorem dX5_isDigit_13 : decode cX5_isDigit 13 = .ok (.goto 4, 3) := by decide +kernel
theorem dX5_isDigit_16 : decode cX5_isDigit 16 = .ok (.iconst 0, 1) := by decide +kernel
theorem dX5_isDigit_17 : decode cX5_isDigit 17 = .ok (.ireturn, 1) := by decide +kernel
def w_X5_isDigit (a0 : Int) (X : XT) (Q : Int → Prop) : Prop :=
  R32 a0 ∧ (a0 < 48 → Q 0) ∧ (¬ a0 < 48 → (57 < a0 → Q 0) ∧ (¬ 57 < a0 → Q 1))
set_option maxRecDepth 20000 in
theorem so_X5_isDigit {n : Nat} {h : Nat → sE} {X : XT} {a0 : Int} {Q : Int → Prop} (hn : 115 ≤ n) (hp : Pic X h) (w : w_X5_isDigit  a0 X Q) : Sp m_X5_isDigit 0 0 0 [.int (iI a0)] n h (pIr n h Q) := by
  unfold w_X5_isDigit at w
  refine Sp.ofV (by decide +kernel) (Nat.le_of_ble_eq_true rfl) ?_
  have hf : Fr h h := fun _ _ => rfl
  refine v_iload_n dX5_isDigit_0 rfl ?_
  refine v_bipushI dX5_isDigit_1 rfl ?_
  obtain ⟨q1, w⟩ := w
  refine v_icmp_ltI (tgt := 16) dX5_isDigit_3 (by decide) q1.1 q1.2 (by decide) (by decide) (fun c2 => ?_) (fun c2 => ?_)
  · replace w := w.1 c2
    refine v_iconstI dX5_isDigit_16 ?_
    exact v_z0 dX5_isDigit_17 rfl (Nat.zero_le _) (Nat.zero_le _) ⟨rfl, rfl, _, rfl, w⟩
  · replace w := w.2 c2
    refine v_iload_n dX5_isDigit_6 rfl ?_
    refine v_bipushI dX5_isDigit_7 rfl ?_
    refine v_icmp_gtI (tgt := 16) dX5_isDigit_9 (by decide) q1.1 q1.2 (by decide) (by decide) (fun c3 => ?_) (fun c3 => ?_)
    · replace w := w.1 c3
      refine v_iconstI dX5_isDigit_16 ?_
      exact v_z0 dX5_isDigit_17 rfl (Nat.zero_le _) (Nat.zero_le _) ⟨rfl, rfl, _, rfl, w⟩
    · replace w := w.2 c3
      refine v_iconstI dX5_isDigit_12 ?_
      refine v_goto (tgt := 17) dX5_isDigit_13 (by decide) ?_
      exact v_z1 dX5_isDigit_17 rfl (Nat.zero_le _) (Nat.zero_le _) ⟨rfl, rfl, _, rfl, w⟩
theorem dX5_behindDigits_0 : decode cX5_behindDigits 0 = .ok (.iload_n 1, 1) := by decide +kernel
theorem dX5_behindDigits_1 : decode cX5_behindDigits 1 = .ok (.istore_n 2, 1) := by decide +kernel
theorem dX5_behindDigits_2 : decode cX5_behindDigits 2 = .ok (.iload_n 1, 1) := by decide +kernel
theorem dX5_behindDigits_3 : decode cX5_behindDigits 3 = .ok (.istore_n 3, 1) := by decide +kernel
theorem dX5_behindDigits_4 : decode cX5_behindDigits 4 = .ok (.iload_n 3, 1) := by decide +kernel
theorem dX5_behindDigits_5 : decode cX5_behindDigits 5 = .ok (.aload_n 0, 1) := by decide +kernel
theorem dX5_behindDigits_6 : decode cX5_behindDigits 6 = .ok (.getfield 30, 3) := by decide +kernel
theorem dX5_behindDigits_9 : decode cX5_behindDigits 9 = .ok (.if_icmp .ge 24, 3) := by decide +kernel
theorem dX5_behindDigits_12 : decode cX5_behindDigits 12 = .ok (.aload_n 0, 1) := by decide +kernel
theorem dX5_behindDigits_13 : decode cX5_behindDigits 13 = .ok (.iload_n 3, 1) := by decide +kernel
theorem dX5_behindDigits_14 : decode cX5_behindDigits 14 = .ok (.invokevirtual 91, 3) := by decide +kernel
theorem dX5_behindDigits_17 : decode cX5_behindDigits 17 = .ok (.invokestatic 108, 3) := by decide +kernel
theorem dX5_behindDigits_20 : decode cX5_behindDigits 20 = .ok (.ifCond .eq 13, 3) := by decide +kernel
theorem dX5_behindDigits_23 : decode cX5_behindDigits 23 = .ok (.iload_n 3, 1) := by decide +kernel
theorem dX5_behindDigits_24 : decode cX5_behindDigits 24 = .ok (.iconst 1, 1) := by decide +kernel
theorem dX5_behindDigits_25 : decode cX5_behindDigits 25 = .ok (.iadd, 1) := by decide +kernel
theorem dX5_behindDigits_26 : decode cX5_behindDigits 26 = .ok (.istore_n 2, 1) := by decide +kernel
theorem dX5_behindDigits_27 : decode cX5_behindDigits 27 = .ok (.iinc 3 1, 3) := by decide +kernel
theorem dX5_behindDigits_30 : decode cX5_behindDigits 30 = .ok (.goto (-26), 3) := by decide +kernel
theorem dX5_behindDigits_33 : decode cX5_behindDigits 33 = .ok (.iload_n 2, 1) := by decide +kernel
theorem dX5_behindDigits_34 : decode cX5_behindDigits 34 = .ok (.ireturn, 1) := by decide +kernel
def w_X5_behindDigits (a0 : Int) (X : XT) (Q : Int → Prop) : Prop :=
  ∃ (I3 : Int → Int → Prop) (m4 : Int → Int → Nat), I3 a0 a0 ∧ ∀ (x1 : Int) (x2 : Int), I3 x1 x2 → R32 x2 ∧ R32 (X 33 4) ∧ ((X 33 4) ≤ x2 → Q x1) ∧ (¬ (X 33 4) ≤ x2 → w_X5_byteAt  x2 X (fun (v15 : Int) => w_X5_isDigit  v15 X (fun (v21 : Int) => R32 v21 ∧ (v21 = 0 → Q x1) ∧ (¬ v21 = 0 → I3 (x2 + 1) (x2 + 1) ∧ m4 (x2 + 1) (x2 + 1) < m4 x1 x2))))
set_option maxRecDepth 20000 in
theorem so_X5_behindDigits {n : Nat} {h : Nat → sE} {X : XT} {a0 : Int} {Q : Int → Prop} (hn : 115 ≤ n) (hp : Pic X h) (w : w_X5_behindDigits  a0 X Q) : Sp m_X5_behindDigits 1 0 0 [.ref 33, .int (iI a0)] n h (pIr n h Q) := by
  unfold w_X5_behindDigits at w
  refine Sp.ofV (by decide +kernel) (Nat.le_of_ble_eq_true rfl) ?_
  have hf : Fr h h := fun _ _ => rfl
  refine v_iload_n dX5_behindDigits_0 rfl ?_
  refine v_istore_n dX5_behindDigits_1 (Nat.le_of_ble_eq_true rfl) ?_
  refine v_iload_n dX5_behindDigits_2 rfl ?_
  refine v_istore_n dX5_behindDigits_3 (Nat.le_of_ble_eq_true rfl) ?_
  refine v_pick [2, 1, 0] rfl ?_
  obtain ⟨I3, m4, wi7, wl6⟩ := w
  have hL8 : ∀ (N11 : Nat) (x1 : Int) (x2 : Int), m4 x1 x2 < N11 → I3 x1 x2 → V (m_X5_behindDigits, 1, 0, 0, n, pIr n h Q, s_G0) 0 0 n h 4 [(0, .ref 33), (2, .int (iI x1)), (3, .int (iI x2))] [] := by
    intro N11
    induction N11 with
    | zero => intro x1 x2  hm9; exact absurd hm9 (Nat.not_lt_zero _)
    | succ N11 ih5 =>
      intro x1 x2  hm9 hI10
      have w := wl6 x1 x2 hI10
      refine v_iload_n dX5_behindDigits_4 rfl ?_
      refine v_aload_n dX5_behindDigits_5 rfl ?_
      refine v_get dX5_behindDigits_6 fl_X5_30 ((hp 33 (by decide)).trans (ent_33 _)) rfl (s_lt hn rfl) ?_
      obtain ⟨q12, q13, w⟩ := w
      refine v_icmp_geI (tgt := 33) dX5_behindDigits_9 (by decide) q12.1 q12.2 q13.1 q13.2 (fun c14 => ?_) (fun c14 => ?_)
      · replace w := w.1 c14
        refine v_iload_n dX5_behindDigits_33 rfl ?_
        exact v_iret dX5_behindDigits_34 rfl (Nat.zero_le _) (Nat.zero_le _) ⟨rfl, rfl, _, rfl, w⟩
      · replace w := w.2 c14
        refine v_aload_n dX5_behindDigits_12 rfl ?_
        refine v_iload_n dX5_behindDigits_13 rfl ?_
        refine v_callVIr dX5_behindDigits_14 ml_X5_91 (so_X5_byteAt hn hp  w) ((hp 33 (by decide)).trans (ent_33 _)) rfl (s_lt hn rfl) rfl rfl (Nat.le_of_ble_eq_true rfl) (Nat.le_of_ble_eq_true rfl) (Nat.zero_le _) (Nat.zero_le _) (fun v15 w => ?_)
        refine v_callSIr dX5_behindDigits_17 ml_X5_108 (so_X5_isDigit hn hp  w) rfl rfl (Nat.le_of_ble_eq_true rfl) (Nat.le_of_ble_eq_true rfl) (Nat.zero_le _) (Nat.zero_le _) (fun v21 w => ?_)
        obtain ⟨q27, w⟩ := w
        refine v_if_eqI (tgt := 33) dX5_behindDigits_20 (by decide) q27.1 q27.2 (fun c28 => ?_) (fun c28 => ?_)
        · replace w := w.1 c28
          refine v_iload_n dX5_behindDigits_33 rfl ?_
          exact v_iret dX5_behindDigits_34 rfl (Nat.zero_le _) (Nat.zero_le _) ⟨rfl, rfl, _, rfl, w⟩
        · replace w := w.2 c28
          refine v_iload_n dX5_behindDigits_23 rfl ?_
          refine v_iconstI dX5_behindDigits_24 ?_
          refine v_iaddI dX5_behindDigits_25 ?_
          refine v_istore_n dX5_behindDigits_26 (Nat.le_of_ble_eq_true rfl) ?_
          refine v_iincI dX5_behindDigits_27 rfl (Nat.le_of_ble_eq_true rfl) ?_
          refine v_goto (tgt := 4) dX5_behindDigits_30 (by decide) ?_
          refine v_pick [2, 1, 0] rfl ?_
          exact ih5 _ _ (Nat.lt_of_lt_of_le w.2 (Nat.le_of_lt_succ hm9)) w.1
  exact hL8 _ _ _ (Nat.lt_succ_self _) wi7
theorem dX5_numberOf_0 : decode cX5_numberOf 0 = .ok (.iconst 0, 1) := by decide +kernel
theorem dX5_numberOf_1 : decode cX5_numberOf 1 = .ok (.istore_n 3, 1) := by decide +kernel
theorem dX5_numberOf_2 : decode cX5_numberOf 2 = .ok (.iload_n 1, 1) := by decide +kernel
theorem dX5_numberOf_3 : decode cX5_numberOf 3 = .ok (.istore 4, 2) := by decide +kernel
theorem dX5_numberOf_5 : decode cX5_numberOf 5 = .ok (.iload 4, 2) := by decide +kernel
theorem dX5_numberOf_7 : decode cX5_numberOf 7 = .ok (.iload_n 2, 1) := by decide +kernel
theorem dX5_numberOf_8 : decode cX5_numberOf 8 = .ok (.if_icmp .ge 30, 3) := by decide +kernel
theorem dX5_numberOf_11 : decode cX5_numberOf 11 = .ok (.sipush 1001, 3) := by decide +kernel
theorem dX5_numberOf_14 : decode cX5_numberOf 14 = .ok (.bipush 10, 2) := by decide +kernel
theorem dX5_numberOf_16 : decode cX5_numberOf 16 = .ok (.iload_n 3, 1) := by decide +kernel
theorem dX5_numberOf_17 : decode cX5_numberOf 17 = .ok (.imul, 1) := by decide +kernel
theorem dX5_numberOf_18 : decode cX5_numberOf 18 = .ok (.aload_n 0, 1) := by decide +kernel
theorem dX5_numberOf_19 : decode cX5_numberOf 19 = .ok (.iload 4, 2) := by decide +kernel
theorem dX5_numberOf_21 : decode cX5_numberOf 21 = .ok (.invokevirtual 91, 3) := by decide +kernel
theorem dX5_numberOf_24 : decode cX5_numberOf 24 = .ok (.iadd, 1) := by decide +kernel
theorem dX5_numberOf_25 : decode cX5_numberOf 25 = .ok (.bipush 48, 2) := by decide +kernel
theorem dX5_numberOf_27 : decode cX5_numberOf 27 = .ok (.isub, 1) := by decide +kernel
theorem dX5_numberOf_28 : decode cX5_numberOf 28 = .ok (.invokestatic 117, 3) := by decide +kernel
theorem dX5_numberOf_31 : decode cX5_numberOf 31 = .ok (.istore_n 3, 1) := by decide +kernel
theorem dX5_numberOf_32 : decode cX5_numberOf 32 = .ok (.iinc 4 1, 3) := by decide +kernel
theorem dX5_numberOf_35 : decode cX5_numberOf 35 = .ok (.goto (-30), 3) := by decide +kernel
theorem dX5_numberOf_38 : decode cX5_numberOf 38 = .ok (.iload_n 3, 1) := by decide +kernel
theorem dX5_numberOf_39 : decode cX5_numberOf 39 = .ok (.ireturn, 1) := by decide +kernel
def w_X5_numberOf (a0 a1 : Int) (X : XT) (Q : Int → Prop) : Prop :=
  ∃ (I3 : Int → Int → Prop) (m4 : Int → Int → Nat), I3 0 a0 ∧ ∀ (x1 : Int) (x2 : Int), I3 x1 x2 → R32 x2 ∧ R32 a1 ∧ (a1 ≤ x2 → Q x1) ∧ (¬ a1 ≤ x2 → w_X5_byteAt  x2 X (fun (v15 : Int) => R32 (((10 * x1) + v15) - 48) ∧ I3 (min 1001 (((10 * x1) + v15) - 48)) (x2 + 1) ∧ m4 (min 1001 (((10 * x1) + v15) - 48)) (x2 + 1) < m4 x1 x2))
set_option maxRecDepth 20000 in
theorem so_X5_numberOf {n : Nat} {h : Nat → sE} {X : XT} {a0 a1 : Int} {Q : Int → Prop} (hn : 115 ≤ n) (hp : Pic X h) (w : w_X5_numberOf  a0 a1 X Q) : Sp m_X5_numberOf 1 0 0 [.ref 33, .int (iI a0), .int (iI a1)] n h (pIr n h Q) := by
  unfold w_X5_numberOf at w
  refine Sp.ofV (by decide +kernel) (Nat.le_of_ble_eq_true rfl) ?_
  have hf : Fr h h := fun _ _ => rfl
  refine v_iconstI dX5_numberOf_0 ?_
  refine v_istore_n dX5_numberOf_1 (Nat.le_of_ble_eq_true rfl) ?_
  refine v_iload_n dX5_numberOf_2 rfl ?_
  refine v_istore dX5_numberOf_3 (Nat.le_of_ble_eq_true rfl) ?_
  refine v_pick [2, 4, 1, 0] rfl ?_
  obtain ⟨I3, m4, wi7, wl6⟩ := w
  have hL8 : ∀ (N11 : Nat) (x1 : Int) (x2 : Int), m4 x1 x2 < N11 → I3 x1 x2 → V (m_X5_numberOf, 1, 0, 0, n, pIr n h Q, s_G0) 0 0 n h 5 [(0, .ref 33), (2, .int (iI a1)), (3, .int (iI x1)), (4, .int (iI x2))] [] := by
    intro N11
    induction N11 with
    | zero => intro x1 x2  hm9; exact absurd hm9 (Nat.not_lt_zero _)
    | succ N11 ih5 =>
      intro x1 x2  hm9 hI10
      have w := wl6 x1 x2 hI10
      refine v_iload dX5_numberOf_5 rfl ?_
      refine v_iload_n dX5_numberOf_7 rfl ?_
      obtain ⟨q12, q13, w⟩ := w
      refine v_icmp_geI (tgt := 38) dX5_numberOf_8 (by decide) q12.1 q12.2 q13.1 q13.2 (fun c14 => ?_) (fun c14 => ?_)
      · replace w := w.1 c14
        refine v_iload_n dX5_numberOf_38 rfl ?_
        exact v_iret dX5_numberOf_39 rfl (Nat.zero_le _) (Nat.zero_le _) ⟨rfl, rfl, _, rfl, w⟩
      · replace w := w.2 c14
        refine v_sipushI dX5_numberOf_11 rfl ?_
        refine v_bipushI dX5_numberOf_14 rfl ?_
        refine v_iload_n dX5_numberOf_16 rfl ?_
        refine v_imulI dX5_numberOf_17 ?_
        refine v_aload_n dX5_numberOf_18 rfl ?_
        refine v_iload dX5_numberOf_19 rfl ?_
        refine v_callVIr dX5_numberOf_21 ml_X5_91 (so_X5_byteAt hn hp  w) ((hp 33 (by decide)).trans (ent_33 _)) rfl (s_lt hn rfl) rfl rfl (Nat.le_of_ble_eq_true rfl) (Nat.le_of_ble_eq_true rfl) (Nat.zero_le _) (Nat.zero_le _) (fun v15 w => ?_)
        refine v_iaddI dX5_numberOf_24 ?_
        refine v_bipushI dX5_numberOf_25 rfl ?_
        refine v_isubI dX5_numberOf_27 ?_
        obtain ⟨q21, w⟩ := w
        refine v_minI dX5_numberOf_28 ml_X5_117 (Nat.le_of_ble_eq_true rfl) (Nat.le_of_ble_eq_true rfl) (Nat.zero_le _) (Nat.zero_le _) (by decide) (by decide) q21.1 q21.2 ?_
        refine v_istore_n dX5_numberOf_31 (Nat.le_of_ble_eq_true rfl) ?_
        refine v_iincI dX5_numberOf_32 rfl (Nat.le_of_ble_eq_true rfl) ?_
        refine v_goto (tgt := 5) dX5_numberOf_35 (by decide) ?_
        refine v_pick [2, 3, 1, 0] rfl ?_
        exact ih5 _ _ (Nat.lt_of_lt_of_le w.2 (Nat.le_of_lt_succ hm9)) w.1
  exact hL8 _ _ _ (Nat.lt_succ_self _) wi7
theorem dX5_split_0 : decode cX5_split 0 = .ok (.aload_n 0, 1) := by decide +kernel
theorem dX5_split_1 : decode cX5_split 1 = .ok (.iconst 0, 1) := by decide +kernel
theorem dX5_split_2 : decode cX5_split 2 = .ok (.putfield 34, 3) := by decide +kernel
theorem dX5_split_5 : decode cX5_split 5 = .ok (.iconst 0, 1) := by decide +kernel
theorem dX5_split_6 : decode cX5_split 6 = .ok (.istore_n 1, 1) := by decide +kernel
theorem dX5_split_7 : decode cX5_split 7 = .ok (.iconst 0, 1) := by decide +kernel
theorem dX5_split_8 : decode cX5_split 8 = .ok (.istore_n 2, 1) := by decide +kernel
theorem dX5_split_9 : decode cX5_split 9 = .ok (.iload_n 2, 1) := by decide +kernel
theorem dX5_split_10 : decode cX5_split 10 = .ok (.sipush 400, 3) := by decide +kernel
theorem dX5_split_13 : decode cX5_split 13 = .ok (.if_icmp .ge 109, 3) := by decide +kernel
theorem dX5_split_16 : decode cX5_split 16 = .ok (.iload_n 1, 1) := by decide +kernel
theorem dX5_split_17 : decode cX5_split 17 = .ok (.aload_n 0, 1) := by decide +kernel
theorem dX5_split_18 : decode cX5_split 18 = .ok (.getfield 30, 3) := by decide +kernel
theorem dX5_split_21 : decode cX5_split 21 = .ok (.if_icmp .ge 101, 3) := by decide +kernel
theorem dX5_split_24 : decode cX5_split 24 = .ok (.aload_n 0, 1) := by decide +kernel
theorem dX5_split_25 : decode cX5_split 25 = .ok (.iload_n 1, 1) := by decide +kernel
theorem dX5_split_26 : decode cX5_split 26 = .ok (.invokevirtual 91, 3) := by decide +kernel
theorem dX5_split_29 : decode cX5_split 29 = .ok (.istore_n 3, 1) := by decide +kernel
theorem dX5_split_30 : decode cX5_split 30 = .ok (.iload_n 1, 1) := by decide +kernel
theorem dX5_split_31 : decode cX5_split 31 = .ok (.iconst 1, 1) := by decide +kernel
theorem dX5_split_32 : decode cX5_split 32 = .ok (.iadd, 1) := by decide +kernel
theorem dX5_split_33 : decode cX5_split 33 = .ok (.istore 4, 2) := by decide +kernel
theorem dX5_split_35 : decode cX5_split 35 = .ok (.iload_n 3, 1) := by decide +kernel
theorem dX5_split_36 : decode cX5_split 36 = .ok (.invokestatic 95, 3) := by decide +kernel
theorem dX5_split_39 : decode cX5_split 39 = .ok (.ifCond .eq 25, 3) := by decide +kernel
theorem dX5_split_42 : decode cX5_split 42 = .ok (.aload_n 0, 1) := by decide +kernel
theorem dX5_split_43 : decode cX5_split 43 = .ok (.iload_n 1, 1) := by decide +kernel
theorem dX5_split_44 : decode cX5_split 44 = .ok (.invokevirtual 98, 3) := by decide +kernel
theorem dX5_split_47 : decode cX5_split 47 = .ok (.istore 4, 2) := by decide +kernel
theorem dX5_split_49 : decode cX5_split 49 = .ok (.aload_n 0, 1) := by decide +kernel
theorem dX5_split_50 : decode cX5_split 50 = .ok (.aload_n 0, 1) := by decide +kernel
theorem dX5_split_51 : decode cX5_split 51 = .ok (.iload_n 1, 1) := by decide +kernel
theorem dX5_split_52 : decode cX5_split 52 = .ok (.iload 4, 2) := by decide +kernel
theorem dX5_split_54 : decode cX5_split 54 = .ok (.invokevirtual 101, 3) := by decide +kernel
theorem dX5_split_57 : decode cX5_split 57 = .ok (.iload_n 1, 1) := by decide +kernel
theorem dX5_split_58 : decode cX5_split 58 = .ok (.invokevirtual 105, 3) := by decide +kernel
theorem dX5_split_61 : decode cX5_split 61 = .ok (.goto 52, 3) := by decide +kernel
theorem dX5_split_64 : decode cX5_split 64 = .ok (.iload_n 3, 1) := by decide +kernel
theorem dX5_split_65 : decode cX5_split 65 = .ok (.invokestatic 108, 3) := by decide +kernel
theorem dX5_split_68 : decode cX5_split 68 = .ok (.ifCond .eq 29, 3) := by decide +kernel
theorem dX5_split_71 : decode cX5_split 71 = .ok (.aload_n 0, 1) := by decide +kernel
theorem dX5_split_72 : decode cX5_split 72 = .ok (.iload_n 1, 1) := by decide +kernel
theorem dX5_split_73 : decode cX5_split 73 = .ok (.invokevirtual 111, 3) := by decide +kernel
theorem dX5_split_76 : decode cX5_split 76 = .ok (.istore 4, 2) := by decide +kernel
theorem dX5_split_78 : decode cX5_split 78 = .ok (.aload_n 0, 1) := by decide +kernel
theorem dX5_split_79 : decode cX5_split 79 = .ok (.sipush 2000, 3) := by decide +kernel
theorem dX5_split_82 : decode cX5_split 82 = .ok (.aload_n 0, 1) := by decide +kernel
theorem dX5_split_83 : decode cX5_split 83 = .ok (.iload_n 1, 1) := by decide +kernel
theorem dX5_split_84 : decode cX5_split 84 = .ok (.iload 4, 2) := by decide +kernel
theorem dX5_split_86 : decode cX5_split 86 = .ok (.invokevirtual 114, 3) := by decide +kernel
theorem dX5_split_89 : decode cX5_split 89 = .ok (.iadd, 1) := by decide +kernel
theorem dX5_split_90 : decode cX5_split 90 = .ok (.iload_n 1, 1) := by decide +kernel
theorem dX5_split_91 : decode cX5_split 91 = .ok (.invokevirtual 105, 3) := by decide +kernel
theorem dX5_split_94 : decode cX5_split 94 = .ok (.goto 19, 3) := by decide +kernel
theorem dX5_split_97 : decode cX5_split 97 = .ok (.iload_n 3, 1) := by decide +kernel
theorem dX5_split_98 : decode cX5_split 98 = .ok (.bipush 32, 2) := by decide +kernel
theorem dX5_split_100 : decode cX5_split 100 = .ok (.if_icmp .eq 13, 3) := by decide +kernel
theorem dX5_split_103 : decode cX5_split 103 = .ok (.aload_n 0, 1) := by decide +kernel
theorem dX5_split_104 : decode cX5_split 104 = .ok (.sipush 1000, 3) := by decide +kernel
theorem dX5_split_107 : decode cX5_split 107 = .ok (.iload_n 3, 1) := by decide +kernel
theorem dX5_split_108 : decode cX5_split 108 = .ok (.iadd, 1) := by decide +kernel
theorem dX5_split_109 : decode cX5_split 109 = .ok (.iload_n 1, 1) := by decide +kernel
theorem dX5_split_110 : decode cX5_split 110 = .ok (.invokevirtual 105, 3) := by decide +kernel
theorem dX5_split_113 : decode cX5_split 113 = .ok (.iload 4, 2) := by decide +kernel
theorem dX5_split_115 : decode cX5_split 115 = .ok (.istore_n 1, 1) := by decide +kernel
theorem dX5_split_116 : decode cX5_split 116 = .ok (.iinc 2 1, 3) := by decide +kernel
theorem dX5_split_119 : decode cX5_split 119 = .ok (.goto (-110), 3) := by decide +kernel
theorem dX5_split_122 : decode cX5_split 122 = .ok (.aload_n 0, 1) := by decide +kernel
theorem dX5_split_123 : decode cX5_split 123 = .ok (.bipush 29, 2) := by decide +kernel
theorem dX5_split_125 : decode cX5_split 125 = .ok (.aload_n 0, 1) := by decide +kernel
theorem dX5_split_126 : decode cX5_split 126 = .ok (.getfield 30, 3) := by decide +kernel
theorem dX5_split_129 : decode cX5_split 129 = .ok (.invokevirtual 105, 3) := by decide +kernel
theorem dX5_split_132 : decode cX5_split 132 = .ok (.return_, 1) := by decide +kernel
def w_X5_split (X : XT) (Q : XT → Prop) : Prop :=
  ∃ (I9 : Int → Int → XT → Prop) (m10 : Int → Int → XT → Nat), I9 0 0 (x_st X 33 5 0) ∧ ∀ (x6 : Int) (x7 : Int) (X8 : XT), I9 x6 x7 X8 → ∀ J21 : Prop, ((w_X5_addToken  29 (X8 33 4) X8 (fun (X23 : XT) => Q X23)) → J21) → R32 x7 ∧ (400 ≤ x7 → J21 ) ∧ (¬ 400 ≤ x7 → R32 x6 ∧ R32 (X8 33 4) ∧ ((X8 33 4) ≤ x6 → J21 ) ∧ (¬ (X8 33 4) ≤ x6 → w_X5_byteAt  x6 X8 (fun (v33 : Int) => w_X5_isLetter  v33 X8 (fun (v39 : Int) => ∀ J47 : Int → XT → Prop, (∀ (v45 : Int) (X46 : XT), (I9 v45 (x7 + 1) X46 ∧ m10 v45 (x7 + 1) X46 < m10 x6 x7 X8) → J47 v45 X46) → R32 v39 ∧ (v39 = 0 → w_X5_isDigit  v33 X8 (fun (v53 : Int) => R32 v53 ∧ (v53 = 0 → R32 v33 ∧ (v33 = 32 → J47 (x6 + 1) X8) ∧ (¬ v33 = 32 → w_X5_addToken  (1000 + v33) x6 X8 (fun (X64 : XT) => J47 (x6 + 1) X64))) ∧ (¬ v53 = 0 → w_X5_behindDigits  x6 X8 (fun (v69 : Int) => w_X5_numberOf  x6 v69 X8 (fun (v75 : Int) => w_X5_addToken  (2000 + v75) x6 X8 (fun (X82 : XT) => J47 v69 X82)))))) ∧ (¬ v39 = 0 → w_X5_behindLetters  x6 X8 (fun (v87 : Int) => w_X5_wordOf  x6 v87 X8 (fun (v93 : Int) => w_X5_addToken  v93 x6 X8 (fun (X100 : XT) => J47 v87 X100))))))))
set_option maxRecDepth 20000 in
theorem so_X5_split {n : Nat} {h : Nat → sE} {X : XT} {Q : XT → Prop} (hn : 115 ≤ n) (hp : Pic X h) (w : w_X5_split   X Q) : Sp m_X5_split 6 0 0 [.ref 33] n h (pVw n h Q) := by
  unfold w_X5_split at w
  refine Sp.ofV (by decide +kernel) (Nat.le_of_ble_eq_true rfl) ?_
  have hf : Fr h h := fun _ _ => rfl
  refine v_aload_n dX5_split_0 rfl ?_
  refine v_iconstI dX5_split_1 ?_
  refine v_put dX5_split_2 fl_X5_34 ((hp 33 (by decide)).trans (ent_33 _)) (s_lt hn rfl) (Nat.le_of_ble_eq_true rfl) (fun _ => ⟨rfl, rfl⟩) trivial (fun h1 E2 F3 => ?_)
  have hp4 := pic_st hp (show h1 33 = ent 33 (uI _ 5 0) from E2) F3
  have hf5 := Fr.up (c := 33) hf F3 rfl
  refine v_iconstI dX5_split_5 ?_
  refine v_istore_n dX5_split_6 (Nat.le_of_ble_eq_true rfl) ?_
  refine v_iconstI dX5_split_7 ?_
  refine v_istore_n dX5_split_8 (Nat.le_of_ble_eq_true rfl) ?_
  refine v_pick [2, 1, 0] rfl ?_
  obtain ⟨I9, m10, wi13, wl12⟩ := w
  have hL14 : ∀ (N17 : Nat) (x6 : Int) (x7 : Int) (X8 : XT) (h18 : Nat → sE), m10 x6 x7 X8 < N17 → I9 x6 x7 X8 → Pic X8 h18 → Fr h h18 → V (m_X5_split, 6, 0, 0, n, pVw n h Q, s_G0) 0 0 n h18 9 [(0, .ref 33), (1, .int (iI x6)), (2, .int (iI x7))] [] := by
    intro N17
    induction N17 with
    | zero => intro x6 x7 X8 h18 hm15; exact absurd hm15 (Nat.not_lt_zero _)
    | succ N17 ih11 =>
      intro x6 x7 X8 h18 hm15 hI16 hp19 hf20
      have w := wl12 x6 x7 X8 hI16
      refine v_iload_n dX5_split_9 rfl ?_
      refine v_sipushI dX5_split_10 rfl ?_
      replace w := w (V (m_X5_split, 6, 0, 0, n, pVw n h Q, s_G0) 0 0 n h18 122 [(0, .ref 33)] []) (by
        intro  w
        refine v_aload_n dX5_split_122 rfl ?_
        refine v_bipushI dX5_split_123 rfl ?_
        refine v_aload_n dX5_split_125 rfl ?_
        refine v_get dX5_split_126 fl_X5_30 ((hp19 33 (by decide)).trans (ent_33 _)) rfl (s_lt hn rfl) ?_
        refine v_callVVw dX5_split_129 ml_X5_105 (so_X5_addToken hn hp19  w) ((hp19 33 (by decide)).trans (ent_33 _)) rfl (s_lt hn rfl) rfl rfl (Nat.le_of_ble_eq_true rfl) (Nat.le_of_ble_eq_true rfl) (Nat.zero_le _) (Nat.zero_le _) (fun X23 h24 hp26 hf25 w => ?_)
        have hf27 := Fr.trans hf20 hf25
        exact v_vret dX5_split_132 rfl (Nat.zero_le _) (Nat.zero_le _) ⟨rfl, hf27, _, rfl, hp26, w⟩
      )
      obtain ⟨q28, w⟩ := w
      refine v_icmp_geI (tgt := 122) dX5_split_13 (by decide) q28.1 q28.2 (by decide) (by decide) (fun c29 => ?_) (fun c29 => ?_)
      · replace w := w.1 c29
        refine v_pick [0] rfl ?_
        exact w
      · replace w := w.2 c29
        refine v_iload_n dX5_split_16 rfl ?_
        refine v_aload_n dX5_split_17 rfl ?_
        refine v_get dX5_split_18 fl_X5_30 ((hp19 33 (by decide)).trans (ent_33 _)) rfl (s_lt hn rfl) ?_
        obtain ⟨q30, q31, w⟩ := w
        refine v_icmp_geI (tgt := 122) dX5_split_21 (by decide) q30.1 q30.2 q31.1 q31.2 (fun c32 => ?_) (fun c32 => ?_)
        · replace w := w.1 c32
          refine v_pick [0] rfl ?_
          exact w
        · replace w := w.2 c32
          refine v_aload_n dX5_split_24 rfl ?_
          refine v_iload_n dX5_split_25 rfl ?_
          refine v_callVIr dX5_split_26 ml_X5_91 (so_X5_byteAt hn hp19  w) ((hp19 33 (by decide)).trans (ent_33 _)) rfl (s_lt hn rfl) rfl rfl (Nat.le_of_ble_eq_true rfl) (Nat.le_of_ble_eq_true rfl) (Nat.zero_le _) (Nat.zero_le _) (fun v33 w => ?_)
          refine v_istore_n dX5_split_29 (Nat.le_of_ble_eq_true rfl) ?_
          refine v_iload_n dX5_split_30 rfl ?_
          refine v_iconstI dX5_split_31 ?_
          refine v_iaddI dX5_split_32 ?_
          refine v_istore dX5_split_33 (Nat.le_of_ble_eq_true rfl) ?_
          refine v_iload_n dX5_split_35 rfl ?_
          refine v_callSIr dX5_split_36 ml_X5_95 (so_X5_isLetter hn hp19  w) rfl rfl (Nat.le_of_ble_eq_true rfl) (Nat.le_of_ble_eq_true rfl) (Nat.zero_le _) (Nat.zero_le _) (fun v39 w => ?_)
          replace w := w (fun (v45 : Int) (X46 : XT) => ∀ h50 : Nat → sE, Pic X46 h50 → Fr h h50 → V (m_X5_split, 6, 0, 0, n, pVw n h Q, s_G0) 0 0 n h50 113 [(0, .ref 33), (2, .int (iI x7)), (4, .int (iI v45))] []) (by
            intro v45 X46 w h50 hp48 hf49
            refine v_iload dX5_split_113 rfl ?_
            refine v_istore_n dX5_split_115 (Nat.le_of_ble_eq_true rfl) ?_
            refine v_iincI dX5_split_116 rfl (Nat.le_of_ble_eq_true rfl) ?_
            refine v_goto (tgt := 9) dX5_split_119 (by decide) ?_
            refine v_pick [2, 1, 0] rfl ?_
            exact ih11 _ _ _ _ (Nat.lt_of_lt_of_le w.2 (Nat.le_of_lt_succ hm15)) w.1 hp48 hf49
          )
          obtain ⟨q51, w⟩ := w
          refine v_if_eqI (tgt := 64) dX5_split_39 (by decide) q51.1 q51.2 (fun c52 => ?_) (fun c52 => ?_)
          · replace w := w.1 c52
            refine v_iload_n dX5_split_64 rfl ?_
            refine v_callSIr dX5_split_65 ml_X5_108 (so_X5_isDigit hn hp19  w) rfl rfl (Nat.le_of_ble_eq_true rfl) (Nat.le_of_ble_eq_true rfl) (Nat.zero_le _) (Nat.zero_le _) (fun v53 w => ?_)
            obtain ⟨q59, w⟩ := w
            refine v_if_eqI (tgt := 97) dX5_split_68 (by decide) q59.1 q59.2 (fun c60 => ?_) (fun c60 => ?_)
            · replace w := w.1 c60
              refine v_iload_n dX5_split_97 rfl ?_
              refine v_bipushI dX5_split_98 rfl ?_
              obtain ⟨q61, w⟩ := w
              refine v_icmp_eqI (tgt := 113) dX5_split_100 (by decide) q61.1 q61.2 (by decide) (by decide) (fun c62 => ?_) (fun c62 => ?_)
              · replace w := w.1 c62
                refine v_pick [2, 4, 0] rfl ?_
                exact w _ hp19 hf20
              · replace w := w.2 c62
                refine v_aload_n dX5_split_103 rfl ?_
                refine v_sipushI dX5_split_104 rfl ?_
                refine v_iload_n dX5_split_107 rfl ?_
                refine v_iaddI dX5_split_108 ?_
                refine v_iload_n dX5_split_109 rfl ?_
                refine v_callVVw dX5_split_110 ml_X5_105 (so_X5_addToken hn hp19  w) ((hp19 33 (by decide)).trans (ent_33 _)) rfl (s_lt hn rfl) rfl rfl (Nat.le_of_ble_eq_true rfl) (Nat.le_of_ble_eq_true rfl) (Nat.zero_le _) (Nat.zero_le _) (fun X64 h65 hp67 hf66 w => ?_)
                have hf68 := Fr.trans hf20 hf66
                refine v_pick [2, 4, 0] rfl ?_
                exact w _ hp67 hf68
            · replace w := w.2 c60
              refine v_aload_n dX5_split_71 rfl ?_
              refine v_iload_n dX5_split_72 rfl ?_
              refine v_callVIr dX5_split_73 ml_X5_111 (so_X5_behindDigits hn hp19  w) ((hp19 33 (by decide)).trans (ent_33 _)) rfl (s_lt hn rfl) rfl rfl (Nat.le_of_ble_eq_true rfl) (Nat.le_of_ble_eq_true rfl) (Nat.zero_le _) (Nat.zero_le _) (fun v69 w => ?_)
              refine v_istore dX5_split_76 (Nat.le_of_ble_eq_true rfl) ?_
              refine v_aload_n dX5_split_78 rfl ?_
              refine v_sipushI dX5_split_79 rfl ?_
              refine v_aload_n dX5_split_82 rfl ?_
              refine v_iload_n dX5_split_83 rfl ?_
              refine v_iload dX5_split_84 rfl ?_
              refine v_callVIr dX5_split_86 ml_X5_114 (so_X5_numberOf hn hp19  w) ((hp19 33 (by decide)).trans (ent_33 _)) rfl (s_lt hn rfl) rfl rfl (Nat.le_of_ble_eq_true rfl) (Nat.le_of_ble_eq_true rfl) (Nat.zero_le _) (Nat.zero_le _) (fun v75 w => ?_)
              refine v_iaddI dX5_split_89 ?_
              refine v_iload_n dX5_split_90 rfl ?_
              refine v_callVVw dX5_split_91 ml_X5_105 (so_X5_addToken hn hp19  w) ((hp19 33 (by decide)).trans (ent_33 _)) rfl (s_lt hn rfl) rfl rfl (Nat.le_of_ble_eq_true rfl) (Nat.le_of_ble_eq_true rfl) (Nat.zero_le _) (Nat.zero_le _) (fun X82 h83 hp85 hf84 w => ?_)
              have hf86 := Fr.trans hf20 hf84
              refine v_goto (tgt := 113) dX5_split_94 (by decide) ?_
              refine v_pick [2, 4, 0] rfl ?_
              exact w _ hp85 hf86
          · replace w := w.2 c52
            refine v_aload_n dX5_split_42 rfl ?_
            refine v_iload_n dX5_split_43 rfl ?_
            refine v_callVIr dX5_split_44 ml_X5_98 (so_X5_behindLetters hn hp19  w) ((hp19 33 (by decide)).trans (ent_33 _)) rfl (s_lt hn rfl) rfl rfl (Nat.le_of_ble_eq_true rfl) (Nat.le_of_ble_eq_true rfl) (Nat.zero_le _) (Nat.zero_le _) (fun v87 w => ?_)
            refine v_istore dX5_split_47 (Nat.le_of_ble_eq_true rfl) ?_
            refine v_aload_n dX5_split_49 rfl ?_
            refine v_aload_n dX5_split_50 rfl ?_
            refine v_iload_n dX5_split_51 rfl ?_
            refine v_iload dX5_split_52 rfl ?_
            refine v_callVIr dX5_split_54 ml_X5_101 (so_X5_wordOf hn hp19  w) ((hp19 33 (by decide)).trans (ent_33 _)) rfl (s_lt hn rfl) rfl rfl (Nat.le_of_ble_eq_true rfl) (Nat.le_of_ble_eq_true rfl) (Nat.zero_le _) (Nat.zero_le _) (fun v93 w => ?_)
            refine v_iload_n dX5_split_57 rfl ?_
            refine v_callVVw dX5_split_58 ml_X5_105 (so_X5_addToken hn hp19  w) ((hp19 33 (by decide)).trans (ent_33 _)) rfl (s_lt hn rfl) rfl rfl (Nat.le_of_ble_eq_true rfl) (Nat.le_of_ble_eq_true rfl) (Nat.zero_le _) (Nat.zero_le _) (fun X100 h101 hp103 hf102 w => ?_)
            have hf104 := Fr.trans hf20 hf102
            refine v_goto (tgt := 113) dX5_split_61 (by decide) ?_
            refine v_pick [2, 4, 0] rfl ?_
            exact w _ hp103 hf104
  exact hL14 _ _ _ _ _ (Nat.lt_succ_self _) wi13 hp4 hf5
theorem dX7_clear_0 : decode cX7_clear 0 = .ok (.aload_n 0, 1) := by decide +kernel
theorem dX7_clear_1 : decode cX7_clear 1 = .ok (.iconst 0, 1) := by decide +kernel
theorem dX7_clear_2 : decode cX7_clear 2 = .ok (.putfield 24, 3) := by decide +kernel
theorem dX7_clear_5 : decode cX7_clear 5 = .ok (.aload_n 0, 1) := by decide +kernel
theorem dX7_clear_6 : decode cX7_clear 6 = .ok (.iconst 0, 1) := by decide +kernel
theorem dX7_clear_7 : decode cX7_clear 7 = .ok (.putfield 28, 3) := by decide +kernel
theorem dX7_clear_10 : decode cX7_clear 10 = .ok (.aload_n 0, 1) := by decide +kernel
theorem dX7_clear_11 : decode cX7_clear 11 = .ok (.iconst 0, 1) := by decide +kernel
theorem dX7_clear_12 : decode cX7_clear 12 = .ok (.putfield 31, 3) := by decide +kernel
theorem dX7_clear_15 : decode cX7_clear 15 = .ok (.return_, 1) := by decide +kernel
def w_X7_clear (X : XT) (Q : XT → Prop) : Prop :=
  Q (x_st (x_st (x_st X 37 2 0) 37 3 0) 37 4 0)
set_option maxRecDepth 20000 in
theorem so_X7_clear {n : Nat} {h : Nat → sE} {X : XT} {Q : XT → Prop} (hn : 115 ≤ n) (hp : Pic X h) (w : w_X7_clear   X Q) : Sp m_X7_clear 0 0 0 [.ref 37] n h (pVw n h Q) := by
  unfold w_X7_clear at w
  refine Sp.ofV (by decide +kernel) (Nat.le_of_ble_eq_true rfl) ?_
  have hf : Fr h h := fun _ _ => rfl
  refine v_aload_n dX7_clear_0 rfl ?_
  refine v_iconstI dX7_clear_1 ?_
  refine v_put dX7_clear_2 fl_X7_24 ((hp 37 (by decide)).trans (ent_37 _)) (s_lt hn rfl) (Nat.le_of_ble_eq_true rfl) (fun _ => ⟨rfl, rfl⟩) trivial (fun h1 E2 F3 => ?_)
  have hp4 := pic_st hp (show h1 37 = ent 37 (uI _ 2 0) from E2) F3
  have hf5 := Fr.up (c := 37) hf F3 rfl
  refine v_aload_n dX7_clear_5 rfl ?_
  refine v_iconstI dX7_clear_6 ?_
  refine v_put dX7_clear_7 fl_X7_28 ((hp4 37 (by decide)).trans (ent_37 _)) (s_lt hn rfl) (Nat.le_of_ble_eq_true rfl) (fun _ => ⟨rfl, rfl⟩) trivial (fun h6 E7 F8 => ?_)
  have hp9 := pic_st hp4 (show h6 37 = ent 37 (uI _ 3 0) from E7) F8
  have hf10 := Fr.up (c := 37) hf5 F8 rfl
  refine v_aload_n dX7_clear_10 rfl ?_
  refine v_iconstI dX7_clear_11 ?_
  refine v_put dX7_clear_12 fl_X7_31 ((hp9 37 (by decide)).trans (ent_37 _)) (s_lt hn rfl) (Nat.le_of_ble_eq_true rfl) (fun _ => ⟨iI_nb0, rfl⟩) trivial (fun h11 E12 F13 => ?_)
  have hp14 := pic_st hp9 (show h11 37 = ent 37 (uI _ 4 0) from E12) F13
  have hf15 := Fr.up (c := 37) hf10 F13 rfl
  exact v_vret dX7_clear_15 rfl (Nat.zero_le _) (Nat.zero_le _) ⟨rfl, hf15, _, rfl, hp14, w⟩
theorem dX7_setHead_0 : decode cX7_setHead 0 = .ok (.iload_n 1, 1) := by decide +kernel
theorem dX7_setHead_1 : decode cX7_setHead 1 = .ok (.bipush 6, 2) := by decide +kernel
theorem dX7_setHead_3 : decode cX7_setHead 3 = .ok (.imul, 1) := by decide +kernel
theorem dX7_setHead_4 : decode cX7_setHead 4 = .ok (.iload_n 2, 1) := by decide +kernel
theorem dX7_setHead_5 : decode cX7_setHead 5 = .ok (.iadd, 1) := by decide +kernel
theorem dX7_setHead_6 : decode cX7_setHead 6 = .ok (.istore 4, 2) := by decide +kernel
theorem dX7_setHead_8 : decode cX7_setHead 8 = .ok (.iload 4, 2) := by decide +kernel
theorem dX7_setHead_10 : decode cX7_setHead 10 = .ok (.ifCond .lt 21, 3) := by decide +kernel
theorem dX7_setHead_13 : decode cX7_setHead 13 = .ok (.iload 4, 2) := by decide +kernel
theorem dX7_setHead_15 : decode cX7_setHead 15 = .ok (.aload_n 0, 1) := by decide +kernel
theorem dX7_setHead_16 : decode cX7_setHead 16 = .ok (.getfield 17, 3) := by decide +kernel
theorem dX7_setHead_19 : decode cX7_setHead 19 = .ok (.arraylength, 1) := by decide +kernel
theorem dX7_setHead_20 : decode cX7_setHead 20 = .ok (.if_icmp .ge 11, 3) := by decide +kernel
theorem dX7_setHead_23 : decode cX7_setHead 23 = .ok (.aload_n 0, 1) := by decide +kernel
theorem dX7_setHead_24 : decode cX7_setHead 24 = .ok (.getfield 17, 3) := by decide +kernel
theorem dX7_setHead_27 : decode cX7_setHead 27 = .ok (.iload 4, 2) := by decide +kernel
theorem dX7_setHead_29 : decode cX7_setHead 29 = .ok (.iload_n 3, 1) := by decide +kernel
theorem dX7_setHead_30 : decode cX7_setHead 30 = .ok (.iastore, 1) := by decide +kernel
theorem dX7_setHead_31 : decode cX7_setHead 31 = .ok (.return_, 1) := by decide +kernel
def w_X7_setHead (a0 a1 a2 : Int) (X : XT) (Q : XT → Prop) : Prop :=
  R32 ((a0 * 6) + a1) ∧ (((a0 * 6) + a1) < 0 → Q X) ∧ (¬ ((a0 * 6) + a1) < 0 → (72 ≤ ((a0 * 6) + a1) → Q X) ∧ (¬ 72 ≤ ((a0 * 6) + a1) → (0 ≤ ((a0 * 6) + a1) ∧ ((a0 * 6) + a1) < 72) ∧ Q (x_st X 38 ((a0 * 6) + a1) a2)))
set_option maxRecDepth 20000 in
theorem so_X7_setHead {n : Nat} {h : Nat → sE} {X : XT} {a0 a1 a2 : Int} {Q : XT → Prop} (hn : 115 ≤ n) (hp : Pic X h) (w : w_X7_setHead  a0 a1 a2 X Q) : Sp m_X7_setHead 0 0 0 [.ref 37, .int (iI a0), .int (iI a1), .int (iI a2)] n h (pVw n h Q) := by
  unfold w_X7_setHead at w
  refine Sp.ofV (by decide +kernel) (Nat.le_of_ble_eq_true rfl) ?_
  have hf : Fr h h := fun _ _ => rfl
  refine v_iload_n dX7_setHead_0 rfl ?_
  refine v_bipushI dX7_setHead_1 rfl ?_
  refine v_imulI dX7_setHead_3 ?_
  refine v_iload_n dX7_setHead_4 rfl ?_
  refine v_iaddI dX7_setHead_5 ?_
  refine v_istore dX7_setHead_6 (Nat.le_of_ble_eq_true rfl) ?_
  refine v_iload dX7_setHead_8 rfl ?_
  obtain ⟨q1, w⟩ := w
  refine v_if_ltI (tgt := 31) dX7_setHead_10 (by decide) q1.1 q1.2 (fun c2 => ?_) (fun c2 => ?_)
  · replace w := w.1 c2
    exact v_vret dX7_setHead_31 rfl (Nat.zero_le _) (Nat.zero_le _) ⟨rfl, hf, _, rfl, hp, w⟩
  · replace w := w.2 c2
    refine v_iload dX7_setHead_13 rfl ?_
    refine v_aload_n dX7_setHead_15 rfl ?_
    refine v_get dX7_setHead_16 fl_X7_17 ((hp 37 (by decide)).trans (ent_37 _)) rfl (s_lt hn rfl) ?_
    refine v_alen_aI dX7_setHead_19 ((hp 38 (by decide)).trans (ent_38 _)) (s_lt hn rfl) ?_
    refine v_icmp_geI (tgt := 31) dX7_setHead_20 (by decide) q1.1 q1.2 (by decide) (by decide) (fun c3 => ?_) (fun c3 => ?_)
    · replace w := w.1 c3
      exact v_vret dX7_setHead_31 rfl (Nat.zero_le _) (Nat.zero_le _) ⟨rfl, hf, _, rfl, hp, w⟩
    · replace w := w.2 c3
      refine v_aload_n dX7_setHead_23 rfl ?_
      refine v_get dX7_setHead_24 fl_X7_17 ((hp 37 (by decide)).trans (ent_37 _)) rfl (s_lt hn rfl) ?_
      refine v_iload dX7_setHead_27 rfl ?_
      refine v_iload_n dX7_setHead_29 rfl ?_
      obtain ⟨q4, w⟩ := w
      refine v_iastI dX7_setHead_30 ((hp 38 (by decide)).trans (ent_38 _)) (s_lt hn rfl) q4.1 q4.2 (ix_le q4.2 (by decide)) (fun h5 E6 F7 => ?_)
      have hp8 := pic_st hp (show h5 38 = ent 38 (uI _ ((a0 * 6) + a1) a2) from E6) F7
      have hf9 := Fr.up (c := 38) hf F7 rfl
      exact v_vret dX7_setHead_31 rfl (Nat.zero_le _) (Nat.zero_le _) ⟨rfl, hf9, _, rfl, hp8, w⟩
theorem dX7_addClause_0 : decode cX7_addClause 0 = .ok (.iconst 0, 1) := by decide +kernel
theorem dX7_addClause_1 : decode cX7_addClause 1 = .ok (.istore_n 1, 1) := by decide +kernel
theorem dX7_addClause_2 : decode cX7_addClause 2 = .ok (.iload_n 1, 1) := by decide +kernel
theorem dX7_addClause_3 : decode cX7_addClause 3 = .ok (.bipush 6, 2) := by decide +kernel
theorem dX7_addClause_5 : decode cX7_addClause 5 = .ok (.if_icmp .ge 19, 3) := by decide +kernel
theorem dX7_addClause_8 : decode cX7_addClause 8 = .ok (.aload_n 0, 1) := by decide +kernel
theorem dX7_addClause_9 : decode cX7_addClause 9 = .ok (.aload_n 0, 1) := by decide +kernel
theorem dX7_addClause_10 : decode cX7_addClause 10 = .ok (.getfield 24, 3) := by decide +kernel
theorem dX7_addClause_13 : decode cX7_addClause 13 = .ok (.iload_n 1, 1) := by decide +kernel
theorem dX7_addClause_14 : decode cX7_addClause 14 = .ok (.iconst (-1), 1) := by decide +kernel
theorem dX7_addClause_15 : decode cX7_addClause 15 = .ok (.invokevirtual 47, 3) := by decide +kernel
theorem dX7_addClause_18 : decode cX7_addClause 18 = .ok (.iinc 1 1, 3) := by decide +kernel
theorem dX7_addClause_21 : decode cX7_addClause 21 = .ok (.goto (-19), 3) := by decide +kernel
theorem dX7_addClause_24 : decode cX7_addClause 24 = .ok (.aload_n 0, 1) := by decide +kernel
theorem dX7_addClause_25 : decode cX7_addClause 25 = .ok (.dup, 1) := by decide +kernel
theorem dX7_addClause_26 : decode cX7_addClause 26 = .ok (.getfield 24, 3) := by decide +kernel
theorem dX7_addClause_29 : decode cX7_addClause 29 = .ok (.iconst 1, 1) := by decide +kernel
theorem dX7_addClause_30 : decode cX7_addClause 30 = .ok (.iadd, 1) := by decide +kernel
theorem dX7_addClause_31 : decode cX7_addClause 31 = .ok (.putfield 24, 3) := by decide +kernel
theorem dX7_addClause_34 : decode cX7_addClause 34 = .ok (.return_, 1) := by decide +kernel
def w_X7_addClause (X : XT) (Q : XT → Prop) : Prop :=
  ∃ (I3 : Int → XT → Prop) (m4 : Int → XT → Nat), I3 0 X ∧ ∀ (x1 : Int) (X2 : XT), I3 x1 X2 → R32 x1 ∧ (6 ≤ x1 → Q (x_st X2 37 2 ((X2 37 2) + 1))) ∧ (¬ 6 ≤ x1 → w_X7_setHead  (X2 37 2) x1 (-1) X2 (fun (X23 : XT) => I3 (x1 + 1) X23 ∧ m4 (x1 + 1) X23 < m4 x1 X2))
set_option maxRecDepth 20000 in
theorem so_X7_addClause {n : Nat} {h : Nat → sE} {X : XT} {Q : XT → Prop} (hn : 115 ≤ n) (hp : Pic X h) (w : w_X7_addClause   X Q) : Sp m_X7_addClause 1 0 0 [.ref 37] n h (pVw n h Q) := by
  unfold w_X7_addClause at w
  refine Sp.ofV (by decide +kernel) (Nat.le_of_ble_eq_true rfl) ?_
  have hf : Fr h h := fun _ _ => rfl
  refine v_iconstI dX7_addClause_0 ?_
  refine v_istore_n dX7_addClause_1 (Nat.le_of_ble_eq_true rfl) ?_
  refine v_pick [1, 0] rfl ?_
  obtain ⟨I3, m4, wi7, wl6⟩ := w
  have hL8 : ∀ (N11 : Nat) (x1 : Int) (X2 : XT) (h12 : Nat → sE), m4 x1 X2 < N11 → I3 x1 X2 → Pic X2 h12 → Fr h h12 → V (m_X7_addClause, 1, 0, 0, n, pVw n h Q, s_G0) 0 0 n h12 2 [(0, .ref 37), (1, .int (iI x1))] [] := by
    intro N11
    induction N11 with
    | zero => intro x1 X2 h12 hm9; exact absurd hm9 (Nat.not_lt_zero _)
    | succ N11 ih5 =>
      intro x1 X2 h12 hm9 hI10 hp13 hf14
      have w := wl6 x1 X2 hI10
      refine v_iload_n dX7_addClause_2 rfl ?_
      refine v_bipushI dX7_addClause_3 rfl ?_
      obtain ⟨q15, w⟩ := w
      refine v_icmp_geI (tgt := 24) dX7_addClause_5 (by decide) q15.1 q15.2 (by decide) (by decide) (fun c16 => ?_) (fun c16 => ?_)
      · replace w := w.1 c16
        refine v_aload_n dX7_addClause_24 rfl ?_
        refine v_dup dX7_addClause_25 rfl ?_
        refine v_get dX7_addClause_26 fl_X7_24 ((hp13 37 (by decide)).trans (ent_37 _)) rfl (s_lt hn rfl) ?_
        refine v_iconstI dX7_addClause_29 ?_
        refine v_iaddI dX7_addClause_30 ?_
        refine v_put dX7_addClause_31 fl_X7_24 ((hp13 37 (by decide)).trans (ent_37 _)) (s_lt hn rfl) (Nat.le_of_ble_eq_true rfl) (fun _ => ⟨rfl, rfl⟩) trivial (fun h17 E18 F19 => ?_)
        have hp20 := pic_st hp13 (show h17 37 = ent 37 (uI _ 2 ((X2 37 2) + 1)) from E18) F19
        have hf21 := Fr.up (c := 37) hf14 F19 rfl
        exact v_vret dX7_addClause_34 rfl (Nat.zero_le _) (Nat.zero_le _) ⟨rfl, hf21, _, rfl, hp20, w⟩
      · replace w := w.2 c16
        refine v_aload_n dX7_addClause_8 rfl ?_
        refine v_aload_n dX7_addClause_9 rfl ?_
        refine v_get dX7_addClause_10 fl_X7_24 ((hp13 37 (by decide)).trans (ent_37 _)) rfl (s_lt hn rfl) ?_
        refine v_iload_n dX7_addClause_13 rfl ?_
        refine v_iconstI dX7_addClause_14 ?_
        refine v_callVVw dX7_addClause_15 ml_X7_47 (so_X7_setHead hn hp13  w) ((hp13 37 (by decide)).trans (ent_37 _)) rfl (s_lt hn rfl) rfl rfl (Nat.le_of_ble_eq_true rfl) (Nat.le_of_ble_eq_true rfl) (Nat.zero_le _) (Nat.zero_le _) (fun X23 h24 hp26 hf25 w => ?_)
        have hf27 := Fr.trans hf14 hf25
        refine v_iincI dX7_addClause_18 rfl (Nat.le_of_ble_eq_true rfl) ?_
        refine v_goto (tgt := 2) dX7_addClause_21 (by decide) ?_
        refine v_pick [1, 0] rfl ?_
        exact ih5 _ _ _ (Nat.lt_of_lt_of_le w.2 (Nat.le_of_lt_succ hm9)) w.1 hp26 hf27
  exact hL8 _ _ _ _ (Nat.lt_succ_self _) wi7 hp hf
theorem dX5_token_0 : decode cX5_token 0 = .ok (.aload_n 0, 1) := by decide +kernel
theorem dX5_token_1 : decode cX5_token 1 = .ok (.getfield 37, 3) := by decide +kernel
theorem dX5_token_4 : decode cX5_token 4 = .ok (.ifCond .lt 38, 3) := by decide +kernel
theorem dX5_token_7 : decode cX5_token 7 = .ok (.aload_n 0, 1) := by decide +kernel
theorem dX5_token_8 : decode cX5_token 8 = .ok (.getfield 37, 3) := by decide +kernel
theorem dX5_token_11 : decode cX5_token 11 = .ok (.aload_n 0, 1) := by decide +kernel
theorem dX5_token_12 : decode cX5_token 12 = .ok (.getfield 34, 3) := by decide +kernel
theorem dX5_token_15 : decode cX5_token 15 = .ok (.if_icmp .ge 27, 3) := by decide +kernel
theorem dX5_token_18 : decode cX5_token 18 = .ok (.aload_n 0, 1) := by decide +kernel
theorem dX5_token_19 : decode cX5_token 19 = .ok (.getfield 37, 3) := by decide +kernel
theorem dX5_token_22 : decode cX5_token 22 = .ok (.aload_n 0, 1) := by decide +kernel
theorem dX5_token_23 : decode cX5_token 23 = .ok (.getfield 15, 3) := by decide +kernel
theorem dX5_token_26 : decode cX5_token 26 = .ok (.arraylength, 1) := by decide +kernel
theorem dX5_token_27 : decode cX5_token 27 = .ok (.if_icmp .ge 15, 3) := by decide +kernel
theorem dX5_token_30 : decode cX5_token 30 = .ok (.aload_n 0, 1) := by decide +kernel
theorem dX5_token_31 : decode cX5_token 31 = .ok (.getfield 15, 3) := by decide +kernel
theorem dX5_token_34 : decode cX5_token 34 = .ok (.aload_n 0, 1) := by decide +kernel
theorem dX5_token_35 : decode cX5_token 35 = .ok (.getfield 37, 3) := by decide +kernel
theorem dX5_token_38 : decode cX5_token 38 = .ok (.iaload, 1) := by decide +kernel
theorem dX5_token_39 : decode cX5_token 39 = .ok (.goto 5, 3) := by decide +kernel
theorem dX5_token_42 : decode cX5_token 42 = .ok (.bipush 29, 2) := by decide +kernel
theorem dX5_token_44 : decode cX5_token 44 = .ok (.ireturn, 1) := by decide +kernel
def w_X5_token (X : XT) (Q : Int → Prop) : Prop :=
  R32 (X 33 6) ∧ ((X 33 6) < 0 → Q 29) ∧ (¬ (X 33 6) < 0 → R32 (X 33 5) ∧ ((X 33 5) ≤ (X 33 6) → Q 29) ∧ (¬ (X 33 5) ≤ (X 33 6) → (401 ≤ (X 33 6) → Q 29) ∧ (¬ 401 ≤ (X 33 6) → (0 ≤ (X 33 6) ∧ (X 33 6) < 401) ∧ Q (X 35 (X 33 6)))))
set_option maxRecDepth 20000 in
theorem so_X5_token {n : Nat} {h : Nat → sE} {X : XT} {Q : Int → Prop} (hn : 115 ≤ n) (hp : Pic X h) (w : w_X5_token   X Q) : Sp m_X5_token 0 0 0 [.ref 33] n h (pIr n h Q) := by
  unfold w_X5_token at w
  refine Sp.ofV (by decide +kernel) (Nat.le_of_ble_eq_true rfl) ?_
  have hf : Fr h h := fun _ _ => rfl
  refine v_aload_n dX5_token_0 rfl ?_
  refine v_get dX5_token_1 fl_X5_37 ((hp 33 (by decide)).trans (ent_33 _)) rfl (s_lt hn rfl) ?_
  obtain ⟨q1, w⟩ := w
  refine v_if_ltI (tgt := 42) dX5_token_4 (by decide) q1.1 q1.2 (fun c2 => ?_) (fun c2 => ?_)
  · replace w := w.1 c2
    refine v_bipushI dX5_token_42 rfl ?_
    exact v_iret dX5_token_44 rfl (Nat.zero_le _) (Nat.zero_le _) ⟨rfl, rfl, _, rfl, w⟩
  · replace w := w.2 c2
    refine v_aload_n dX5_token_7 rfl ?_
    refine v_get dX5_token_8 fl_X5_37 ((hp 33 (by decide)).trans (ent_33 _)) rfl (s_lt hn rfl) ?_
    refine v_aload_n dX5_token_11 rfl ?_
    refine v_get dX5_token_12 fl_X5_34 ((hp 33 (by decide)).trans (ent_33 _)) rfl (s_lt hn rfl) ?_
    obtain ⟨q3, w⟩ := w
    refine v_icmp_geI (tgt := 42) dX5_token_15 (by decide) q1.1 q1.2 q3.1 q3.2 (fun c4 => ?_) (fun c4 => ?_)
    · replace w := w.1 c4
      refine v_bipushI dX5_token_42 rfl ?_
      exact v_iret dX5_token_44 rfl (Nat.zero_le _) (Nat.zero_le _) ⟨rfl, rfl, _, rfl, w⟩
    · replace w := w.2 c4
      refine v_aload_n dX5_token_18 rfl ?_
      refine v_get dX5_token_19 fl_X5_37 ((hp 33 (by decide)).trans (ent_33 _)) rfl (s_lt hn rfl) ?_
      refine v_aload_n dX5_token_22 rfl ?_
      refine v_get dX5_token_23 fl_X5_15 ((hp 33 (by decide)).trans (ent_33 _)) rfl (s_lt hn rfl) ?_
      refine v_alen_aI dX5_token_26 ((hp 35 (by decide)).trans (ent_35 _)) (s_lt hn rfl) ?_
      refine v_icmp_geI (tgt := 42) dX5_token_27 (by decide) q1.1 q1.2 (by decide) (by decide) (fun c5 => ?_) (fun c5 => ?_)
      · replace w := w.1 c5
        refine v_bipushI dX5_token_42 rfl ?_
        exact v_iret dX5_token_44 rfl (Nat.zero_le _) (Nat.zero_le _) ⟨rfl, rfl, _, rfl, w⟩
      · replace w := w.2 c5
        refine v_aload_n dX5_token_30 rfl ?_
        refine v_get dX5_token_31 fl_X5_15 ((hp 33 (by decide)).trans (ent_33 _)) rfl (s_lt hn rfl) ?_
        refine v_aload_n dX5_token_34 rfl ?_
        refine v_get dX5_token_35 fl_X5_37 ((hp 33 (by decide)).trans (ent_33 _)) rfl (s_lt hn rfl) ?_
        obtain ⟨q6, w⟩ := w
        refine v_ialdI dX5_token_38 ((hp 35 (by decide)).trans (ent_35 _)) (s_lt hn rfl) q6.1 q6.2 (ix_le q6.2 (by decide)) ?_
        refine v_goto (tgt := 44) dX5_token_39 (by decide) ?_
        exact v_iret dX5_token_44 rfl (Nat.zero_le _) (Nat.zero_le _) ⟨rfl, rfl, _, rfl, w⟩
theorem dX5_pass_0 : decode cX5_pass 0 = .ok (.aload_n 0, 1) := by decide +kernel
theorem dX5_pass_1 : decode cX5_pass 1 = .ok (.getfield 37, 3) := by decide +kernel
theorem dX5_pass_4 : decode cX5_pass 4 = .ok (.iconst 1, 1) := by decide +kernel
theorem dX5_pass_5 : decode cX5_pass 5 = .ok (.iadd, 1) := by decide +kernel
theorem dX5_pass_6 : decode cX5_pass 6 = .ok (.aload_n 0, 1) := by decide +kernel
theorem dX5_pass_7 : decode cX5_pass 7 = .ok (.getfield 34, 3) := by decide +kernel
theorem dX5_pass_10 : decode cX5_pass 10 = .ok (.if_icmp .ge 27, 3) := by decide +kernel
theorem dX5_pass_13 : decode cX5_pass 13 = .ok (.aload_n 0, 1) := by decide +kernel
theorem dX5_pass_14 : decode cX5_pass 14 = .ok (.getfield 37, 3) := by decide +kernel
theorem dX5_pass_17 : decode cX5_pass 17 = .ok (.iconst 1, 1) := by decide +kernel
theorem dX5_pass_18 : decode cX5_pass 18 = .ok (.iadd, 1) := by decide +kernel
theorem dX5_pass_19 : decode cX5_pass 19 = .ok (.aload_n 0, 1) := by decide +kernel
theorem dX5_pass_20 : decode cX5_pass 20 = .ok (.getfield 18, 3) := by decide +kernel
theorem dX5_pass_23 : decode cX5_pass 23 = .ok (.arraylength, 1) := by decide +kernel
theorem dX5_pass_24 : decode cX5_pass 24 = .ok (.if_icmp .ge 13, 3) := by decide +kernel
theorem dX5_pass_27 : decode cX5_pass 27 = .ok (.aload_n 0, 1) := by decide +kernel
theorem dX5_pass_28 : decode cX5_pass 28 = .ok (.dup, 1) := by decide +kernel
theorem dX5_pass_29 : decode cX5_pass 29 = .ok (.getfield 37, 3) := by decide +kernel
theorem dX5_pass_32 : decode cX5_pass 32 = .ok (.iconst 1, 1) := by decide +kernel
theorem dX5_pass_33 : decode cX5_pass 33 = .ok (.iadd, 1) := by decide +kernel
theorem dX5_pass_34 : decode cX5_pass 34 = .ok (.putfield 37, 3) := by decide +kernel
theorem dX5_pass_37 : decode cX5_pass 37 = .ok (.return_, 1) := by decide +kernel
def w_X5_pass (X : XT) (Q : XT → Prop) : Prop :=
  R32 ((X 33 6) + 1) ∧ R32 (X 33 5) ∧ ((X 33 5) ≤ ((X 33 6) + 1) → Q X) ∧ (¬ (X 33 5) ≤ ((X 33 6) + 1) → (401 ≤ ((X 33 6) + 1) → Q X) ∧ (¬ 401 ≤ ((X 33 6) + 1) → Q (x_st X 33 6 ((X 33 6) + 1))))
set_option maxRecDepth 20000 in
theorem so_X5_pass {n : Nat} {h : Nat → sE} {X : XT} {Q : XT → Prop} (hn : 115 ≤ n) (hp : Pic X h) (w : w_X5_pass   X Q) : Sp m_X5_pass 0 0 0 [.ref 33] n h (pVw n h Q) := by
  unfold w_X5_pass at w
  refine Sp.ofV (by decide +kernel) (Nat.le_of_ble_eq_true rfl) ?_
  have hf : Fr h h := fun _ _ => rfl
  refine v_aload_n dX5_pass_0 rfl ?_
  refine v_get dX5_pass_1 fl_X5_37 ((hp 33 (by decide)).trans (ent_33 _)) rfl (s_lt hn rfl) ?_
  refine v_iconstI dX5_pass_4 ?_
  refine v_iaddI dX5_pass_5 ?_
  refine v_aload_n dX5_pass_6 rfl ?_
  refine v_get dX5_pass_7 fl_X5_34 ((hp 33 (by decide)).trans (ent_33 _)) rfl (s_lt hn rfl) ?_
  obtain ⟨q1, q2, w⟩ := w
  refine v_icmp_geI (tgt := 37) dX5_pass_10 (by decide) q1.1 q1.2 q2.1 q2.2 (fun c3 => ?_) (fun c3 => ?_)
  · replace w := w.1 c3
    exact v_vret dX5_pass_37 rfl (Nat.zero_le _) (Nat.zero_le _) ⟨rfl, hf, _, rfl, hp, w⟩
  · replace w := w.2 c3
    refine v_aload_n dX5_pass_13 rfl ?_
    refine v_get dX5_pass_14 fl_X5_37 ((hp 33 (by decide)).trans (ent_33 _)) rfl (s_lt hn rfl) ?_
    refine v_iconstI dX5_pass_17 ?_
    refine v_iaddI dX5_pass_18 ?_
    refine v_aload_n dX5_pass_19 rfl ?_
    refine v_get dX5_pass_20 fl_X5_18 ((hp 33 (by decide)).trans (ent_33 _)) rfl (s_lt hn rfl) ?_
    refine v_alen_aI dX5_pass_23 ((hp 36 (by decide)).trans (ent_36 _)) (s_lt hn rfl) ?_
    refine v_icmp_geI (tgt := 37) dX5_pass_24 (by decide) q1.1 q1.2 (by decide) (by decide) (fun c4 => ?_) (fun c4 => ?_)
    · replace w := w.1 c4
      exact v_vret dX5_pass_37 rfl (Nat.zero_le _) (Nat.zero_le _) ⟨rfl, hf, _, rfl, hp, w⟩
    · replace w := w.2 c4
      refine v_aload_n dX5_pass_27 rfl ?_
      refine v_dup dX5_pass_28 rfl ?_
      refine v_get dX5_pass_29 fl_X5_37 ((hp 33 (by decide)).trans (ent_33 _)) rfl (s_lt hn rfl) ?_
      refine v_iconstI dX5_pass_32 ?_
      refine v_iaddI dX5_pass_33 ?_
      refine v_put dX5_pass_34 fl_X5_37 ((hp 33 (by decide)).trans (ent_33 _)) (s_lt hn rfl) (Nat.le_of_ble_eq_true rfl) (fun _ => ⟨rfl, rfl⟩) trivial (fun h5 E6 F7 => ?_)
      have hp8 := pic_st hp (show h5 33 = ent 33 (uI _ 6 ((X 33 6) + 1)) from E6) F7
      have hf9 := Fr.up (c := 33) hf F7 rfl
      exact v_vret dX5_pass_37 rfl (Nat.zero_le _) (Nat.zero_le _) ⟨rfl, hf9, _, rfl, hp8, w⟩
theorem dX5_take_0 : decode cX5_take 0 = .ok (.aload_n 0, 1) := by decide +kernel
theorem dX5_take_1 : decode cX5_take 1 = .ok (.invokevirtual 84, 3) := by decide +kernel
theorem dX5_take_4 : decode cX5_take 4 = .ok (.iload_n 1, 1) := by decide +kernel
theorem dX5_take_5 : decode cX5_take 5 = .ok (.if_icmp .ne 7, 3) := by decide +kernel
theorem dX5_take_8 : decode cX5_take 8 = .ok (.iconst 1, 1) := by decide +kernel
theorem dX5_take_9 : decode cX5_take 9 = .ok (.goto 4, 3) := by decide +kernel
theorem dX5_take_12 : decode cX5_take 12 = .ok (.iconst 0, 1) := by decide +kernel
theorem dX5_take_13 : decode cX5_take 13 = .ok (.istore_n 2, 1) := by decide +kernel
theorem dX5_take_14 : decode cX5_take 14 = .ok (.iload_n 2, 1) := by decide +kernel
theorem dX5_take_15 : decode cX5_take 15 = .ok (.ifCond .eq 7, 3) := by decide +kernel
theorem dX5_take_18 : decode cX5_take 18 = .ok (.aload_n 0, 1) := by decide +kernel
theorem dX5_take_19 : decode cX5_take 19 = .ok (.invokevirtual 136, 3) := by decide +kernel
theorem dX5_take_22 : decode cX5_take 22 = .ok (.iload_n 2, 1) := by decide +kernel
theorem dX5_take_23 : decode cX5_take 23 = .ok (.ireturn, 1) := by decide +kernel
def w_X5_take (a0 : Int) (X : XT) (Q : Int → XT → Prop) : Prop :=
  w_X5_token   X (fun (v1 : Int) => ∀ J8 : Int → Prop, (∀ (v7 : Int), (R32 v7 ∧ (v7 = 0 → (v7 = 0 ∨ v7 = 1) ∧ Q v7 X) ∧ (¬ v7 = 0 → w_X5_pass   X (fun (X13 : XT) => (v7 = 0 ∨ v7 = 1) ∧ Q v7 X13))) → J8 v7) → R32 v1 ∧ R32 a0 ∧ (¬ v1 = a0 → J8 0) ∧ (v1 = a0 → J8 1))
set_option maxRecDepth 20000 in
theorem so_X5_take {n : Nat} {h : Nat → sE} {X : XT} {a0 : Int} {Q : Int → XT → Prop} (hn : 115 ≤ n) (hp : Pic X h) (w : w_X5_take  a0 X Q) : Sp m_X5_take 1 0 0 [.ref 33, .int (iI a0)] n h (pIw n h Q) := by
  unfold w_X5_take at w
  refine Sp.ofV (by decide +kernel) (Nat.le_of_ble_eq_true rfl) ?_
  have hf : Fr h h := fun _ _ => rfl
  refine v_aload_n dX5_take_0 rfl ?_
  refine v_callVIr dX5_take_1 ml_X5_84 (so_X5_token hn hp  w) ((hp 33 (by decide)).trans (ent_33 _)) rfl (s_lt hn rfl) rfl rfl (Nat.le_of_ble_eq_true rfl) (Nat.le_of_ble_eq_true rfl) (Nat.zero_le _) (Nat.zero_le _) (fun v1 w => ?_)
  refine v_iload_n dX5_take_4 rfl ?_
  replace w := w (fun (v7 : Int) => V (m_X5_take, 1, 0, 0, n, pIw n h Q, s_G0) 0 0 n h 13 [(0, .ref 33)] [.int (iI v7)]) (by
    intro v7 w
    refine v_istore_n dX5_take_13 (Nat.le_of_ble_eq_true rfl) ?_
    refine v_iload_n dX5_take_14 rfl ?_
    obtain ⟨q9, w⟩ := w
    refine v_if_eqI (tgt := 22) dX5_take_15 (by decide) q9.1 q9.2 (fun c10 => ?_) (fun c10 => ?_)
    · replace w := w.1 c10
      refine v_iload_n dX5_take_22 rfl ?_
      obtain ⟨q11, w⟩ := w
      exact v_zretZ dX5_take_23 rfl q11 (Nat.zero_le _) (Nat.zero_le _) ⟨rfl, hf, _, _, rfl, hp, w⟩
    · replace w := w.2 c10
      refine v_aload_n dX5_take_18 rfl ?_
      refine v_callVVw dX5_take_19 ml_X5_136 (so_X5_pass hn hp  w) ((hp 33 (by decide)).trans (ent_33 _)) rfl (s_lt hn rfl) rfl rfl (Nat.le_of_ble_eq_true rfl) (Nat.le_of_ble_eq_true rfl) (Nat.zero_le _) (Nat.zero_le _) (fun X13 h14 hp16 hf15 w => ?_)
      have hf17 := Fr.trans hf hf15
      refine v_iload_n dX5_take_22 rfl ?_
      obtain ⟨q18, w⟩ := w
      exact v_zretZ dX5_take_23 rfl q18 (Nat.zero_le _) (Nat.zero_le _) ⟨rfl, hf17, _, _, rfl, hp16, w⟩
  )
  obtain ⟨q19, q20, w⟩ := w
  refine v_icmp_neI (tgt := 12) dX5_take_5 (by decide) q19.1 q19.2 q20.1 q20.2 (fun c21 => ?_) (fun c21 => ?_)
  · replace w := w.1 c21
    refine v_iconstI dX5_take_12 ?_
    refine v_pick [0] rfl ?_
    exact w
  · replace w := w.2 c21
    refine v_iconstI dX5_take_8 ?_
    refine v_goto (tgt := 13) dX5_take_9 (by decide) ?_
    refine v_pick [0] rfl ?_
    exact w
theorem dX7_emit_0 : decode cX7_emit 0 = .ok (.aload_n 0, 1) := by decide +kernel
theorem dX7_emit_1 : decode cX7_emit 1 = .ok (.getfield 28, 3) := by decide +kernel
theorem dX7_emit_4 : decode cX7_emit 4 = .ok (.iconst 2, 1) := by decide +kernel
theorem dX7_emit_5 : decode cX7_emit 5 = .ok (.iadd, 1) := by decide +kernel
theorem dX7_emit_6 : decode cX7_emit 6 = .ok (.aload_n 0, 1) := by decide +kernel
theorem dX7_emit_7 : decode cX7_emit 7 = .ok (.getfield 21, 3) := by decide +kernel
theorem dX7_emit_10 : decode cX7_emit 10 = .ok (.arraylength, 1) := by decide +kernel
theorem dX7_emit_11 : decode cX7_emit 11 = .ok (.if_icmp .gt 35, 3) := by decide +kernel
theorem dX7_emit_14 : decode cX7_emit 14 = .ok (.aload_n 0, 1) := by decide +kernel
theorem dX7_emit_15 : decode cX7_emit 15 = .ok (.getfield 21, 3) := by decide +kernel
theorem dX7_emit_18 : decode cX7_emit 18 = .ok (.aload_n 0, 1) := by decide +kernel
theorem dX7_emit_19 : decode cX7_emit 19 = .ok (.getfield 28, 3) := by decide +kernel
theorem dX7_emit_22 : decode cX7_emit 22 = .ok (.iload_n 1, 1) := by decide +kernel
theorem dX7_emit_23 : decode cX7_emit 23 = .ok (.iastore, 1) := by decide +kernel
theorem dX7_emit_24 : decode cX7_emit 24 = .ok (.aload_n 0, 1) := by decide +kernel
theorem dX7_emit_25 : decode cX7_emit 25 = .ok (.getfield 21, 3) := by decide +kernel
theorem dX7_emit_28 : decode cX7_emit 28 = .ok (.aload_n 0, 1) := by decide +kernel
theorem dX7_emit_29 : decode cX7_emit 29 = .ok (.getfield 28, 3) := by decide +kernel
theorem dX7_emit_32 : decode cX7_emit 32 = .ok (.iconst 1, 1) := by decide +kernel
theorem dX7_emit_33 : decode cX7_emit 33 = .ok (.iadd, 1) := by decide +kernel
theorem dX7_emit_34 : decode cX7_emit 34 = .ok (.iload_n 2, 1) := by decide +kernel
theorem dX7_emit_35 : decode cX7_emit 35 = .ok (.iastore, 1) := by decide +kernel
theorem dX7_emit_36 : decode cX7_emit 36 = .ok (.aload_n 0, 1) := by decide +kernel
theorem dX7_emit_37 : decode cX7_emit 37 = .ok (.dup, 1) := by decide +kernel
theorem dX7_emit_38 : decode cX7_emit 38 = .ok (.getfield 28, 3) := by decide +kernel
theorem dX7_emit_41 : decode cX7_emit 41 = .ok (.iconst 2, 1) := by decide +kernel
theorem dX7_emit_42 : decode cX7_emit 42 = .ok (.iadd, 1) := by decide +kernel
theorem dX7_emit_43 : decode cX7_emit 43 = .ok (.putfield 28, 3) := by decide +kernel
theorem dX7_emit_46 : decode cX7_emit 46 = .ok (.return_, 1) := by decide +kernel
def w_X7_emit (a0 a1 : Int) (X : XT) (Q : XT → Prop) : Prop :=
  R32 ((X 37 3) + 2) ∧ (800 < ((X 37 3) + 2) → Q X) ∧ (¬ 800 < ((X 37 3) + 2) → (0 ≤ (X 37 3) ∧ (X 37 3) < 800) ∧ (0 ≤ (((x_st X 39 (X 37 3) a0) 37 3) + 1) ∧ (((x_st X 39 (X 37 3) a0) 37 3) + 1) < 800) ∧ Q (x_st (x_st (x_st X 39 (X 37 3) a0) 39 (((x_st X 39 (X 37 3) a0) 37 3) + 1) a1) 37 3 (((x_st (x_st X 39 (X 37 3) a0) 39 (((x_st X 39 (X 37 3) a0) 37 3) + 1) a1) 37 3) + 2)))
set_option maxRecDepth 20000 in
theorem so_X7_emit {n : Nat} {h : Nat → sE} {X : XT} {a0 a1 : Int} {Q : XT → Prop} (hn : 115 ≤ n) (hp : Pic X h) (w : w_X7_emit  a0 a1 X Q) : Sp m_X7_emit 0 0 0 [.ref 37, .int (iI a0), .int (iI a1)] n h (pVw n h Q) := by
  unfold w_X7_emit at w
  refine Sp.ofV (by decide +kernel) (Nat.le_of_ble_eq_true rfl) ?_
  have hf : Fr h h := fun _ _ => rfl
  refine v_aload_n dX7_emit_0 rfl ?_
  refine v_get dX7_emit_1 fl_X7_28 ((hp 37 (by decide)).trans (ent_37 _)) rfl (s_lt hn rfl) ?_
  refine v_iconstI dX7_emit_4 ?_
  refine v_iaddI dX7_emit_5 ?_
  refine v_aload_n dX7_emit_6 rfl ?_
  refine v_get dX7_emit_7 fl_X7_21 ((hp 37 (by decide)).trans (ent_37 _)) rfl (s_lt hn rfl) ?_
  refine v_alen_aI dX7_emit_10 ((hp 39 (by decide)).trans (ent_39 _)) (s_lt hn rfl) ?_
  obtain ⟨q1, w⟩ := w
  refine v_icmp_gtI (tgt := 46) dX7_emit_11 (by decide) q1.1 q1.2 (by decide) (by decide) (fun c2 => ?_) (fun c2 => ?_)
  · replace w := w.1 c2
    exact v_vret dX7_emit_46 rfl (Nat.zero_le _) (Nat.zero_le _) ⟨rfl, hf, _, rfl, hp, w⟩
  · replace w := w.2 c2
    refine v_aload_n dX7_emit_14 rfl ?_
    refine v_get dX7_emit_15 fl_X7_21 ((hp 37 (by decide)).trans (ent_37 _)) rfl (s_lt hn rfl) ?_
    refine v_aload_n dX7_emit_18 rfl ?_
    refine v_get dX7_emit_19 fl_X7_28 ((hp 37 (by decide)).trans (ent_37 _)) rfl (s_lt hn rfl) ?_
    refine v_iload_n dX7_emit_22 rfl ?_
    obtain ⟨q3, w⟩ := w
    refine v_iastI dX7_emit_23 ((hp 39 (by decide)).trans (ent_39 _)) (s_lt hn rfl) q3.1 q3.2 (ix_le q3.2 (by decide)) (fun h4 E5 F6 => ?_)
    have hp7 := pic_st hp (show h4 39 = ent 39 (uI _ (X 37 3) a0) from E5) F6
    have hf8 := Fr.up (c := 39) hf F6 rfl
    refine v_aload_n dX7_emit_24 rfl ?_
    refine v_get dX7_emit_25 fl_X7_21 ((hp7 37 (by decide)).trans (ent_37 _)) rfl (s_lt hn rfl) ?_
    refine v_aload_n dX7_emit_28 rfl ?_
    refine v_get dX7_emit_29 fl_X7_28 ((hp7 37 (by decide)).trans (ent_37 _)) rfl (s_lt hn rfl) ?_
    refine v_iconstI dX7_emit_32 ?_
    refine v_iaddI dX7_emit_33 ?_
    refine v_iload_n dX7_emit_34 rfl ?_
    obtain ⟨q9, w⟩ := w
    refine v_iastI dX7_emit_35 ((hp7 39 (by decide)).trans (ent_39 _)) (s_lt hn rfl) q9.1 q9.2 (ix_le q9.2 (by decide)) (fun h10 E11 F12 => ?_)
    have hp13 := pic_st hp7 (show h10 39 = ent 39 (uI _ (((x_st X 39 (X 37 3) a0) 37 3) + 1) a1) from E11) F12
    have hf14 := Fr.up (c := 39) hf8 F12 rfl
    refine v_aload_n dX7_emit_36 rfl ?_
    refine v_dup dX7_emit_37 rfl ?_
    refine v_get dX7_emit_38 fl_X7_28 ((hp13 37 (by decide)).trans (ent_37 _)) rfl (s_lt hn rfl) ?_
    refine v_iconstI dX7_emit_41 ?_
    refine v_iaddI dX7_emit_42 ?_
    refine v_put dX7_emit_43 fl_X7_28 ((hp13 37 (by decide)).trans (ent_37 _)) (s_lt hn rfl) (Nat.le_of_ble_eq_true rfl) (fun _ => ⟨rfl, rfl⟩) trivial (fun h15 E16 F17 => ?_)
    have hp18 := pic_st hp13 (show h15 37 = ent 37 (uI _ 3 (((x_st (x_st X 39 (X 37 3) a0) 39 (((x_st X 39 (X 37 3) a0) 37 3) + 1) a1) 37 3) + 2)) from E16) F17
    have hf19 := Fr.up (c := 37) hf14 F17 rfl
    exact v_vret dX7_emit_46 rfl (Nat.zero_le _) (Nat.zero_le _) ⟨rfl, hf19, _, rfl, hp18, w⟩
theorem dX7_landHere_0 : decode cX7_landHere 0 = .ok (.iload_n 1, 1) := by decide +kernel
theorem dX7_landHere_1 : decode cX7_landHere 1 = .ok (.ifCond .lt 25, 3) := by decide +kernel
theorem dX7_landHere_4 : decode cX7_landHere 4 = .ok (.iload_n 1, 1) := by decide +kernel
theorem dX7_landHere_5 : decode cX7_landHere 5 = .ok (.iconst 1, 1) := by decide +kernel
theorem dX7_landHere_6 : decode cX7_landHere 6 = .ok (.iadd, 1) := by decide +kernel
theorem dX7_landHere_7 : decode cX7_landHere 7 = .ok (.aload_n 0, 1) := by decide +kernel
theorem dX7_landHere_8 : decode cX7_landHere 8 = .ok (.getfield 28, 3) := by decide +kernel
theorem dX7_landHere_11 : decode cX7_landHere 11 = .ok (.if_icmp .ge 15, 3) := by decide +kernel
theorem dX7_landHere_14 : decode cX7_landHere 14 = .ok (.aload_n 0, 1) := by decide +kernel
theorem dX7_landHere_15 : decode cX7_landHere 15 = .ok (.getfield 21, 3) := by decide +kernel
theorem dX7_landHere_18 : decode cX7_landHere 18 = .ok (.iload_n 1, 1) := by decide +kernel
theorem dX7_landHere_19 : decode cX7_landHere 19 = .ok (.iconst 1, 1) := by decide +kernel
theorem dX7_landHere_20 : decode cX7_landHere 20 = .ok (.iadd, 1) := by decide +kernel
theorem dX7_landHere_21 : decode cX7_landHere 21 = .ok (.aload_n 0, 1) := by decide +kernel
theorem dX7_landHere_22 : decode cX7_landHere 22 = .ok (.getfield 28, 3) := by decide +kernel
theorem dX7_landHere_25 : decode cX7_landHere 25 = .ok (.iastore, 1) := by decide +kernel
theorem dX7_landHere_26 : decode cX7_landHere 26 = .ok (.return_, 1) := by decide +kernel
def w_X7_landHere (a0 : Int) (X : XT) (Q : XT → Prop) : Prop :=
  R32 a0 ∧ (a0 < 0 → Q X) ∧ (¬ a0 < 0 → R32 (a0 + 1) ∧ R32 (X 37 3) ∧ ((X 37 3) ≤ (a0 + 1) → Q X) ∧ (¬ (X 37 3) ≤ (a0 + 1) → (0 ≤ (a0 + 1) ∧ (a0 + 1) < 800) ∧ Q (x_st X 39 (a0 + 1) (X 37 3))))
set_option maxRecDepth 20000 in
theorem so_X7_landHere {n : Nat} {h : Nat → sE} {X : XT} {a0 : Int} {Q : XT → Prop} (hn : 115 ≤ n) (hp : Pic X h) (w : w_X7_landHere  a0 X Q) : Sp m_X7_landHere 0 0 0 [.ref 37, .int (iI a0)] n h (pVw n h Q) := by
  unfold w_X7_landHere at w
  refine Sp.ofV (by decide +kernel) (Nat.le_of_ble_eq_true rfl) ?_
  have hf : Fr h h := fun _ _ => rfl
  refine v_iload_n dX7_landHere_0 rfl ?_
  obtain ⟨q1, w⟩ := w
  refine v_if_ltI (tgt := 26) dX7_landHere_1 (by decide) q1.1 q1.2 (fun c2 => ?_) (fun c2 => ?_)
  · replace w := w.1 c2
    exact v_vret dX7_landHere_26 rfl (Nat.zero_le _) (Nat.zero_le _) ⟨rfl, hf, _, rfl, hp, w⟩
  · replace w := w.2 c2
    refine v_iload_n dX7_landHere_4 rfl ?_
    refine v_iconstI dX7_landHere_5 ?_
    refine v_iaddI dX7_landHere_6 ?_
    refine v_aload_n dX7_landHere_7 rfl ?_
    refine v_get dX7_landHere_8 fl_X7_28 ((hp 37 (by decide)).trans (ent_37 _)) rfl (s_lt hn rfl) ?_
    obtain ⟨q3, q4, w⟩ := w
    refine v_icmp_geI (tgt := 26) dX7_landHere_11 (by decide) q3.1 q3.2 q4.1 q4.2 (fun c5 => ?_) (fun c5 => ?_)
    · replace w := w.1 c5
      exact v_vret dX7_landHere_26 rfl (Nat.zero_le _) (Nat.zero_le _) ⟨rfl, hf, _, rfl, hp, w⟩
    · replace w := w.2 c5
      refine v_aload_n dX7_landHere_14 rfl ?_
      refine v_get dX7_landHere_15 fl_X7_21 ((hp 37 (by decide)).trans (ent_37 _)) rfl (s_lt hn rfl) ?_
      refine v_iload_n dX7_landHere_18 rfl ?_
      refine v_iconstI dX7_landHere_19 ?_
      refine v_iaddI dX7_landHere_20 ?_
      refine v_aload_n dX7_landHere_21 rfl ?_
      refine v_get dX7_landHere_22 fl_X7_28 ((hp 37 (by decide)).trans (ent_37 _)) rfl (s_lt hn rfl) ?_
      obtain ⟨q6, w⟩ := w
      refine v_iastI dX7_landHere_25 ((hp 39 (by decide)).trans (ent_39 _)) (s_lt hn rfl) q6.1 q6.2 (ix_le q6.2 (by decide)) (fun h7 E8 F9 => ?_)
      have hp10 := pic_st hp (show h7 39 = ent 39 (uI _ (a0 + 1) (X 37 3)) from E8) F9
      have hf11 := Fr.up (c := 39) hf F9 rfl
      exact v_vret dX7_landHere_26 rfl (Nat.zero_le _) (Nat.zero_le _) ⟨rfl, hf11, _, rfl, hp10, w⟩
theorem dX5_relationOf_0 : decode cX5_relationOf 0 = .ok (.iload_n 0, 1) := by decide +kernel
theorem dX5_relationOf_1 : decode cX5_relationOf 1 = .ok (.tableswitch 36 1060 1062 #[27, 33, 30], 27) := by decide +kernel
theorem dX5_relationOf_28 : decode cX5_relationOf 28 = .ok (.bipush 12, 2) := by decide +kernel
theorem dX5_relationOf_30 : decode cX5_relationOf 30 = .ok (.ireturn, 1) := by decide +kernel
theorem dX5_relationOf_31 : decode cX5_relationOf 31 = .ok (.bipush 13, 2) := by decide +kernel
theorem dX5_relationOf_33 : decode cX5_relationOf 33 = .ok (.ireturn, 1) := by decide +kernel
theorem dX5_relationOf_34 : decode cX5_relationOf 34 = .ok (.bipush 14, 2) := by decide +kernel
theorem dX5_relationOf_36 : decode cX5_relationOf 36 = .ok (.ireturn, 1) := by decide +kernel
theorem dX5_relationOf_37 : decode cX5_relationOf 37 = .ok (.iconst (-1), 1) := by decide +kernel
theorem dX5_relationOf_38 : decode cX5_relationOf 38 = .ok (.ireturn, 1) := by decide +kernel
def w_X5_relationOf (a0 : Int) (X : XT) (Q : Int → Prop) : Prop :=
  R32 a0 ∧ (a0 = 1060 → Q 12) ∧ (a0 = 1061 → Q 14) ∧ (a0 = 1062 → Q 13) ∧ (¬ a0 = 1060 ∧ ¬ a0 = 1061 ∧ ¬ a0 = 1062 → Q (-1))
set_option maxRecDepth 20000 in
theorem so_X5_relationOf {n : Nat} {h : Nat → sE} {X : XT} {a0 : Int} {Q : Int → Prop} (hn : 115 ≤ n) (hp : Pic X h) (w : w_X5_relationOf  a0 X Q) : Sp m_X5_relationOf 0 0 0 [.int (iI a0)] n h (pIr n h Q) := by
  unfold w_X5_relationOf at w
  refine Sp.ofV (by decide +kernel) (Nat.le_of_ble_eq_true rfl) ?_
  have hf : Fr h h := fun _ _ => rfl
  refine v_iload_n dX5_relationOf_0 rfl ?_
  obtain ⟨q1, w⟩ := w
  by_cases c2 : a0 = 1060
  · refine v_tabInI (tgt := 28) 1060 dX5_relationOf_1 c2 (by decide) (by decide) (by decide) (by decide) rfl (by decide) ?_
    replace w := w.1 c2
    refine v_bipushI dX5_relationOf_28 rfl ?_
    exact v_iret dX5_relationOf_30 rfl (Nat.zero_le _) (Nat.zero_le _) ⟨rfl, rfl, _, rfl, w⟩
  by_cases c3 : a0 = 1061
  · refine v_tabInI (tgt := 34) 1061 dX5_relationOf_1 c3 (by decide) (by decide) (by decide) (by decide) rfl (by decide) ?_
    replace w := w.2.1 c3
    refine v_bipushI dX5_relationOf_34 rfl ?_
    exact v_iret dX5_relationOf_36 rfl (Nat.zero_le _) (Nat.zero_le _) ⟨rfl, rfl, _, rfl, w⟩
  by_cases c4 : a0 = 1062
  · refine v_tabInI (tgt := 31) 1062 dX5_relationOf_1 c4 (by decide) (by decide) (by decide) (by decide) rfl (by decide) ?_
    replace w := w.2.2.1 c4
    refine v_bipushI dX5_relationOf_31 rfl ?_
    exact v_iret dX5_relationOf_33 rfl (Nat.zero_le _) (Nat.zero_le _) ⟨rfl, rfl, _, rfl, w⟩
  replace w := w.2.2.2 ⟨c2, c3, c4⟩
  refine v_tabOutI (tgt := 37) dX5_relationOf_1 q1.1 q1.2 (by omega) (by decide) ?_
  refine v_iconstI dX5_relationOf_37 ?_
  exact v_iret dX5_relationOf_38 rfl (Nat.zero_le _) (Nat.zero_le _) ⟨rfl, rfl, _, rfl, w⟩
theorem dX5_orderOf_0 : decode cX5_orderOf 0 = .ok (.iload_n 0, 1) := by decide +kernel
theorem dX5_orderOf_1 : decode cX5_orderOf 1 = .ok (.tableswitch 74 1037 1047 #[71, 74, 74, 74, 74, 65, 59, 74, 62, 74, 68], 59) := by decide +kernel
theorem dX5_orderOf_60 : decode cX5_orderOf 60 = .ok (.bipush 7, 2) := by decide +kernel
theorem dX5_orderOf_62 : decode cX5_orderOf 62 = .ok (.ireturn, 1) := by decide +kernel
theorem dX5_orderOf_63 : decode cX5_orderOf 63 = .ok (.bipush 8, 2) := by decide +kernel
theorem dX5_orderOf_65 : decode cX5_orderOf 65 = .ok (.ireturn, 1) := by decide +kernel
theorem dX5_orderOf_66 : decode cX5_orderOf 66 = .ok (.bipush 9, 2) := by decide +kernel
theorem dX5_orderOf_68 : decode cX5_orderOf 68 = .ok (.ireturn, 1) := by decide +kernel
theorem dX5_orderOf_69 : decode cX5_orderOf 69 = .ok (.bipush 10, 2) := by decide +kernel
theorem dX5_orderOf_71 : decode cX5_orderOf 71 = .ok (.ireturn, 1) := by decide +kernel
theorem dX5_orderOf_72 : decode cX5_orderOf 72 = .ok (.bipush 11, 2) := by decide +kernel
theorem dX5_orderOf_74 : decode cX5_orderOf 74 = .ok (.ireturn, 1) := by decide +kernel
theorem dX5_orderOf_75 : decode cX5_orderOf 75 = .ok (.iconst (-1), 1) := by decide +kernel
theorem dX5_orderOf_76 : decode cX5_orderOf 76 = .ok (.ireturn, 1) := by decide +kernel
def w_X5_orderOf (a0 : Int) (X : XT) (Q : Int → Prop) : Prop :=
  R32 a0 ∧ (a0 = 1037 → Q 11) ∧ (a0 = 1042 → Q 9) ∧ (a0 = 1043 → Q 7) ∧ (a0 = 1045 → Q 8) ∧ (a0 = 1047 → Q 10) ∧ (¬ a0 = 1037 ∧ ¬ a0 = 1042 ∧ ¬ a0 = 1043 ∧ ¬ a0 = 1045 ∧ ¬ a0 = 1047 → Q (-1))
set_option maxRecDepth 20000 in
theorem so_X5_orderOf {n : Nat} {h : Nat → sE} {X : XT} {a0 : Int} {Q : Int → Prop} (hn : 115 ≤ n) (hp : Pic X h) (w : w_X5_orderOf  a0 X Q) : Sp m_X5_orderOf 0 0 0 [.int (iI a0)] n h (pIr n h Q) := by
  unfold w_X5_orderOf at w
  refine Sp.ofV (by decide +kernel) (Nat.le_of_ble_eq_true rfl) ?_
  have hf : Fr h h := fun _ _ => rfl
  refine v_iload_n dX5_orderOf_0 rfl ?_
  obtain ⟨q1, w⟩ := w
  by_cases c2 : a0 = 1037
  · refine v_tabInI (tgt := 72) 1037 dX5_orderOf_1 c2 (by decide) (by decide) (by decide) (by decide) rfl (by decide) ?_
    replace w := w.1 c2
    refine v_bipushI dX5_orderOf_72 rfl ?_
    exact v_iret dX5_orderOf_74 rfl (Nat.zero_le _) (Nat.zero_le _) ⟨rfl, rfl, _, rfl, w⟩
  by_cases c3 : a0 = 1042
  · refine v_tabInI (tgt := 66) 1042 dX5_orderOf_1 c3 (by decide) (by decide) (by decide) (by decide) rfl (by decide) ?_
    replace w := w.2.1 c3
    refine v_bipushI dX5_orderOf_66 rfl ?_
    exact v_iret dX5_orderOf_68 rfl (Nat.zero_le _) (Nat.zero_le _) ⟨rfl, rfl, _, rfl, w⟩
  by_cases c4 : a0 = 1043
  · refine v_tabInI (tgt := 60) 1043 dX5_orderOf_1 c4 (by decide) (by decide) (by decide) (by decide) rfl (by decide) ?_
    replace w := w.2.2.1 c4
    refine v_bipushI dX5_orderOf_60 rfl ?_
    exact v_iret dX5_orderOf_62 rfl (Nat.zero_le _) (Nat.zero_le _) ⟨rfl, rfl, _, rfl, w⟩
  by_cases c5 : a0 = 1045
  · refine v_tabInI (tgt := 63) 1045 dX5_orderOf_1 c5 (by decide) (by decide) (by decide) (by decide) rfl (by decide) ?_
    replace w := w.2.2.2.1 c5
    refine v_bipushI dX5_orderOf_63 rfl ?_
    exact v_iret dX5_orderOf_65 rfl (Nat.zero_le _) (Nat.zero_le _) ⟨rfl, rfl, _, rfl, w⟩
  by_cases c6 : a0 = 1047
  · refine v_tabInI (tgt := 69) 1047 dX5_orderOf_1 c6 (by decide) (by decide) (by decide) (by decide) rfl (by decide) ?_
    replace w := w.2.2.2.2.1 c6
    refine v_bipushI dX5_orderOf_69 rfl ?_
    exact v_iret dX5_orderOf_71 rfl (Nat.zero_le _) (Nat.zero_le _) ⟨rfl, rfl, _, rfl, w⟩
  replace w := w.2.2.2.2.2 ⟨c2, c3, c4, c5, c6⟩
  by_cases c7 : a0 = 1038
  · refine v_tabInI (tgt := 75) 1038 dX5_orderOf_1 c7 (by decide) (by decide) (by decide) (by decide) rfl (by decide) ?_
    refine v_iconstI dX5_orderOf_75 ?_
    exact v_iret dX5_orderOf_76 rfl (Nat.zero_le _) (Nat.zero_le _) ⟨rfl, rfl, _, rfl, w⟩
  by_cases c8 : a0 = 1039
  · refine v_tabInI (tgt := 75) 1039 dX5_orderOf_1 c8 (by decide) (by decide) (by decide) (by decide) rfl (by decide) ?_
    refine v_iconstI dX5_orderOf_75 ?_
    exact v_iret dX5_orderOf_76 rfl (Nat.zero_le _) (Nat.zero_le _) ⟨rfl, rfl, _, rfl, w⟩
  by_cases c9 : a0 = 1040
  · refine v_tabInI (tgt := 75) 1040 dX5_orderOf_1 c9 (by decide) (by decide) (by decide) (by decide) rfl (by decide) ?_
    refine v_iconstI dX5_orderOf_75 ?_
    exact v_iret dX5_orderOf_76 rfl (Nat.zero_le _) (Nat.zero_le _) ⟨rfl, rfl, _, rfl, w⟩
  by_cases c10 : a0 = 1041
  · refine v_tabInI (tgt := 75) 1041 dX5_orderOf_1 c10 (by decide) (by decide) (by decide) (by decide) rfl (by decide) ?_
    refine v_iconstI dX5_orderOf_75 ?_
    exact v_iret dX5_orderOf_76 rfl (Nat.zero_le _) (Nat.zero_le _) ⟨rfl, rfl, _, rfl, w⟩
  by_cases c11 : a0 = 1044
  · refine v_tabInI (tgt := 75) 1044 dX5_orderOf_1 c11 (by decide) (by decide) (by decide) (by decide) rfl (by decide) ?_
    refine v_iconstI dX5_orderOf_75 ?_
    exact v_iret dX5_orderOf_76 rfl (Nat.zero_le _) (Nat.zero_le _) ⟨rfl, rfl, _, rfl, w⟩
  by_cases c12 : a0 = 1046
  · refine v_tabInI (tgt := 75) 1046 dX5_orderOf_1 c12 (by decide) (by decide) (by decide) (by decide) rfl (by decide) ?_
    refine v_iconstI dX5_orderOf_75 ?_
    exact v_iret dX5_orderOf_76 rfl (Nat.zero_le _) (Nat.zero_le _) ⟨rfl, rfl, _, rfl, w⟩
  refine v_tabOutI (tgt := 75) dX5_orderOf_1 q1.1 q1.2 (by omega) (by decide) ?_
  refine v_iconstI dX5_orderOf_75 ?_
  exact v_iret dX5_orderOf_76 rfl (Nat.zero_le _) (Nat.zero_le _) ⟨rfl, rfl, _, rfl, w⟩
theorem dX8_cornerSlot_0 : decode cX8_cornerSlot 0 = .ok (.iload_n 0, 1) := by decide +kernel
theorem dX8_cornerSlot_1 : decode cX8_cornerSlot 1 = .ok (.iconst 5, 1) := by decide +kernel
theorem dX8_cornerSlot_2 : decode cX8_cornerSlot 2 = .ok (.imul, 1) := by decide +kernel
theorem dX8_cornerSlot_3 : decode cX8_cornerSlot 3 = .ok (.iload_n 1, 1) := by decide +kernel
theorem dX8_cornerSlot_4 : decode cX8_cornerSlot 4 = .ok (.iadd, 1) := by decide +kernel
theorem dX8_cornerSlot_5 : decode cX8_cornerSlot 5 = .ok (.bipush 12, 2) := by decide +kernel
theorem dX8_cornerSlot_7 : decode cX8_cornerSlot 7 = .ok (.imul, 1) := by decide +kernel
theorem dX8_cornerSlot_8 : decode cX8_cornerSlot 8 = .ok (.iload_n 2, 1) := by decide +kernel
theorem dX8_cornerSlot_9 : decode cX8_cornerSlot 9 = .ok (.iadd, 1) := by decide +kernel
theorem dX8_cornerSlot_10 : decode cX8_cornerSlot 10 = .ok (.ireturn, 1) := by decide +kernel
def w_X8_cornerSlot (a0 a1 a2 : Int) (X : XT) (Q : Int → Prop) : Prop :=
  Q ((((a0 * 5) + a1) * 12) + a2)
set_option maxRecDepth 20000 in
theorem so_X8_cornerSlot {n : Nat} {h : Nat → sE} {X : XT} {a0 a1 a2 : Int} {Q : Int → Prop} (hn : 115 ≤ n) (hp : Pic X h) (w : w_X8_cornerSlot  a0 a1 a2 X Q) : Sp m_X8_cornerSlot 0 0 0 [.int (iI a0), .int (iI a1), .int (iI a2)] n h (pIr n h Q) := by
  unfold w_X8_cornerSlot at w
  refine Sp.ofV (by decide +kernel) (Nat.le_of_ble_eq_true rfl) ?_
  have hf : Fr h h := fun _ _ => rfl
  refine v_iload_n dX8_cornerSlot_0 rfl ?_
  refine v_iconstI dX8_cornerSlot_1 ?_
  refine v_imulI dX8_cornerSlot_2 ?_
  refine v_iload_n dX8_cornerSlot_3 rfl ?_
  refine v_iaddI dX8_cornerSlot_4 ?_
  refine v_bipushI dX8_cornerSlot_5 rfl ?_
  refine v_imulI dX8_cornerSlot_7 ?_
  refine v_iload_n dX8_cornerSlot_8 rfl ?_
  refine v_iaddI dX8_cornerSlot_9 ?_
  exact v_iret dX8_cornerSlot_10 rfl (Nat.zero_le _) (Nat.zero_le _) ⟨rfl, rfl, _, rfl, w⟩
theorem dX5_readWord_0 : decode cX5_readWord 0 = .ok (.aload_n 0, 1) := by decide +kernel
theorem dX5_readWord_1 : decode cX5_readWord 1 = .ok (.getfield 46, 3) := by decide +kernel
theorem dX5_readWord_4 : decode cX5_readWord 4 = .ok (.ifCond .eq 21, 3) := by decide +kernel
theorem dX5_readWord_7 : decode cX5_readWord 7 = .ok (.iload_n 1, 1) := by decide +kernel
theorem dX5_readWord_8 : decode cX5_readWord 8 = .ok (.ifCond .lt 13, 3) := by decide +kernel
theorem dX5_readWord_11 : decode cX5_readWord 11 = .ok (.iload_n 1, 1) := by decide +kernel
theorem dX5_readWord_12 : decode cX5_readWord 12 = .ok (.bipush 7, 2) := by decide +kernel
theorem dX5_readWord_14 : decode cX5_readWord 14 = .ok (.if_icmp .gt 7, 3) := by decide +kernel
theorem dX5_readWord_17 : decode cX5_readWord 17 = .ok (.iconst 1, 1) := by decide +kernel
theorem dX5_readWord_18 : decode cX5_readWord 18 = .ok (.goto 24, 3) := by decide +kernel
theorem dX5_readWord_21 : decode cX5_readWord 21 = .ok (.iconst 0, 1) := by decide +kernel
theorem dX5_readWord_22 : decode cX5_readWord 22 = .ok (.goto 20, 3) := by decide +kernel
theorem dX5_readWord_25 : decode cX5_readWord 25 = .ok (.iload_n 1, 1) := by decide +kernel
theorem dX5_readWord_26 : decode cX5_readWord 26 = .ok (.bipush 7, 2) := by decide +kernel
theorem dX5_readWord_28 : decode cX5_readWord 28 = .ok (.if_icmp .lt 13, 3) := by decide +kernel
theorem dX5_readWord_31 : decode cX5_readWord 31 = .ok (.iload_n 1, 1) := by decide +kernel
theorem dX5_readWord_32 : decode cX5_readWord 32 = .ok (.bipush 14, 2) := by decide +kernel
theorem dX5_readWord_34 : decode cX5_readWord 34 = .ok (.if_icmp .gt 7, 3) := by decide +kernel
theorem dX5_readWord_37 : decode cX5_readWord 37 = .ok (.iconst 1, 1) := by decide +kernel
theorem dX5_readWord_38 : decode cX5_readWord 38 = .ok (.goto 4, 3) := by decide +kernel
theorem dX5_readWord_41 : decode cX5_readWord 41 = .ok (.iconst 0, 1) := by decide +kernel
theorem dX5_readWord_42 : decode cX5_readWord 42 = .ok (.istore_n 2, 1) := by decide +kernel
theorem dX5_readWord_43 : decode cX5_readWord 43 = .ok (.iload_n 2, 1) := by decide +kernel
theorem dX5_readWord_44 : decode cX5_readWord 44 = .ok (.ifCond .ne 5, 3) := by decide +kernel
theorem dX5_readWord_47 : decode cX5_readWord 47 = .ok (.iconst 0, 1) := by decide +kernel
theorem dX5_readWord_48 : decode cX5_readWord 48 = .ok (.ireturn, 1) := by decide +kernel
theorem dX5_readWord_49 : decode cX5_readWord 49 = .ok (.aload_n 0, 1) := by decide +kernel
theorem dX5_readWord_50 : decode cX5_readWord 50 = .ok (.dup, 1) := by decide +kernel
theorem dX5_readWord_51 : decode cX5_readWord 51 = .ok (.getfield 40, 3) := by decide +kernel
theorem dX5_readWord_54 : decode cX5_readWord 54 = .ok (.iconst 1, 1) := by decide +kernel
theorem dX5_readWord_55 : decode cX5_readWord 55 = .ok (.iadd, 1) := by decide +kernel
theorem dX5_readWord_56 : decode cX5_readWord 56 = .ok (.putfield 40, 3) := by decide +kernel
theorem dX5_readWord_59 : decode cX5_readWord 59 = .ok (.aload_n 0, 1) := by decide +kernel
theorem dX5_readWord_60 : decode cX5_readWord 60 = .ok (.invokevirtual 136, 3) := by decide +kernel
theorem dX5_readWord_63 : decode cX5_readWord 63 = .ok (.iload_n 1, 1) := by decide +kernel
theorem dX5_readWord_64 : decode cX5_readWord 64 = .ok (.bipush 13, 2) := by decide +kernel
theorem dX5_readWord_66 : decode cX5_readWord 66 = .ok (.if_icmp .ge 14, 3) := by decide +kernel
theorem dX5_readWord_69 : decode cX5_readWord 69 = .ok (.aload_n 0, 1) := by decide +kernel
theorem dX5_readWord_70 : decode cX5_readWord 70 = .ok (.getfield 26, 3) := by decide +kernel
theorem dX5_readWord_73 : decode cX5_readWord 73 = .ok (.iconst 2, 1) := by decide +kernel
theorem dX5_readWord_74 : decode cX5_readWord 74 = .ok (.iload_n 1, 1) := by decide +kernel
theorem dX5_readWord_75 : decode cX5_readWord 75 = .ok (.invokevirtual 81, 3) := by decide +kernel
theorem dX5_readWord_78 : decode cX5_readWord 78 = .ok (.iconst 1, 1) := by decide +kernel
theorem dX5_readWord_79 : decode cX5_readWord 79 = .ok (.ireturn, 1) := by decide +kernel
theorem dX5_readWord_80 : decode cX5_readWord 80 = .ok (.aload_n 0, 1) := by decide +kernel
theorem dX5_readWord_81 : decode cX5_readWord 81 = .ok (.invokevirtual 84, 3) := by decide +kernel
theorem dX5_readWord_84 : decode cX5_readWord 84 = .ok (.sipush 2000, 3) := by decide +kernel
theorem dX5_readWord_87 : decode cX5_readWord 87 = .ok (.isub, 1) := by decide +kernel
theorem dX5_readWord_88 : decode cX5_readWord 88 = .ok (.istore_n 3, 1) := by decide +kernel
theorem dX5_readWord_89 : decode cX5_readWord 89 = .ok (.iload_n 3, 1) := by decide +kernel
theorem dX5_readWord_90 : decode cX5_readWord 90 = .ok (.iconst 0, 1) := by decide +kernel
theorem dX5_readWord_91 : decode cX5_readWord 91 = .ok (.iconst 4, 1) := by decide +kernel
theorem dX5_readWord_92 : decode cX5_readWord 92 = .ok (.invokestatic 168, 3) := by decide +kernel
theorem dX5_readWord_95 : decode cX5_readWord 95 = .ok (.ifCond .ne 5, 3) := by decide +kernel
theorem dX5_readWord_98 : decode cX5_readWord 98 = .ok (.iconst 0, 1) := by decide +kernel
theorem dX5_readWord_99 : decode cX5_readWord 99 = .ok (.ireturn, 1) := by decide +kernel
theorem dX5_readWord_100 : decode cX5_readWord 100 = .ok (.aload_n 0, 1) := by decide +kernel
theorem dX5_readWord_101 : decode cX5_readWord 101 = .ok (.invokevirtual 136, 3) := by decide +kernel
theorem dX5_readWord_104 : decode cX5_readWord 104 = .ok (.aload_n 0, 1) := by decide +kernel
theorem dX5_readWord_105 : decode cX5_readWord 105 = .ok (.invokevirtual 84, 3) := by decide +kernel
theorem dX5_readWord_108 : decode cX5_readWord 108 = .ok (.sipush 2000, 3) := by decide +kernel
theorem dX5_readWord_111 : decode cX5_readWord 111 = .ok (.isub, 1) := by decide +kernel
theorem dX5_readWord_112 : decode cX5_readWord 112 = .ok (.istore 4, 2) := by decide +kernel
theorem dX5_readWord_114 : decode cX5_readWord 114 = .ok (.iload 4, 2) := by decide +kernel
theorem dX5_readWord_116 : decode cX5_readWord 116 = .ok (.iconst 0, 1) := by decide +kernel
theorem dX5_readWord_117 : decode cX5_readWord 117 = .ok (.bipush 11, 2) := by decide +kernel
theorem dX5_readWord_119 : decode cX5_readWord 119 = .ok (.invokestatic 168, 3) := by decide +kernel
theorem dX5_readWord_122 : decode cX5_readWord 122 = .ok (.ifCond .ne 5, 3) := by decide +kernel
theorem dX5_readWord_125 : decode cX5_readWord 125 = .ok (.iconst 0, 1) := by decide +kernel
theorem dX5_readWord_126 : decode cX5_readWord 126 = .ok (.ireturn, 1) := by decide +kernel
theorem dX5_readWord_127 : decode cX5_readWord 127 = .ok (.aload_n 0, 1) := by decide +kernel
theorem dX5_readWord_128 : decode cX5_readWord 128 = .ok (.invokevirtual 136, 3) := by decide +kernel
theorem dX5_readWord_131 : decode cX5_readWord 131 = .ok (.aload_n 0, 1) := by decide +kernel
theorem dX5_readWord_132 : decode cX5_readWord 132 = .ok (.getfield 26, 3) := by decide +kernel
theorem dX5_readWord_135 : decode cX5_readWord 135 = .ok (.iconst 1, 1) := by decide +kernel
theorem dX5_readWord_136 : decode cX5_readWord 136 = .ok (.putfield 171, 3) := by decide +kernel
theorem dX5_readWord_139 : decode cX5_readWord 139 = .ok (.aload_n 0, 1) := by decide +kernel
theorem dX5_readWord_140 : decode cX5_readWord 140 = .ok (.getfield 26, 3) := by decide +kernel
theorem dX5_readWord_143 : decode cX5_readWord 143 = .ok (.iconst 3, 1) := by decide +kernel
theorem dX5_readWord_144 : decode cX5_readWord 144 = .ok (.iload_n 1, 1) := by decide +kernel
theorem dX5_readWord_145 : decode cX5_readWord 145 = .ok (.bipush 13, 2) := by decide +kernel
theorem dX5_readWord_147 : decode cX5_readWord 147 = .ok (.isub, 1) := by decide +kernel
theorem dX5_readWord_148 : decode cX5_readWord 148 = .ok (.iload_n 3, 1) := by decide +kernel
theorem dX5_readWord_149 : decode cX5_readWord 149 = .ok (.iload 4, 2) := by decide +kernel
theorem dX5_readWord_151 : decode cX5_readWord 151 = .ok (.invokestatic 174, 3) := by decide +kernel
theorem dX5_readWord_154 : decode cX5_readWord 154 = .ok (.invokevirtual 81, 3) := by decide +kernel
theorem dX5_readWord_157 : decode cX5_readWord 157 = .ok (.iconst 1, 1) := by decide +kernel
theorem dX5_readWord_158 : decode cX5_readWord 158 = .ok (.ireturn, 1) := by decide +kernel
def w_X5_readWord (a0 : Int) (X : XT) (Q : Int → XT → Prop) : Prop :=
  ∀ J2 : Int → Prop, (∀ (v1 : Int), (R32 v1 ∧ (¬ v1 = 0 → w_X5_pass   (x_st X 33 7 ((X 33 7) + 1)) (fun (X11 : XT) => R32 a0 ∧ (13 ≤ a0 → w_X5_token   X11 (fun (v18 : Int) => R32 (v18 - 2000) ∧ ((0 ≤ (v18 - 2000) ∧ (v18 - 2000) ≤ 4) → w_X5_pass   X11 (fun (X27 : XT) => w_X5_token   X27 (fun (v32 : Int) => R32 (v32 - 2000) ∧ ((0 ≤ (v32 - 2000) ∧ (v32 - 2000) ≤ 11) → w_X5_pass   X27 (fun (X41 : XT) => w_X8_cornerSlot  (a0 - 13) (v18 - 2000) (v32 - 2000) (x_st X41 37 4 1) (fun (v51 : Int) => w_X7_emit  3 v51 (x_st X41 37 4 1) (fun (X58 : XT) => Q 1 X58)))) ∧ (¬ (0 ≤ (v32 - 2000) ∧ (v32 - 2000) ≤ 11) → Q 0 X27)))) ∧ (¬ (0 ≤ (v18 - 2000) ∧ (v18 - 2000) ≤ 4) → Q 0 X11))) ∧ (¬ 13 ≤ a0 → w_X7_emit  2 a0 X11 (fun (X64 : XT) => Q 1 X64)))) ∧ (v1 = 0 → Q 0 X)) → J2 v1) → R32 (X 33 9) ∧ ((X 33 9) = 0 → R32 a0 ∧ (a0 < 7 → J2 0) ∧ (¬ a0 < 7 → (14 < a0 → J2 0) ∧ (¬ 14 < a0 → J2 1))) ∧ (¬ (X 33 9) = 0 → R32 a0 ∧ (a0 < 0 → J2 0) ∧ (¬ a0 < 0 → (7 < a0 → J2 0) ∧ (¬ 7 < a0 → J2 1)))
set_option maxRecDepth 20000 in
theorem so_X5_readWord {n : Nat} {h : Nat → sE} {X : XT} {a0 : Int} {Q : Int → XT → Prop} (hn : 115 ≤ n) (hp : Pic X h) (w : w_X5_readWord  a0 X Q) : Sp m_X5_readWord 1 0 0 [.ref 33, .int (iI a0)] n h (pIw n h Q) := by
  unfold w_X5_readWord at w
  refine Sp.ofV (by decide +kernel) (Nat.le_of_ble_eq_true rfl) ?_
  have hf : Fr h h := fun _ _ => rfl
  refine v_aload_n dX5_readWord_0 rfl ?_
  refine v_get dX5_readWord_1 fl_X5_46 ((hp 33 (by decide)).trans (ent_33 _)) rfl (s_lt hn rfl) ?_
  replace w := w (fun (v1 : Int) => V (m_X5_readWord, 1, 0, 0, n, pIw n h Q, s_G0) 0 0 n h 42 [(0, .ref 33), (1, .int (iI a0))] [.int (iI v1)]) (by
    intro v1 w
    refine v_istore_n dX5_readWord_42 (Nat.le_of_ble_eq_true rfl) ?_
    refine v_iload_n dX5_readWord_43 rfl ?_
    obtain ⟨q3, w⟩ := w
    refine v_if_neI (tgt := 49) dX5_readWord_44 (by decide) q3.1 q3.2 (fun c4 => ?_) (fun c4 => ?_)
    · replace w := w.1 c4
      refine v_aload_n dX5_readWord_49 rfl ?_
      refine v_dup dX5_readWord_50 rfl ?_
      refine v_get dX5_readWord_51 fl_X5_40 ((hp 33 (by decide)).trans (ent_33 _)) rfl (s_lt hn rfl) ?_
      refine v_iconstI dX5_readWord_54 ?_
      refine v_iaddI dX5_readWord_55 ?_
      refine v_put dX5_readWord_56 fl_X5_40 ((hp 33 (by decide)).trans (ent_33 _)) (s_lt hn rfl) (Nat.le_of_ble_eq_true rfl) (fun _ => ⟨rfl, rfl⟩) trivial (fun h5 E6 F7 => ?_)
      have hp8 := pic_st hp (show h5 33 = ent 33 (uI _ 7 ((X 33 7) + 1)) from E6) F7
      have hf9 := Fr.up (c := 33) hf F7 rfl
      refine v_aload_n dX5_readWord_59 rfl ?_
      refine v_callVVw dX5_readWord_60 ml_X5_136 (so_X5_pass hn hp8  w) ((hp8 33 (by decide)).trans (ent_33 _)) rfl (s_lt hn rfl) rfl rfl (Nat.le_of_ble_eq_true rfl) (Nat.le_of_ble_eq_true rfl) (Nat.zero_le _) (Nat.zero_le _) (fun X11 h12 hp14 hf13 w => ?_)
      have hf15 := Fr.trans hf9 hf13
      refine v_iload_n dX5_readWord_63 rfl ?_
      refine v_bipushI dX5_readWord_64 rfl ?_
      obtain ⟨q16, w⟩ := w
      refine v_icmp_geI (tgt := 80) dX5_readWord_66 (by decide) q16.1 q16.2 (by decide) (by decide) (fun c17 => ?_) (fun c17 => ?_)
      · replace w := w.1 c17
        refine v_aload_n dX5_readWord_80 rfl ?_
        refine v_callVIr dX5_readWord_81 ml_X5_84 (so_X5_token hn hp14  w) ((hp14 33 (by decide)).trans (ent_33 _)) rfl (s_lt hn rfl) rfl rfl (Nat.le_of_ble_eq_true rfl) (Nat.le_of_ble_eq_true rfl) (Nat.zero_le _) (Nat.zero_le _) (fun v18 w => ?_)
        refine v_sipushI dX5_readWord_84 rfl ?_
        refine v_isubI dX5_readWord_87 ?_
        refine v_istore_n dX5_readWord_88 (Nat.le_of_ble_eq_true rfl) ?_
        refine v_iload_n dX5_readWord_89 rfl ?_
        refine v_iconstI dX5_readWord_90 ?_
        refine v_iconstI dX5_readWord_91 ?_
        obtain ⟨q24, w⟩ := w
        refine v_callSp dX5_readWord_92 ml_X5_168 (sp_X11_within (a := (v18 - 2000)) (b := 0) (c := 4) q24 (by decide) (by decide)) rfl rfl (Nat.le_of_ble_eq_true rfl) (Nat.le_of_ble_eq_true rfl) (Nat.zero_le _) (Nat.zero_le _) ?_
        refine v_ifneB (tgt := 100) dX5_readWord_95 (by decide) (fun c25 => ?_) (fun c25 => ?_)
        · replace w := w.1 c25
          refine v_aload_n dX5_readWord_100 rfl ?_
          refine v_callVVw dX5_readWord_101 ml_X5_136 (so_X5_pass hn hp14  w) ((hp14 33 (by decide)).trans (ent_33 _)) rfl (s_lt hn rfl) rfl rfl (Nat.le_of_ble_eq_true rfl) (Nat.le_of_ble_eq_true rfl) (Nat.zero_le _) (Nat.zero_le _) (fun X27 h28 hp30 hf29 w => ?_)
          have hf31 := Fr.trans hf15 hf29
          refine v_aload_n dX5_readWord_104 rfl ?_
          refine v_callVIr dX5_readWord_105 ml_X5_84 (so_X5_token hn hp30  w) ((hp30 33 (by decide)).trans (ent_33 _)) rfl (s_lt hn rfl) rfl rfl (Nat.le_of_ble_eq_true rfl) (Nat.le_of_ble_eq_true rfl) (Nat.zero_le _) (Nat.zero_le _) (fun v32 w => ?_)
          refine v_sipushI dX5_readWord_108 rfl ?_
          refine v_isubI dX5_readWord_111 ?_
          refine v_istore dX5_readWord_112 (Nat.le_of_ble_eq_true rfl) ?_
          refine v_iload dX5_readWord_114 rfl ?_
          refine v_iconstI dX5_readWord_116 ?_
          refine v_bipushI dX5_readWord_117 rfl ?_
          obtain ⟨q38, w⟩ := w
          refine v_callSp dX5_readWord_119 ml_X5_168 (sp_X11_within (a := (v32 - 2000)) (b := 0) (c := 11) q38 (by decide) (by decide)) rfl rfl (Nat.le_of_ble_eq_true rfl) (Nat.le_of_ble_eq_true rfl) (Nat.zero_le _) (Nat.zero_le _) ?_
          refine v_ifneB (tgt := 127) dX5_readWord_122 (by decide) (fun c39 => ?_) (fun c39 => ?_)
          · replace w := w.1 c39
            refine v_aload_n dX5_readWord_127 rfl ?_
            refine v_callVVw dX5_readWord_128 ml_X5_136 (so_X5_pass hn hp30  w) ((hp30 33 (by decide)).trans (ent_33 _)) rfl (s_lt hn rfl) rfl rfl (Nat.le_of_ble_eq_true rfl) (Nat.le_of_ble_eq_true rfl) (Nat.zero_le _) (Nat.zero_le _) (fun X41 h42 hp44 hf43 w => ?_)
            have hf45 := Fr.trans hf31 hf43
            refine v_aload_n dX5_readWord_131 rfl ?_
            refine v_get dX5_readWord_132 fl_X5_26 ((hp44 33 (by decide)).trans (ent_33 _)) rfl (s_lt hn rfl) ?_
            refine v_iconstI dX5_readWord_135 ?_
            refine v_put dX5_readWord_136 fl_X5_171 ((hp44 37 (by decide)).trans (ent_37 _)) (s_lt hn rfl) (Nat.le_of_ble_eq_true rfl) (fun _ => ⟨iI_nb1, rfl⟩) trivial (fun h46 E47 F48 => ?_)
            have hp49 := pic_st hp44 (show h46 37 = ent 37 (uI _ 4 1) from E47) F48
            have hf50 := Fr.up (c := 37) hf45 F48 rfl
            refine v_aload_n dX5_readWord_139 rfl ?_
            refine v_get dX5_readWord_140 fl_X5_26 ((hp49 33 (by decide)).trans (ent_33 _)) rfl (s_lt hn rfl) ?_
            refine v_iconstI dX5_readWord_143 ?_
            refine v_iload_n dX5_readWord_144 rfl ?_
            refine v_bipushI dX5_readWord_145 rfl ?_
            refine v_isubI dX5_readWord_147 ?_
            refine v_iload_n dX5_readWord_148 rfl ?_
            refine v_iload dX5_readWord_149 rfl ?_
            refine v_callSIr dX5_readWord_151 ml_X5_174 (so_X8_cornerSlot hn hp49  w) rfl rfl (Nat.le_of_ble_eq_true rfl) (Nat.le_of_ble_eq_true rfl) (Nat.zero_le _) (Nat.zero_le _) (fun v51 w => ?_)
            refine v_callVVw dX5_readWord_154 ml_X5_81 (so_X7_emit hn hp49  w) ((hp49 37 (by decide)).trans (ent_37 _)) rfl (s_lt hn rfl) rfl rfl (Nat.le_of_ble_eq_true rfl) (Nat.le_of_ble_eq_true rfl) (Nat.zero_le _) (Nat.zero_le _) (fun X58 h59 hp61 hf60 w => ?_)
            have hf62 := Fr.trans hf50 hf60
            refine v_iconstI dX5_readWord_157 ?_
            exact v_z1 dX5_readWord_158 rfl (Nat.zero_le _) (Nat.zero_le _) ⟨rfl, hf62, _, _, rfl, hp61, w⟩
          · replace w := w.2 c39
            refine v_iconstI dX5_readWord_125 ?_
            exact v_z0 dX5_readWord_126 rfl (Nat.zero_le _) (Nat.zero_le _) ⟨rfl, hf31, _, _, rfl, hp30, w⟩
        · replace w := w.2 c25
          refine v_iconstI dX5_readWord_98 ?_
          exact v_z0 dX5_readWord_99 rfl (Nat.zero_le _) (Nat.zero_le _) ⟨rfl, hf15, _, _, rfl, hp14, w⟩
      · replace w := w.2 c17
        refine v_aload_n dX5_readWord_69 rfl ?_
        refine v_get dX5_readWord_70 fl_X5_26 ((hp14 33 (by decide)).trans (ent_33 _)) rfl (s_lt hn rfl) ?_
        refine v_iconstI dX5_readWord_73 ?_
        refine v_iload_n dX5_readWord_74 rfl ?_
        refine v_callVVw dX5_readWord_75 ml_X5_81 (so_X7_emit hn hp14  w) ((hp14 37 (by decide)).trans (ent_37 _)) rfl (s_lt hn rfl) rfl rfl (Nat.le_of_ble_eq_true rfl) (Nat.le_of_ble_eq_true rfl) (Nat.zero_le _) (Nat.zero_le _) (fun X64 h65 hp67 hf66 w => ?_)
        have hf68 := Fr.trans hf15 hf66
        refine v_iconstI dX5_readWord_78 ?_
        exact v_z1 dX5_readWord_79 rfl (Nat.zero_le _) (Nat.zero_le _) ⟨rfl, hf68, _, _, rfl, hp67, w⟩
    · replace w := w.2 c4
      refine v_iconstI dX5_readWord_47 ?_
      exact v_z0 dX5_readWord_48 rfl (Nat.zero_le _) (Nat.zero_le _) ⟨rfl, hf, _, _, rfl, hp, w⟩
  )
  obtain ⟨q69, w⟩ := w
  refine v_if_eqI (tgt := 25) dX5_readWord_4 (by decide) q69.1 q69.2 (fun c70 => ?_) (fun c70 => ?_)
  · replace w := w.1 c70
    refine v_iload_n dX5_readWord_25 rfl ?_
    refine v_bipushI dX5_readWord_26 rfl ?_
    obtain ⟨q71, w⟩ := w
    refine v_icmp_ltI (tgt := 41) dX5_readWord_28 (by decide) q71.1 q71.2 (by decide) (by decide) (fun c72 => ?_) (fun c72 => ?_)
    · replace w := w.1 c72
      refine v_iconstI dX5_readWord_41 ?_
      exact w
    · replace w := w.2 c72
      refine v_iload_n dX5_readWord_31 rfl ?_
      refine v_bipushI dX5_readWord_32 rfl ?_
      refine v_icmp_gtI (tgt := 41) dX5_readWord_34 (by decide) q71.1 q71.2 (by decide) (by decide) (fun c73 => ?_) (fun c73 => ?_)
      · replace w := w.1 c73
        refine v_iconstI dX5_readWord_41 ?_
        exact w
      · replace w := w.2 c73
        refine v_iconstI dX5_readWord_37 ?_
        refine v_goto (tgt := 42) dX5_readWord_38 (by decide) ?_
        exact w
  · replace w := w.2 c70
    refine v_iload_n dX5_readWord_7 rfl ?_
    obtain ⟨q74, w⟩ := w
    refine v_if_ltI (tgt := 21) dX5_readWord_8 (by decide) q74.1 q74.2 (fun c75 => ?_) (fun c75 => ?_)
    · replace w := w.1 c75
      refine v_iconstI dX5_readWord_21 ?_
      refine v_goto (tgt := 42) dX5_readWord_22 (by decide) ?_
      exact w
    · replace w := w.2 c75
      refine v_iload_n dX5_readWord_11 rfl ?_
      refine v_bipushI dX5_readWord_12 rfl ?_
      refine v_icmp_gtI (tgt := 21) dX5_readWord_14 (by decide) q74.1 q74.2 (by decide) (by decide) (fun c76 => ?_) (fun c76 => ?_)
      · replace w := w.1 c76
        refine v_iconstI dX5_readWord_21 ?_
        refine v_goto (tgt := 42) dX5_readWord_22 (by decide) ?_
        exact w
      · replace w := w.2 c76
        refine v_iconstI dX5_readWord_17 ?_
        refine v_goto (tgt := 42) dX5_readWord_18 (by decide) ?_
        exact w
theorem dX5_readTest_0 : decode cX5_readTest 0 = .ok (.iconst (-1), 1) := by decide +kernel
theorem dX5_readTest_1 : decode cX5_readTest 1 = .ok (.istore_n 2, 1) := by decide +kernel
theorem dX5_readTest_2 : decode cX5_readTest 2 = .ok (.aload_n 0, 1) := by decide +kernel
theorem dX5_readTest_3 : decode cX5_readTest 3 = .ok (.iload_n 1, 1) := by decide +kernel
theorem dX5_readTest_4 : decode cX5_readTest 4 = .ok (.invokevirtual 149, 3) := by decide +kernel
theorem dX5_readTest_7 : decode cX5_readTest 7 = .ok (.istore_n 3, 1) := by decide +kernel
theorem dX5_readTest_8 : decode cX5_readTest 8 = .ok (.iconst 0, 1) := by decide +kernel
theorem dX5_readTest_9 : decode cX5_readTest 9 = .ok (.istore 4, 2) := by decide +kernel
theorem dX5_readTest_11 : decode cX5_readTest 11 = .ok (.iload 4, 2) := by decide +kernel
theorem dX5_readTest_13 : decode cX5_readTest 13 = .ok (.sipush 400, 3) := by decide +kernel
theorem dX5_readTest_16 : decode cX5_readTest 16 = .ok (.if_icmp .ge 96, 3) := by decide +kernel
theorem dX5_readTest_19 : decode cX5_readTest 19 = .ok (.iload_n 3, 1) := by decide +kernel
theorem dX5_readTest_20 : decode cX5_readTest 20 = .ok (.ifCond .eq 92, 3) := by decide +kernel
theorem dX5_readTest_23 : decode cX5_readTest 23 = .ok (.aload_n 0, 1) := by decide +kernel
theorem dX5_readTest_24 : decode cX5_readTest 24 = .ok (.getfield 26, 3) := by decide +kernel
theorem dX5_readTest_27 : decode cX5_readTest 27 = .ok (.getfield 69, 3) := by decide +kernel
theorem dX5_readTest_30 : decode cX5_readTest 30 = .ok (.istore 5, 2) := by decide +kernel
theorem dX5_readTest_32 : decode cX5_readTest 32 = .ok (.aload_n 0, 1) := by decide +kernel
theorem dX5_readTest_33 : decode cX5_readTest 33 = .ok (.bipush 26, 2) := by decide +kernel
theorem dX5_readTest_35 : decode cX5_readTest 35 = .ok (.invokevirtual 66, 3) := by decide +kernel
theorem dX5_readTest_38 : decode cX5_readTest 38 = .ok (.ifCond .eq 31, 3) := by decide +kernel
theorem dX5_readTest_41 : decode cX5_readTest 41 = .ok (.aload_n 0, 1) := by decide +kernel
theorem dX5_readTest_42 : decode cX5_readTest 42 = .ok (.getfield 26, 3) := by decide +kernel
theorem dX5_readTest_45 : decode cX5_readTest 45 = .ok (.bipush 6, 2) := by decide +kernel
theorem dX5_readTest_47 : decode cX5_readTest 47 = .ok (.iconst 0, 1) := by decide +kernel
theorem dX5_readTest_48 : decode cX5_readTest 48 = .ok (.invokevirtual 81, 3) := by decide +kernel
theorem dX5_readTest_51 : decode cX5_readTest 51 = .ok (.aload_n 0, 1) := by decide +kernel
theorem dX5_readTest_52 : decode cX5_readTest 52 = .ok (.iload_n 1, 1) := by decide +kernel
theorem dX5_readTest_53 : decode cX5_readTest 53 = .ok (.invokevirtual 149, 3) := by decide +kernel
theorem dX5_readTest_56 : decode cX5_readTest 56 = .ok (.istore_n 3, 1) := by decide +kernel
theorem dX5_readTest_57 : decode cX5_readTest 57 = .ok (.aload_n 0, 1) := by decide +kernel
theorem dX5_readTest_58 : decode cX5_readTest 58 = .ok (.getfield 26, 3) := by decide +kernel
theorem dX5_readTest_61 : decode cX5_readTest 61 = .ok (.iload 5, 2) := by decide +kernel
theorem dX5_readTest_63 : decode cX5_readTest 63 = .ok (.invokevirtual 152, 3) := by decide +kernel
theorem dX5_readTest_66 : decode cX5_readTest 66 = .ok (.goto 40, 3) := by decide +kernel
theorem dX5_readTest_69 : decode cX5_readTest 69 = .ok (.aload_n 0, 1) := by decide +kernel
theorem dX5_readTest_70 : decode cX5_readTest 70 = .ok (.getfield 26, 3) := by decide +kernel
theorem dX5_readTest_73 : decode cX5_readTest 73 = .ok (.iload_n 2, 1) := by decide +kernel
theorem dX5_readTest_74 : decode cX5_readTest 74 = .ok (.invokevirtual 152, 3) := by decide +kernel
theorem dX5_readTest_77 : decode cX5_readTest 77 = .ok (.aload_n 0, 1) := by decide +kernel
theorem dX5_readTest_78 : decode cX5_readTest 78 = .ok (.bipush 25, 2) := by decide +kernel
theorem dX5_readTest_80 : decode cX5_readTest 80 = .ok (.invokevirtual 66, 3) := by decide +kernel
theorem dX5_readTest_83 : decode cX5_readTest 83 = .ok (.ifCond .ne 5, 3) := by decide +kernel
theorem dX5_readTest_86 : decode cX5_readTest 86 = .ok (.iconst 1, 1) := by decide +kernel
theorem dX5_readTest_87 : decode cX5_readTest 87 = .ok (.ireturn, 1) := by decide +kernel
theorem dX5_readTest_88 : decode cX5_readTest 88 = .ok (.iload 5, 2) := by decide +kernel
theorem dX5_readTest_90 : decode cX5_readTest 90 = .ok (.istore_n 2, 1) := by decide +kernel
theorem dX5_readTest_91 : decode cX5_readTest 91 = .ok (.aload_n 0, 1) := by decide +kernel
theorem dX5_readTest_92 : decode cX5_readTest 92 = .ok (.getfield 26, 3) := by decide +kernel
theorem dX5_readTest_95 : decode cX5_readTest 95 = .ok (.iconst 5, 1) := by decide +kernel
theorem dX5_readTest_96 : decode cX5_readTest 96 = .ok (.iconst 0, 1) := by decide +kernel
theorem dX5_readTest_97 : decode cX5_readTest 97 = .ok (.invokevirtual 81, 3) := by decide +kernel
theorem dX5_readTest_100 : decode cX5_readTest 100 = .ok (.aload_n 0, 1) := by decide +kernel
theorem dX5_readTest_101 : decode cX5_readTest 101 = .ok (.iload_n 1, 1) := by decide +kernel
theorem dX5_readTest_102 : decode cX5_readTest 102 = .ok (.invokevirtual 149, 3) := by decide +kernel
theorem dX5_readTest_105 : decode cX5_readTest 105 = .ok (.istore_n 3, 1) := by decide +kernel
theorem dX5_readTest_106 : decode cX5_readTest 106 = .ok (.iinc 4 1, 3) := by decide +kernel
theorem dX5_readTest_109 : decode cX5_readTest 109 = .ok (.goto (-98), 3) := by decide +kernel
theorem dX5_readTest_112 : decode cX5_readTest 112 = .ok (.iload_n 3, 1) := by decide +kernel
theorem dX5_readTest_113 : decode cX5_readTest 113 = .ok (.ireturn, 1) := by decide +kernel
theorem dX5_readPlain_0 : decode cX5_readPlain 0 = .ok (.iconst 0, 1) := by decide +kernel
theorem dX5_readPlain_1 : decode cX5_readPlain 1 = .ok (.istore_n 2, 1) := by decide +kernel
theorem dX5_readPlain_2 : decode cX5_readPlain 2 = .ok (.iconst 0, 1) := by decide +kernel
theorem dX5_readPlain_3 : decode cX5_readPlain 3 = .ok (.istore_n 3, 1) := by decide +kernel
theorem dX5_readPlain_4 : decode cX5_readPlain 4 = .ok (.iload_n 3, 1) := by decide +kernel
theorem dX5_readPlain_5 : decode cX5_readPlain 5 = .ok (.sipush 400, 3) := by decide +kernel
theorem dX5_readPlain_8 : decode cX5_readPlain 8 = .ok (.if_icmp .ge 28, 3) := by decide +kernel
theorem dX5_readPlain_11 : decode cX5_readPlain 11 = .ok (.aload_n 0, 1) := by decide +kernel
theorem dX5_readPlain_12 : decode cX5_readPlain 12 = .ok (.bipush 27, 2) := by decide +kernel
theorem dX5_readPlain_14 : decode cX5_readPlain 14 = .ok (.invokevirtual 66, 3) := by decide +kernel
theorem dX5_readPlain_17 : decode cX5_readPlain 17 = .ok (.ifCond .eq 19, 3) := by decide +kernel
theorem dX5_readPlain_20 : decode cX5_readPlain 20 = .ok (.iload_n 2, 1) := by decide +kernel
theorem dX5_readPlain_21 : decode cX5_readPlain 21 = .ok (.ifCond .ne 7, 3) := by decide +kernel
theorem dX5_readPlain_24 : decode cX5_readPlain 24 = .ok (.iconst 1, 1) := by decide +kernel
theorem dX5_readPlain_25 : decode cX5_readPlain 25 = .ok (.goto 4, 3) := by decide +kernel
theorem dX5_readPlain_28 : decode cX5_readPlain 28 = .ok (.iconst 0, 1) := by decide +kernel
theorem dX5_readPlain_29 : decode cX5_readPlain 29 = .ok (.istore_n 2, 1) := by decide +kernel
theorem dX5_readPlain_30 : decode cX5_readPlain 30 = .ok (.iinc 3 1, 3) := by decide +kernel
theorem dX5_readPlain_33 : decode cX5_readPlain 33 = .ok (.goto (-29), 3) := by decide +kernel
theorem dX5_readPlain_36 : decode cX5_readPlain 36 = .ok (.aload_n 0, 1) := by decide +kernel
theorem dX5_readPlain_37 : decode cX5_readPlain 37 = .ok (.invokevirtual 84, 3) := by decide +kernel
theorem dX5_readPlain_40 : decode cX5_readPlain 40 = .ok (.sipush 1040, 3) := by decide +kernel
theorem dX5_readPlain_43 : decode cX5_readPlain 43 = .ok (.if_icmp .ne 44, 3) := by decide +kernel
theorem dX5_readPlain_46 : decode cX5_readPlain 46 = .ok (.iload_n 1, 1) := by decide +kernel
theorem dX5_readPlain_47 : decode cX5_readPlain 47 = .ok (.bipush 8, 2) := by decide +kernel
theorem dX5_readPlain_49 : decode cX5_readPlain 49 = .ok (.if_icmp .lt 5, 3) := by decide +kernel
theorem dX5_readPlain_52 : decode cX5_readPlain 52 = .ok (.iconst 0, 1) := by decide +kernel
theorem dX5_readPlain_53 : decode cX5_readPlain 53 = .ok (.ireturn, 1) := by decide +kernel
theorem dX5_readPlain_54 : decode cX5_readPlain 54 = .ok (.aload_n 0, 1) := by decide +kernel
theorem dX5_readPlain_55 : decode cX5_readPlain 55 = .ok (.invokevirtual 136, 3) := by decide +kernel
theorem dX5_readPlain_58 : decode cX5_readPlain 58 = .ok (.aload_n 0, 1) := by decide +kernel
theorem dX5_readPlain_59 : decode cX5_readPlain 59 = .ok (.iload_n 1, 1) := by decide +kernel
theorem dX5_readPlain_60 : decode cX5_readPlain 60 = .ok (.iconst 1, 1) := by decide +kernel
theorem dX5_readPlain_61 : decode cX5_readPlain 61 = .ok (.iadd, 1) := by decide +kernel
theorem dX5_readPlain_62 : decode cX5_readPlain 62 = .ok (.invokevirtual 76, 3) := by decide +kernel
theorem dX5_readPlain_65 : decode cX5_readPlain 65 = .ok (.ifCond .eq 17, 3) := by decide +kernel
theorem dX5_readPlain_68 : decode cX5_readPlain 68 = .ok (.aload_n 0, 1) := by decide +kernel
theorem dX5_readPlain_69 : decode cX5_readPlain 69 = .ok (.sipush 1041, 3) := by decide +kernel
theorem dX5_readPlain_72 : decode cX5_readPlain 72 = .ok (.invokevirtual 66, 3) := by decide +kernel
theorem dX5_readPlain_75 : decode cX5_readPlain 75 = .ok (.ifCond .eq 7, 3) := by decide +kernel
theorem dX5_readPlain_78 : decode cX5_readPlain 78 = .ok (.iconst 1, 1) := by decide +kernel
theorem dX5_readPlain_79 : decode cX5_readPlain 79 = .ok (.goto 4, 3) := by decide +kernel
theorem dX5_readPlain_82 : decode cX5_readPlain 82 = .ok (.iconst 0, 1) := by decide +kernel
theorem dX5_readPlain_83 : decode cX5_readPlain 83 = .ok (.istore_n 3, 1) := by decide +kernel
theorem dX5_readPlain_84 : decode cX5_readPlain 84 = .ok (.goto 50, 3) := by decide +kernel
theorem dX5_readPlain_87 : decode cX5_readPlain 87 = .ok (.aload_n 0, 1) := by decide +kernel
theorem dX5_readPlain_88 : decode cX5_readPlain 88 = .ok (.iload_n 1, 1) := by decide +kernel
theorem dX5_readPlain_89 : decode cX5_readPlain 89 = .ok (.invokevirtual 146, 3) := by decide +kernel
theorem dX5_readPlain_92 : decode cX5_readPlain 92 = .ok (.istore_n 3, 1) := by decide +kernel
theorem dX5_readPlain_93 : decode cX5_readPlain 93 = .ok (.aload_n 0, 1) := by decide +kernel
theorem dX5_readPlain_94 : decode cX5_readPlain 94 = .ok (.invokevirtual 84, 3) := by decide +kernel
theorem dX5_readPlain_97 : decode cX5_readPlain 97 = .ok (.invokestatic 156, 3) := by decide +kernel
theorem dX5_readPlain_100 : decode cX5_readPlain 100 = .ok (.istore 4, 2) := by decide +kernel
theorem dX5_readPlain_102 : decode cX5_readPlain 102 = .ok (.iload_n 3, 1) := by decide +kernel
theorem dX5_readPlain_103 : decode cX5_readPlain 103 = .ok (.ifCond .eq 9, 3) := by decide +kernel
theorem dX5_readPlain_106 : decode cX5_readPlain 106 = .ok (.iload 4, 2) := by decide +kernel
theorem dX5_readPlain_108 : decode cX5_readPlain 108 = .ok (.iconst (-1), 1) := by decide +kernel
theorem dX5_readPlain_109 : decode cX5_readPlain 109 = .ok (.if_icmp .ne 5, 3) := by decide +kernel
theorem dX5_readPlain_112 : decode cX5_readPlain 112 = .ok (.iconst 0, 1) := by decide +kernel
theorem dX5_readPlain_113 : decode cX5_readPlain 113 = .ok (.ireturn, 1) := by decide +kernel
theorem dX5_readPlain_114 : decode cX5_readPlain 114 = .ok (.aload_n 0, 1) := by decide +kernel
theorem dX5_readPlain_115 : decode cX5_readPlain 115 = .ok (.invokevirtual 136, 3) := by decide +kernel
theorem dX5_readPlain_118 : decode cX5_readPlain 118 = .ok (.aload_n 0, 1) := by decide +kernel
theorem dX5_readPlain_119 : decode cX5_readPlain 119 = .ok (.iload_n 1, 1) := by decide +kernel
theorem dX5_readPlain_120 : decode cX5_readPlain 120 = .ok (.invokevirtual 146, 3) := by decide +kernel
theorem dX5_readPlain_123 : decode cX5_readPlain 123 = .ok (.istore_n 3, 1) := by decide +kernel
theorem dX5_readPlain_124 : decode cX5_readPlain 124 = .ok (.aload_n 0, 1) := by decide +kernel
theorem dX5_readPlain_125 : decode cX5_readPlain 125 = .ok (.getfield 26, 3) := by decide +kernel
theorem dX5_readPlain_128 : decode cX5_readPlain 128 = .ok (.iload 4, 2) := by decide +kernel
theorem dX5_readPlain_130 : decode cX5_readPlain 130 = .ok (.iconst 0, 1) := by decide +kernel
theorem dX5_readPlain_131 : decode cX5_readPlain 131 = .ok (.invokevirtual 81, 3) := by decide +kernel
theorem dX5_readPlain_134 : decode cX5_readPlain 134 = .ok (.iload_n 2, 1) := by decide +kernel
theorem dX5_readPlain_135 : decode cX5_readPlain 135 = .ok (.ifCond .eq 12, 3) := by decide +kernel
theorem dX5_readPlain_138 : decode cX5_readPlain 138 = .ok (.aload_n 0, 1) := by decide +kernel
theorem dX5_readPlain_139 : decode cX5_readPlain 139 = .ok (.getfield 26, 3) := by decide +kernel
theorem dX5_readPlain_142 : decode cX5_readPlain 142 = .ok (.iconst 4, 1) := by decide +kernel
theorem dX5_readPlain_143 : decode cX5_readPlain 143 = .ok (.iconst 0, 1) := by decide +kernel
theorem dX5_readPlain_144 : decode cX5_readPlain 144 = .ok (.invokevirtual 81, 3) := by decide +kernel
theorem dX5_readPlain_147 : decode cX5_readPlain 147 = .ok (.iload_n 3, 1) := by decide +kernel
theorem dX5_readPlain_148 : decode cX5_readPlain 148 = .ok (.ireturn, 1) := by decide +kernel
theorem dX5_readSum_0 : decode cX5_readSum 0 = .ok (.iconst (-1), 1) := by decide +kernel
theorem dX5_readSum_1 : decode cX5_readSum 1 = .ok (.istore_n 2, 1) := by decide +kernel
theorem dX5_readSum_2 : decode cX5_readSum 2 = .ok (.aload_n 0, 1) := by decide +kernel
theorem dX5_readSum_3 : decode cX5_readSum 3 = .ok (.iload_n 1, 1) := by decide +kernel
theorem dX5_readSum_4 : decode cX5_readSum 4 = .ok (.invokevirtual 159, 3) := by decide +kernel
theorem dX5_readSum_7 : decode cX5_readSum 7 = .ok (.istore_n 3, 1) := by decide +kernel
theorem dX5_readSum_8 : decode cX5_readSum 8 = .ok (.iconst 0, 1) := by decide +kernel
theorem dX5_readSum_9 : decode cX5_readSum 9 = .ok (.istore 4, 2) := by decide +kernel
theorem dX5_readSum_11 : decode cX5_readSum 11 = .ok (.iload 4, 2) := by decide +kernel
theorem dX5_readSum_13 : decode cX5_readSum 13 = .ok (.sipush 400, 3) := by decide +kernel
theorem dX5_readSum_16 : decode cX5_readSum 16 = .ok (.if_icmp .ge 101, 3) := by decide +kernel
theorem dX5_readSum_19 : decode cX5_readSum 19 = .ok (.iload_n 3, 1) := by decide +kernel
theorem dX5_readSum_20 : decode cX5_readSum 20 = .ok (.ifCond .eq 97, 3) := by decide +kernel
theorem dX5_readSum_23 : decode cX5_readSum 23 = .ok (.aload_n 0, 1) := by decide +kernel
theorem dX5_readSum_24 : decode cX5_readSum 24 = .ok (.invokevirtual 84, 3) := by decide +kernel
theorem dX5_readSum_27 : decode cX5_readSum 27 = .ok (.invokestatic 162, 3) := by decide +kernel
theorem dX5_readSum_30 : decode cX5_readSum 30 = .ok (.istore 5, 2) := by decide +kernel
theorem dX5_readSum_32 : decode cX5_readSum 32 = .ok (.iload 5, 2) := by decide +kernel
theorem dX5_readSum_34 : decode cX5_readSum 34 = .ok (.bipush 9, 2) := by decide +kernel
theorem dX5_readSum_36 : decode cX5_readSum 36 = .ok (.if_icmp .eq 17, 3) := by decide +kernel
theorem dX5_readSum_39 : decode cX5_readSum 39 = .ok (.iload 5, 2) := by decide +kernel
theorem dX5_readSum_41 : decode cX5_readSum 41 = .ok (.bipush 10, 2) := by decide +kernel
theorem dX5_readSum_43 : decode cX5_readSum 43 = .ok (.if_icmp .eq 10, 3) := by decide +kernel
theorem dX5_readSum_46 : decode cX5_readSum 46 = .ok (.iload 5, 2) := by decide +kernel
theorem dX5_readSum_48 : decode cX5_readSum 48 = .ok (.bipush 11, 2) := by decide +kernel
theorem dX5_readSum_50 : decode cX5_readSum 50 = .ok (.if_icmp .ne 26, 3) := by decide +kernel
theorem dX5_readSum_53 : decode cX5_readSum 53 = .ok (.aload_n 0, 1) := by decide +kernel
theorem dX5_readSum_54 : decode cX5_readSum 54 = .ok (.invokevirtual 136, 3) := by decide +kernel
theorem dX5_readSum_57 : decode cX5_readSum 57 = .ok (.aload_n 0, 1) := by decide +kernel
theorem dX5_readSum_58 : decode cX5_readSum 58 = .ok (.iload_n 1, 1) := by decide +kernel
theorem dX5_readSum_59 : decode cX5_readSum 59 = .ok (.invokevirtual 159, 3) := by decide +kernel
theorem dX5_readSum_62 : decode cX5_readSum 62 = .ok (.istore_n 3, 1) := by decide +kernel
theorem dX5_readSum_63 : decode cX5_readSum 63 = .ok (.aload_n 0, 1) := by decide +kernel
theorem dX5_readSum_64 : decode cX5_readSum 64 = .ok (.getfield 26, 3) := by decide +kernel
theorem dX5_readSum_67 : decode cX5_readSum 67 = .ok (.iload 5, 2) := by decide +kernel
theorem dX5_readSum_69 : decode cX5_readSum 69 = .ok (.iconst 0, 1) := by decide +kernel
theorem dX5_readSum_70 : decode cX5_readSum 70 = .ok (.invokevirtual 81, 3) := by decide +kernel
theorem dX5_readSum_73 : decode cX5_readSum 73 = .ok (.goto 38, 3) := by decide +kernel
theorem dX5_readSum_76 : decode cX5_readSum 76 = .ok (.iload_n 2, 1) := by decide +kernel
theorem dX5_readSum_77 : decode cX5_readSum 77 = .ok (.iconst (-1), 1) := by decide +kernel
theorem dX5_readSum_78 : decode cX5_readSum 78 = .ok (.if_icmp .eq 12, 3) := by decide +kernel
theorem dX5_readSum_81 : decode cX5_readSum 81 = .ok (.aload_n 0, 1) := by decide +kernel
theorem dX5_readSum_82 : decode cX5_readSum 82 = .ok (.getfield 26, 3) := by decide +kernel
theorem dX5_readSum_85 : decode cX5_readSum 85 = .ok (.iload_n 2, 1) := by decide +kernel
theorem dX5_readSum_86 : decode cX5_readSum 86 = .ok (.iconst 0, 1) := by decide +kernel
theorem dX5_readSum_87 : decode cX5_readSum 87 = .ok (.invokevirtual 81, 3) := by decide +kernel
theorem dX5_readSum_90 : decode cX5_readSum 90 = .ok (.iload 5, 2) := by decide +kernel
theorem dX5_readSum_92 : decode cX5_readSum 92 = .ok (.iconst (-1), 1) := by decide +kernel
theorem dX5_readSum_93 : decode cX5_readSum 93 = .ok (.if_icmp .ne 5, 3) := by decide +kernel
theorem dX5_readSum_96 : decode cX5_readSum 96 = .ok (.iconst 1, 1) := by decide +kernel
theorem dX5_readSum_97 : decode cX5_readSum 97 = .ok (.ireturn, 1) := by decide +kernel
theorem dX5_readSum_98 : decode cX5_readSum 98 = .ok (.iload 5, 2) := by decide +kernel
theorem dX5_readSum_100 : decode cX5_readSum 100 = .ok (.istore_n 2, 1) := by decide +kernel
theorem dX5_readSum_101 : decode cX5_readSum 101 = .ok (.aload_n 0, 1) := by decide +kernel
theorem dX5_readSum_102 : decode cX5_readSum 102 = .ok (.invokevirtual 136, 3) := by decide +kernel
theorem dX5_readSum_105 : decode cX5_readSum 105 = .ok (.aload_n 0, 1) := by decide +kernel
theorem dX5_readSum_106 : decode cX5_readSum 106 = .ok (.iload_n 1, 1) := by decide +kernel
theorem dX5_readSum_107 : decode cX5_readSum 107 = .ok (.invokevirtual 159, 3) := by decide +kernel
theorem dX5_readSum_110 : decode cX5_readSum 110 = .ok (.istore_n 3, 1) := by decide +kernel
theorem dX5_readSum_111 : decode cX5_readSum 111 = .ok (.iinc 4 1, 3) := by decide +kernel
theorem dX5_readSum_114 : decode cX5_readSum 114 = .ok (.goto (-103), 3) := by decide +kernel
theorem dX5_readSum_117 : decode cX5_readSum 117 = .ok (.iload_n 3, 1) := by decide +kernel
theorem dX5_readSum_118 : decode cX5_readSum 118 = .ok (.ireturn, 1) := by decide +kernel
theorem dX5_readPart_0 : decode cX5_readPart 0 = .ok (.aload_n 0, 1) := by decide +kernel
theorem dX5_readPart_1 : decode cX5_readPart 1 = .ok (.invokevirtual 84, 3) := by decide +kernel
theorem dX5_readPart_4 : decode cX5_readPart 4 = .ok (.istore_n 2, 1) := by decide +kernel
theorem dX5_readPart_5 : decode cX5_readPart 5 = .ok (.iload_n 2, 1) := by decide +kernel
theorem dX5_readPart_6 : decode cX5_readPart 6 = .ok (.sipush 1091, 3) := by decide +kernel
theorem dX5_readPart_9 : decode cX5_readPart 9 = .ok (.if_icmp .ne 41, 3) := by decide +kernel
theorem dX5_readPart_12 : decode cX5_readPart 12 = .ok (.iload_n 1, 1) := by decide +kernel
theorem dX5_readPart_13 : decode cX5_readPart 13 = .ok (.bipush 8, 2) := by decide +kernel
theorem dX5_readPart_15 : decode cX5_readPart 15 = .ok (.if_icmp .lt 5, 3) := by decide +kernel
theorem dX5_readPart_18 : decode cX5_readPart 18 = .ok (.iconst 0, 1) := by decide +kernel
theorem dX5_readPart_19 : decode cX5_readPart 19 = .ok (.ireturn, 1) := by decide +kernel
theorem dX5_readPart_20 : decode cX5_readPart 20 = .ok (.aload_n 0, 1) := by decide +kernel
theorem dX5_readPart_21 : decode cX5_readPart 21 = .ok (.invokevirtual 136, 3) := by decide +kernel
theorem dX5_readPart_24 : decode cX5_readPart 24 = .ok (.aload_n 0, 1) := by decide +kernel
theorem dX5_readPart_25 : decode cX5_readPart 25 = .ok (.iload_n 1, 1) := by decide +kernel
theorem dX5_readPart_26 : decode cX5_readPart 26 = .ok (.iconst 1, 1) := by decide +kernel
theorem dX5_readPart_27 : decode cX5_readPart 27 = .ok (.iadd, 1) := by decide +kernel
theorem dX5_readPart_28 : decode cX5_readPart 28 = .ok (.invokevirtual 146, 3) := by decide +kernel
theorem dX5_readPart_31 : decode cX5_readPart 31 = .ok (.ifCond .eq 17, 3) := by decide +kernel
theorem dX5_readPart_34 : decode cX5_readPart 34 = .ok (.aload_n 0, 1) := by decide +kernel
theorem dX5_readPart_35 : decode cX5_readPart 35 = .ok (.sipush 1093, 3) := by decide +kernel
theorem dX5_readPart_38 : decode cX5_readPart 38 = .ok (.invokevirtual 66, 3) := by decide +kernel
theorem dX5_readPart_41 : decode cX5_readPart 41 = .ok (.ifCond .eq 7, 3) := by decide +kernel
theorem dX5_readPart_44 : decode cX5_readPart 44 = .ok (.iconst 1, 1) := by decide +kernel
theorem dX5_readPart_45 : decode cX5_readPart 45 = .ok (.goto 4, 3) := by decide +kernel
theorem dX5_readPart_48 : decode cX5_readPart 48 = .ok (.iconst 0, 1) := by decide +kernel
theorem dX5_readPart_49 : decode cX5_readPart 49 = .ok (.ireturn, 1) := by decide +kernel
theorem dX5_readPart_50 : decode cX5_readPart 50 = .ok (.aload_n 0, 1) := by decide +kernel
theorem dX5_readPart_51 : decode cX5_readPart 51 = .ok (.getfield 40, 3) := by decide +kernel
theorem dX5_readPart_54 : decode cX5_readPart 54 = .ok (.bipush 50, 2) := by decide +kernel
theorem dX5_readPart_56 : decode cX5_readPart 56 = .ok (.if_icmp .lt 5, 3) := by decide +kernel
theorem dX5_readPart_59 : decode cX5_readPart 59 = .ok (.iconst 0, 1) := by decide +kernel
theorem dX5_readPart_60 : decode cX5_readPart 60 = .ok (.ireturn, 1) := by decide +kernel
theorem dX5_readPart_61 : decode cX5_readPart 61 = .ok (.iload_n 2, 1) := by decide +kernel
theorem dX5_readPart_62 : decode cX5_readPart 62 = .ok (.sipush 2000, 3) := by decide +kernel
theorem dX5_readPart_65 : decode cX5_readPart 65 = .ok (.if_icmp .lt 39, 3) := by decide +kernel
theorem dX5_readPart_68 : decode cX5_readPart 68 = .ok (.iload_n 2, 1) := by decide +kernel
theorem dX5_readPart_69 : decode cX5_readPart 69 = .ok (.sipush 3000, 3) := by decide +kernel
theorem dX5_readPart_72 : decode cX5_readPart 72 = .ok (.if_icmp .gt 32, 3) := by decide +kernel
theorem dX5_readPart_75 : decode cX5_readPart 75 = .ok (.aload_n 0, 1) := by decide +kernel
theorem dX5_readPart_76 : decode cX5_readPart 76 = .ok (.dup, 1) := by decide +kernel
theorem dX5_readPart_77 : decode cX5_readPart 77 = .ok (.getfield 40, 3) := by decide +kernel
theorem dX5_readPart_80 : decode cX5_readPart 80 = .ok (.iconst 1, 1) := by decide +kernel
theorem dX5_readPart_81 : decode cX5_readPart 81 = .ok (.iadd, 1) := by decide +kernel
theorem dX5_readPart_82 : decode cX5_readPart 82 = .ok (.putfield 40, 3) := by decide +kernel
theorem dX5_readPart_85 : decode cX5_readPart 85 = .ok (.aload_n 0, 1) := by decide +kernel
theorem dX5_readPart_86 : decode cX5_readPart 86 = .ok (.invokevirtual 136, 3) := by decide +kernel
theorem dX5_readPart_89 : decode cX5_readPart 89 = .ok (.aload_n 0, 1) := by decide +kernel
theorem dX5_readPart_90 : decode cX5_readPart 90 = .ok (.getfield 26, 3) := by decide +kernel
theorem dX5_readPart_93 : decode cX5_readPart 93 = .ok (.iconst 1, 1) := by decide +kernel
theorem dX5_readPart_94 : decode cX5_readPart 94 = .ok (.iload_n 2, 1) := by decide +kernel
theorem dX5_readPart_95 : decode cX5_readPart 95 = .ok (.sipush 2000, 3) := by decide +kernel
theorem dX5_readPart_98 : decode cX5_readPart 98 = .ok (.isub, 1) := by decide +kernel
theorem dX5_readPart_99 : decode cX5_readPart 99 = .ok (.invokevirtual 81, 3) := by decide +kernel
theorem dX5_readPart_102 : decode cX5_readPart 102 = .ok (.iconst 1, 1) := by decide +kernel
theorem dX5_readPart_103 : decode cX5_readPart 103 = .ok (.ireturn, 1) := by decide +kernel
theorem dX5_readPart_104 : decode cX5_readPart 104 = .ok (.aload_n 0, 1) := by decide +kernel
theorem dX5_readPart_105 : decode cX5_readPart 105 = .ok (.iload_n 2, 1) := by decide +kernel
theorem dX5_readPart_106 : decode cX5_readPart 106 = .ok (.invokevirtual 165, 3) := by decide +kernel
theorem dX5_readPart_109 : decode cX5_readPart 109 = .ok (.ireturn, 1) := by decide +kernel
def w_parse : Nat → Nat → Int → XT → (Int → XT → Prop) → Prop
  | 0, _, _, _, _ => False
  | fu + 1, 0, a0, X, Q => w_parse fu 1  a0 X (fun (v1 : Int) (X2 : XT) => ∃ (I11 : Int → Int → Int → XT → Prop) (m12 : Int → Int → Int → XT → Nat), I11 (-1) v1 0 X2 ∧ ∀ (x7 : Int) (x8 : Int) (x9 : Int) (X10 : XT), I11 x7 x8 x9 X10 → R32 x9 ∧ (400 ≤ x9 → (x8 = 0 ∨ x8 = 1) ∧ Q x8 X10) ∧ (¬ 400 ≤ x9 → R32 x8 ∧ (x8 = 0 → (x8 = 0 ∨ x8 = 1) ∧ Q x8 X10) ∧ (¬ x8 = 0 → w_X5_take  26 X10 (fun (v29 : Int) (X30 : XT) => R32 v29 ∧ (v29 = 0 → w_X7_landHere  x7 X30 (fun (X38 : XT) => w_X5_take  25 X38 (fun (v43 : Int) (X44 : XT) => R32 v43 ∧ (¬ v43 = 0 → w_X7_emit  5 0 X44 (fun (X52 : XT) => w_parse fu 1  a0 X52 (fun (v57 : Int) (X58 : XT) => I11 (X10 37 3) v57 (x9 + 1) X58 ∧ m12 (X10 37 3) v57 (x9 + 1) X58 < m12 x7 x8 x9 X10))) ∧ (v43 = 0 → Q 1 X44)))) ∧ (¬ v29 = 0 → w_X7_emit  6 0 X30 (fun (X64 : XT) => w_parse fu 1  a0 X64 (fun (v69 : Int) (X70 : XT) => w_X7_landHere  (X10 37 3) X70 (fun (X76 : XT) => I11 x7 v69 (x9 + 1) X76 ∧ m12 x7 v69 (x9 + 1) X76 < m12 x7 x8 x9 X10))))))))
  | fu + 1, 1, a0, X, Q => ∃ (I4 : Int → Int → XT → Prop) (m5 : Int → Int → XT → Nat), I4 0 0 X ∧ ∀ (x1 : Int) (x2 : Int) (X3 : XT), I4 x1 x2 X3 → ∀ J17 : XT → Prop, (∀  (X16 : XT), (w_X5_token   X16 (fun (v21 : Int) => ∀ J29 : Int → XT → Prop, (∀ (v27 : Int) (X28 : XT), (R32 x1 ∧ (x1 = 0 → (v27 = 0 ∨ v27 = 1) ∧ Q v27 X28) ∧ (¬ x1 = 0 → w_X7_emit  4 0 X28 (fun (X37 : XT) => (v27 = 0 ∨ v27 = 1) ∧ Q v27 X37))) → J29 v27 X28) → R32 v21 ∧ (¬ v21 = 1040 → w_parse fu 2  a0 X16 (fun (v45 : Int) (X46 : XT) => w_X5_token   X46 (fun (v51 : Int) => w_X5_relationOf  v51 X46 (fun (v57 : Int) => R32 v45 ∧ (v45 = 0 → Q 0 X46) ∧ (¬ v45 = 0 → R32 v57 ∧ (¬ v57 = (-1) → w_X5_pass   X46 (fun (X68 : XT) => w_parse fu 2  a0 X68 (fun (v73 : Int) (X74 : XT) => w_X7_emit  v57 0 X74 (fun (X80 : XT) => J29 v73 X80)))) ∧ (v57 = (-1) → Q 0 X46)))))) ∧ (v21 = 1040 → R32 a0 ∧ (a0 < 8 → w_X5_pass   X16 (fun (X88 : XT) => w_parse fu 0  (a0 + 1) X88 (fun (v93 : Int) (X94 : XT) => R32 v93 ∧ (v93 = 0 → J29 0 X94) ∧ (¬ v93 = 0 → w_X5_take  1041 X94 (fun (v101 : Int) (X102 : XT) => R32 v101 ∧ (v101 = 0 → J29 0 X102) ∧ (¬ v101 = 0 → J29 1 X102)))))) ∧ (¬ a0 < 8 → Q 0 X16)))) → J17  X16) → R32 x2 ∧ (400 ≤ x2 → J17  X3) ∧ (¬ 400 ≤ x2 → w_X5_take  27 X3 (fun (v111 : Int) (X112 : XT) => R32 v111 ∧ (v111 = 0 → J17  X112) ∧ (¬ v111 = 0 → R32 x1 ∧ (¬ x1 = 0 → I4 0 (x2 + 1) X112 ∧ m5 0 (x2 + 1) X112 < m5 x1 x2 X3) ∧ (x1 = 0 → I4 1 (x2 + 1) X112 ∧ m5 1 (x2 + 1) X112 < m5 x1 x2 X3))))
  | fu + 1, 2, a0, X, Q => w_parse fu 3  a0 X (fun (v1 : Int) (X2 : XT) => ∃ (I11 : Int → Int → Int → XT → Prop) (m12 : Int → Int → Int → XT → Nat), I11 (-1) v1 0 X2 ∧ ∀ (x7 : Int) (x8 : Int) (x9 : Int) (X10 : XT), I11 x7 x8 x9 X10 → R32 x9 ∧ (400 ≤ x9 → (x8 = 0 ∨ x8 = 1) ∧ Q x8 X10) ∧ (¬ 400 ≤ x9 → R32 x8 ∧ (x8 = 0 → (x8 = 0 ∨ x8 = 1) ∧ Q x8 X10) ∧ (¬ x8 = 0 → w_X5_token   X10 (fun (v29 : Int) => w_X5_orderOf  v29 X10 (fun (v35 : Int) => ∀ J41 : Prop, ((w_X5_pass   X10 (fun (X43 : XT) => w_parse fu 3  a0 X43 (fun (v48 : Int) (X49 : XT) => w_X7_emit  v35 0 X49 (fun (X55 : XT) => I11 x7 v48 (x9 + 1) X55 ∧ m12 x7 v48 (x9 + 1) X55 < m12 x7 x8 x9 X10)))) → J41) → R32 v35 ∧ (v35 = 9 → J41 ) ∧ (¬ v35 = 9 → (v35 = 10 → J41 ) ∧ (¬ v35 = 10 → (¬ v35 = 11 → ∀ J65 : XT → Prop, (∀  (X64 : XT), ((¬ v35 = (-1) → w_X5_pass   X64 (fun (X71 : XT) => w_parse fu 3  a0 X71 (fun (v76 : Int) (X77 : XT) => I11 v35 v76 (x9 + 1) X77 ∧ m12 v35 v76 (x9 + 1) X77 < m12 x7 x8 x9 X10))) ∧ (v35 = (-1) → Q 1 X64)) → J65  X64) → R32 x7 ∧ (x7 = (-1) → J65  X10) ∧ (¬ x7 = (-1) → w_X7_emit  x7 0 X10 (fun (X85 : XT) => J65  X85))) ∧ (v35 = 11 → J41 ))))))))
  | fu + 1, _ + 3, a0, X, Q => w_X5_token   X (fun (v1 : Int) => R32 v1 ∧ (¬ v1 = 1091 → R32 (X 33 7) ∧ ((X 33 7) < 50 → (v1 < 2000 → w_X5_readWord  v1 X (fun (v12 : Int) (X13 : XT) => (v12 = 0 ∨ v12 = 1) ∧ Q v12 X13)) ∧ (¬ v1 < 2000 → (3000 < v1 → w_X5_readWord  v1 X (fun (v20 : Int) (X21 : XT) => (v20 = 0 ∨ v20 = 1) ∧ Q v20 X21)) ∧ (¬ 3000 < v1 → w_X5_pass   (x_st X 33 7 ((X 33 7) + 1)) (fun (X33 : XT) => w_X7_emit  1 (v1 - 2000) X33 (fun (X39 : XT) => Q 1 X39))))) ∧ (¬ (X 33 7) < 50 → Q 0 X)) ∧ (v1 = 1091 → R32 a0 ∧ (a0 < 8 → w_X5_pass   X (fun (X47 : XT) => w_parse fu 2  (a0 + 1) X47 (fun (v52 : Int) (X53 : XT) => R32 v52 ∧ (v52 = 0 → Q 0 X53) ∧ (¬ v52 = 0 → w_X5_take  1093 X53 (fun (v60 : Int) (X61 : XT) => R32 v60 ∧ (v60 = 0 → Q 0 X61) ∧ (¬ v60 = 0 → Q 1 X61)))))) ∧ (¬ a0 < 8 → Q 0 X)))
set_option maxRecDepth 20000 in
theorem so_parse : ∀ fu : Nat, (∀ {n : Nat} {h : Nat → sE} {X : XT} {a0 : Int} {Q : Int → XT → Prop}, 115 ≤ n → Pic X h → w_parse fu 0 a0 X Q → Sp m_X5_readTest (fu + 2) 0 0 [.ref 33, .int (iI a0)] n h (pIw n h Q)) ∧ (∀ {n : Nat} {h : Nat → sE} {X : XT} {a0 : Int} {Q : Int → XT → Prop}, 115 ≤ n → Pic X h → w_parse fu 1 a0 X Q → Sp m_X5_readPlain (fu + 2) 0 0 [.ref 33, .int (iI a0)] n h (pIw n h Q)) ∧ (∀ {n : Nat} {h : Nat → sE} {X : XT} {a0 : Int} {Q : Int → XT → Prop}, 115 ≤ n → Pic X h → w_parse fu 2 a0 X Q → Sp m_X5_readSum (fu + 2) 0 0 [.ref 33, .int (iI a0)] n h (pIw n h Q)) ∧ (∀ {n : Nat} {h : Nat → sE} {X : XT} {a0 : Int} {Q : Int → XT → Prop}, 115 ≤ n → Pic X h → w_parse fu 3 a0 X Q → Sp m_X5_readPart (fu + 2) 0 0 [.ref 33, .int (iI a0)] n h (pIw n h Q)) := by
  intro fu
  induction fu with
  | zero => exact ⟨fun _ _ w => absurd w id, fun _ _ w => absurd w id, fun _ _ w => absurd w id, fun _ _ w => absurd w id⟩
  | succ fu ih =>
    obtain ⟨ih, ih1, ih2, ih3⟩ := ih
    refine ⟨?_, ?_, ?_, ?_⟩
    · intro n h X a0 Q hn hp w
      refine Sp.ofV (by decide +kernel) (Nat.le_of_ble_eq_true rfl) ?_
      have hf : Fr h h := fun _ _ => rfl
      refine v_iconstI dX5_readTest_0 ?_
      refine v_istore_n dX5_readTest_1 (Nat.le_of_ble_eq_true rfl) ?_
      refine v_aload_n dX5_readTest_2 rfl ?_
      refine v_iload_n dX5_readTest_3 rfl ?_
      refine v_callVIw dX5_readTest_4 ml_X5_149 (ih1 hn hp w) ((hp 33 (by decide)).trans (ent_33 _)) rfl (s_lt hn rfl) rfl rfl (Nat.le_of_ble_eq_true rfl) (show fu + 2 + 1 ≤ fu + 1 + 2 by omega) (Nat.zero_le _) (Nat.zero_le _) (fun v1 X2 h3 hp5 hf4 w => ?_)
      have hf6 := Fr.trans hf hf4
      refine v_istore_n dX5_readTest_7 (Nat.le_of_ble_eq_true rfl) ?_
      refine v_iconstI dX5_readTest_8 ?_
      refine v_istore dX5_readTest_9 (Nat.le_of_ble_eq_true rfl) ?_
      refine v_pick [3, 4, 2, 1, 0] rfl ?_
      obtain ⟨I11, m12, wi15, wl14⟩ := w
      have hL16 : ∀ (N19 : Nat) (x7 : Int) (x8 : Int) (x9 : Int) (X10 : XT) (h20 : Nat → sE), m12 x7 x8 x9 X10 < N19 → I11 x7 x8 x9 X10 → Pic X10 h20 → Fr h h20 → V (m_X5_readTest, fu + 1 + 2, 0, 0, n, pIw n h Q, s_G0) 0 0 n h20 11 [(0, .ref 33), (1, .int (iI a0)), (2, .int (iI x7)), (3, .int (iI x8)), (4, .int (iI x9))] [] := by
        intro N19
        induction N19 with
        | zero => intro x7 x8 x9 X10 h20 hm17; exact absurd hm17 (Nat.not_lt_zero _)
        | succ N19 ih13 =>
          intro x7 x8 x9 X10 h20 hm17 hI18 hp21 hf22
          have w := wl14 x7 x8 x9 X10 hI18
          refine v_iload dX5_readTest_11 rfl ?_
          refine v_sipushI dX5_readTest_13 rfl ?_
          obtain ⟨q23, w⟩ := w
          refine v_icmp_geI (tgt := 112) dX5_readTest_16 (by decide) q23.1 q23.2 (by decide) (by decide) (fun c24 => ?_) (fun c24 => ?_)
          · replace w := w.1 c24
            refine v_iload_n dX5_readTest_112 rfl ?_
            obtain ⟨q25, w⟩ := w
            exact v_zretZ dX5_readTest_113 rfl q25 (Nat.zero_le _) (Nat.zero_le _) ⟨rfl, hf22, _, _, rfl, hp21, w⟩
          · replace w := w.2 c24
            refine v_iload_n dX5_readTest_19 rfl ?_
            obtain ⟨q26, w⟩ := w
            refine v_if_eqI (tgt := 112) dX5_readTest_20 (by decide) q26.1 q26.2 (fun c27 => ?_) (fun c27 => ?_)
            · replace w := w.1 c27
              refine v_iload_n dX5_readTest_112 rfl ?_
              obtain ⟨q28, w⟩ := w
              exact v_zretZ dX5_readTest_113 rfl q28 (Nat.zero_le _) (Nat.zero_le _) ⟨rfl, hf22, _, _, rfl, hp21, w⟩
            · replace w := w.2 c27
              refine v_aload_n dX5_readTest_23 rfl ?_
              refine v_get dX5_readTest_24 fl_X5_26 ((hp21 33 (by decide)).trans (ent_33 _)) rfl (s_lt hn rfl) ?_
              refine v_get dX5_readTest_27 fl_X5_69 ((hp21 37 (by decide)).trans (ent_37 _)) rfl (s_lt hn rfl) ?_
              refine v_istore dX5_readTest_30 (Nat.le_of_ble_eq_true rfl) ?_
              refine v_aload_n dX5_readTest_32 rfl ?_
              refine v_bipushI dX5_readTest_33 rfl ?_
              refine v_callVIw dX5_readTest_35 ml_X5_66 (so_X5_take hn hp21  w) ((hp21 33 (by decide)).trans (ent_33 _)) rfl (s_lt hn rfl) rfl rfl (Nat.le_of_ble_eq_true rfl) (show 1 + 1 ≤ fu + 1 + 2 by omega) (Nat.zero_le _) (Nat.zero_le _) (fun v29 X30 h31 hp33 hf32 w => ?_)
              have hf34 := Fr.trans hf22 hf32
              obtain ⟨q35, w⟩ := w
              refine v_if_eqI (tgt := 69) dX5_readTest_38 (by decide) q35.1 q35.2 (fun c36 => ?_) (fun c36 => ?_)
              · replace w := w.1 c36
                refine v_aload_n dX5_readTest_69 rfl ?_
                refine v_get dX5_readTest_70 fl_X5_26 ((hp33 33 (by decide)).trans (ent_33 _)) rfl (s_lt hn rfl) ?_
                refine v_iload_n dX5_readTest_73 rfl ?_
                refine v_callVVw dX5_readTest_74 ml_X5_152 (so_X7_landHere hn hp33  w) ((hp33 37 (by decide)).trans (ent_37 _)) rfl (s_lt hn rfl) rfl rfl (Nat.le_of_ble_eq_true rfl) (show 0 + 1 ≤ fu + 1 + 2 by omega) (Nat.zero_le _) (Nat.zero_le _) (fun X38 h39 hp41 hf40 w => ?_)
                have hf42 := Fr.trans hf34 hf40
                refine v_aload_n dX5_readTest_77 rfl ?_
                refine v_bipushI dX5_readTest_78 rfl ?_
                refine v_callVIw dX5_readTest_80 ml_X5_66 (so_X5_take hn hp41  w) ((hp41 33 (by decide)).trans (ent_33 _)) rfl (s_lt hn rfl) rfl rfl (Nat.le_of_ble_eq_true rfl) (show 1 + 1 ≤ fu + 1 + 2 by omega) (Nat.zero_le _) (Nat.zero_le _) (fun v43 X44 h45 hp47 hf46 w => ?_)
                have hf48 := Fr.trans hf42 hf46
                obtain ⟨q49, w⟩ := w
                refine v_if_neI (tgt := 88) dX5_readTest_83 (by decide) q49.1 q49.2 (fun c50 => ?_) (fun c50 => ?_)
                · replace w := w.1 c50
                  refine v_iload dX5_readTest_88 rfl ?_
                  refine v_istore_n dX5_readTest_90 (Nat.le_of_ble_eq_true rfl) ?_
                  refine v_aload_n dX5_readTest_91 rfl ?_
                  refine v_get dX5_readTest_92 fl_X5_26 ((hp47 33 (by decide)).trans (ent_33 _)) rfl (s_lt hn rfl) ?_
                  refine v_iconstI dX5_readTest_95 ?_
                  refine v_iconstI dX5_readTest_96 ?_
                  refine v_callVVw dX5_readTest_97 ml_X5_81 (so_X7_emit hn hp47  w) ((hp47 37 (by decide)).trans (ent_37 _)) rfl (s_lt hn rfl) rfl rfl (Nat.le_of_ble_eq_true rfl) (show 0 + 1 ≤ fu + 1 + 2 by omega) (Nat.zero_le _) (Nat.zero_le _) (fun X52 h53 hp55 hf54 w => ?_)
                  have hf56 := Fr.trans hf48 hf54
                  refine v_aload_n dX5_readTest_100 rfl ?_
                  refine v_iload_n dX5_readTest_101 rfl ?_
                  refine v_callVIw dX5_readTest_102 ml_X5_149 (ih1 hn hp55 w) ((hp55 33 (by decide)).trans (ent_33 _)) rfl (s_lt hn rfl) rfl rfl (Nat.le_of_ble_eq_true rfl) (show fu + 2 + 1 ≤ fu + 1 + 2 by omega) (Nat.zero_le _) (Nat.zero_le _) (fun v57 X58 h59 hp61 hf60 w => ?_)
                  have hf62 := Fr.trans hf56 hf60
                  refine v_istore_n dX5_readTest_105 (Nat.le_of_ble_eq_true rfl) ?_
                  refine v_iincI dX5_readTest_106 rfl (Nat.le_of_ble_eq_true rfl) ?_
                  refine v_goto (tgt := 11) dX5_readTest_109 (by decide) ?_
                  refine v_pick [4, 5, 2, 1, 0] rfl ?_
                  exact ih13 _ _ _ _ _ (Nat.lt_of_lt_of_le w.2 (Nat.le_of_lt_succ hm17)) w.1 hp61 hf62
                · replace w := w.2 c50
                  refine v_iconstI dX5_readTest_86 ?_
                  exact v_z1 dX5_readTest_87 rfl (Nat.zero_le _) (Nat.zero_le _) ⟨rfl, hf48, _, _, rfl, hp47, w⟩
              · replace w := w.2 c36
                refine v_aload_n dX5_readTest_41 rfl ?_
                refine v_get dX5_readTest_42 fl_X5_26 ((hp33 33 (by decide)).trans (ent_33 _)) rfl (s_lt hn rfl) ?_
                refine v_bipushI dX5_readTest_45 rfl ?_
                refine v_iconstI dX5_readTest_47 ?_
                refine v_callVVw dX5_readTest_48 ml_X5_81 (so_X7_emit hn hp33  w) ((hp33 37 (by decide)).trans (ent_37 _)) rfl (s_lt hn rfl) rfl rfl (Nat.le_of_ble_eq_true rfl) (show 0 + 1 ≤ fu + 1 + 2 by omega) (Nat.zero_le _) (Nat.zero_le _) (fun X64 h65 hp67 hf66 w => ?_)
                have hf68 := Fr.trans hf34 hf66
                refine v_aload_n dX5_readTest_51 rfl ?_
                refine v_iload_n dX5_readTest_52 rfl ?_
                refine v_callVIw dX5_readTest_53 ml_X5_149 (ih1 hn hp67 w) ((hp67 33 (by decide)).trans (ent_33 _)) rfl (s_lt hn rfl) rfl rfl (Nat.le_of_ble_eq_true rfl) (show fu + 2 + 1 ≤ fu + 1 + 2 by omega) (Nat.zero_le _) (Nat.zero_le _) (fun v69 X70 h71 hp73 hf72 w => ?_)
                have hf74 := Fr.trans hf68 hf72
                refine v_istore_n dX5_readTest_56 (Nat.le_of_ble_eq_true rfl) ?_
                refine v_aload_n dX5_readTest_57 rfl ?_
                refine v_get dX5_readTest_58 fl_X5_26 ((hp73 33 (by decide)).trans (ent_33 _)) rfl (s_lt hn rfl) ?_
                refine v_iload dX5_readTest_61 rfl ?_
                refine v_callVVw dX5_readTest_63 ml_X5_152 (so_X7_landHere hn hp73  w) ((hp73 37 (by decide)).trans (ent_37 _)) rfl (s_lt hn rfl) rfl rfl (Nat.le_of_ble_eq_true rfl) (show 0 + 1 ≤ fu + 1 + 2 by omega) (Nat.zero_le _) (Nat.zero_le _) (fun X76 h77 hp79 hf78 w => ?_)
                have hf80 := Fr.trans hf74 hf78
                refine v_goto (tgt := 106) dX5_readTest_66 (by decide) ?_
                refine v_iincI dX5_readTest_106 rfl (Nat.le_of_ble_eq_true rfl) ?_
                refine v_goto (tgt := 11) dX5_readTest_109 (by decide) ?_
                refine v_pick [3, 4, 5, 1, 0] rfl ?_
                exact ih13 _ _ _ _ _ (Nat.lt_of_lt_of_le w.2 (Nat.le_of_lt_succ hm17)) w.1 hp79 hf80
      exact hL16 _ _ _ _ _ _ (Nat.lt_succ_self _) wi15 hp5 hf6
    · intro n h X a0 Q hn hp w
      refine Sp.ofV (by decide +kernel) (Nat.le_of_ble_eq_true rfl) ?_
      have hf : Fr h h := fun _ _ => rfl
      refine v_iconstI dX5_readPlain_0 ?_
      refine v_istore_n dX5_readPlain_1 (Nat.le_of_ble_eq_true rfl) ?_
      refine v_iconstI dX5_readPlain_2 ?_
      refine v_istore_n dX5_readPlain_3 (Nat.le_of_ble_eq_true rfl) ?_
      refine v_pick [2, 3, 1, 0] rfl ?_
      obtain ⟨I4, m5, wi8, wl7⟩ := w
      have hL9 : ∀ (N12 : Nat) (x1 : Int) (x2 : Int) (X3 : XT) (h13 : Nat → sE), m5 x1 x2 X3 < N12 → I4 x1 x2 X3 → Pic X3 h13 → Fr h h13 → V (m_X5_readPlain, fu + 1 + 2, 0, 0, n, pIw n h Q, s_G0) 0 0 n h13 4 [(0, .ref 33), (1, .int (iI a0)), (2, .int (iI x1)), (3, .int (iI x2))] [] := by
        intro N12
        induction N12 with
        | zero => intro x1 x2 X3 h13 hm10; exact absurd hm10 (Nat.not_lt_zero _)
        | succ N12 ih6 =>
          intro x1 x2 X3 h13 hm10 hI11 hp14 hf15
          have w := wl7 x1 x2 X3 hI11
          refine v_iload_n dX5_readPlain_4 rfl ?_
          refine v_sipushI dX5_readPlain_5 rfl ?_
          replace w := w (fun  (X16 : XT) => ∀ h20 : Nat → sE, Pic X16 h20 → Fr h h20 → V (m_X5_readPlain, fu + 1 + 2, 0, 0, n, pIw n h Q, s_G0) 0 0 n h20 36 [(0, .ref 33), (1, .int (iI a0)), (2, .int (iI x1))] []) (by
            intro  X16 w h20 hp18 hf19
            refine v_aload_n dX5_readPlain_36 rfl ?_
            refine v_callVIr dX5_readPlain_37 ml_X5_84 (so_X5_token hn hp18  w) ((hp18 33 (by decide)).trans (ent_33 _)) rfl (s_lt hn rfl) rfl rfl (Nat.le_of_ble_eq_true rfl) (show 0 + 1 ≤ fu + 1 + 2 by omega) (Nat.zero_le _) (Nat.zero_le _) (fun v21 w => ?_)
            refine v_sipushI dX5_readPlain_40 rfl ?_
            replace w := w (fun (v27 : Int) (X28 : XT) => ∀ h32 : Nat → sE, Pic X28 h32 → Fr h h32 → V (m_X5_readPlain, fu + 1 + 2, 0, 0, n, pIw n h Q, s_G0) 0 0 n h32 134 [(0, .ref 33), (2, .int (iI x1)), (3, .int (iI v27))] []) (by
              intro v27 X28 w h32 hp30 hf31
              refine v_iload_n dX5_readPlain_134 rfl ?_
              obtain ⟨q33, w⟩ := w
              refine v_if_eqI (tgt := 147) dX5_readPlain_135 (by decide) q33.1 q33.2 (fun c34 => ?_) (fun c34 => ?_)
              · replace w := w.1 c34
                refine v_iload_n dX5_readPlain_147 rfl ?_
                obtain ⟨q35, w⟩ := w
                exact v_zretZ dX5_readPlain_148 rfl q35 (Nat.zero_le _) (Nat.zero_le _) ⟨rfl, hf31, _, _, rfl, hp30, w⟩
              · replace w := w.2 c34
                refine v_aload_n dX5_readPlain_138 rfl ?_
                refine v_get dX5_readPlain_139 fl_X5_26 ((hp30 33 (by decide)).trans (ent_33 _)) rfl (s_lt hn rfl) ?_
                refine v_iconstI dX5_readPlain_142 ?_
                refine v_iconstI dX5_readPlain_143 ?_
                refine v_callVVw dX5_readPlain_144 ml_X5_81 (so_X7_emit hn hp30  w) ((hp30 37 (by decide)).trans (ent_37 _)) rfl (s_lt hn rfl) rfl rfl (Nat.le_of_ble_eq_true rfl) (show 0 + 1 ≤ fu + 1 + 2 by omega) (Nat.zero_le _) (Nat.zero_le _) (fun X37 h38 hp40 hf39 w => ?_)
                have hf41 := Fr.trans hf31 hf39
                refine v_iload_n dX5_readPlain_147 rfl ?_
                obtain ⟨q42, w⟩ := w
                exact v_zretZ dX5_readPlain_148 rfl q42 (Nat.zero_le _) (Nat.zero_le _) ⟨rfl, hf41, _, _, rfl, hp40, w⟩
            )
            obtain ⟨q43, w⟩ := w
            refine v_icmp_neI (tgt := 87) dX5_readPlain_43 (by decide) q43.1 q43.2 (by decide) (by decide) (fun c44 => ?_) (fun c44 => ?_)
            · replace w := w.1 c44
              refine v_aload_n dX5_readPlain_87 rfl ?_
              refine v_iload_n dX5_readPlain_88 rfl ?_
              refine v_callVIw dX5_readPlain_89 ml_X5_146 (ih2 hn hp18 w) ((hp18 33 (by decide)).trans (ent_33 _)) rfl (s_lt hn rfl) rfl rfl (Nat.le_of_ble_eq_true rfl) (show fu + 2 + 1 ≤ fu + 1 + 2 by omega) (Nat.zero_le _) (Nat.zero_le _) (fun v45 X46 h47 hp49 hf48 w => ?_)
              have hf50 := Fr.trans hf19 hf48
              refine v_istore_n dX5_readPlain_92 (Nat.le_of_ble_eq_true rfl) ?_
              refine v_aload_n dX5_readPlain_93 rfl ?_
              refine v_callVIr dX5_readPlain_94 ml_X5_84 (so_X5_token hn hp49  w) ((hp49 33 (by decide)).trans (ent_33 _)) rfl (s_lt hn rfl) rfl rfl (Nat.le_of_ble_eq_true rfl) (show 0 + 1 ≤ fu + 1 + 2 by omega) (Nat.zero_le _) (Nat.zero_le _) (fun v51 w => ?_)
              refine v_callSIr dX5_readPlain_97 ml_X5_156 (so_X5_relationOf hn hp49  w) rfl rfl (Nat.le_of_ble_eq_true rfl) (show 0 + 1 ≤ fu + 1 + 2 by omega) (Nat.zero_le _) (Nat.zero_le _) (fun v57 w => ?_)
              refine v_istore dX5_readPlain_100 (Nat.le_of_ble_eq_true rfl) ?_
              refine v_iload_n dX5_readPlain_102 rfl ?_
              obtain ⟨q63, w⟩ := w
              refine v_if_eqI (tgt := 112) dX5_readPlain_103 (by decide) q63.1 q63.2 (fun c64 => ?_) (fun c64 => ?_)
              · replace w := w.1 c64
                refine v_iconstI dX5_readPlain_112 ?_
                exact v_z0 dX5_readPlain_113 rfl (Nat.zero_le _) (Nat.zero_le _) ⟨rfl, hf50, _, _, rfl, hp49, w⟩
              · replace w := w.2 c64
                refine v_iload dX5_readPlain_106 rfl ?_
                refine v_iconstI dX5_readPlain_108 ?_
                obtain ⟨q65, w⟩ := w
                refine v_icmp_neI (tgt := 114) dX5_readPlain_109 (by decide) q65.1 q65.2 (by decide) (by decide) (fun c66 => ?_) (fun c66 => ?_)
                · replace w := w.1 c66
                  refine v_aload_n dX5_readPlain_114 rfl ?_
                  refine v_callVVw dX5_readPlain_115 ml_X5_136 (so_X5_pass hn hp49  w) ((hp49 33 (by decide)).trans (ent_33 _)) rfl (s_lt hn rfl) rfl rfl (Nat.le_of_ble_eq_true rfl) (show 0 + 1 ≤ fu + 1 + 2 by omega) (Nat.zero_le _) (Nat.zero_le _) (fun X68 h69 hp71 hf70 w => ?_)
                  have hf72 := Fr.trans hf50 hf70
                  refine v_aload_n dX5_readPlain_118 rfl ?_
                  refine v_iload_n dX5_readPlain_119 rfl ?_
                  refine v_callVIw dX5_readPlain_120 ml_X5_146 (ih2 hn hp71 w) ((hp71 33 (by decide)).trans (ent_33 _)) rfl (s_lt hn rfl) rfl rfl (Nat.le_of_ble_eq_true rfl) (show fu + 2 + 1 ≤ fu + 1 + 2 by omega) (Nat.zero_le _) (Nat.zero_le _) (fun v73 X74 h75 hp77 hf76 w => ?_)
                  have hf78 := Fr.trans hf72 hf76
                  refine v_istore_n dX5_readPlain_123 (Nat.le_of_ble_eq_true rfl) ?_
                  refine v_aload_n dX5_readPlain_124 rfl ?_
                  refine v_get dX5_readPlain_125 fl_X5_26 ((hp77 33 (by decide)).trans (ent_33 _)) rfl (s_lt hn rfl) ?_
                  refine v_iload dX5_readPlain_128 rfl ?_
                  refine v_iconstI dX5_readPlain_130 ?_
                  refine v_callVVw dX5_readPlain_131 ml_X5_81 (so_X7_emit hn hp77  w) ((hp77 37 (by decide)).trans (ent_37 _)) rfl (s_lt hn rfl) rfl rfl (Nat.le_of_ble_eq_true rfl) (show 0 + 1 ≤ fu + 1 + 2 by omega) (Nat.zero_le _) (Nat.zero_le _) (fun X80 h81 hp83 hf82 w => ?_)
                  have hf84 := Fr.trans hf78 hf82
                  refine v_pick [2, 4, 0] rfl ?_
                  exact w _ hp83 hf84
                · replace w := w.2 c66
                  refine v_iconstI dX5_readPlain_112 ?_
                  exact v_z0 dX5_readPlain_113 rfl (Nat.zero_le _) (Nat.zero_le _) ⟨rfl, hf50, _, _, rfl, hp49, w⟩
            · replace w := w.2 c44
              refine v_iload_n dX5_readPlain_46 rfl ?_
              refine v_bipushI dX5_readPlain_47 rfl ?_
              obtain ⟨q85, w⟩ := w
              refine v_icmp_ltI (tgt := 54) dX5_readPlain_49 (by decide) q85.1 q85.2 (by decide) (by decide) (fun c86 => ?_) (fun c86 => ?_)
              · replace w := w.1 c86
                refine v_aload_n dX5_readPlain_54 rfl ?_
                refine v_callVVw dX5_readPlain_55 ml_X5_136 (so_X5_pass hn hp18  w) ((hp18 33 (by decide)).trans (ent_33 _)) rfl (s_lt hn rfl) rfl rfl (Nat.le_of_ble_eq_true rfl) (show 0 + 1 ≤ fu + 1 + 2 by omega) (Nat.zero_le _) (Nat.zero_le _) (fun X88 h89 hp91 hf90 w => ?_)
                have hf92 := Fr.trans hf19 hf90
                refine v_aload_n dX5_readPlain_58 rfl ?_
                refine v_iload_n dX5_readPlain_59 rfl ?_
                refine v_iconstI dX5_readPlain_60 ?_
                refine v_iaddI dX5_readPlain_61 ?_
                refine v_callVIw dX5_readPlain_62 ml_X5_76 (ih hn hp91 w) ((hp91 33 (by decide)).trans (ent_33 _)) rfl (s_lt hn rfl) rfl rfl (Nat.le_of_ble_eq_true rfl) (show fu + 2 + 1 ≤ fu + 1 + 2 by omega) (Nat.zero_le _) (Nat.zero_le _) (fun v93 X94 h95 hp97 hf96 w => ?_)
                have hf98 := Fr.trans hf92 hf96
                obtain ⟨q99, w⟩ := w
                refine v_if_eqI (tgt := 82) dX5_readPlain_65 (by decide) q99.1 q99.2 (fun c100 => ?_) (fun c100 => ?_)
                · replace w := w.1 c100
                  refine v_iconstI dX5_readPlain_82 ?_
                  refine v_istore_n dX5_readPlain_83 (Nat.le_of_ble_eq_true rfl) ?_
                  refine v_goto (tgt := 134) dX5_readPlain_84 (by decide) ?_
                  refine v_pick [1, 3, 0] rfl ?_
                  exact w _ hp97 hf98
                · replace w := w.2 c100
                  refine v_aload_n dX5_readPlain_68 rfl ?_
                  refine v_sipushI dX5_readPlain_69 rfl ?_
                  refine v_callVIw dX5_readPlain_72 ml_X5_66 (so_X5_take hn hp97  w) ((hp97 33 (by decide)).trans (ent_33 _)) rfl (s_lt hn rfl) rfl rfl (Nat.le_of_ble_eq_true rfl) (show 1 + 1 ≤ fu + 1 + 2 by omega) (Nat.zero_le _) (Nat.zero_le _) (fun v101 X102 h103 hp105 hf104 w => ?_)
                  have hf106 := Fr.trans hf98 hf104
                  obtain ⟨q107, w⟩ := w
                  refine v_if_eqI (tgt := 82) dX5_readPlain_75 (by decide) q107.1 q107.2 (fun c108 => ?_) (fun c108 => ?_)
                  · replace w := w.1 c108
                    refine v_iconstI dX5_readPlain_82 ?_
                    refine v_istore_n dX5_readPlain_83 (Nat.le_of_ble_eq_true rfl) ?_
                    refine v_goto (tgt := 134) dX5_readPlain_84 (by decide) ?_
                    refine v_pick [1, 3, 0] rfl ?_
                    exact w _ hp105 hf106
                  · replace w := w.2 c108
                    refine v_iconstI dX5_readPlain_78 ?_
                    refine v_goto (tgt := 83) dX5_readPlain_79 (by decide) ?_
                    refine v_istore_n dX5_readPlain_83 (Nat.le_of_ble_eq_true rfl) ?_
                    refine v_goto (tgt := 134) dX5_readPlain_84 (by decide) ?_
                    refine v_pick [1, 3, 0] rfl ?_
                    exact w _ hp105 hf106
              · replace w := w.2 c86
                refine v_iconstI dX5_readPlain_52 ?_
                exact v_z0 dX5_readPlain_53 rfl (Nat.zero_le _) (Nat.zero_le _) ⟨rfl, hf19, _, _, rfl, hp18, w⟩
          )
          obtain ⟨q109, w⟩ := w
          refine v_icmp_geI (tgt := 36) dX5_readPlain_8 (by decide) q109.1 q109.2 (by decide) (by decide) (fun c110 => ?_) (fun c110 => ?_)
          · replace w := w.1 c110
            refine v_pick [0, 1, 2] rfl ?_
            exact w _ hp14 hf15
          · replace w := w.2 c110
            refine v_aload_n dX5_readPlain_11 rfl ?_
            refine v_bipushI dX5_readPlain_12 rfl ?_
            refine v_callVIw dX5_readPlain_14 ml_X5_66 (so_X5_take hn hp14  w) ((hp14 33 (by decide)).trans (ent_33 _)) rfl (s_lt hn rfl) rfl rfl (Nat.le_of_ble_eq_true rfl) (show 1 + 1 ≤ fu + 1 + 2 by omega) (Nat.zero_le _) (Nat.zero_le _) (fun v111 X112 h113 hp115 hf114 w => ?_)
            have hf116 := Fr.trans hf15 hf114
            obtain ⟨q117, w⟩ := w
            refine v_if_eqI (tgt := 36) dX5_readPlain_17 (by decide) q117.1 q117.2 (fun c118 => ?_) (fun c118 => ?_)
            · replace w := w.1 c118
              refine v_pick [0, 1, 2] rfl ?_
              exact w _ hp115 hf116
            · replace w := w.2 c118
              refine v_iload_n dX5_readPlain_20 rfl ?_
              obtain ⟨q119, w⟩ := w
              refine v_if_neI (tgt := 28) dX5_readPlain_21 (by decide) q119.1 q119.2 (fun c120 => ?_) (fun c120 => ?_)
              · replace w := w.1 c120
                refine v_iconstI dX5_readPlain_28 ?_
                refine v_istore_n dX5_readPlain_29 (Nat.le_of_ble_eq_true rfl) ?_
                refine v_iincI dX5_readPlain_30 rfl (Nat.le_of_ble_eq_true rfl) ?_
                refine v_goto (tgt := 4) dX5_readPlain_33 (by decide) ?_
                refine v_pick [2, 3, 1, 0] rfl ?_
                exact ih6 _ _ _ _ (Nat.lt_of_lt_of_le w.2 (Nat.le_of_lt_succ hm10)) w.1 hp115 hf116
              · replace w := w.2 c120
                refine v_iconstI dX5_readPlain_24 ?_
                refine v_goto (tgt := 29) dX5_readPlain_25 (by decide) ?_
                refine v_istore_n dX5_readPlain_29 (Nat.le_of_ble_eq_true rfl) ?_
                refine v_iincI dX5_readPlain_30 rfl (Nat.le_of_ble_eq_true rfl) ?_
                refine v_goto (tgt := 4) dX5_readPlain_33 (by decide) ?_
                refine v_pick [2, 3, 1, 0] rfl ?_
                exact ih6 _ _ _ _ (Nat.lt_of_lt_of_le w.2 (Nat.le_of_lt_succ hm10)) w.1 hp115 hf116
      exact hL9 _ _ _ _ _ (Nat.lt_succ_self _) wi8 hp hf
    · intro n h X a0 Q hn hp w
      refine Sp.ofV (by decide +kernel) (Nat.le_of_ble_eq_true rfl) ?_
      have hf : Fr h h := fun _ _ => rfl
      refine v_iconstI dX5_readSum_0 ?_
      refine v_istore_n dX5_readSum_1 (Nat.le_of_ble_eq_true rfl) ?_
      refine v_aload_n dX5_readSum_2 rfl ?_
      refine v_iload_n dX5_readSum_3 rfl ?_
      refine v_callVIw dX5_readSum_4 ml_X5_159 (ih3 hn hp w) ((hp 33 (by decide)).trans (ent_33 _)) rfl (s_lt hn rfl) rfl rfl (Nat.le_of_ble_eq_true rfl) (show fu + 2 + 1 ≤ fu + 1 + 2 by omega) (Nat.zero_le _) (Nat.zero_le _) (fun v1 X2 h3 hp5 hf4 w => ?_)
      have hf6 := Fr.trans hf hf4
      refine v_istore_n dX5_readSum_7 (Nat.le_of_ble_eq_true rfl) ?_
      refine v_iconstI dX5_readSum_8 ?_
      refine v_istore dX5_readSum_9 (Nat.le_of_ble_eq_true rfl) ?_
      refine v_pick [3, 4, 2, 1, 0] rfl ?_
      obtain ⟨I11, m12, wi15, wl14⟩ := w
      have hL16 : ∀ (N19 : Nat) (x7 : Int) (x8 : Int) (x9 : Int) (X10 : XT) (h20 : Nat → sE), m12 x7 x8 x9 X10 < N19 → I11 x7 x8 x9 X10 → Pic X10 h20 → Fr h h20 → V (m_X5_readSum, fu + 1 + 2, 0, 0, n, pIw n h Q, s_G0) 0 0 n h20 11 [(0, .ref 33), (1, .int (iI a0)), (2, .int (iI x7)), (3, .int (iI x8)), (4, .int (iI x9))] [] := by
        intro N19
        induction N19 with
        | zero => intro x7 x8 x9 X10 h20 hm17; exact absurd hm17 (Nat.not_lt_zero _)
        | succ N19 ih13 =>
          intro x7 x8 x9 X10 h20 hm17 hI18 hp21 hf22
          have w := wl14 x7 x8 x9 X10 hI18
          refine v_iload dX5_readSum_11 rfl ?_
          refine v_sipushI dX5_readSum_13 rfl ?_
          obtain ⟨q23, w⟩ := w
          refine v_icmp_geI (tgt := 117) dX5_readSum_16 (by decide) q23.1 q23.2 (by decide) (by decide) (fun c24 => ?_) (fun c24 => ?_)
          · replace w := w.1 c24
            refine v_iload_n dX5_readSum_117 rfl ?_
            obtain ⟨q25, w⟩ := w
            exact v_zretZ dX5_readSum_118 rfl q25 (Nat.zero_le _) (Nat.zero_le _) ⟨rfl, hf22, _, _, rfl, hp21, w⟩
          · replace w := w.2 c24
            refine v_iload_n dX5_readSum_19 rfl ?_
            obtain ⟨q26, w⟩ := w
            refine v_if_eqI (tgt := 117) dX5_readSum_20 (by decide) q26.1 q26.2 (fun c27 => ?_) (fun c27 => ?_)
            · replace w := w.1 c27
              refine v_iload_n dX5_readSum_117 rfl ?_
              obtain ⟨q28, w⟩ := w
              exact v_zretZ dX5_readSum_118 rfl q28 (Nat.zero_le _) (Nat.zero_le _) ⟨rfl, hf22, _, _, rfl, hp21, w⟩
            · replace w := w.2 c27
              refine v_aload_n dX5_readSum_23 rfl ?_
              refine v_callVIr dX5_readSum_24 ml_X5_84 (so_X5_token hn hp21  w) ((hp21 33 (by decide)).trans (ent_33 _)) rfl (s_lt hn rfl) rfl rfl (Nat.le_of_ble_eq_true rfl) (show 0 + 1 ≤ fu + 1 + 2 by omega) (Nat.zero_le _) (Nat.zero_le _) (fun v29 w => ?_)
              refine v_callSIr dX5_readSum_27 ml_X5_162 (so_X5_orderOf hn hp21  w) rfl rfl (Nat.le_of_ble_eq_true rfl) (show 0 + 1 ≤ fu + 1 + 2 by omega) (Nat.zero_le _) (Nat.zero_le _) (fun v35 w => ?_)
              refine v_istore dX5_readSum_30 (Nat.le_of_ble_eq_true rfl) ?_
              refine v_iload dX5_readSum_32 rfl ?_
              refine v_bipushI dX5_readSum_34 rfl ?_
              replace w := w (V (m_X5_readSum, fu + 1 + 2, 0, 0, n, pIw n h Q, s_G0) 0 0 n h20 53 [(0, .ref 33), (1, .int (iI a0)), (2, .int (iI x7)), (4, .int (iI x9)), (5, .int (iI v35))] []) (by
                intro  w
                refine v_aload_n dX5_readSum_53 rfl ?_
                refine v_callVVw dX5_readSum_54 ml_X5_136 (so_X5_pass hn hp21  w) ((hp21 33 (by decide)).trans (ent_33 _)) rfl (s_lt hn rfl) rfl rfl (Nat.le_of_ble_eq_true rfl) (show 0 + 1 ≤ fu + 1 + 2 by omega) (Nat.zero_le _) (Nat.zero_le _) (fun X43 h44 hp46 hf45 w => ?_)
                have hf47 := Fr.trans hf22 hf45
                refine v_aload_n dX5_readSum_57 rfl ?_
                refine v_iload_n dX5_readSum_58 rfl ?_
                refine v_callVIw dX5_readSum_59 ml_X5_159 (ih3 hn hp46 w) ((hp46 33 (by decide)).trans (ent_33 _)) rfl (s_lt hn rfl) rfl rfl (Nat.le_of_ble_eq_true rfl) (show fu + 2 + 1 ≤ fu + 1 + 2 by omega) (Nat.zero_le _) (Nat.zero_le _) (fun v48 X49 h50 hp52 hf51 w => ?_)
                have hf53 := Fr.trans hf47 hf51
                refine v_istore_n dX5_readSum_62 (Nat.le_of_ble_eq_true rfl) ?_
                refine v_aload_n dX5_readSum_63 rfl ?_
                refine v_get dX5_readSum_64 fl_X5_26 ((hp52 33 (by decide)).trans (ent_33 _)) rfl (s_lt hn rfl) ?_
                refine v_iload dX5_readSum_67 rfl ?_
                refine v_iconstI dX5_readSum_69 ?_
                refine v_callVVw dX5_readSum_70 ml_X5_81 (so_X7_emit hn hp52  w) ((hp52 37 (by decide)).trans (ent_37 _)) rfl (s_lt hn rfl) rfl rfl (Nat.le_of_ble_eq_true rfl) (show 0 + 1 ≤ fu + 1 + 2 by omega) (Nat.zero_le _) (Nat.zero_le _) (fun X55 h56 hp58 hf57 w => ?_)
                have hf59 := Fr.trans hf53 hf57
                refine v_goto (tgt := 111) dX5_readSum_73 (by decide) ?_
                refine v_iincI dX5_readSum_111 rfl (Nat.le_of_ble_eq_true rfl) ?_
                refine v_goto (tgt := 11) dX5_readSum_114 (by decide) ?_
                refine v_pick [2, 3, 4, 1, 0] rfl ?_
                exact ih13 _ _ _ _ _ (Nat.lt_of_lt_of_le w.2 (Nat.le_of_lt_succ hm17)) w.1 hp58 hf59
              )
              obtain ⟨q60, w⟩ := w
              refine v_icmp_eqI (tgt := 53) dX5_readSum_36 (by decide) q60.1 q60.2 (by decide) (by decide) (fun c61 => ?_) (fun c61 => ?_)
              · replace w := w.1 c61
                refine v_pick [1, 2, 3, 5, 0] rfl ?_
                exact w
              · replace w := w.2 c61
                refine v_iload dX5_readSum_39 rfl ?_
                refine v_bipushI dX5_readSum_41 rfl ?_
                refine v_icmp_eqI (tgt := 53) dX5_readSum_43 (by decide) q60.1 q60.2 (by decide) (by decide) (fun c62 => ?_) (fun c62 => ?_)
                · replace w := w.1 c62
                  refine v_pick [1, 2, 3, 5, 0] rfl ?_
                  exact w
                · replace w := w.2 c62
                  refine v_iload dX5_readSum_46 rfl ?_
                  refine v_bipushI dX5_readSum_48 rfl ?_
                  refine v_icmp_neI (tgt := 76) dX5_readSum_50 (by decide) q60.1 q60.2 (by decide) (by decide) (fun c63 => ?_) (fun c63 => ?_)
                  · replace w := w.1 c63
                    refine v_iload_n dX5_readSum_76 rfl ?_
                    refine v_iconstI dX5_readSum_77 ?_
                    replace w := w (fun  (X64 : XT) => ∀ h68 : Nat → sE, Pic X64 h68 → Fr h h68 → V (m_X5_readSum, fu + 1 + 2, 0, 0, n, pIw n h Q, s_G0) 0 0 n h68 90 [(0, .ref 33), (1, .int (iI a0)), (4, .int (iI x9)), (5, .int (iI v35))] []) (by
                      intro  X64 w h68 hp66 hf67
                      refine v_iload dX5_readSum_90 rfl ?_
                      refine v_iconstI dX5_readSum_92 ?_
                      refine v_icmp_neI (tgt := 98) dX5_readSum_93 (by decide) q60.1 q60.2 (by decide) (by decide) (fun c69 => ?_) (fun c69 => ?_)
                      · replace w := w.1 c69
                        refine v_iload dX5_readSum_98 rfl ?_
                        refine v_istore_n dX5_readSum_100 (Nat.le_of_ble_eq_true rfl) ?_
                        refine v_aload_n dX5_readSum_101 rfl ?_
                        refine v_callVVw dX5_readSum_102 ml_X5_136 (so_X5_pass hn hp66  w) ((hp66 33 (by decide)).trans (ent_33 _)) rfl (s_lt hn rfl) rfl rfl (Nat.le_of_ble_eq_true rfl) (show 0 + 1 ≤ fu + 1 + 2 by omega) (Nat.zero_le _) (Nat.zero_le _) (fun X71 h72 hp74 hf73 w => ?_)
                        have hf75 := Fr.trans hf67 hf73
                        refine v_aload_n dX5_readSum_105 rfl ?_
                        refine v_iload_n dX5_readSum_106 rfl ?_
                        refine v_callVIw dX5_readSum_107 ml_X5_159 (ih3 hn hp74 w) ((hp74 33 (by decide)).trans (ent_33 _)) rfl (s_lt hn rfl) rfl rfl (Nat.le_of_ble_eq_true rfl) (show fu + 2 + 1 ≤ fu + 1 + 2 by omega) (Nat.zero_le _) (Nat.zero_le _) (fun v76 X77 h78 hp80 hf79 w => ?_)
                        have hf81 := Fr.trans hf75 hf79
                        refine v_istore_n dX5_readSum_110 (Nat.le_of_ble_eq_true rfl) ?_
                        refine v_iincI dX5_readSum_111 rfl (Nat.le_of_ble_eq_true rfl) ?_
                        refine v_goto (tgt := 11) dX5_readSum_114 (by decide) ?_
                        refine v_pick [3, 4, 2, 1, 0] rfl ?_
                        exact ih13 _ _ _ _ _ (Nat.lt_of_lt_of_le w.2 (Nat.le_of_lt_succ hm17)) w.1 hp80 hf81
                      · replace w := w.2 c69
                        refine v_iconstI dX5_readSum_96 ?_
                        exact v_z1 dX5_readSum_97 rfl (Nat.zero_le _) (Nat.zero_le _) ⟨rfl, hf67, _, _, rfl, hp66, w⟩
                    )
                    obtain ⟨q82, w⟩ := w
                    refine v_icmp_eqI (tgt := 90) dX5_readSum_78 (by decide) q82.1 q82.2 (by decide) (by decide) (fun c83 => ?_) (fun c83 => ?_)
                    · replace w := w.1 c83
                      refine v_pick [1, 2, 5, 0] rfl ?_
                      exact w _ hp21 hf22
                    · replace w := w.2 c83
                      refine v_aload_n dX5_readSum_81 rfl ?_
                      refine v_get dX5_readSum_82 fl_X5_26 ((hp21 33 (by decide)).trans (ent_33 _)) rfl (s_lt hn rfl) ?_
                      refine v_iload_n dX5_readSum_85 rfl ?_
                      refine v_iconstI dX5_readSum_86 ?_
                      refine v_callVVw dX5_readSum_87 ml_X5_81 (so_X7_emit hn hp21  w) ((hp21 37 (by decide)).trans (ent_37 _)) rfl (s_lt hn rfl) rfl rfl (Nat.le_of_ble_eq_true rfl) (show 0 + 1 ≤ fu + 1 + 2 by omega) (Nat.zero_le _) (Nat.zero_le _) (fun X85 h86 hp88 hf87 w => ?_)
                      have hf89 := Fr.trans hf22 hf87
                      refine v_pick [1, 2, 5, 0] rfl ?_
                      exact w _ hp88 hf89
                  · replace w := w.2 c63
                    refine v_pick [1, 2, 3, 5, 0] rfl ?_
                    exact w
      exact hL16 _ _ _ _ _ _ (Nat.lt_succ_self _) wi15 hp5 hf6
    · intro n h X a0 Q hn hp w
      refine Sp.ofV (by decide +kernel) (Nat.le_of_ble_eq_true rfl) ?_
      have hf : Fr h h := fun _ _ => rfl
      refine v_aload_n dX5_readPart_0 rfl ?_
      refine v_callVIr dX5_readPart_1 ml_X5_84 (so_X5_token hn hp  w) ((hp 33 (by decide)).trans (ent_33 _)) rfl (s_lt hn rfl) rfl rfl (Nat.le_of_ble_eq_true rfl) (show 0 + 1 ≤ fu + 1 + 2 by omega) (Nat.zero_le _) (Nat.zero_le _) (fun v1 w => ?_)
      refine v_istore_n dX5_readPart_4 (Nat.le_of_ble_eq_true rfl) ?_
      refine v_iload_n dX5_readPart_5 rfl ?_
      refine v_sipushI dX5_readPart_6 rfl ?_
      obtain ⟨q7, w⟩ := w
      refine v_icmp_neI (tgt := 50) dX5_readPart_9 (by decide) q7.1 q7.2 (by decide) (by decide) (fun c8 => ?_) (fun c8 => ?_)
      · replace w := w.1 c8
        refine v_aload_n dX5_readPart_50 rfl ?_
        refine v_get dX5_readPart_51 fl_X5_40 ((hp 33 (by decide)).trans (ent_33 _)) rfl (s_lt hn rfl) ?_
        refine v_bipushI dX5_readPart_54 rfl ?_
        obtain ⟨q9, w⟩ := w
        refine v_icmp_ltI (tgt := 61) dX5_readPart_56 (by decide) q9.1 q9.2 (by decide) (by decide) (fun c10 => ?_) (fun c10 => ?_)
        · replace w := w.1 c10
          refine v_iload_n dX5_readPart_61 rfl ?_
          refine v_sipushI dX5_readPart_62 rfl ?_
          refine v_icmp_ltI (tgt := 104) dX5_readPart_65 (by decide) q7.1 q7.2 (by decide) (by decide) (fun c11 => ?_) (fun c11 => ?_)
          · replace w := w.1 c11
            refine v_aload_n dX5_readPart_104 rfl ?_
            refine v_iload_n dX5_readPart_105 rfl ?_
            refine v_callVIw dX5_readPart_106 ml_X5_165 (so_X5_readWord hn hp  w) ((hp 33 (by decide)).trans (ent_33 _)) rfl (s_lt hn rfl) rfl rfl (Nat.le_of_ble_eq_true rfl) (show 1 + 1 ≤ fu + 1 + 2 by omega) (Nat.zero_le _) (Nat.zero_le _) (fun v12 X13 h14 hp16 hf15 w => ?_)
            have hf17 := Fr.trans hf hf15
            obtain ⟨q18, w⟩ := w
            exact v_zretZ dX5_readPart_109 rfl q18 (Nat.zero_le _) (Nat.zero_le _) ⟨rfl, hf17, _, _, rfl, hp16, w⟩
          · replace w := w.2 c11
            refine v_iload_n dX5_readPart_68 rfl ?_
            refine v_sipushI dX5_readPart_69 rfl ?_
            refine v_icmp_gtI (tgt := 104) dX5_readPart_72 (by decide) q7.1 q7.2 (by decide) (by decide) (fun c19 => ?_) (fun c19 => ?_)
            · replace w := w.1 c19
              refine v_aload_n dX5_readPart_104 rfl ?_
              refine v_iload_n dX5_readPart_105 rfl ?_
              refine v_callVIw dX5_readPart_106 ml_X5_165 (so_X5_readWord hn hp  w) ((hp 33 (by decide)).trans (ent_33 _)) rfl (s_lt hn rfl) rfl rfl (Nat.le_of_ble_eq_true rfl) (show 1 + 1 ≤ fu + 1 + 2 by omega) (Nat.zero_le _) (Nat.zero_le _) (fun v20 X21 h22 hp24 hf23 w => ?_)
              have hf25 := Fr.trans hf hf23
              obtain ⟨q26, w⟩ := w
              exact v_zretZ dX5_readPart_109 rfl q26 (Nat.zero_le _) (Nat.zero_le _) ⟨rfl, hf25, _, _, rfl, hp24, w⟩
            · replace w := w.2 c19
              refine v_aload_n dX5_readPart_75 rfl ?_
              refine v_dup dX5_readPart_76 rfl ?_
              refine v_get dX5_readPart_77 fl_X5_40 ((hp 33 (by decide)).trans (ent_33 _)) rfl (s_lt hn rfl) ?_
              refine v_iconstI dX5_readPart_80 ?_
              refine v_iaddI dX5_readPart_81 ?_
              refine v_put dX5_readPart_82 fl_X5_40 ((hp 33 (by decide)).trans (ent_33 _)) (s_lt hn rfl) (Nat.le_of_ble_eq_true rfl) (fun _ => ⟨rfl, rfl⟩) trivial (fun h27 E28 F29 => ?_)
              have hp30 := pic_st hp (show h27 33 = ent 33 (uI _ 7 ((X 33 7) + 1)) from E28) F29
              have hf31 := Fr.up (c := 33) hf F29 rfl
              refine v_aload_n dX5_readPart_85 rfl ?_
              refine v_callVVw dX5_readPart_86 ml_X5_136 (so_X5_pass hn hp30  w) ((hp30 33 (by decide)).trans (ent_33 _)) rfl (s_lt hn rfl) rfl rfl (Nat.le_of_ble_eq_true rfl) (show 0 + 1 ≤ fu + 1 + 2 by omega) (Nat.zero_le _) (Nat.zero_le _) (fun X33 h34 hp36 hf35 w => ?_)
              have hf37 := Fr.trans hf31 hf35
              refine v_aload_n dX5_readPart_89 rfl ?_
              refine v_get dX5_readPart_90 fl_X5_26 ((hp36 33 (by decide)).trans (ent_33 _)) rfl (s_lt hn rfl) ?_
              refine v_iconstI dX5_readPart_93 ?_
              refine v_iload_n dX5_readPart_94 rfl ?_
              refine v_sipushI dX5_readPart_95 rfl ?_
              refine v_isubI dX5_readPart_98 ?_
              refine v_callVVw dX5_readPart_99 ml_X5_81 (so_X7_emit hn hp36  w) ((hp36 37 (by decide)).trans (ent_37 _)) rfl (s_lt hn rfl) rfl rfl (Nat.le_of_ble_eq_true rfl) (show 0 + 1 ≤ fu + 1 + 2 by omega) (Nat.zero_le _) (Nat.zero_le _) (fun X39 h40 hp42 hf41 w => ?_)
              have hf43 := Fr.trans hf37 hf41
              refine v_iconstI dX5_readPart_102 ?_
              exact v_z1 dX5_readPart_103 rfl (Nat.zero_le _) (Nat.zero_le _) ⟨rfl, hf43, _, _, rfl, hp42, w⟩
        · replace w := w.2 c10
          refine v_iconstI dX5_readPart_59 ?_
          exact v_z0 dX5_readPart_60 rfl (Nat.zero_le _) (Nat.zero_le _) ⟨rfl, hf, _, _, rfl, hp, w⟩
      · replace w := w.2 c8
        refine v_iload_n dX5_readPart_12 rfl ?_
        refine v_bipushI dX5_readPart_13 rfl ?_
        obtain ⟨q44, w⟩ := w
        refine v_icmp_ltI (tgt := 20) dX5_readPart_15 (by decide) q44.1 q44.2 (by decide) (by decide) (fun c45 => ?_) (fun c45 => ?_)
        · replace w := w.1 c45
          refine v_aload_n dX5_readPart_20 rfl ?_
          refine v_callVVw dX5_readPart_21 ml_X5_136 (so_X5_pass hn hp  w) ((hp 33 (by decide)).trans (ent_33 _)) rfl (s_lt hn rfl) rfl rfl (Nat.le_of_ble_eq_true rfl) (show 0 + 1 ≤ fu + 1 + 2 by omega) (Nat.zero_le _) (Nat.zero_le _) (fun X47 h48 hp50 hf49 w => ?_)
          have hf51 := Fr.trans hf hf49
          refine v_aload_n dX5_readPart_24 rfl ?_
          refine v_iload_n dX5_readPart_25 rfl ?_
          refine v_iconstI dX5_readPart_26 ?_
          refine v_iaddI dX5_readPart_27 ?_
          refine v_callVIw dX5_readPart_28 ml_X5_146 (ih2 hn hp50 w) ((hp50 33 (by decide)).trans (ent_33 _)) rfl (s_lt hn rfl) rfl rfl (Nat.le_of_ble_eq_true rfl) (show fu + 2 + 1 ≤ fu + 1 + 2 by omega) (Nat.zero_le _) (Nat.zero_le _) (fun v52 X53 h54 hp56 hf55 w => ?_)
          have hf57 := Fr.trans hf51 hf55
          obtain ⟨q58, w⟩ := w
          refine v_if_eqI (tgt := 48) dX5_readPart_31 (by decide) q58.1 q58.2 (fun c59 => ?_) (fun c59 => ?_)
          · replace w := w.1 c59
            refine v_iconstI dX5_readPart_48 ?_
            exact v_z0 dX5_readPart_49 rfl (Nat.zero_le _) (Nat.zero_le _) ⟨rfl, hf57, _, _, rfl, hp56, w⟩
          · replace w := w.2 c59
            refine v_aload_n dX5_readPart_34 rfl ?_
            refine v_sipushI dX5_readPart_35 rfl ?_
            refine v_callVIw dX5_readPart_38 ml_X5_66 (so_X5_take hn hp56  w) ((hp56 33 (by decide)).trans (ent_33 _)) rfl (s_lt hn rfl) rfl rfl (Nat.le_of_ble_eq_true rfl) (show 1 + 1 ≤ fu + 1 + 2 by omega) (Nat.zero_le _) (Nat.zero_le _) (fun v60 X61 h62 hp64 hf63 w => ?_)
            have hf65 := Fr.trans hf57 hf63
            obtain ⟨q66, w⟩ := w
            refine v_if_eqI (tgt := 48) dX5_readPart_41 (by decide) q66.1 q66.2 (fun c67 => ?_) (fun c67 => ?_)
            · replace w := w.1 c67
              refine v_iconstI dX5_readPart_48 ?_
              exact v_z0 dX5_readPart_49 rfl (Nat.zero_le _) (Nat.zero_le _) ⟨rfl, hf65, _, _, rfl, hp64, w⟩
            · replace w := w.2 c67
              refine v_iconstI dX5_readPart_44 ?_
              refine v_goto (tgt := 49) dX5_readPart_45 (by decide) ?_
              exact v_z1 dX5_readPart_49 rfl (Nat.zero_le _) (Nat.zero_le _) ⟨rfl, hf65, _, _, rfl, hp64, w⟩
        · replace w := w.2 c45
          refine v_iconstI dX5_readPart_18 ?_
          exact v_z0 dX5_readPart_19 rfl (Nat.zero_le _) (Nat.zero_le _) ⟨rfl, hf, _, _, rfl, hp, w⟩
theorem so_X5_readTest {n : Nat} {h : Nat → sE} {X : XT} {a0 : Int} {Q : Int → XT → Prop} (hn : 115 ≤ n) (hp : Pic X h) (w : w_parse 60 0 a0 X Q) : Sp m_X5_readTest 62 0 0 [.ref 33, .int (iI a0)] n h (pIw n h Q) := (so_parse 60).1 hn hp w
theorem so_X5_readPlain {n : Nat} {h : Nat → sE} {X : XT} {a0 : Int} {Q : Int → XT → Prop} (hn : 115 ≤ n) (hp : Pic X h) (w : w_parse 60 1 a0 X Q) : Sp m_X5_readPlain 62 0 0 [.ref 33, .int (iI a0)] n h (pIw n h Q) := (so_parse 60).2.1 hn hp w
theorem so_X5_readSum {n : Nat} {h : Nat → sE} {X : XT} {a0 : Int} {Q : Int → XT → Prop} (hn : 115 ≤ n) (hp : Pic X h) (w : w_parse 60 2 a0 X Q) : Sp m_X5_readSum 62 0 0 [.ref 33, .int (iI a0)] n h (pIw n h Q) := (so_parse 60).2.2.1 hn hp w
theorem so_X5_readPart {n : Nat} {h : Nat → sE} {X : XT} {a0 : Int} {Q : Int → XT → Prop} (hn : 115 ≤ n) (hp : Pic X h) (w : w_parse 60 3 a0 X Q) : Sp m_X5_readPart 62 0 0 [.ref 33, .int (iI a0)] n h (pIw n h Q) := (so_parse 60).2.2.2 hn hp w
theorem dX5_readSumOf_0 : decode cX5_readSumOf 0 = .ok (.aload_n 0, 1) := by decide +kernel
theorem dX5_readSumOf_1 : decode cX5_readSumOf 1 = .ok (.getfield 26, 3) := by decide +kernel
theorem dX5_readSumOf_4 : decode cX5_readSumOf 4 = .ok (.iload_n 1, 1) := by decide +kernel
theorem dX5_readSumOf_5 : decode cX5_readSumOf 5 = .ok (.iload_n 2, 1) := by decide +kernel
theorem dX5_readSumOf_6 : decode cX5_readSumOf 6 = .ok (.aload_n 0, 1) := by decide +kernel
theorem dX5_readSumOf_7 : decode cX5_readSumOf 7 = .ok (.getfield 26, 3) := by decide +kernel
theorem dX5_readSumOf_10 : decode cX5_readSumOf 10 = .ok (.getfield 69, 3) := by decide +kernel
theorem dX5_readSumOf_13 : decode cX5_readSumOf 13 = .ok (.invokevirtual 72, 3) := by decide +kernel
theorem dX5_readSumOf_16 : decode cX5_readSumOf 16 = .ok (.aload_n 0, 1) := by decide +kernel
theorem dX5_readSumOf_17 : decode cX5_readSumOf 17 = .ok (.iconst 0, 1) := by decide +kernel
theorem dX5_readSumOf_18 : decode cX5_readSumOf 18 = .ok (.invokevirtual 146, 3) := by decide +kernel
theorem dX5_readSumOf_21 : decode cX5_readSumOf 21 = .ok (.istore_n 3, 1) := by decide +kernel
theorem dX5_readSumOf_22 : decode cX5_readSumOf 22 = .ok (.aload_n 0, 1) := by decide +kernel
theorem dX5_readSumOf_23 : decode cX5_readSumOf 23 = .ok (.getfield 26, 3) := by decide +kernel
theorem dX5_readSumOf_26 : decode cX5_readSumOf 26 = .ok (.iconst 0, 1) := by decide +kernel
theorem dX5_readSumOf_27 : decode cX5_readSumOf 27 = .ok (.iconst 0, 1) := by decide +kernel
theorem dX5_readSumOf_28 : decode cX5_readSumOf 28 = .ok (.invokevirtual 81, 3) := by decide +kernel
theorem dX5_readSumOf_31 : decode cX5_readSumOf 31 = .ok (.iload_n 3, 1) := by decide +kernel
theorem dX5_readSumOf_32 : decode cX5_readSumOf 32 = .ok (.ireturn, 1) := by decide +kernel
def w_X5_readSumOf (a0 a1 : Int) (X : XT) (Q : Int → XT → Prop) : Prop :=
  w_X7_setHead  a0 a1 (X 37 3) X (fun (X2 : XT) => w_parse 60 2  0 X2 (fun (v7 : Int) (X8 : XT) => w_X7_emit  0 0 X8 (fun (X14 : XT) => (v7 = 0 ∨ v7 = 1) ∧ Q v7 X14)))
set_option maxRecDepth 20000 in
theorem so_X5_readSumOf {n : Nat} {h : Nat → sE} {X : XT} {a0 a1 : Int} {Q : Int → XT → Prop} (hn : 115 ≤ n) (hp : Pic X h) (w : w_X5_readSumOf  a0 a1 X Q) : Sp m_X5_readSumOf 63 0 0 [.ref 33, .int (iI a0), .int (iI a1)] n h (pIw n h Q) := by
  unfold w_X5_readSumOf at w
  refine Sp.ofV (by decide +kernel) (Nat.le_of_ble_eq_true rfl) ?_
  have hf : Fr h h := fun _ _ => rfl
  refine v_aload_n dX5_readSumOf_0 rfl ?_
  refine v_get dX5_readSumOf_1 fl_X5_26 ((hp 33 (by decide)).trans (ent_33 _)) rfl (s_lt hn rfl) ?_
  refine v_iload_n dX5_readSumOf_4 rfl ?_
  refine v_iload_n dX5_readSumOf_5 rfl ?_
  refine v_aload_n dX5_readSumOf_6 rfl ?_
  refine v_get dX5_readSumOf_7 fl_X5_26 ((hp 33 (by decide)).trans (ent_33 _)) rfl (s_lt hn rfl) ?_
  refine v_get dX5_readSumOf_10 fl_X5_69 ((hp 37 (by decide)).trans (ent_37 _)) rfl (s_lt hn rfl) ?_
  refine v_callVVw dX5_readSumOf_13 ml_X5_72 (so_X7_setHead hn hp  w) ((hp 37 (by decide)).trans (ent_37 _)) rfl (s_lt hn rfl) rfl rfl (Nat.le_of_ble_eq_true rfl) (Nat.le_of_ble_eq_true rfl) (Nat.zero_le _) (Nat.zero_le _) (fun X2 h3 hp5 hf4 w => ?_)
  have hf6 := Fr.trans hf hf4
  refine v_aload_n dX5_readSumOf_16 rfl ?_
  refine v_iconstI dX5_readSumOf_17 ?_
  refine v_callVIw dX5_readSumOf_18 ml_X5_146 (so_X5_readSum hn hp5  w) ((hp5 33 (by decide)).trans (ent_33 _)) rfl (s_lt hn rfl) rfl rfl (Nat.le_of_ble_eq_true rfl) (Nat.le_of_ble_eq_true rfl) (Nat.zero_le _) (Nat.zero_le _) (fun v7 X8 h9 hp11 hf10 w => ?_)
  have hf12 := Fr.trans hf6 hf10
  refine v_istore_n dX5_readSumOf_21 (Nat.le_of_ble_eq_true rfl) ?_
  refine v_aload_n dX5_readSumOf_22 rfl ?_
  refine v_get dX5_readSumOf_23 fl_X5_26 ((hp11 33 (by decide)).trans (ent_33 _)) rfl (s_lt hn rfl) ?_
  refine v_iconstI dX5_readSumOf_26 ?_
  refine v_iconstI dX5_readSumOf_27 ?_
  refine v_callVVw dX5_readSumOf_28 ml_X5_81 (so_X7_emit hn hp11  w) ((hp11 37 (by decide)).trans (ent_37 _)) rfl (s_lt hn rfl) rfl rfl (Nat.le_of_ble_eq_true rfl) (Nat.le_of_ble_eq_true rfl) (Nat.zero_le _) (Nat.zero_le _) (fun X14 h15 hp17 hf16 w => ?_)
  have hf18 := Fr.trans hf12 hf16
  refine v_iload_n dX5_readSumOf_31 rfl ?_
  obtain ⟨q19, w⟩ := w
  exact v_zretZ dX5_readSumOf_32 rfl q19 (Nat.zero_le _) (Nat.zero_le _) ⟨rfl, hf18, _, _, rfl, hp17, w⟩
theorem dX5_readLawHead_0 : decode cX5_readLawHead 0 = .ok (.aload_n 0, 1) := by decide +kernel
theorem dX5_readLawHead_1 : decode cX5_readLawHead 1 = .ok (.invokevirtual 84, 3) := by decide +kernel
theorem dX5_readLawHead_4 : decode cX5_readLawHead 4 = .ok (.istore_n 2, 1) := by decide +kernel
theorem dX5_readLawHead_5 : decode cX5_readLawHead 5 = .ok (.iload_n 2, 1) := by decide +kernel
theorem dX5_readLawHead_6 : decode cX5_readLawHead 6 = .ok (.bipush 15, 2) := by decide +kernel
theorem dX5_readLawHead_8 : decode cX5_readLawHead 8 = .ok (.if_icmp .lt 9, 3) := by decide +kernel
theorem dX5_readLawHead_11 : decode cX5_readLawHead 11 = .ok (.iload_n 2, 1) := by decide +kernel
theorem dX5_readLawHead_12 : decode cX5_readLawHead 12 = .ok (.bipush 18, 2) := by decide +kernel
theorem dX5_readLawHead_14 : decode cX5_readLawHead 14 = .ok (.if_icmp .le 5, 3) := by decide +kernel
theorem dX5_readLawHead_17 : decode cX5_readLawHead 17 = .ok (.iconst 0, 1) := by decide +kernel
theorem dX5_readLawHead_18 : decode cX5_readLawHead 18 = .ok (.ireturn, 1) := by decide +kernel
theorem dX5_readLawHead_19 : decode cX5_readLawHead 19 = .ok (.aload_n 0, 1) := by decide +kernel
theorem dX5_readLawHead_20 : decode cX5_readLawHead 20 = .ok (.invokevirtual 136, 3) := by decide +kernel
theorem dX5_readLawHead_23 : decode cX5_readLawHead 23 = .ok (.aload_n 0, 1) := by decide +kernel
theorem dX5_readLawHead_24 : decode cX5_readLawHead 24 = .ok (.getfield 26, 3) := by decide +kernel
theorem dX5_readLawHead_27 : decode cX5_readLawHead 27 = .ok (.iload_n 1, 1) := by decide +kernel
theorem dX5_readLawHead_28 : decode cX5_readLawHead 28 = .ok (.iconst 0, 1) := by decide +kernel
theorem dX5_readLawHead_29 : decode cX5_readLawHead 29 = .ok (.iload_n 2, 1) := by decide +kernel
theorem dX5_readLawHead_30 : decode cX5_readLawHead 30 = .ok (.invokevirtual 72, 3) := by decide +kernel
theorem dX5_readLawHead_33 : decode cX5_readLawHead 33 = .ok (.iload_n 2, 1) := by decide +kernel
theorem dX5_readLawHead_34 : decode cX5_readLawHead 34 = .ok (.bipush 18, 2) := by decide +kernel
theorem dX5_readLawHead_36 : decode cX5_readLawHead 36 = .ok (.if_icmp .eq 12, 3) := by decide +kernel
theorem dX5_readLawHead_39 : decode cX5_readLawHead 39 = .ok (.aload_n 0, 1) := by decide +kernel
theorem dX5_readLawHead_40 : decode cX5_readLawHead 40 = .ok (.iload_n 1, 1) := by decide +kernel
theorem dX5_readLawHead_41 : decode cX5_readLawHead 41 = .ok (.iconst 1, 1) := by decide +kernel
theorem dX5_readLawHead_42 : decode cX5_readLawHead 42 = .ok (.invokevirtual 139, 3) := by decide +kernel
theorem dX5_readLawHead_45 : decode cX5_readLawHead 45 = .ok (.ifCond .eq 7, 3) := by decide +kernel
theorem dX5_readLawHead_48 : decode cX5_readLawHead 48 = .ok (.iconst 1, 1) := by decide +kernel
theorem dX5_readLawHead_49 : decode cX5_readLawHead 49 = .ok (.goto 4, 3) := by decide +kernel
theorem dX5_readLawHead_52 : decode cX5_readLawHead 52 = .ok (.iconst 0, 1) := by decide +kernel
theorem dX5_readLawHead_53 : decode cX5_readLawHead 53 = .ok (.ireturn, 1) := by decide +kernel
def w_X5_readLawHead (a0 : Int) (X : XT) (Q : Int → XT → Prop) : Prop :=
  w_X5_token   X (fun (v1 : Int) => R32 v1 ∧ (v1 < 15 → Q 0 X) ∧ (¬ v1 < 15 → (v1 ≤ 18 → w_X5_pass   X (fun (X11 : XT) => w_X7_setHead  a0 0 v1 X11 (fun (X17 : XT) => (v1 = 18 → Q 1 X17) ∧ (¬ v1 = 18 → w_X5_readSumOf  a0 1 X17 (fun (v23 : Int) (X24 : XT) => R32 v23 ∧ (v23 = 0 → Q 0 X24) ∧ (¬ v23 = 0 → Q 1 X24)))))) ∧ (¬ v1 ≤ 18 → Q 0 X)))
set_option maxRecDepth 20000 in
theorem so_X5_readLawHead {n : Nat} {h : Nat → sE} {X : XT} {a0 : Int} {Q : Int → XT → Prop} (hn : 115 ≤ n) (hp : Pic X h) (w : w_X5_readLawHead  a0 X Q) : Sp m_X5_readLawHead 64 0 0 [.ref 33, .int (iI a0)] n h (pIw n h Q) := by
  unfold w_X5_readLawHead at w
  refine Sp.ofV (by decide +kernel) (Nat.le_of_ble_eq_true rfl) ?_
  have hf : Fr h h := fun _ _ => rfl
  refine v_aload_n dX5_readLawHead_0 rfl ?_
  refine v_callVIr dX5_readLawHead_1 ml_X5_84 (so_X5_token hn hp  w) ((hp 33 (by decide)).trans (ent_33 _)) rfl (s_lt hn rfl) rfl rfl (Nat.le_of_ble_eq_true rfl) (Nat.le_of_ble_eq_true rfl) (Nat.zero_le _) (Nat.zero_le _) (fun v1 w => ?_)
  refine v_istore_n dX5_readLawHead_4 (Nat.le_of_ble_eq_true rfl) ?_
  refine v_iload_n dX5_readLawHead_5 rfl ?_
  refine v_bipushI dX5_readLawHead_6 rfl ?_
  obtain ⟨q7, w⟩ := w
  refine v_icmp_ltI (tgt := 17) dX5_readLawHead_8 (by decide) q7.1 q7.2 (by decide) (by decide) (fun c8 => ?_) (fun c8 => ?_)
  · replace w := w.1 c8
    refine v_iconstI dX5_readLawHead_17 ?_
    exact v_z0 dX5_readLawHead_18 rfl (Nat.zero_le _) (Nat.zero_le _) ⟨rfl, hf, _, _, rfl, hp, w⟩
  · replace w := w.2 c8
    refine v_iload_n dX5_readLawHead_11 rfl ?_
    refine v_bipushI dX5_readLawHead_12 rfl ?_
    refine v_icmp_leI (tgt := 19) dX5_readLawHead_14 (by decide) q7.1 q7.2 (by decide) (by decide) (fun c9 => ?_) (fun c9 => ?_)
    · replace w := w.1 c9
      refine v_aload_n dX5_readLawHead_19 rfl ?_
      refine v_callVVw dX5_readLawHead_20 ml_X5_136 (so_X5_pass hn hp  w) ((hp 33 (by decide)).trans (ent_33 _)) rfl (s_lt hn rfl) rfl rfl (Nat.le_of_ble_eq_true rfl) (Nat.le_of_ble_eq_true rfl) (Nat.zero_le _) (Nat.zero_le _) (fun X11 h12 hp14 hf13 w => ?_)
      have hf15 := Fr.trans hf hf13
      refine v_aload_n dX5_readLawHead_23 rfl ?_
      refine v_get dX5_readLawHead_24 fl_X5_26 ((hp14 33 (by decide)).trans (ent_33 _)) rfl (s_lt hn rfl) ?_
      refine v_iload_n dX5_readLawHead_27 rfl ?_
      refine v_iconstI dX5_readLawHead_28 ?_
      refine v_iload_n dX5_readLawHead_29 rfl ?_
      refine v_callVVw dX5_readLawHead_30 ml_X5_72 (so_X7_setHead hn hp14  w) ((hp14 37 (by decide)).trans (ent_37 _)) rfl (s_lt hn rfl) rfl rfl (Nat.le_of_ble_eq_true rfl) (Nat.le_of_ble_eq_true rfl) (Nat.zero_le _) (Nat.zero_le _) (fun X17 h18 hp20 hf19 w => ?_)
      have hf21 := Fr.trans hf15 hf19
      refine v_iload_n dX5_readLawHead_33 rfl ?_
      refine v_bipushI dX5_readLawHead_34 rfl ?_
      refine v_icmp_eqI (tgt := 48) dX5_readLawHead_36 (by decide) q7.1 q7.2 (by decide) (by decide) (fun c22 => ?_) (fun c22 => ?_)
      · replace w := w.1 c22
        refine v_iconstI dX5_readLawHead_48 ?_
        refine v_goto (tgt := 53) dX5_readLawHead_49 (by decide) ?_
        exact v_z1 dX5_readLawHead_53 rfl (Nat.zero_le _) (Nat.zero_le _) ⟨rfl, hf21, _, _, rfl, hp20, w⟩
      · replace w := w.2 c22
        refine v_aload_n dX5_readLawHead_39 rfl ?_
        refine v_iload_n dX5_readLawHead_40 rfl ?_
        refine v_iconstI dX5_readLawHead_41 ?_
        refine v_callVIw dX5_readLawHead_42 ml_X5_139 (so_X5_readSumOf hn hp20  w) ((hp20 33 (by decide)).trans (ent_33 _)) rfl (s_lt hn rfl) rfl rfl (Nat.le_of_ble_eq_true rfl) (Nat.le_of_ble_eq_true rfl) (Nat.zero_le _) (Nat.zero_le _) (fun v23 X24 h25 hp27 hf26 w => ?_)
        have hf28 := Fr.trans hf21 hf26
        obtain ⟨q29, w⟩ := w
        refine v_if_eqI (tgt := 52) dX5_readLawHead_45 (by decide) q29.1 q29.2 (fun c30 => ?_) (fun c30 => ?_)
        · replace w := w.1 c30
          refine v_iconstI dX5_readLawHead_52 ?_
          exact v_z0 dX5_readLawHead_53 rfl (Nat.zero_le _) (Nat.zero_le _) ⟨rfl, hf28, _, _, rfl, hp27, w⟩
        · replace w := w.2 c30
          refine v_iconstI dX5_readLawHead_48 ?_
          refine v_goto (tgt := 53) dX5_readLawHead_49 (by decide) ?_
          exact v_z1 dX5_readLawHead_53 rfl (Nat.zero_le _) (Nat.zero_le _) ⟨rfl, hf28, _, _, rfl, hp27, w⟩
    · replace w := w.2 c9
      refine v_iconstI dX5_readLawHead_17 ?_
      exact v_z0 dX5_readLawHead_18 rfl (Nat.zero_le _) (Nat.zero_le _) ⟨rfl, hf, _, _, rfl, hp, w⟩
theorem dX5_readTimes_0 : decode cX5_readTimes 0 = .ok (.aload_n 0, 1) := by decide +kernel
theorem dX5_readTimes_1 : decode cX5_readTimes 1 = .ok (.invokevirtual 84, 3) := by decide +kernel
theorem dX5_readTimes_4 : decode cX5_readTimes 4 = .ok (.sipush 2000, 3) := by decide +kernel
theorem dX5_readTimes_7 : decode cX5_readTimes 7 = .ok (.isub, 1) := by decide +kernel
theorem dX5_readTimes_8 : decode cX5_readTimes 8 = .ok (.istore_n 2, 1) := by decide +kernel
theorem dX5_readTimes_9 : decode cX5_readTimes 9 = .ok (.iload_n 2, 1) := by decide +kernel
theorem dX5_readTimes_10 : decode cX5_readTimes 10 = .ok (.iconst 1, 1) := by decide +kernel
theorem dX5_readTimes_11 : decode cX5_readTimes 11 = .ok (.if_icmp .lt 9, 3) := by decide +kernel
theorem dX5_readTimes_14 : decode cX5_readTimes 14 = .ok (.iload_n 2, 1) := by decide +kernel
theorem dX5_readTimes_15 : decode cX5_readTimes 15 = .ok (.bipush 20, 2) := by decide +kernel
theorem dX5_readTimes_17 : decode cX5_readTimes 17 = .ok (.if_icmp .le 5, 3) := by decide +kernel
theorem dX5_readTimes_20 : decode cX5_readTimes 20 = .ok (.iconst 0, 1) := by decide +kernel
theorem dX5_readTimes_21 : decode cX5_readTimes 21 = .ok (.ireturn, 1) := by decide +kernel
theorem dX5_readTimes_22 : decode cX5_readTimes 22 = .ok (.aload_n 0, 1) := by decide +kernel
theorem dX5_readTimes_23 : decode cX5_readTimes 23 = .ok (.invokevirtual 136, 3) := by decide +kernel
theorem dX5_readTimes_26 : decode cX5_readTimes 26 = .ok (.aload_n 0, 1) := by decide +kernel
theorem dX5_readTimes_27 : decode cX5_readTimes 27 = .ok (.getfield 26, 3) := by decide +kernel
theorem dX5_readTimes_30 : decode cX5_readTimes 30 = .ok (.iload_n 1, 1) := by decide +kernel
theorem dX5_readTimes_31 : decode cX5_readTimes 31 = .ok (.iconst 0, 1) := by decide +kernel
theorem dX5_readTimes_32 : decode cX5_readTimes 32 = .ok (.iload_n 2, 1) := by decide +kernel
theorem dX5_readTimes_33 : decode cX5_readTimes 33 = .ok (.invokevirtual 72, 3) := by decide +kernel
theorem dX5_readTimes_36 : decode cX5_readTimes 36 = .ok (.iconst 1, 1) := by decide +kernel
theorem dX5_readTimes_37 : decode cX5_readTimes 37 = .ok (.ireturn, 1) := by decide +kernel
def w_X5_readTimes (a0 : Int) (X : XT) (Q : Int → XT → Prop) : Prop :=
  w_X5_token   X (fun (v1 : Int) => R32 (v1 - 2000) ∧ ((v1 - 2000) < 1 → Q 0 X) ∧ (¬ (v1 - 2000) < 1 → ((v1 - 2000) ≤ 20 → w_X5_pass   X (fun (X11 : XT) => w_X7_setHead  a0 0 (v1 - 2000) X11 (fun (X17 : XT) => Q 1 X17))) ∧ (¬ (v1 - 2000) ≤ 20 → Q 0 X)))
set_option maxRecDepth 20000 in
theorem so_X5_readTimes {n : Nat} {h : Nat → sE} {X : XT} {a0 : Int} {Q : Int → XT → Prop} (hn : 115 ≤ n) (hp : Pic X h) (w : w_X5_readTimes  a0 X Q) : Sp m_X5_readTimes 1 0 0 [.ref 33, .int (iI a0)] n h (pIw n h Q) := by
  unfold w_X5_readTimes at w
  refine Sp.ofV (by decide +kernel) (Nat.le_of_ble_eq_true rfl) ?_
  have hf : Fr h h := fun _ _ => rfl
  refine v_aload_n dX5_readTimes_0 rfl ?_
  refine v_callVIr dX5_readTimes_1 ml_X5_84 (so_X5_token hn hp  w) ((hp 33 (by decide)).trans (ent_33 _)) rfl (s_lt hn rfl) rfl rfl (Nat.le_of_ble_eq_true rfl) (Nat.le_of_ble_eq_true rfl) (Nat.zero_le _) (Nat.zero_le _) (fun v1 w => ?_)
  refine v_sipushI dX5_readTimes_4 rfl ?_
  refine v_isubI dX5_readTimes_7 ?_
  refine v_istore_n dX5_readTimes_8 (Nat.le_of_ble_eq_true rfl) ?_
  refine v_iload_n dX5_readTimes_9 rfl ?_
  refine v_iconstI dX5_readTimes_10 ?_
  obtain ⟨q7, w⟩ := w
  refine v_icmp_ltI (tgt := 20) dX5_readTimes_11 (by decide) q7.1 q7.2 (by decide) (by decide) (fun c8 => ?_) (fun c8 => ?_)
  · replace w := w.1 c8
    refine v_iconstI dX5_readTimes_20 ?_
    exact v_z0 dX5_readTimes_21 rfl (Nat.zero_le _) (Nat.zero_le _) ⟨rfl, hf, _, _, rfl, hp, w⟩
  · replace w := w.2 c8
    refine v_iload_n dX5_readTimes_14 rfl ?_
    refine v_bipushI dX5_readTimes_15 rfl ?_
    refine v_icmp_leI (tgt := 22) dX5_readTimes_17 (by decide) q7.1 q7.2 (by decide) (by decide) (fun c9 => ?_) (fun c9 => ?_)
    · replace w := w.1 c9
      refine v_aload_n dX5_readTimes_22 rfl ?_
      refine v_callVVw dX5_readTimes_23 ml_X5_136 (so_X5_pass hn hp  w) ((hp 33 (by decide)).trans (ent_33 _)) rfl (s_lt hn rfl) rfl rfl (Nat.le_of_ble_eq_true rfl) (Nat.le_of_ble_eq_true rfl) (Nat.zero_le _) (Nat.zero_le _) (fun X11 h12 hp14 hf13 w => ?_)
      have hf15 := Fr.trans hf hf13
      refine v_aload_n dX5_readTimes_26 rfl ?_
      refine v_get dX5_readTimes_27 fl_X5_26 ((hp14 33 (by decide)).trans (ent_33 _)) rfl (s_lt hn rfl) ?_
      refine v_iload_n dX5_readTimes_30 rfl ?_
      refine v_iconstI dX5_readTimes_31 ?_
      refine v_iload_n dX5_readTimes_32 rfl ?_
      refine v_callVVw dX5_readTimes_33 ml_X5_72 (so_X7_setHead hn hp14  w) ((hp14 37 (by decide)).trans (ent_37 _)) rfl (s_lt hn rfl) rfl rfl (Nat.le_of_ble_eq_true rfl) (Nat.le_of_ble_eq_true rfl) (Nat.zero_le _) (Nat.zero_le _) (fun X17 h18 hp20 hf19 w => ?_)
      have hf21 := Fr.trans hf15 hf19
      refine v_iconstI dX5_readTimes_36 ?_
      exact v_z1 dX5_readTimes_37 rfl (Nat.zero_le _) (Nat.zero_le _) ⟨rfl, hf21, _, _, rfl, hp20, w⟩
    · replace w := w.2 c9
      refine v_iconstI dX5_readTimes_20 ?_
      exact v_z0 dX5_readTimes_21 rfl (Nat.zero_le _) (Nat.zero_le _) ⟨rfl, hf, _, _, rfl, hp, w⟩
theorem dX5_readDriveHead_0 : decode cX5_readDriveHead 0 = .ok (.aload_n 0, 1) := by decide +kernel
theorem dX5_readDriveHead_1 : decode cX5_readDriveHead 1 = .ok (.getfield 26, 3) := by decide +kernel
theorem dX5_readDriveHead_4 : decode cX5_readDriveHead 4 = .ok (.iload_n 1, 1) := by decide +kernel
theorem dX5_readDriveHead_5 : decode cX5_readDriveHead 5 = .ok (.iconst 0, 1) := by decide +kernel
theorem dX5_readDriveHead_6 : decode cX5_readDriveHead 6 = .ok (.iconst 1, 1) := by decide +kernel
theorem dX5_readDriveHead_7 : decode cX5_readDriveHead 7 = .ok (.invokevirtual 72, 3) := by decide +kernel
theorem dX5_readDriveHead_10 : decode cX5_readDriveHead 10 = .ok (.aload_n 0, 1) := by decide +kernel
theorem dX5_readDriveHead_11 : decode cX5_readDriveHead 11 = .ok (.bipush 19, 2) := by decide +kernel
theorem dX5_readDriveHead_13 : decode cX5_readDriveHead 13 = .ok (.invokevirtual 66, 3) := by decide +kernel
theorem dX5_readDriveHead_16 : decode cX5_readDriveHead 16 = .ok (.ifCond .eq 12, 3) := by decide +kernel
theorem dX5_readDriveHead_19 : decode cX5_readDriveHead 19 = .ok (.aload_n 0, 1) := by decide +kernel
theorem dX5_readDriveHead_20 : decode cX5_readDriveHead 20 = .ok (.iload_n 1, 1) := by decide +kernel
theorem dX5_readDriveHead_21 : decode cX5_readDriveHead 21 = .ok (.iconst 1, 1) := by decide +kernel
theorem dX5_readDriveHead_22 : decode cX5_readDriveHead 22 = .ok (.invokevirtual 139, 3) := by decide +kernel
theorem dX5_readDriveHead_25 : decode cX5_readDriveHead 25 = .ok (.ifCond .ne 5, 3) := by decide +kernel
theorem dX5_readDriveHead_28 : decode cX5_readDriveHead 28 = .ok (.iconst 0, 1) := by decide +kernel
theorem dX5_readDriveHead_29 : decode cX5_readDriveHead 29 = .ok (.ireturn, 1) := by decide +kernel
theorem dX5_readDriveHead_30 : decode cX5_readDriveHead 30 = .ok (.aload_n 0, 1) := by decide +kernel
theorem dX5_readDriveHead_31 : decode cX5_readDriveHead 31 = .ok (.bipush 20, 2) := by decide +kernel
theorem dX5_readDriveHead_33 : decode cX5_readDriveHead 33 = .ok (.invokevirtual 66, 3) := by decide +kernel
theorem dX5_readDriveHead_36 : decode cX5_readDriveHead 36 = .ok (.ifCond .eq 12, 3) := by decide +kernel
theorem dX5_readDriveHead_39 : decode cX5_readDriveHead 39 = .ok (.aload_n 0, 1) := by decide +kernel
theorem dX5_readDriveHead_40 : decode cX5_readDriveHead 40 = .ok (.iload_n 1, 1) := by decide +kernel
theorem dX5_readDriveHead_41 : decode cX5_readDriveHead 41 = .ok (.iconst 2, 1) := by decide +kernel
theorem dX5_readDriveHead_42 : decode cX5_readDriveHead 42 = .ok (.invokevirtual 139, 3) := by decide +kernel
theorem dX5_readDriveHead_45 : decode cX5_readDriveHead 45 = .ok (.ifCond .ne 5, 3) := by decide +kernel
theorem dX5_readDriveHead_48 : decode cX5_readDriveHead 48 = .ok (.iconst 0, 1) := by decide +kernel
theorem dX5_readDriveHead_49 : decode cX5_readDriveHead 49 = .ok (.ireturn, 1) := by decide +kernel
theorem dX5_readDriveHead_50 : decode cX5_readDriveHead 50 = .ok (.aload_n 0, 1) := by decide +kernel
theorem dX5_readDriveHead_51 : decode cX5_readDriveHead 51 = .ok (.bipush 21, 2) := by decide +kernel
theorem dX5_readDriveHead_53 : decode cX5_readDriveHead 53 = .ok (.invokevirtual 66, 3) := by decide +kernel
theorem dX5_readDriveHead_56 : decode cX5_readDriveHead 56 = .ok (.ifCond .eq 12, 3) := by decide +kernel
theorem dX5_readDriveHead_59 : decode cX5_readDriveHead 59 = .ok (.aload_n 0, 1) := by decide +kernel
theorem dX5_readDriveHead_60 : decode cX5_readDriveHead 60 = .ok (.iload_n 1, 1) := by decide +kernel
theorem dX5_readDriveHead_61 : decode cX5_readDriveHead 61 = .ok (.iconst 3, 1) := by decide +kernel
theorem dX5_readDriveHead_62 : decode cX5_readDriveHead 62 = .ok (.invokevirtual 139, 3) := by decide +kernel
theorem dX5_readDriveHead_65 : decode cX5_readDriveHead 65 = .ok (.ifCond .ne 5, 3) := by decide +kernel
theorem dX5_readDriveHead_68 : decode cX5_readDriveHead 68 = .ok (.iconst 0, 1) := by decide +kernel
theorem dX5_readDriveHead_69 : decode cX5_readDriveHead 69 = .ok (.ireturn, 1) := by decide +kernel
theorem dX5_readDriveHead_70 : decode cX5_readDriveHead 70 = .ok (.aload_n 0, 1) := by decide +kernel
theorem dX5_readDriveHead_71 : decode cX5_readDriveHead 71 = .ok (.bipush 22, 2) := by decide +kernel
theorem dX5_readDriveHead_73 : decode cX5_readDriveHead 73 = .ok (.invokevirtual 66, 3) := by decide +kernel
theorem dX5_readDriveHead_76 : decode cX5_readDriveHead 76 = .ok (.ifCond .eq 14, 3) := by decide +kernel
theorem dX5_readDriveHead_79 : decode cX5_readDriveHead 79 = .ok (.aload_n 0, 1) := by decide +kernel
theorem dX5_readDriveHead_80 : decode cX5_readDriveHead 80 = .ok (.iload_n 1, 1) := by decide +kernel
theorem dX5_readDriveHead_81 : decode cX5_readDriveHead 81 = .ok (.iconst 4, 1) := by decide +kernel
theorem dX5_readDriveHead_82 : decode cX5_readDriveHead 82 = .ok (.invokevirtual 139, 3) := by decide +kernel
theorem dX5_readDriveHead_85 : decode cX5_readDriveHead 85 = .ok (.ifCond .ne 5, 3) := by decide +kernel
theorem dX5_readDriveHead_88 : decode cX5_readDriveHead 88 = .ok (.iconst 0, 1) := by decide +kernel
theorem dX5_readDriveHead_89 : decode cX5_readDriveHead 89 = .ok (.ireturn, 1) := by decide +kernel
theorem dX5_readDriveHead_90 : decode cX5_readDriveHead 90 = .ok (.aload_n 0, 1) := by decide +kernel
theorem dX5_readDriveHead_91 : decode cX5_readDriveHead 91 = .ok (.bipush 23, 2) := by decide +kernel
theorem dX5_readDriveHead_93 : decode cX5_readDriveHead 93 = .ok (.invokevirtual 66, 3) := by decide +kernel
theorem dX5_readDriveHead_96 : decode cX5_readDriveHead 96 = .ok (.ifCond .eq 11, 3) := by decide +kernel
theorem dX5_readDriveHead_99 : decode cX5_readDriveHead 99 = .ok (.aload_n 0, 1) := by decide +kernel
theorem dX5_readDriveHead_100 : decode cX5_readDriveHead 100 = .ok (.iload_n 1, 1) := by decide +kernel
theorem dX5_readDriveHead_101 : decode cX5_readDriveHead 101 = .ok (.invokevirtual 143, 3) := by decide +kernel
theorem dX5_readDriveHead_104 : decode cX5_readDriveHead 104 = .ok (.ifCond .eq 7, 3) := by decide +kernel
theorem dX5_readDriveHead_107 : decode cX5_readDriveHead 107 = .ok (.iconst 1, 1) := by decide +kernel
theorem dX5_readDriveHead_108 : decode cX5_readDriveHead 108 = .ok (.goto 4, 3) := by decide +kernel
theorem dX5_readDriveHead_111 : decode cX5_readDriveHead 111 = .ok (.iconst 0, 1) := by decide +kernel
theorem dX5_readDriveHead_112 : decode cX5_readDriveHead 112 = .ok (.ireturn, 1) := by decide +kernel
def w_X5_readDriveHead (a0 : Int) (X : XT) (Q : Int → XT → Prop) : Prop :=
  w_X7_setHead  a0 0 1 X (fun (X2 : XT) => w_X5_take  19 X2 (fun (v7 : Int) (X8 : XT) => R32 v7 ∧ (v7 = 0 → Q 0 X8) ∧ (¬ v7 = 0 → w_X5_readSumOf  a0 1 X8 (fun (v15 : Int) (X16 : XT) => R32 v15 ∧ (¬ v15 = 0 → w_X5_take  20 X16 (fun (v23 : Int) (X24 : XT) => R32 v23 ∧ (v23 = 0 → Q 0 X24) ∧ (¬ v23 = 0 → w_X5_readSumOf  a0 2 X24 (fun (v31 : Int) (X32 : XT) => R32 v31 ∧ (¬ v31 = 0 → w_X5_take  21 X32 (fun (v39 : Int) (X40 : XT) => R32 v39 ∧ (v39 = 0 → Q 0 X40) ∧ (¬ v39 = 0 → w_X5_readSumOf  a0 3 X40 (fun (v47 : Int) (X48 : XT) => R32 v47 ∧ (¬ v47 = 0 → w_X5_take  22 X48 (fun (v55 : Int) (X56 : XT) => ∀ J62 : XT → Prop, (∀  (X61 : XT), (w_X5_take  23 X61 (fun (v66 : Int) (X67 : XT) => R32 v66 ∧ (v66 = 0 → Q 1 X67) ∧ (¬ v66 = 0 → w_X5_readTimes  a0 X67 (fun (v74 : Int) (X75 : XT) => R32 v74 ∧ (v74 = 0 → Q 0 X75) ∧ (¬ v74 = 0 → Q 1 X75))))) → J62  X61) → R32 v55 ∧ (v55 = 0 → J62  X56) ∧ (¬ v55 = 0 → w_X5_readSumOf  a0 4 X56 (fun (v84 : Int) (X85 : XT) => R32 v84 ∧ (¬ v84 = 0 → J62  X85) ∧ (v84 = 0 → Q 0 X85))))) ∧ (v47 = 0 → Q 0 X48))))) ∧ (v31 = 0 → Q 0 X32))))) ∧ (v15 = 0 → Q 0 X16)))))
set_option maxRecDepth 20000 in
theorem so_X5_readDriveHead {n : Nat} {h : Nat → sE} {X : XT} {a0 : Int} {Q : Int → XT → Prop} (hn : 115 ≤ n) (hp : Pic X h) (w : w_X5_readDriveHead  a0 X Q) : Sp m_X5_readDriveHead 64 0 0 [.ref 33, .int (iI a0)] n h (pIw n h Q) := by
  unfold w_X5_readDriveHead at w
  refine Sp.ofV (by decide +kernel) (Nat.le_of_ble_eq_true rfl) ?_
  have hf : Fr h h := fun _ _ => rfl
  refine v_aload_n dX5_readDriveHead_0 rfl ?_
  refine v_get dX5_readDriveHead_1 fl_X5_26 ((hp 33 (by decide)).trans (ent_33 _)) rfl (s_lt hn rfl) ?_
  refine v_iload_n dX5_readDriveHead_4 rfl ?_
  refine v_iconstI dX5_readDriveHead_5 ?_
  refine v_iconstI dX5_readDriveHead_6 ?_
  refine v_callVVw dX5_readDriveHead_7 ml_X5_72 (so_X7_setHead hn hp  w) ((hp 37 (by decide)).trans (ent_37 _)) rfl (s_lt hn rfl) rfl rfl (Nat.le_of_ble_eq_true rfl) (Nat.le_of_ble_eq_true rfl) (Nat.zero_le _) (Nat.zero_le _) (fun X2 h3 hp5 hf4 w => ?_)
  have hf6 := Fr.trans hf hf4
  refine v_aload_n dX5_readDriveHead_10 rfl ?_
  refine v_bipushI dX5_readDriveHead_11 rfl ?_
  refine v_callVIw dX5_readDriveHead_13 ml_X5_66 (so_X5_take hn hp5  w) ((hp5 33 (by decide)).trans (ent_33 _)) rfl (s_lt hn rfl) rfl rfl (Nat.le_of_ble_eq_true rfl) (Nat.le_of_ble_eq_true rfl) (Nat.zero_le _) (Nat.zero_le _) (fun v7 X8 h9 hp11 hf10 w => ?_)
  have hf12 := Fr.trans hf6 hf10
  obtain ⟨q13, w⟩ := w
  refine v_if_eqI (tgt := 28) dX5_readDriveHead_16 (by decide) q13.1 q13.2 (fun c14 => ?_) (fun c14 => ?_)
  · replace w := w.1 c14
    refine v_iconstI dX5_readDriveHead_28 ?_
    exact v_z0 dX5_readDriveHead_29 rfl (Nat.zero_le _) (Nat.zero_le _) ⟨rfl, hf12, _, _, rfl, hp11, w⟩
  · replace w := w.2 c14
    refine v_aload_n dX5_readDriveHead_19 rfl ?_
    refine v_iload_n dX5_readDriveHead_20 rfl ?_
    refine v_iconstI dX5_readDriveHead_21 ?_
    refine v_callVIw dX5_readDriveHead_22 ml_X5_139 (so_X5_readSumOf hn hp11  w) ((hp11 33 (by decide)).trans (ent_33 _)) rfl (s_lt hn rfl) rfl rfl (Nat.le_of_ble_eq_true rfl) (Nat.le_of_ble_eq_true rfl) (Nat.zero_le _) (Nat.zero_le _) (fun v15 X16 h17 hp19 hf18 w => ?_)
    have hf20 := Fr.trans hf12 hf18
    obtain ⟨q21, w⟩ := w
    refine v_if_neI (tgt := 30) dX5_readDriveHead_25 (by decide) q21.1 q21.2 (fun c22 => ?_) (fun c22 => ?_)
    · replace w := w.1 c22
      refine v_aload_n dX5_readDriveHead_30 rfl ?_
      refine v_bipushI dX5_readDriveHead_31 rfl ?_
      refine v_callVIw dX5_readDriveHead_33 ml_X5_66 (so_X5_take hn hp19  w) ((hp19 33 (by decide)).trans (ent_33 _)) rfl (s_lt hn rfl) rfl rfl (Nat.le_of_ble_eq_true rfl) (Nat.le_of_ble_eq_true rfl) (Nat.zero_le _) (Nat.zero_le _) (fun v23 X24 h25 hp27 hf26 w => ?_)
      have hf28 := Fr.trans hf20 hf26
      obtain ⟨q29, w⟩ := w
      refine v_if_eqI (tgt := 48) dX5_readDriveHead_36 (by decide) q29.1 q29.2 (fun c30 => ?_) (fun c30 => ?_)
      · replace w := w.1 c30
        refine v_iconstI dX5_readDriveHead_48 ?_
        exact v_z0 dX5_readDriveHead_49 rfl (Nat.zero_le _) (Nat.zero_le _) ⟨rfl, hf28, _, _, rfl, hp27, w⟩
      · replace w := w.2 c30
        refine v_aload_n dX5_readDriveHead_39 rfl ?_
        refine v_iload_n dX5_readDriveHead_40 rfl ?_
        refine v_iconstI dX5_readDriveHead_41 ?_
        refine v_callVIw dX5_readDriveHead_42 ml_X5_139 (so_X5_readSumOf hn hp27  w) ((hp27 33 (by decide)).trans (ent_33 _)) rfl (s_lt hn rfl) rfl rfl (Nat.le_of_ble_eq_true rfl) (Nat.le_of_ble_eq_true rfl) (Nat.zero_le _) (Nat.zero_le _) (fun v31 X32 h33 hp35 hf34 w => ?_)
        have hf36 := Fr.trans hf28 hf34
        obtain ⟨q37, w⟩ := w
        refine v_if_neI (tgt := 50) dX5_readDriveHead_45 (by decide) q37.1 q37.2 (fun c38 => ?_) (fun c38 => ?_)
        · replace w := w.1 c38
          refine v_aload_n dX5_readDriveHead_50 rfl ?_
          refine v_bipushI dX5_readDriveHead_51 rfl ?_
          refine v_callVIw dX5_readDriveHead_53 ml_X5_66 (so_X5_take hn hp35  w) ((hp35 33 (by decide)).trans (ent_33 _)) rfl (s_lt hn rfl) rfl rfl (Nat.le_of_ble_eq_true rfl) (Nat.le_of_ble_eq_true rfl) (Nat.zero_le _) (Nat.zero_le _) (fun v39 X40 h41 hp43 hf42 w => ?_)
          have hf44 := Fr.trans hf36 hf42
          obtain ⟨q45, w⟩ := w
          refine v_if_eqI (tgt := 68) dX5_readDriveHead_56 (by decide) q45.1 q45.2 (fun c46 => ?_) (fun c46 => ?_)
          · replace w := w.1 c46
            refine v_iconstI dX5_readDriveHead_68 ?_
            exact v_z0 dX5_readDriveHead_69 rfl (Nat.zero_le _) (Nat.zero_le _) ⟨rfl, hf44, _, _, rfl, hp43, w⟩
          · replace w := w.2 c46
            refine v_aload_n dX5_readDriveHead_59 rfl ?_
            refine v_iload_n dX5_readDriveHead_60 rfl ?_
            refine v_iconstI dX5_readDriveHead_61 ?_
            refine v_callVIw dX5_readDriveHead_62 ml_X5_139 (so_X5_readSumOf hn hp43  w) ((hp43 33 (by decide)).trans (ent_33 _)) rfl (s_lt hn rfl) rfl rfl (Nat.le_of_ble_eq_true rfl) (Nat.le_of_ble_eq_true rfl) (Nat.zero_le _) (Nat.zero_le _) (fun v47 X48 h49 hp51 hf50 w => ?_)
            have hf52 := Fr.trans hf44 hf50
            obtain ⟨q53, w⟩ := w
            refine v_if_neI (tgt := 70) dX5_readDriveHead_65 (by decide) q53.1 q53.2 (fun c54 => ?_) (fun c54 => ?_)
            · replace w := w.1 c54
              refine v_aload_n dX5_readDriveHead_70 rfl ?_
              refine v_bipushI dX5_readDriveHead_71 rfl ?_
              refine v_callVIw dX5_readDriveHead_73 ml_X5_66 (so_X5_take hn hp51  w) ((hp51 33 (by decide)).trans (ent_33 _)) rfl (s_lt hn rfl) rfl rfl (Nat.le_of_ble_eq_true rfl) (Nat.le_of_ble_eq_true rfl) (Nat.zero_le _) (Nat.zero_le _) (fun v55 X56 h57 hp59 hf58 w => ?_)
              have hf60 := Fr.trans hf52 hf58
              replace w := w (fun  (X61 : XT) => ∀ h65 : Nat → sE, Pic X61 h65 → Fr h h65 → V (m_X5_readDriveHead, 64, 0, 0, n, pIw n h Q, s_G0) 0 0 n h65 90 [(0, .ref 33), (1, .int (iI a0))] []) (by
                intro  X61 w h65 hp63 hf64
                refine v_aload_n dX5_readDriveHead_90 rfl ?_
                refine v_bipushI dX5_readDriveHead_91 rfl ?_
                refine v_callVIw dX5_readDriveHead_93 ml_X5_66 (so_X5_take hn hp63  w) ((hp63 33 (by decide)).trans (ent_33 _)) rfl (s_lt hn rfl) rfl rfl (Nat.le_of_ble_eq_true rfl) (Nat.le_of_ble_eq_true rfl) (Nat.zero_le _) (Nat.zero_le _) (fun v66 X67 h68 hp70 hf69 w => ?_)
                have hf71 := Fr.trans hf64 hf69
                obtain ⟨q72, w⟩ := w
                refine v_if_eqI (tgt := 107) dX5_readDriveHead_96 (by decide) q72.1 q72.2 (fun c73 => ?_) (fun c73 => ?_)
                · replace w := w.1 c73
                  refine v_iconstI dX5_readDriveHead_107 ?_
                  refine v_goto (tgt := 112) dX5_readDriveHead_108 (by decide) ?_
                  exact v_z1 dX5_readDriveHead_112 rfl (Nat.zero_le _) (Nat.zero_le _) ⟨rfl, hf71, _, _, rfl, hp70, w⟩
                · replace w := w.2 c73
                  refine v_aload_n dX5_readDriveHead_99 rfl ?_
                  refine v_iload_n dX5_readDriveHead_100 rfl ?_
                  refine v_callVIw dX5_readDriveHead_101 ml_X5_143 (so_X5_readTimes hn hp70  w) ((hp70 33 (by decide)).trans (ent_33 _)) rfl (s_lt hn rfl) rfl rfl (Nat.le_of_ble_eq_true rfl) (Nat.le_of_ble_eq_true rfl) (Nat.zero_le _) (Nat.zero_le _) (fun v74 X75 h76 hp78 hf77 w => ?_)
                  have hf79 := Fr.trans hf71 hf77
                  obtain ⟨q80, w⟩ := w
                  refine v_if_eqI (tgt := 111) dX5_readDriveHead_104 (by decide) q80.1 q80.2 (fun c81 => ?_) (fun c81 => ?_)
                  · replace w := w.1 c81
                    refine v_iconstI dX5_readDriveHead_111 ?_
                    exact v_z0 dX5_readDriveHead_112 rfl (Nat.zero_le _) (Nat.zero_le _) ⟨rfl, hf79, _, _, rfl, hp78, w⟩
                  · replace w := w.2 c81
                    refine v_iconstI dX5_readDriveHead_107 ?_
                    refine v_goto (tgt := 112) dX5_readDriveHead_108 (by decide) ?_
                    exact v_z1 dX5_readDriveHead_112 rfl (Nat.zero_le _) (Nat.zero_le _) ⟨rfl, hf79, _, _, rfl, hp78, w⟩
              )
              obtain ⟨q82, w⟩ := w
              refine v_if_eqI (tgt := 90) dX5_readDriveHead_76 (by decide) q82.1 q82.2 (fun c83 => ?_) (fun c83 => ?_)
              · replace w := w.1 c83
                exact w _ hp59 hf60
              · replace w := w.2 c83
                refine v_aload_n dX5_readDriveHead_79 rfl ?_
                refine v_iload_n dX5_readDriveHead_80 rfl ?_
                refine v_iconstI dX5_readDriveHead_81 ?_
                refine v_callVIw dX5_readDriveHead_82 ml_X5_139 (so_X5_readSumOf hn hp59  w) ((hp59 33 (by decide)).trans (ent_33 _)) rfl (s_lt hn rfl) rfl rfl (Nat.le_of_ble_eq_true rfl) (Nat.le_of_ble_eq_true rfl) (Nat.zero_le _) (Nat.zero_le _) (fun v84 X85 h86 hp88 hf87 w => ?_)
                have hf89 := Fr.trans hf60 hf87
                obtain ⟨q90, w⟩ := w
                refine v_if_neI (tgt := 90) dX5_readDriveHead_85 (by decide) q90.1 q90.2 (fun c91 => ?_) (fun c91 => ?_)
                · replace w := w.1 c91
                  exact w _ hp88 hf89
                · replace w := w.2 c91
                  refine v_iconstI dX5_readDriveHead_88 ?_
                  exact v_z0 dX5_readDriveHead_89 rfl (Nat.zero_le _) (Nat.zero_le _) ⟨rfl, hf89, _, _, rfl, hp88, w⟩
            · replace w := w.2 c54
              refine v_iconstI dX5_readDriveHead_68 ?_
              exact v_z0 dX5_readDriveHead_69 rfl (Nat.zero_le _) (Nat.zero_le _) ⟨rfl, hf52, _, _, rfl, hp51, w⟩
        · replace w := w.2 c38
          refine v_iconstI dX5_readDriveHead_48 ?_
          exact v_z0 dX5_readDriveHead_49 rfl (Nat.zero_le _) (Nat.zero_le _) ⟨rfl, hf36, _, _, rfl, hp35, w⟩
    · replace w := w.2 c22
      refine v_iconstI dX5_readDriveHead_28 ?_
      exact v_z0 dX5_readDriveHead_29 rfl (Nat.zero_le _) (Nat.zero_le _) ⟨rfl, hf20, _, _, rfl, hp19, w⟩
theorem dX5_placeOfNext_0 : decode cX5_placeOfNext 0 = .ok (.aload_n 0, 1) := by decide +kernel
theorem dX5_placeOfNext_1 : decode cX5_placeOfNext 1 = .ok (.getfield 37, 3) := by decide +kernel
theorem dX5_placeOfNext_4 : decode cX5_placeOfNext 4 = .ok (.ifCond .lt 27, 3) := by decide +kernel
theorem dX5_placeOfNext_7 : decode cX5_placeOfNext 7 = .ok (.aload_n 0, 1) := by decide +kernel
theorem dX5_placeOfNext_8 : decode cX5_placeOfNext 8 = .ok (.getfield 37, 3) := by decide +kernel
theorem dX5_placeOfNext_11 : decode cX5_placeOfNext 11 = .ok (.aload_n 0, 1) := by decide +kernel
theorem dX5_placeOfNext_12 : decode cX5_placeOfNext 12 = .ok (.getfield 18, 3) := by decide +kernel
theorem dX5_placeOfNext_15 : decode cX5_placeOfNext 15 = .ok (.arraylength, 1) := by decide +kernel
theorem dX5_placeOfNext_16 : decode cX5_placeOfNext 16 = .ok (.if_icmp .ge 15, 3) := by decide +kernel
theorem dX5_placeOfNext_19 : decode cX5_placeOfNext 19 = .ok (.aload_n 0, 1) := by decide +kernel
theorem dX5_placeOfNext_20 : decode cX5_placeOfNext 20 = .ok (.getfield 18, 3) := by decide +kernel
theorem dX5_placeOfNext_23 : decode cX5_placeOfNext 23 = .ok (.aload_n 0, 1) := by decide +kernel
theorem dX5_placeOfNext_24 : decode cX5_placeOfNext 24 = .ok (.getfield 37, 3) := by decide +kernel
theorem dX5_placeOfNext_27 : decode cX5_placeOfNext 27 = .ok (.iaload, 1) := by decide +kernel
theorem dX5_placeOfNext_28 : decode cX5_placeOfNext 28 = .ok (.goto 7, 3) := by decide +kernel
theorem dX5_placeOfNext_31 : decode cX5_placeOfNext 31 = .ok (.aload_n 0, 1) := by decide +kernel
theorem dX5_placeOfNext_32 : decode cX5_placeOfNext 32 = .ok (.getfield 30, 3) := by decide +kernel
theorem dX5_placeOfNext_35 : decode cX5_placeOfNext 35 = .ok (.ireturn, 1) := by decide +kernel
def w_X5_placeOfNext (X : XT) (Q : Int → Prop) : Prop :=
  R32 (X 33 6) ∧ ((X 33 6) < 0 → Q (X 33 4)) ∧ (¬ (X 33 6) < 0 → (401 ≤ (X 33 6) → Q (X 33 4)) ∧ (¬ 401 ≤ (X 33 6) → (0 ≤ (X 33 6) ∧ (X 33 6) < 401) ∧ Q (X 36 (X 33 6))))
set_option maxRecDepth 20000 in
theorem so_X5_placeOfNext {n : Nat} {h : Nat → sE} {X : XT} {Q : Int → Prop} (hn : 115 ≤ n) (hp : Pic X h) (w : w_X5_placeOfNext   X Q) : Sp m_X5_placeOfNext 0 0 0 [.ref 33] n h (pIr n h Q) := by
  unfold w_X5_placeOfNext at w
  refine Sp.ofV (by decide +kernel) (Nat.le_of_ble_eq_true rfl) ?_
  have hf : Fr h h := fun _ _ => rfl
  refine v_aload_n dX5_placeOfNext_0 rfl ?_
  refine v_get dX5_placeOfNext_1 fl_X5_37 ((hp 33 (by decide)).trans (ent_33 _)) rfl (s_lt hn rfl) ?_
  obtain ⟨q1, w⟩ := w
  refine v_if_ltI (tgt := 31) dX5_placeOfNext_4 (by decide) q1.1 q1.2 (fun c2 => ?_) (fun c2 => ?_)
  · replace w := w.1 c2
    refine v_aload_n dX5_placeOfNext_31 rfl ?_
    refine v_get dX5_placeOfNext_32 fl_X5_30 ((hp 33 (by decide)).trans (ent_33 _)) rfl (s_lt hn rfl) ?_
    exact v_iret dX5_placeOfNext_35 rfl (Nat.zero_le _) (Nat.zero_le _) ⟨rfl, rfl, _, rfl, w⟩
  · replace w := w.2 c2
    refine v_aload_n dX5_placeOfNext_7 rfl ?_
    refine v_get dX5_placeOfNext_8 fl_X5_37 ((hp 33 (by decide)).trans (ent_33 _)) rfl (s_lt hn rfl) ?_
    refine v_aload_n dX5_placeOfNext_11 rfl ?_
    refine v_get dX5_placeOfNext_12 fl_X5_18 ((hp 33 (by decide)).trans (ent_33 _)) rfl (s_lt hn rfl) ?_
    refine v_alen_aI dX5_placeOfNext_15 ((hp 36 (by decide)).trans (ent_36 _)) (s_lt hn rfl) ?_
    refine v_icmp_geI (tgt := 31) dX5_placeOfNext_16 (by decide) q1.1 q1.2 (by decide) (by decide) (fun c3 => ?_) (fun c3 => ?_)
    · replace w := w.1 c3
      refine v_aload_n dX5_placeOfNext_31 rfl ?_
      refine v_get dX5_placeOfNext_32 fl_X5_30 ((hp 33 (by decide)).trans (ent_33 _)) rfl (s_lt hn rfl) ?_
      exact v_iret dX5_placeOfNext_35 rfl (Nat.zero_le _) (Nat.zero_le _) ⟨rfl, rfl, _, rfl, w⟩
    · replace w := w.2 c3
      refine v_aload_n dX5_placeOfNext_19 rfl ?_
      refine v_get dX5_placeOfNext_20 fl_X5_18 ((hp 33 (by decide)).trans (ent_33 _)) rfl (s_lt hn rfl) ?_
      refine v_aload_n dX5_placeOfNext_23 rfl ?_
      refine v_get dX5_placeOfNext_24 fl_X5_37 ((hp 33 (by decide)).trans (ent_33 _)) rfl (s_lt hn rfl) ?_
      obtain ⟨q4, w⟩ := w
      refine v_ialdI dX5_placeOfNext_27 ((hp 36 (by decide)).trans (ent_36 _)) (s_lt hn rfl) q4.1 q4.2 (ix_le q4.2 (by decide)) ?_
      refine v_goto (tgt := 35) dX5_placeOfNext_28 (by decide) ?_
      exact v_iret dX5_placeOfNext_35 rfl (Nat.zero_le _) (Nat.zero_le _) ⟨rfl, rfl, _, rfl, w⟩
theorem dX5_readText_0 : decode cX5_readText 0 = .ok (.aload_n 0, 1) := by decide +kernel
theorem dX5_readText_1 : decode cX5_readText 1 = .ok (.iload_n 1, 1) := by decide +kernel
theorem dX5_readText_2 : decode cX5_readText 2 = .ok (.putfield 46, 3) := by decide +kernel
theorem dX5_readText_5 : decode cX5_readText 5 = .ok (.aload_n 0, 1) := by decide +kernel
theorem dX5_readText_6 : decode cX5_readText 6 = .ok (.invokevirtual 50, 3) := by decide +kernel
theorem dX5_readText_9 : decode cX5_readText 9 = .ok (.aload_n 0, 1) := by decide +kernel
theorem dX5_readText_10 : decode cX5_readText 10 = .ok (.iconst 0, 1) := by decide +kernel
theorem dX5_readText_11 : decode cX5_readText 11 = .ok (.putfield 37, 3) := by decide +kernel
theorem dX5_readText_14 : decode cX5_readText 14 = .ok (.aload_n 0, 1) := by decide +kernel
theorem dX5_readText_15 : decode cX5_readText 15 = .ok (.iconst 0, 1) := by decide +kernel
theorem dX5_readText_16 : decode cX5_readText 16 = .ok (.putfield 40, 3) := by decide +kernel
theorem dX5_readText_19 : decode cX5_readText 19 = .ok (.aload_n 0, 1) := by decide +kernel
theorem dX5_readText_20 : decode cX5_readText 20 = .ok (.getfield 26, 3) := by decide +kernel
theorem dX5_readText_23 : decode cX5_readText 23 = .ok (.invokevirtual 53, 3) := by decide +kernel
theorem dX5_readText_26 : decode cX5_readText 26 = .ok (.iconst 1, 1) := by decide +kernel
theorem dX5_readText_27 : decode cX5_readText 27 = .ok (.istore_n 2, 1) := by decide +kernel
theorem dX5_readText_28 : decode cX5_readText 28 = .ok (.iconst 1, 1) := by decide +kernel
theorem dX5_readText_29 : decode cX5_readText 29 = .ok (.istore_n 3, 1) := by decide +kernel
theorem dX5_readText_30 : decode cX5_readText 30 = .ok (.iconst 0, 1) := by decide +kernel
theorem dX5_readText_31 : decode cX5_readText 31 = .ok (.istore 4, 2) := by decide +kernel
theorem dX5_readText_33 : decode cX5_readText 33 = .ok (.iload 4, 2) := by decide +kernel
theorem dX5_readText_35 : decode cX5_readText 35 = .ok (.bipush 12, 2) := by decide +kernel
theorem dX5_readText_37 : decode cX5_readText 37 = .ok (.if_icmp .ge 130, 3) := by decide +kernel
theorem dX5_readText_40 : decode cX5_readText 40 = .ok (.iload_n 3, 1) := by decide +kernel
theorem dX5_readText_41 : decode cX5_readText 41 = .ok (.ifCond .eq 126, 3) := by decide +kernel
theorem dX5_readText_44 : decode cX5_readText 44 = .ok (.iload_n 2, 1) := by decide +kernel
theorem dX5_readText_45 : decode cX5_readText 45 = .ok (.ifCond .eq 122, 3) := by decide +kernel
theorem dX5_readText_48 : decode cX5_readText 48 = .ok (.aload_n 0, 1) := by decide +kernel
theorem dX5_readText_49 : decode cX5_readText 49 = .ok (.getfield 26, 3) := by decide +kernel
theorem dX5_readText_52 : decode cX5_readText 52 = .ok (.invokevirtual 56, 3) := by decide +kernel
theorem dX5_readText_55 : decode cX5_readText 55 = .ok (.aload_n 0, 1) := by decide +kernel
theorem dX5_readText_56 : decode cX5_readText 56 = .ok (.getfield 46, 3) := by decide +kernel
theorem dX5_readText_59 : decode cX5_readText 59 = .ok (.ifCond .eq 12, 3) := by decide +kernel
theorem dX5_readText_62 : decode cX5_readText 62 = .ok (.aload_n 0, 1) := by decide +kernel
theorem dX5_readText_63 : decode cX5_readText 63 = .ok (.iload 4, 2) := by decide +kernel
theorem dX5_readText_65 : decode cX5_readText 65 = .ok (.invokevirtual 59, 3) := by decide +kernel
theorem dX5_readText_68 : decode cX5_readText 68 = .ok (.goto 9, 3) := by decide +kernel
theorem dX5_readText_71 : decode cX5_readText 71 = .ok (.aload_n 0, 1) := by decide +kernel
theorem dX5_readText_72 : decode cX5_readText 72 = .ok (.iload 4, 2) := by decide +kernel
theorem dX5_readText_74 : decode cX5_readText 74 = .ok (.invokevirtual 63, 3) := by decide +kernel
theorem dX5_readText_77 : decode cX5_readText 77 = .ok (.istore_n 3, 1) := by decide +kernel
theorem dX5_readText_78 : decode cX5_readText 78 = .ok (.iload_n 3, 1) := by decide +kernel
theorem dX5_readText_79 : decode cX5_readText 79 = .ok (.ifCond .eq 44, 3) := by decide +kernel
theorem dX5_readText_82 : decode cX5_readText 82 = .ok (.aload_n 0, 1) := by decide +kernel
theorem dX5_readText_83 : decode cX5_readText 83 = .ok (.bipush 24, 2) := by decide +kernel
theorem dX5_readText_85 : decode cX5_readText 85 = .ok (.invokevirtual 66, 3) := by decide +kernel
theorem dX5_readText_88 : decode cX5_readText 88 = .ok (.ifCond .eq 35, 3) := by decide +kernel
theorem dX5_readText_91 : decode cX5_readText 91 = .ok (.aload_n 0, 1) := by decide +kernel
theorem dX5_readText_92 : decode cX5_readText 92 = .ok (.getfield 26, 3) := by decide +kernel
theorem dX5_readText_95 : decode cX5_readText 95 = .ok (.iload 4, 2) := by decide +kernel
theorem dX5_readText_97 : decode cX5_readText 97 = .ok (.iconst 5, 1) := by decide +kernel
theorem dX5_readText_98 : decode cX5_readText 98 = .ok (.aload_n 0, 1) := by decide +kernel
theorem dX5_readText_99 : decode cX5_readText 99 = .ok (.getfield 26, 3) := by decide +kernel
theorem dX5_readText_102 : decode cX5_readText 102 = .ok (.getfield 69, 3) := by decide +kernel
theorem dX5_readText_105 : decode cX5_readText 105 = .ok (.invokevirtual 72, 3) := by decide +kernel
theorem dX5_readText_108 : decode cX5_readText 108 = .ok (.aload_n 0, 1) := by decide +kernel
theorem dX5_readText_109 : decode cX5_readText 109 = .ok (.iconst 0, 1) := by decide +kernel
theorem dX5_readText_110 : decode cX5_readText 110 = .ok (.invokevirtual 76, 3) := by decide +kernel
theorem dX5_readText_113 : decode cX5_readText 113 = .ok (.istore_n 3, 1) := by decide +kernel
theorem dX5_readText_114 : decode cX5_readText 114 = .ok (.aload_n 0, 1) := by decide +kernel
theorem dX5_readText_115 : decode cX5_readText 115 = .ok (.getfield 26, 3) := by decide +kernel
theorem dX5_readText_118 : decode cX5_readText 118 = .ok (.iconst 0, 1) := by decide +kernel
theorem dX5_readText_119 : decode cX5_readText 119 = .ok (.iconst 0, 1) := by decide +kernel
theorem dX5_readText_120 : decode cX5_readText 120 = .ok (.invokevirtual 81, 3) := by decide +kernel
theorem dX5_readText_123 : decode cX5_readText 123 = .ok (.iload_n 3, 1) := by decide +kernel
theorem dX5_readText_124 : decode cX5_readText 124 = .ok (.ifCond .eq 17, 3) := by decide +kernel
theorem dX5_readText_127 : decode cX5_readText 127 = .ok (.aload_n 0, 1) := by decide +kernel
theorem dX5_readText_128 : decode cX5_readText 128 = .ok (.invokevirtual 84, 3) := by decide +kernel
theorem dX5_readText_131 : decode cX5_readText 131 = .ok (.bipush 29, 2) := by decide +kernel
theorem dX5_readText_133 : decode cX5_readText 133 = .ok (.if_icmp .ne 8, 3) := by decide +kernel
theorem dX5_readText_136 : decode cX5_readText 136 = .ok (.iconst 0, 1) := by decide +kernel
theorem dX5_readText_137 : decode cX5_readText 137 = .ok (.istore_n 2, 1) := by decide +kernel
theorem dX5_readText_138 : decode cX5_readText 138 = .ok (.goto 23, 3) := by decide +kernel
theorem dX5_readText_141 : decode cX5_readText 141 = .ok (.iload_n 3, 1) := by decide +kernel
theorem dX5_readText_142 : decode cX5_readText 142 = .ok (.ifCond .eq 17, 3) := by decide +kernel
theorem dX5_readText_145 : decode cX5_readText 145 = .ok (.aload_n 0, 1) := by decide +kernel
theorem dX5_readText_146 : decode cX5_readText 146 = .ok (.sipush 1059, 3) := by decide +kernel
theorem dX5_readText_149 : decode cX5_readText 149 = .ok (.invokevirtual 66, 3) := by decide +kernel
theorem dX5_readText_152 : decode cX5_readText 152 = .ok (.ifCond .eq 7, 3) := by decide +kernel
theorem dX5_readText_155 : decode cX5_readText 155 = .ok (.iconst 1, 1) := by decide +kernel
theorem dX5_readText_156 : decode cX5_readText 156 = .ok (.goto 4, 3) := by decide +kernel
theorem dX5_readText_159 : decode cX5_readText 159 = .ok (.iconst 0, 1) := by decide +kernel
theorem dX5_readText_160 : decode cX5_readText 160 = .ok (.istore_n 3, 1) := by decide +kernel
theorem dX5_readText_161 : decode cX5_readText 161 = .ok (.iinc 4 1, 3) := by decide +kernel
theorem dX5_readText_164 : decode cX5_readText 164 = .ok (.goto (-131), 3) := by decide +kernel
theorem dX5_readText_167 : decode cX5_readText 167 = .ok (.iload_n 3, 1) := by decide +kernel
theorem dX5_readText_168 : decode cX5_readText 168 = .ok (.ifCond .eq 11, 3) := by decide +kernel
theorem dX5_readText_171 : decode cX5_readText 171 = .ok (.iload_n 2, 1) := by decide +kernel
theorem dX5_readText_172 : decode cX5_readText 172 = .ok (.ifCond .ne 7, 3) := by decide +kernel
theorem dX5_readText_175 : decode cX5_readText 175 = .ok (.iconst 1, 1) := by decide +kernel
theorem dX5_readText_176 : decode cX5_readText 176 = .ok (.goto 4, 3) := by decide +kernel
theorem dX5_readText_179 : decode cX5_readText 179 = .ok (.iconst 0, 1) := by decide +kernel
theorem dX5_readText_180 : decode cX5_readText 180 = .ok (.istore_n 3, 1) := by decide +kernel
theorem dX5_readText_181 : decode cX5_readText 181 = .ok (.aload_n 0, 1) := by decide +kernel
theorem dX5_readText_182 : decode cX5_readText 182 = .ok (.iload_n 3, 1) := by decide +kernel
theorem dX5_readText_183 : decode cX5_readText 183 = .ok (.ifCond .eq 7, 3) := by decide +kernel
theorem dX5_readText_186 : decode cX5_readText 186 = .ok (.iconst (-1), 1) := by decide +kernel
theorem dX5_readText_187 : decode cX5_readText 187 = .ok (.goto 7, 3) := by decide +kernel
theorem dX5_readText_190 : decode cX5_readText 190 = .ok (.aload_n 0, 1) := by decide +kernel
theorem dX5_readText_191 : decode cX5_readText 191 = .ok (.invokevirtual 88, 3) := by decide +kernel
theorem dX5_readText_194 : decode cX5_readText 194 = .ok (.putfield 43, 3) := by decide +kernel
theorem dX5_readText_197 : decode cX5_readText 197 = .ok (.iload_n 3, 1) := by decide +kernel
theorem dX5_readText_198 : decode cX5_readText 198 = .ok (.ireturn, 1) := by decide +kernel
def w_X5_readText (a0 : Int) (X : XT) (Q : Int → XT → Prop) : Prop :=
  (a0 = 0 ∨ a0 = 1) ∧ w_X5_split   (x_st X 33 9 a0) (fun (X8 : XT) => w_X7_clear   (x_st (x_st X8 33 6 0) 33 7 0) (fun (X24 : XT) => ∃ (I33 : Int → Int → Int → XT → Prop) (m34 : Int → Int → Int → XT → Nat), I33 1 1 0 X24 ∧ ∀ (x29 : Int) (x30 : Int) (x31 : Int) (X32 : XT), I33 x29 x30 x31 X32 → ∀ J45 : Prop, ((∀ J47 : Int → Prop, (∀ (v46 : Int), (R32 v46 ∧ (v46 = 0 → w_X5_placeOfNext   X32 (fun (v50 : Int) => (v46 = 0 ∨ v46 = 1) ∧ Q v46 (x_st X32 33 8 v50))) ∧ (¬ v46 = 0 → (v46 = 0 ∨ v46 = 1) ∧ Q v46 (x_st X32 33 8 (-1)))) → J47 v46) → R32 x30 ∧ (x30 = 0 → J47 0) ∧ (¬ x30 = 0 → R32 x29 ∧ (¬ x29 = 0 → J47 0) ∧ (x29 = 0 → J47 1))) → J45) → R32 x31 ∧ (12 ≤ x31 → J45 ) ∧ (¬ 12 ≤ x31 → R32 x30 ∧ (x30 = 0 → J45 ) ∧ (¬ x30 = 0 → R32 x29 ∧ (x29 = 0 → J45 ) ∧ (¬ x29 = 0 → w_X7_addClause   X32 (fun (X79 : XT) => ∀ J86 : Int → XT → Prop, (∀ (v84 : Int) (X85 : XT), (∀ J92 : Int → XT → Prop, (∀ (v90 : Int) (X91 : XT), (∀ J96 : Prop, ((∀ J98 : XT → Prop, (∀  (X97 : XT), (I33 x29 0 (x31 + 1) X97 ∧ m34 x29 0 (x31 + 1) X97 < m34 x29 x30 x31 X32) → J98  X97) → R32 v90 ∧ (v90 = 0 → J98  X91) ∧ (¬ v90 = 0 → w_X5_take  1059 X91 (fun (v104 : Int) (X105 : XT) => R32 v104 ∧ (v104 = 0 → J98  X105) ∧ (¬ v104 = 0 → I33 x29 1 (x31 + 1) X105 ∧ m34 x29 1 (x31 + 1) X105 < m34 x29 x30 x31 X32)))) → J96) → R32 v90 ∧ (v90 = 0 → J96 ) ∧ (¬ v90 = 0 → w_X5_token   X91 (fun (v114 : Int) => R32 v114 ∧ (¬ v114 = 29 → J96 ) ∧ (v114 = 29 → I33 0 v90 (x31 + 1) X91 ∧ m34 0 v90 (x31 + 1) X91 < m34 x29 x30 x31 X32)))) → J92 v90 X91) → R32 v84 ∧ (v84 = 0 → J92 v84 X85) ∧ (¬ v84 = 0 → w_X5_take  24 X85 (fun (v124 : Int) (X125 : XT) => R32 v124 ∧ (v124 = 0 → J92 v84 X125) ∧ (¬ v124 = 0 → w_X7_setHead  x31 5 (X125 37 3) X125 (fun (X133 : XT) => w_parse 60 0  0 X133 (fun (v138 : Int) (X139 : XT) => w_X7_emit  0 0 X139 (fun (X145 : XT) => J92 v138 X145))))))) → J86 v84 X85) → R32 (X79 33 9) ∧ ((X79 33 9) = 0 → w_X5_readDriveHead  x31 X79 (fun (v152 : Int) (X153 : XT) => J86 v152 X153)) ∧ (¬ (X79 33 9) = 0 → w_X5_readLawHead  x31 X79 (fun (v158 : Int) (X159 : XT) => J86 v158 X159))))))))
set_option maxRecDepth 20000 in
theorem so_X5_readText {n : Nat} {h : Nat → sE} {X : XT} {a0 : Int} {Q : Int → XT → Prop} (hn : 115 ≤ n) (hp : Pic X h) (w : w_X5_readText  a0 X Q) : Sp m_X5_readText 65 0 0 [.ref 33, .int (iI a0)] n h (pIw n h Q) := by
  unfold w_X5_readText at w
  refine Sp.ofV (by decide +kernel) (Nat.le_of_ble_eq_true rfl) ?_
  have hf : Fr h h := fun _ _ => rfl
  refine v_aload_n dX5_readText_0 rfl ?_
  refine v_iload_n dX5_readText_1 rfl ?_
  obtain ⟨q4, w⟩ := w
  refine v_put dX5_readText_2 fl_X5_46 ((hp 33 (by decide)).trans (ent_33 _)) (s_lt hn rfl) (Nat.le_of_ble_eq_true rfl) (iI_nbs q4) trivial (fun h1 E2 F3 => ?_)
  have hp5 := pic_st hp (show h1 33 = ent 33 (uI _ 9 a0) from E2) F3
  have hf6 := Fr.up (c := 33) hf F3 rfl
  refine v_aload_n dX5_readText_5 rfl ?_
  refine v_callVVw dX5_readText_6 ml_X5_50 (so_X5_split hn hp5  w) ((hp5 33 (by decide)).trans (ent_33 _)) rfl (s_lt hn rfl) rfl rfl (Nat.le_of_ble_eq_true rfl) (Nat.le_of_ble_eq_true rfl) (Nat.zero_le _) (Nat.zero_le _) (fun X8 h9 hp11 hf10 w => ?_)
  have hf12 := Fr.trans hf6 hf10
  refine v_aload_n dX5_readText_9 rfl ?_
  refine v_iconstI dX5_readText_10 ?_
  refine v_put dX5_readText_11 fl_X5_37 ((hp11 33 (by decide)).trans (ent_33 _)) (s_lt hn rfl) (Nat.le_of_ble_eq_true rfl) (fun _ => ⟨rfl, rfl⟩) trivial (fun h13 E14 F15 => ?_)
  have hp16 := pic_st hp11 (show h13 33 = ent 33 (uI _ 6 0) from E14) F15
  have hf17 := Fr.up (c := 33) hf12 F15 rfl
  refine v_aload_n dX5_readText_14 rfl ?_
  refine v_iconstI dX5_readText_15 ?_
  refine v_put dX5_readText_16 fl_X5_40 ((hp16 33 (by decide)).trans (ent_33 _)) (s_lt hn rfl) (Nat.le_of_ble_eq_true rfl) (fun _ => ⟨rfl, rfl⟩) trivial (fun h18 E19 F20 => ?_)
  have hp21 := pic_st hp16 (show h18 33 = ent 33 (uI _ 7 0) from E19) F20
  have hf22 := Fr.up (c := 33) hf17 F20 rfl
  refine v_aload_n dX5_readText_19 rfl ?_
  refine v_get dX5_readText_20 fl_X5_26 ((hp21 33 (by decide)).trans (ent_33 _)) rfl (s_lt hn rfl) ?_
  refine v_callVVw dX5_readText_23 ml_X5_53 (so_X7_clear hn hp21  w) ((hp21 37 (by decide)).trans (ent_37 _)) rfl (s_lt hn rfl) rfl rfl (Nat.le_of_ble_eq_true rfl) (Nat.le_of_ble_eq_true rfl) (Nat.zero_le _) (Nat.zero_le _) (fun X24 h25 hp27 hf26 w => ?_)
  have hf28 := Fr.trans hf22 hf26
  refine v_iconstI dX5_readText_26 ?_
  refine v_istore_n dX5_readText_27 (Nat.le_of_ble_eq_true rfl) ?_
  refine v_iconstI dX5_readText_28 ?_
  refine v_istore_n dX5_readText_29 (Nat.le_of_ble_eq_true rfl) ?_
  refine v_iconstI dX5_readText_30 ?_
  refine v_istore dX5_readText_31 (Nat.le_of_ble_eq_true rfl) ?_
  refine v_pick [3, 2, 1, 0] rfl ?_
  obtain ⟨I33, m34, wi37, wl36⟩ := w
  have hL38 : ∀ (N41 : Nat) (x29 : Int) (x30 : Int) (x31 : Int) (X32 : XT) (h42 : Nat → sE), m34 x29 x30 x31 X32 < N41 → I33 x29 x30 x31 X32 → Pic X32 h42 → Fr h h42 → V (m_X5_readText, 65, 0, 0, n, pIw n h Q, s_G0) 0 0 n h42 33 [(0, .ref 33), (2, .int (iI x29)), (3, .int (iI x30)), (4, .int (iI x31))] [] := by
    intro N41
    induction N41 with
    | zero => intro x29 x30 x31 X32 h42 hm39; exact absurd hm39 (Nat.not_lt_zero _)
    | succ N41 ih35 =>
      intro x29 x30 x31 X32 h42 hm39 hI40 hp43 hf44
      have w := wl36 x29 x30 x31 X32 hI40
      refine v_iload dX5_readText_33 rfl ?_
      refine v_bipushI dX5_readText_35 rfl ?_
      replace w := w (V (m_X5_readText, 65, 0, 0, n, pIw n h Q, s_G0) 0 0 n h42 167 [(0, .ref 33), (2, .int (iI x29)), (3, .int (iI x30))] []) (by
        intro  w
        refine v_iload_n dX5_readText_167 rfl ?_
        replace w := w (fun (v46 : Int) => V (m_X5_readText, 65, 0, 0, n, pIw n h Q, s_G0) 0 0 n h42 180 [(0, .ref 33)] [.int (iI v46)]) (by
          intro v46 w
          refine v_istore_n dX5_readText_180 (Nat.le_of_ble_eq_true rfl) ?_
          refine v_aload_n dX5_readText_181 rfl ?_
          refine v_iload_n dX5_readText_182 rfl ?_
          obtain ⟨q48, w⟩ := w
          refine v_if_eqI (tgt := 190) dX5_readText_183 (by decide) q48.1 q48.2 (fun c49 => ?_) (fun c49 => ?_)
          · replace w := w.1 c49
            refine v_aload_n dX5_readText_190 rfl ?_
            refine v_callVIr dX5_readText_191 ml_X5_88 (so_X5_placeOfNext hn hp43  w) ((hp43 33 (by decide)).trans (ent_33 _)) rfl (s_lt hn rfl) rfl rfl (Nat.le_of_ble_eq_true rfl) (Nat.le_of_ble_eq_true rfl) (Nat.zero_le _) (Nat.zero_le _) (fun v50 w => ?_)
            refine v_put dX5_readText_194 fl_X5_43 ((hp43 33 (by decide)).trans (ent_33 _)) (s_lt hn rfl) (Nat.le_of_ble_eq_true rfl) (fun _ => ⟨rfl, rfl⟩) trivial (fun h56 E57 F58 => ?_)
            have hp59 := pic_st hp43 (show h56 33 = ent 33 (uI _ 8 v50) from E57) F58
            have hf60 := Fr.up (c := 33) hf44 F58 rfl
            refine v_iload_n dX5_readText_197 rfl ?_
            obtain ⟨q61, w⟩ := w
            exact v_zretZ dX5_readText_198 rfl q61 (Nat.zero_le _) (Nat.zero_le _) ⟨rfl, hf60, _, _, rfl, hp59, w⟩
          · replace w := w.2 c49
            refine v_iconstI dX5_readText_186 ?_
            refine v_goto (tgt := 194) dX5_readText_187 (by decide) ?_
            refine v_put dX5_readText_194 fl_X5_43 ((hp43 33 (by decide)).trans (ent_33 _)) (s_lt hn rfl) (Nat.le_of_ble_eq_true rfl) (fun _ => ⟨rfl, rfl⟩) trivial (fun h62 E63 F64 => ?_)
            have hp65 := pic_st hp43 (show h62 33 = ent 33 (uI _ 8 (-1)) from E63) F64
            have hf66 := Fr.up (c := 33) hf44 F64 rfl
            refine v_iload_n dX5_readText_197 rfl ?_
            obtain ⟨q67, w⟩ := w
            exact v_zretZ dX5_readText_198 rfl q67 (Nat.zero_le _) (Nat.zero_le _) ⟨rfl, hf66, _, _, rfl, hp65, w⟩
        )
        obtain ⟨q68, w⟩ := w
        refine v_if_eqI (tgt := 179) dX5_readText_168 (by decide) q68.1 q68.2 (fun c69 => ?_) (fun c69 => ?_)
        · replace w := w.1 c69
          refine v_iconstI dX5_readText_179 ?_
          refine v_pick [0] rfl ?_
          exact w
        · replace w := w.2 c69
          refine v_iload_n dX5_readText_171 rfl ?_
          obtain ⟨q70, w⟩ := w
          refine v_if_neI (tgt := 179) dX5_readText_172 (by decide) q70.1 q70.2 (fun c71 => ?_) (fun c71 => ?_)
          · replace w := w.1 c71
            refine v_iconstI dX5_readText_179 ?_
            refine v_pick [0] rfl ?_
            exact w
          · replace w := w.2 c71
            refine v_iconstI dX5_readText_175 ?_
            refine v_goto (tgt := 180) dX5_readText_176 (by decide) ?_
            refine v_pick [0] rfl ?_
            exact w
      )
      obtain ⟨q72, w⟩ := w
      refine v_icmp_geI (tgt := 167) dX5_readText_37 (by decide) q72.1 q72.2 (by decide) (by decide) (fun c73 => ?_) (fun c73 => ?_)
      · replace w := w.1 c73
        refine v_pick [0, 1, 2] rfl ?_
        exact w
      · replace w := w.2 c73
        refine v_iload_n dX5_readText_40 rfl ?_
        obtain ⟨q74, w⟩ := w
        refine v_if_eqI (tgt := 167) dX5_readText_41 (by decide) q74.1 q74.2 (fun c75 => ?_) (fun c75 => ?_)
        · replace w := w.1 c75
          refine v_pick [0, 1, 2] rfl ?_
          exact w
        · replace w := w.2 c75
          refine v_iload_n dX5_readText_44 rfl ?_
          obtain ⟨q76, w⟩ := w
          refine v_if_eqI (tgt := 167) dX5_readText_45 (by decide) q76.1 q76.2 (fun c77 => ?_) (fun c77 => ?_)
          · replace w := w.1 c77
            refine v_pick [0, 1, 2] rfl ?_
            exact w
          · replace w := w.2 c77
            refine v_aload_n dX5_readText_48 rfl ?_
            refine v_get dX5_readText_49 fl_X5_26 ((hp43 33 (by decide)).trans (ent_33 _)) rfl (s_lt hn rfl) ?_
            refine v_callVVw dX5_readText_52 ml_X5_56 (so_X7_addClause hn hp43  w) ((hp43 37 (by decide)).trans (ent_37 _)) rfl (s_lt hn rfl) rfl rfl (Nat.le_of_ble_eq_true rfl) (Nat.le_of_ble_eq_true rfl) (Nat.zero_le _) (Nat.zero_le _) (fun X79 h80 hp82 hf81 w => ?_)
            have hf83 := Fr.trans hf44 hf81
            refine v_aload_n dX5_readText_55 rfl ?_
            refine v_get dX5_readText_56 fl_X5_46 ((hp82 33 (by decide)).trans (ent_33 _)) rfl (s_lt hn rfl) ?_
            replace w := w (fun (v84 : Int) (X85 : XT) => ∀ h89 : Nat → sE, Pic X85 h89 → Fr h h89 → V (m_X5_readText, 65, 0, 0, n, pIw n h Q, s_G0) 0 0 n h89 77 [(0, .ref 33), (2, .int (iI x29)), (4, .int (iI x31))] [.int (iI v84)]) (by
              intro v84 X85 w h89 hp87 hf88
              refine v_istore_n dX5_readText_77 (Nat.le_of_ble_eq_true rfl) ?_
              refine v_iload_n dX5_readText_78 rfl ?_
              replace w := w (fun (v90 : Int) (X91 : XT) => ∀ h95 : Nat → sE, Pic X91 h95 → Fr h h95 → V (m_X5_readText, 65, 0, 0, n, pIw n h Q, s_G0) 0 0 n h95 123 [(0, .ref 33), (2, .int (iI x29)), (3, .int (iI v90)), (4, .int (iI x31))] []) (by
                intro v90 X91 w h95 hp93 hf94
                refine v_iload_n dX5_readText_123 rfl ?_
                replace w := w (V (m_X5_readText, 65, 0, 0, n, pIw n h Q, s_G0) 0 0 n h95 141 [(0, .ref 33), (2, .int (iI x29)), (3, .int (iI v90)), (4, .int (iI x31))] []) (by
                  intro  w
                  refine v_iload_n dX5_readText_141 rfl ?_
                  replace w := w (fun  (X97 : XT) => ∀ h101 : Nat → sE, Pic X97 h101 → Fr h h101 → V (m_X5_readText, 65, 0, 0, n, pIw n h Q, s_G0) 0 0 n h101 159 [(0, .ref 33), (2, .int (iI x29)), (4, .int (iI x31))] []) (by
                    intro  X97 w h101 hp99 hf100
                    refine v_iconstI dX5_readText_159 ?_
                    refine v_istore_n dX5_readText_160 (Nat.le_of_ble_eq_true rfl) ?_
                    refine v_iincI dX5_readText_161 rfl (Nat.le_of_ble_eq_true rfl) ?_
                    refine v_goto (tgt := 33) dX5_readText_164 (by decide) ?_
                    refine v_pick [2, 3, 1, 0] rfl ?_
                    exact ih35 _ _ _ _ _ (Nat.lt_of_lt_of_le w.2 (Nat.le_of_lt_succ hm39)) w.1 hp99 hf100
                  )
                  obtain ⟨q102, w⟩ := w
                  refine v_if_eqI (tgt := 159) dX5_readText_142 (by decide) q102.1 q102.2 (fun c103 => ?_) (fun c103 => ?_)
                  · replace w := w.1 c103
                    refine v_pick [0, 1, 3] rfl ?_
                    exact w _ hp93 hf94
                  · replace w := w.2 c103
                    refine v_aload_n dX5_readText_145 rfl ?_
                    refine v_sipushI dX5_readText_146 rfl ?_
                    refine v_callVIw dX5_readText_149 ml_X5_66 (so_X5_take hn hp93  w) ((hp93 33 (by decide)).trans (ent_33 _)) rfl (s_lt hn rfl) rfl rfl (Nat.le_of_ble_eq_true rfl) (Nat.le_of_ble_eq_true rfl) (Nat.zero_le _) (Nat.zero_le _) (fun v104 X105 h106 hp108 hf107 w => ?_)
                    have hf109 := Fr.trans hf94 hf107
                    obtain ⟨q110, w⟩ := w
                    refine v_if_eqI (tgt := 159) dX5_readText_152 (by decide) q110.1 q110.2 (fun c111 => ?_) (fun c111 => ?_)
                    · replace w := w.1 c111
                      refine v_pick [0, 1, 3] rfl ?_
                      exact w _ hp108 hf109
                    · replace w := w.2 c111
                      refine v_iconstI dX5_readText_155 ?_
                      refine v_goto (tgt := 160) dX5_readText_156 (by decide) ?_
                      refine v_istore_n dX5_readText_160 (Nat.le_of_ble_eq_true rfl) ?_
                      refine v_iincI dX5_readText_161 rfl (Nat.le_of_ble_eq_true rfl) ?_
                      refine v_goto (tgt := 33) dX5_readText_164 (by decide) ?_
                      refine v_pick [2, 3, 1, 0] rfl ?_
                      exact ih35 _ _ _ _ _ (Nat.lt_of_lt_of_le w.2 (Nat.le_of_lt_succ hm39)) w.1 hp108 hf109
                )
                obtain ⟨q112, w⟩ := w
                refine v_if_eqI (tgt := 141) dX5_readText_124 (by decide) q112.1 q112.2 (fun c113 => ?_) (fun c113 => ?_)
                · replace w := w.1 c113
                  exact w
                · replace w := w.2 c113
                  refine v_aload_n dX5_readText_127 rfl ?_
                  refine v_callVIr dX5_readText_128 ml_X5_84 (so_X5_token hn hp93  w) ((hp93 33 (by decide)).trans (ent_33 _)) rfl (s_lt hn rfl) rfl rfl (Nat.le_of_ble_eq_true rfl) (Nat.le_of_ble_eq_true rfl) (Nat.zero_le _) (Nat.zero_le _) (fun v114 w => ?_)
                  refine v_bipushI dX5_readText_131 rfl ?_
                  obtain ⟨q120, w⟩ := w
                  refine v_icmp_neI (tgt := 141) dX5_readText_133 (by decide) q120.1 q120.2 (by decide) (by decide) (fun c121 => ?_) (fun c121 => ?_)
                  · replace w := w.1 c121
                    exact w
                  · replace w := w.2 c121
                    refine v_iconstI dX5_readText_136 ?_
                    refine v_istore_n dX5_readText_137 (Nat.le_of_ble_eq_true rfl) ?_
                    refine v_goto (tgt := 161) dX5_readText_138 (by decide) ?_
                    refine v_iincI dX5_readText_161 rfl (Nat.le_of_ble_eq_true rfl) ?_
                    refine v_goto (tgt := 33) dX5_readText_164 (by decide) ?_
                    refine v_pick [2, 1, 3, 0] rfl ?_
                    exact ih35 _ _ _ _ _ (Nat.lt_of_lt_of_le w.2 (Nat.le_of_lt_succ hm39)) w.1 hp93 hf94
              )
              obtain ⟨q122, w⟩ := w
              refine v_if_eqI (tgt := 123) dX5_readText_79 (by decide) q122.1 q122.2 (fun c123 => ?_) (fun c123 => ?_)
              · replace w := w.1 c123
                refine v_pick [1, 2, 0, 3] rfl ?_
                exact w _ hp87 hf88
              · replace w := w.2 c123
                refine v_aload_n dX5_readText_82 rfl ?_
                refine v_bipushI dX5_readText_83 rfl ?_
                refine v_callVIw dX5_readText_85 ml_X5_66 (so_X5_take hn hp87  w) ((hp87 33 (by decide)).trans (ent_33 _)) rfl (s_lt hn rfl) rfl rfl (Nat.le_of_ble_eq_true rfl) (Nat.le_of_ble_eq_true rfl) (Nat.zero_le _) (Nat.zero_le _) (fun v124 X125 h126 hp128 hf127 w => ?_)
                have hf129 := Fr.trans hf88 hf127
                obtain ⟨q130, w⟩ := w
                refine v_if_eqI (tgt := 123) dX5_readText_88 (by decide) q130.1 q130.2 (fun c131 => ?_) (fun c131 => ?_)
                · replace w := w.1 c131
                  refine v_pick [1, 2, 0, 3] rfl ?_
                  exact w _ hp128 hf129
                · replace w := w.2 c131
                  refine v_aload_n dX5_readText_91 rfl ?_
                  refine v_get dX5_readText_92 fl_X5_26 ((hp128 33 (by decide)).trans (ent_33 _)) rfl (s_lt hn rfl) ?_
                  refine v_iload dX5_readText_95 rfl ?_
                  refine v_iconstI dX5_readText_97 ?_
                  refine v_aload_n dX5_readText_98 rfl ?_
                  refine v_get dX5_readText_99 fl_X5_26 ((hp128 33 (by decide)).trans (ent_33 _)) rfl (s_lt hn rfl) ?_
                  refine v_get dX5_readText_102 fl_X5_69 ((hp128 37 (by decide)).trans (ent_37 _)) rfl (s_lt hn rfl) ?_
                  refine v_callVVw dX5_readText_105 ml_X5_72 (so_X7_setHead hn hp128  w) ((hp128 37 (by decide)).trans (ent_37 _)) rfl (s_lt hn rfl) rfl rfl (Nat.le_of_ble_eq_true rfl) (Nat.le_of_ble_eq_true rfl) (Nat.zero_le _) (Nat.zero_le _) (fun X133 h134 hp136 hf135 w => ?_)
                  have hf137 := Fr.trans hf129 hf135
                  refine v_aload_n dX5_readText_108 rfl ?_
                  refine v_iconstI dX5_readText_109 ?_
                  refine v_callVIw dX5_readText_110 ml_X5_76 (so_X5_readTest hn hp136  w) ((hp136 33 (by decide)).trans (ent_33 _)) rfl (s_lt hn rfl) rfl rfl (Nat.le_of_ble_eq_true rfl) (Nat.le_of_ble_eq_true rfl) (Nat.zero_le _) (Nat.zero_le _) (fun v138 X139 h140 hp142 hf141 w => ?_)
                  have hf143 := Fr.trans hf137 hf141
                  refine v_istore_n dX5_readText_113 (Nat.le_of_ble_eq_true rfl) ?_
                  refine v_aload_n dX5_readText_114 rfl ?_
                  refine v_get dX5_readText_115 fl_X5_26 ((hp142 33 (by decide)).trans (ent_33 _)) rfl (s_lt hn rfl) ?_
                  refine v_iconstI dX5_readText_118 ?_
                  refine v_iconstI dX5_readText_119 ?_
                  refine v_callVVw dX5_readText_120 ml_X5_81 (so_X7_emit hn hp142  w) ((hp142 37 (by decide)).trans (ent_37 _)) rfl (s_lt hn rfl) rfl rfl (Nat.le_of_ble_eq_true rfl) (Nat.le_of_ble_eq_true rfl) (Nat.zero_le _) (Nat.zero_le _) (fun X145 h146 hp148 hf147 w => ?_)
                  have hf149 := Fr.trans hf143 hf147
                  refine v_pick [1, 2, 0, 3] rfl ?_
                  exact w _ hp148 hf149
            )
            obtain ⟨q150, w⟩ := w
            refine v_if_eqI (tgt := 71) dX5_readText_59 (by decide) q150.1 q150.2 (fun c151 => ?_) (fun c151 => ?_)
            · replace w := w.1 c151
              refine v_aload_n dX5_readText_71 rfl ?_
              refine v_iload dX5_readText_72 rfl ?_
              refine v_callVIw dX5_readText_74 ml_X5_63 (so_X5_readDriveHead hn hp82  w) ((hp82 33 (by decide)).trans (ent_33 _)) rfl (s_lt hn rfl) rfl rfl (Nat.le_of_ble_eq_true rfl) (Nat.le_of_ble_eq_true rfl) (Nat.zero_le _) (Nat.zero_le _) (fun v152 X153 h154 hp156 hf155 w => ?_)
              have hf157 := Fr.trans hf83 hf155
              refine v_pick [0, 1, 3] rfl ?_
              exact w _ hp156 hf157
            · replace w := w.2 c151
              refine v_aload_n dX5_readText_62 rfl ?_
              refine v_iload dX5_readText_63 rfl ?_
              refine v_callVIw dX5_readText_65 ml_X5_59 (so_X5_readLawHead hn hp82  w) ((hp82 33 (by decide)).trans (ent_33 _)) rfl (s_lt hn rfl) rfl rfl (Nat.le_of_ble_eq_true rfl) (Nat.le_of_ble_eq_true rfl) (Nat.zero_le _) (Nat.zero_le _) (fun v158 X159 h160 hp162 hf161 w => ?_)
              have hf163 := Fr.trans hf83 hf161
              refine v_goto (tgt := 77) dX5_readText_68 (by decide) ?_
              refine v_pick [0, 1, 3] rfl ?_
              exact w _ hp162 hf163
  exact hL38 _ _ _ _ _ _ (Nat.lt_succ_self _) wi37 hp27 hf28

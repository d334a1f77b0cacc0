/-! WHAT A LAW TELLS: texts over the picture, by program (tools/part34.py) -/
theorem sv_X7_head {n : Nat} {h : Nat → sE} {z zh zb zM zN : Nat} {zk zg zf : Int → Int} (hz : zSL n h z zh zb zM zN zk zg zf) {a b : Int} (hn : 115 ≤ n) (ra : R32 (a * 6 + b)) : Sp m_X7_head 0 0 0 [.ref z, .int (iI a), .int (iI b)] n h (qR (some (.int (iI (if 0 ≤ a * 6 + b ∧ a * 6 + b < (zM : Int) then zk (a * 6 + b) else -1)))) n h) := by
  have hM := hz.2.2.2.1
  refine Sp.ofV (by decide +kernel) (Nat.le_of_ble_eq_true rfl) ?_
  refine v_iload_n dX7_head_0 rfl ?_
  refine v_bipushI dX7_head_1 rfl ?_
  refine v_imulI dX7_head_3 ?_
  refine v_iload_n dX7_head_4 rfl ?_
  refine v_iaddI dX7_head_5 ?_
  refine v_istore_n dX7_head_6 (Nat.le_of_ble_eq_true rfl) ?_
  refine v_iload_n dX7_head_7 rfl ?_
  refine v_if_ltI (tgt := 29) dX7_head_8 (by decide) ra.1 ra.2 (fun c1 => ?_) (fun c1 => ?_)
  · refine v_iconstI dX7_head_29 ?_
    exact v_iret dX7_head_30 rfl (Nat.zero_le _) (Nat.zero_le _) ⟨by rw [if_neg (by omega)], rfl, rfl⟩
  refine v_iload_n dX7_head_11 rfl ?_
  refine v_aload_n dX7_head_12 rfl ?_
  refine v_get dX7_head_13 fl_X7_17 hz.1.1 rfl hz.2.1.1 ?_
  refine v_alen_aI dX7_head_16 hz.1.2.1 hz.2.1.2.1 ?_
  refine v_icmp_geI (tgt := 29) dX7_head_17 (by decide) ra.1 ra.2 (by omega) (by omega) (fun c2 => ?_) (fun c2 => ?_)
  · refine v_iconstI dX7_head_29 ?_
    exact v_iret dX7_head_30 rfl (Nat.zero_le _) (Nat.zero_le _) ⟨by rw [if_neg (by omega)], rfl, rfl⟩
  refine v_aload_n dX7_head_20 rfl ?_
  refine v_get dX7_head_21 fl_X7_17 hz.1.1 rfl hz.2.1.1 ?_
  refine v_iload_n dX7_head_24 rfl ?_
  refine v_ialdI dX7_head_25 hz.1.2.1 hz.2.1.2.1 (by omega) (by omega) ra.2 ?_
  refine v_goto (tgt := 30) dX7_head_26 (by decide) ?_
  exact v_iret dX7_head_30 rfl (Nat.zero_le _) (Nat.zero_le _) ⟨by rw [if_pos (by omega)], rfl, rfl⟩
theorem dX3_lawInForce_0 : decode cX3_lawInForce 0 = .ok (.aload_n 0, 1) := by decide +kernel
theorem dX3_lawInForce_1 : decode cX3_lawInForce 1 = .ok (.getfield 58, 3) := by decide +kernel
theorem dX3_lawInForce_4 : decode cX3_lawInForce 4 = .ok (.iconst 0, 1) := by decide +kernel
theorem dX3_lawInForce_5 : decode cX3_lawInForce 5 = .ok (.iconst 5, 1) := by decide +kernel
theorem dX3_lawInForce_6 : decode cX3_lawInForce 6 = .ok (.invokestatic 67, 3) := by decide +kernel
theorem dX3_lawInForce_9 : decode cX3_lawInForce 9 = .ok (.ifCond .eq 15, 3) := by decide +kernel
theorem dX3_lawInForce_12 : decode cX3_lawInForce 12 = .ok (.aload_n 0, 1) := by decide +kernel
theorem dX3_lawInForce_13 : decode cX3_lawInForce 13 = .ok (.getfield 38, 3) := by decide +kernel
theorem dX3_lawInForce_16 : decode cX3_lawInForce 16 = .ok (.aload_n 0, 1) := by decide +kernel
theorem dX3_lawInForce_17 : decode cX3_lawInForce 17 = .ok (.getfield 58, 3) := by decide +kernel
theorem dX3_lawInForce_20 : decode cX3_lawInForce 20 = .ok (.aaload, 1) := by decide +kernel
theorem dX3_lawInForce_21 : decode cX3_lawInForce 21 = .ok (.goto 4, 3) := by decide +kernel
theorem dX3_lawInForce_24 : decode cX3_lawInForce 24 = .ok (.aconst_null, 1) := by decide +kernel
theorem dX3_lawInForce_25 : decode cX3_lawInForce 25 = .ok (.areturn, 1) := by decide +kernel
theorem sv_X3_lawInForce {n : Nat} {h : Nat → sE} {X : XT} (hn : 115 ≤ n) (hp : Pic X h) (ra : R32 (X 1 14)) : Sp m_X3_lawInForce 1 0 0 [.ref 1] n h (qR (some (vQ (lawc X))) n h) := by
  have H1 := ((hp 1 (by decide)).trans (ent_1 _))
  refine Sp.ofV (by decide +kernel) (Nat.le_of_ble_eq_true rfl) ?_
  refine v_aload_n dX3_lawInForce_0 rfl ?_
  refine v_get dX3_lawInForce_1 fl_X3_58 H1 rfl (s_lt hn rfl) ?_
  refine v_iconstI dX3_lawInForce_4 ?_
  refine v_iconstI dX3_lawInForce_5 ?_
  refine v_callSp dX3_lawInForce_6 ml_X3_67 (sp_X11_within (a := X 1 14) (b := 0) (c := 5) ra (by decide) (by decide)) rfl rfl (Nat.le_of_ble_eq_true rfl) (Nat.le_of_ble_eq_true rfl) (Nat.zero_le _) (Nat.zero_le _) ?_
  refine v_ifeqB (tgt := 24) dX3_lawInForce_9 (by decide) (fun c => ?_) (fun c => ?_)
  · refine v_aconst_null dX3_lawInForce_24 ?_
    exact v_aretN dX3_lawInForce_25 rfl (Nat.zero_le _) (Nat.zero_le _) ⟨by have hl : lawc X < 0 := by { unfold lawc; rw [if_neg c]; split <;> decide }; unfold vQ; rw [if_pos hl], rfl, rfl⟩
  refine v_aload_n dX3_lawInForce_12 rfl ?_
  refine v_get dX3_lawInForce_13 fl_X3_38 H1 rfl (s_lt hn rfl) ?_
  refine v_aload_n dX3_lawInForce_16 rfl ?_
  refine v_get dX3_lawInForce_17 fl_X3_58 H1 rfl (s_lt hn rfl) ?_
  refine v_aaldI dX3_lawInForce_20 ((hp 10 (by decide)).trans (ent_10 _)) (s_lt hn rfl) c.1 (by omega) ra.2 ?_
  refine v_goto (tgt := 25) dX3_lawInForce_21 (by decide) ?_
  have e : lawc X = X 10 (X 1 14) := if_pos c
  rw [e]
  by_cases g : X 10 (X 1 14) < 0
  · have e2 : vQ (X 10 (X 1 14)) = .null := if_pos g
    rw [e2]
    exact v_aretN dX3_lawInForce_25 rfl (Nat.zero_le _) (Nat.zero_le _) ⟨rfl, rfl, rfl⟩
  · have e2 : vQ (X 10 (X 1 14)) = .ref (X 10 (X 1 14)).toNat := if_neg g
    rw [e2]
    exact v_aret dX3_lawInForce_25 rfl (Nat.zero_le _) (Nat.zero_le _) ⟨rfl, rfl, rfl⟩
theorem dX0_toldBy_0 : decode cX0_toldBy 0 = .ok (.aload_n 0, 1) := by decide +kernel
theorem dX0_toldBy_1 : decode cX0_toldBy 1 = .ok (.getfield 18, 3) := by decide +kernel
theorem dX0_toldBy_4 : decode cX0_toldBy 4 = .ok (.invokevirtual 68, 3) := by decide +kernel
theorem dX0_toldBy_7 : decode cX0_toldBy 7 = .ok (.astore_n 3, 1) := by decide +kernel
theorem dX0_toldBy_8 : decode cX0_toldBy 8 = .ok (.aload_n 3, 1) := by decide +kernel
theorem dX0_toldBy_9 : decode cX0_toldBy 9 = .ok (.ifnonnull 5, 3) := by decide +kernel
theorem dX0_toldBy_12 : decode cX0_toldBy 12 = .ok (.iload_n 2, 1) := by decide +kernel
theorem dX0_toldBy_13 : decode cX0_toldBy 13 = .ok (.ireturn, 1) := by decide +kernel
theorem dX0_toldBy_14 : decode cX0_toldBy 14 = .ok (.aload_n 3, 1) := by decide +kernel
theorem dX0_toldBy_15 : decode cX0_toldBy 15 = .ok (.getfield 72, 3) := by decide +kernel
theorem dX0_toldBy_18 : decode cX0_toldBy 18 = .ok (.iconst 1, 1) := by decide +kernel
theorem dX0_toldBy_19 : decode cX0_toldBy 19 = .ok (.isub, 1) := by decide +kernel
theorem dX0_toldBy_20 : decode cX0_toldBy 20 = .ok (.istore 4, 2) := by decide +kernel
theorem dX0_toldBy_22 : decode cX0_toldBy 22 = .ok (.iload 4, 2) := by decide +kernel
theorem dX0_toldBy_24 : decode cX0_toldBy 24 = .ok (.ifCond .lt 99, 3) := by decide +kernel
theorem dX0_toldBy_27 : decode cX0_toldBy 27 = .ok (.aload_n 3, 1) := by decide +kernel
theorem dX0_toldBy_28 : decode cX0_toldBy 28 = .ok (.iload 4, 2) := by decide +kernel
theorem dX0_toldBy_30 : decode cX0_toldBy 30 = .ok (.iconst 0, 1) := by decide +kernel
theorem dX0_toldBy_31 : decode cX0_toldBy 31 = .ok (.invokevirtual 78, 3) := by decide +kernel
theorem dX0_toldBy_34 : decode cX0_toldBy 34 = .ok (.iload_n 1, 1) := by decide +kernel
theorem dX0_toldBy_35 : decode cX0_toldBy 35 = .ok (.if_icmp .ne 82, 3) := by decide +kernel
theorem dX0_toldBy_38 : decode cX0_toldBy 38 = .ok (.aload_n 3, 1) := by decide +kernel
theorem dX0_toldBy_39 : decode cX0_toldBy 39 = .ok (.iload 4, 2) := by decide +kernel
theorem dX0_toldBy_41 : decode cX0_toldBy 41 = .ok (.iconst 5, 1) := by decide +kernel
theorem dX0_toldBy_42 : decode cX0_toldBy 42 = .ok (.invokevirtual 78, 3) := by decide +kernel
theorem dX0_toldBy_45 : decode cX0_toldBy 45 = .ok (.istore 5, 2) := by decide +kernel
theorem dX0_toldBy_47 : decode cX0_toldBy 47 = .ok (.aload_n 3, 1) := by decide +kernel
theorem dX0_toldBy_48 : decode cX0_toldBy 48 = .ok (.iload 4, 2) := by decide +kernel
theorem dX0_toldBy_50 : decode cX0_toldBy 50 = .ok (.iconst 1, 1) := by decide +kernel
theorem dX0_toldBy_51 : decode cX0_toldBy 51 = .ok (.invokevirtual 78, 3) := by decide +kernel
theorem dX0_toldBy_54 : decode cX0_toldBy 54 = .ok (.istore 6, 2) := by decide +kernel
theorem dX0_toldBy_56 : decode cX0_toldBy 56 = .ok (.iload 5, 2) := by decide +kernel
theorem dX0_toldBy_58 : decode cX0_toldBy 58 = .ok (.iconst (-1), 1) := by decide +kernel
theorem dX0_toldBy_59 : decode cX0_toldBy 59 = .ok (.if_icmp .eq 17, 3) := by decide +kernel
theorem dX0_toldBy_62 : decode cX0_toldBy 62 = .ok (.aload_n 0, 1) := by decide +kernel
theorem dX0_toldBy_63 : decode cX0_toldBy 63 = .ok (.getfield 12, 3) := by decide +kernel
theorem dX0_toldBy_66 : decode cX0_toldBy 66 = .ok (.aload_n 3, 1) := by decide +kernel
theorem dX0_toldBy_67 : decode cX0_toldBy 67 = .ok (.iload 5, 2) := by decide +kernel
theorem dX0_toldBy_69 : decode cX0_toldBy 69 = .ok (.invokevirtual 81, 3) := by decide +kernel
theorem dX0_toldBy_72 : decode cX0_toldBy 72 = .ok (.iconst 1, 1) := by decide +kernel
theorem dX0_toldBy_73 : decode cX0_toldBy 73 = .ok (.if_icmp .ne 44, 3) := by decide +kernel
theorem dX0_toldBy_76 : decode cX0_toldBy 76 = .ok (.iload 6, 2) := by decide +kernel
theorem dX0_toldBy_78 : decode cX0_toldBy 78 = .ok (.iconst (-1), 1) := by decide +kernel
theorem dX0_toldBy_79 : decode cX0_toldBy 79 = .ok (.if_icmp .ne 7, 3) := by decide +kernel
theorem dX0_toldBy_82 : decode cX0_toldBy 82 = .ok (.iconst 1, 1) := by decide +kernel
theorem dX0_toldBy_83 : decode cX0_toldBy 83 = .ok (.goto 13, 3) := by decide +kernel
theorem dX0_toldBy_86 : decode cX0_toldBy 86 = .ok (.aload_n 0, 1) := by decide +kernel
theorem dX0_toldBy_87 : decode cX0_toldBy 87 = .ok (.getfield 12, 3) := by decide +kernel
theorem dX0_toldBy_90 : decode cX0_toldBy 90 = .ok (.aload_n 3, 1) := by decide +kernel
theorem dX0_toldBy_91 : decode cX0_toldBy 91 = .ok (.iload 6, 2) := by decide +kernel
theorem dX0_toldBy_93 : decode cX0_toldBy 93 = .ok (.invokevirtual 81, 3) := by decide +kernel
theorem dX0_toldBy_96 : decode cX0_toldBy 96 = .ok (.istore 7, 2) := by decide +kernel
theorem dX0_toldBy_98 : decode cX0_toldBy 98 = .ok (.iload 7, 2) := by decide +kernel
theorem dX0_toldBy_100 : decode cX0_toldBy 100 = .ok (.ldc 85, 2) := by decide +kernel
theorem dX0_toldBy_102 : decode cX0_toldBy 102 = .ok (.if_icmp .eq 15, 3) := by decide +kernel
theorem dX0_toldBy_105 : decode cX0_toldBy 105 = .ok (.iconst 0, 1) := by decide +kernel
theorem dX0_toldBy_106 : decode cX0_toldBy 106 = .ok (.bipush 99, 2) := by decide +kernel
theorem dX0_toldBy_108 : decode cX0_toldBy 108 = .ok (.iload 7, 2) := by decide +kernel
theorem dX0_toldBy_110 : decode cX0_toldBy 110 = .ok (.invokestatic 86, 3) := by decide +kernel
theorem dX0_toldBy_113 : decode cX0_toldBy 113 = .ok (.invokestatic 91, 3) := by decide +kernel
theorem dX0_toldBy_116 : decode cX0_toldBy 116 = .ok (.ireturn, 1) := by decide +kernel
theorem dX0_toldBy_117 : decode cX0_toldBy 117 = .ok (.iinc 4 (-1), 3) := by decide +kernel
theorem dX0_toldBy_120 : decode cX0_toldBy 120 = .ok (.goto (-98), 3) := by decide +kernel
theorem dX0_toldBy_123 : decode cX0_toldBy 123 = .ok (.iload_n 2, 1) := by decide +kernel
theorem dX0_toldBy_124 : decode cX0_toldBy 124 = .ok (.ireturn, 1) := by decide +kernel
def w_told (zM zN : Nat) (zk zg zf : Int → Int) (a0 a1 : Int) (X : XT) (Q : Int → XT → Prop) : Prop :=
  ∃ (I3 : Int → XT → Prop) (m4 : Int → XT → Nat), I3 ((zf 2) - 1) X ∧ ∀ (x1 : Int) (X2 : XT), I3 x1 X2 → R32 x1 ∧ (x1 < 0 → Q a1 X2) ∧ (¬ x1 < 0 → R32 (x1 * 6 + 0) ∧ R32 (if 0 ≤ x1 * 6 + 0 ∧ x1 * 6 + 0 < (zM : Int) then zk (x1 * 6 + 0) else -1) ∧ R32 a0 ∧ (¬ (if 0 ≤ x1 * 6 + 0 ∧ x1 * 6 + 0 < (zM : Int) then zk (x1 * 6 + 0) else -1) = a0 → I3 (x1 + (-1)) X2 ∧ m4 (x1 + (-1)) X2 < m4 x1 X2) ∧ ((if 0 ≤ x1 * 6 + 0 ∧ x1 * 6 + 0 < (zM : Int) then zk (x1 * 6 + 0) else -1) = a0 → R32 (x1 * 6 + 5) ∧ R32 (x1 * 6 + 1) ∧ ∀ J24 : XT → Prop, (∀  (X23 : XT), (∀ J30 : Int → XT → Prop, (∀ (v28 : Int) (X29 : XT), (R32 v28 ∧ (v28 = (-2147483648) → I3 (x1 + (-1)) X29 ∧ m4 (x1 + (-1)) X29 < m4 x1 X2) ∧ (¬ v28 = (-2147483648) → R32 (min 99 v28) ∧ Q (max 0 (min 99 v28)) X29)) → J30 v28 X29) → R32 (if 0 ≤ x1 * 6 + 1 ∧ x1 * 6 + 1 < (zM : Int) then zk (x1 * 6 + 1) else -1) ∧ (¬ (if 0 ≤ x1 * 6 + 1 ∧ x1 * 6 + 1 < (zM : Int) then zk (x1 * 6 + 1) else -1) = (-1) → w_X6_valueOf zN zg 46 47 48 (if 0 ≤ x1 * 6 + 1 ∧ x1 * 6 + 1 < (zM : Int) then zk (x1 * 6 + 1) else -1) X23 (fun (v39 : Int) (X40 : XT) => J30 v39 X40)) ∧ ((if 0 ≤ x1 * 6 + 1 ∧ x1 * 6 + 1 < (zM : Int) then zk (x1 * 6 + 1) else -1) = (-1) → J30 1 X23)) → J24  X23) → R32 (if 0 ≤ x1 * 6 + 5 ∧ x1 * 6 + 5 < (zM : Int) then zk (x1 * 6 + 5) else -1) ∧ ((if 0 ≤ x1 * 6 + 5 ∧ x1 * 6 + 5 < (zM : Int) then zk (x1 * 6 + 5) else -1) = (-1) → J24  X2) ∧ (¬ (if 0 ≤ x1 * 6 + 5 ∧ x1 * 6 + 5 < (zM : Int) then zk (x1 * 6 + 5) else -1) = (-1) → w_X6_valueOf zN zg 46 47 48 (if 0 ≤ x1 * 6 + 5 ∧ x1 * 6 + 5 < (zM : Int) then zk (x1 * 6 + 5) else -1) X2 (fun (v47 : Int) (X48 : XT) => R32 v47 ∧ (¬ v47 = 1 → I3 (x1 + (-1)) X48 ∧ m4 (x1 + (-1)) X48 < m4 x1 X2) ∧ (v47 = 1 → J24  X48)))))
set_option maxRecDepth 20000 in
theorem vt_told {n : Nat} {h : Nat → sE} {X : XT} {z zh zb zM zN : Nat} {zk zg zf : Int → Int} (hz : zSL n h z zh zb zM zN zk zg zf) {a0 a1 : Int} {Q : Int → XT → Prop} (hn : 115 ≤ n) (hp : Pic X h) (w : w_told zM zN zk zg zf a0 a1 X Q) : V (m_X0_toldBy, 2, 0, 0, n, pIw n h Q, s_G0) 0 0 n h 14 [(0, .ref 44), (1, .int (iI a0)), (2, .int (iI a1)), (3, .ref z)] [] := by
  unfold w_told at w
  have hf : Fr h h := fun _ _ => rfl
  refine v_aload_n dX0_toldBy_14 rfl ?_
  refine v_get dX0_toldBy_15 fl_X0_72 ((hf z hz.2.2.1.1).trans hz.1.1) rfl hz.2.1.1 ?_
  refine v_iconstI dX0_toldBy_18 ?_
  refine v_isubI dX0_toldBy_19 ?_
  refine v_istore dX0_toldBy_20 (Nat.le_of_ble_eq_true rfl) ?_
  refine v_pick [1, 2, 3, 4, 0] rfl ?_
  obtain ⟨I3, m4, wi7, wl6⟩ := w
  have hL8 : ∀ (N11 : Nat) (x1 : Int) (X2 : XT) (h12 : Nat → sE), m4 x1 X2 < N11 → I3 x1 X2 → Pic X2 h12 → Fr h h12 → V (m_X0_toldBy, 2, 0, 0, n, pIw n h Q, s_G0) 0 0 n h12 22 [(0, .ref 44), (1, .int (iI a0)), (2, .int (iI a1)), (3, .ref z), (4, .int (iI x1))] [] := by
    intro N11
    induction N11 with
    | zero => intro x1 X2 h12 hm9; exact absurd hm9 (Nat.not_lt_zero _)
    | succ N11 ih5 =>
      intro x1 X2 h12 hm9 hI10 hp13 hf14
      have w := wl6 x1 X2 hI10
      refine v_iload dX0_toldBy_22 rfl ?_
      obtain ⟨q15, w⟩ := w
      refine v_if_ltI (tgt := 123) dX0_toldBy_24 (by decide) q15.1 q15.2 (fun c16 => ?_) (fun c16 => ?_)
      · replace w := w.1 c16
        refine v_iload_n dX0_toldBy_123 rfl ?_
        exact v_iret dX0_toldBy_124 rfl (Nat.zero_le _) (Nat.zero_le _) ⟨rfl, hf14, _, _, rfl, hp13, w⟩
      · replace w := w.2 c16
        refine v_aload_n dX0_toldBy_27 rfl ?_
        refine v_iload dX0_toldBy_28 rfl ?_
        refine v_iconstI dX0_toldBy_30 ?_
        obtain ⟨q17, w⟩ := w
        refine v_callVp dX0_toldBy_31 ml_X0_78 (sv_X7_head (zSL.go hz hf14) (hn := hn) (a := x1) (b := 0) q17) ((hf14 z hz.2.2.1.1).trans hz.1.1) rfl hz.2.1.1 rfl rfl (Nat.le_of_ble_eq_true rfl) (Nat.le_of_ble_eq_true rfl) (Nat.zero_le _) (Nat.zero_le _) ?_
        refine v_iload_n dX0_toldBy_34 rfl ?_
        obtain ⟨q18, q19, w⟩ := w
        refine v_icmp_neI (tgt := 117) dX0_toldBy_35 (by decide) q18.1 q18.2 q19.1 q19.2 (fun c20 => ?_) (fun c20 => ?_)
        · replace w := w.1 c20
          refine v_iincI dX0_toldBy_117 rfl (Nat.le_of_ble_eq_true rfl) ?_
          refine v_goto (tgt := 22) dX0_toldBy_120 (by decide) ?_
          refine v_pick [1, 2, 3, 4, 0] rfl ?_
          exact ih5 _ _ _ (Nat.lt_of_lt_of_le w.2 (Nat.le_of_lt_succ hm9)) w.1 hp13 hf14
        · replace w := w.2 c20
          refine v_aload_n dX0_toldBy_38 rfl ?_
          refine v_iload dX0_toldBy_39 rfl ?_
          refine v_iconstI dX0_toldBy_41 ?_
          obtain ⟨q21, w⟩ := w
          refine v_callVp dX0_toldBy_42 ml_X0_78 (sv_X7_head (zSL.go hz hf14) (hn := hn) (a := x1) (b := 5) q21) ((hf14 z hz.2.2.1.1).trans hz.1.1) rfl hz.2.1.1 rfl rfl (Nat.le_of_ble_eq_true rfl) (Nat.le_of_ble_eq_true rfl) (Nat.zero_le _) (Nat.zero_le _) ?_
          refine v_istore dX0_toldBy_45 (Nat.le_of_ble_eq_true rfl) ?_
          refine v_aload_n dX0_toldBy_47 rfl ?_
          refine v_iload dX0_toldBy_48 rfl ?_
          refine v_iconstI dX0_toldBy_50 ?_
          obtain ⟨q22, w⟩ := w
          refine v_callVp dX0_toldBy_51 ml_X0_78 (sv_X7_head (zSL.go hz hf14) (hn := hn) (a := x1) (b := 1) q22) ((hf14 z hz.2.2.1.1).trans hz.1.1) rfl hz.2.1.1 rfl rfl (Nat.le_of_ble_eq_true rfl) (Nat.le_of_ble_eq_true rfl) (Nat.zero_le _) (Nat.zero_le _) ?_
          refine v_istore dX0_toldBy_54 (Nat.le_of_ble_eq_true rfl) ?_
          refine v_iload dX0_toldBy_56 rfl ?_
          refine v_iconstI dX0_toldBy_58 ?_
          replace w := w (fun  (X23 : XT) => ∀ h27 : Nat → sE, Pic X23 h27 → Fr h h27 → V (m_X0_toldBy, 2, 0, 0, n, pIw n h Q, s_G0) 0 0 n h27 76 [(0, .ref 44), (1, .int (iI a0)), (2, .int (iI a1)), (3, .ref z), (4, .int (iI x1)), (6, .int (iI (if 0 ≤ x1 * 6 + 1 ∧ x1 * 6 + 1 < (zM : Int) then zk (x1 * 6 + 1) else -1)))] []) (by
            intro  X23 w h27 hp25 hf26
            refine v_iload dX0_toldBy_76 rfl ?_
            refine v_iconstI dX0_toldBy_78 ?_
            replace w := w (fun (v28 : Int) (X29 : XT) => ∀ h33 : Nat → sE, Pic X29 h33 → Fr h h33 → V (m_X0_toldBy, 2, 0, 0, n, pIw n h Q, s_G0) 0 0 n h33 96 [(0, .ref 44), (1, .int (iI a0)), (2, .int (iI a1)), (3, .ref z), (4, .int (iI x1))] [.int (iI v28)]) (by
              intro v28 X29 w h33 hp31 hf32
              refine v_istore dX0_toldBy_96 (Nat.le_of_ble_eq_true rfl) ?_
              refine v_iload dX0_toldBy_98 rfl ?_
              refine v_ldcI (-2147483648) dX0_toldBy_100 k_X0_85 rfl ?_
              obtain ⟨q34, w⟩ := w
              refine v_icmp_eqI (tgt := 117) dX0_toldBy_102 (by decide) q34.1 q34.2 (by decide) (by decide) (fun c35 => ?_) (fun c35 => ?_)
              · replace w := w.1 c35
                refine v_iincI dX0_toldBy_117 rfl (Nat.le_of_ble_eq_true rfl) ?_
                refine v_goto (tgt := 22) dX0_toldBy_120 (by decide) ?_
                refine v_pick [2, 3, 4, 5, 0] rfl ?_
                exact ih5 _ _ _ (Nat.lt_of_lt_of_le w.2 (Nat.le_of_lt_succ hm9)) w.1 hp31 hf32
              · replace w := w.2 c35
                refine v_iconstI dX0_toldBy_105 ?_
                refine v_bipushI dX0_toldBy_106 rfl ?_
                refine v_iload dX0_toldBy_108 rfl ?_
                refine v_minI dX0_toldBy_110 ml_X0_86 (Nat.le_of_ble_eq_true rfl) (Nat.le_of_ble_eq_true rfl) (Nat.zero_le _) (Nat.zero_le _) (by decide) (by decide) q34.1 q34.2 ?_
                obtain ⟨q36, w⟩ := w
                refine v_maxI dX0_toldBy_113 ml_X0_91 (Nat.le_of_ble_eq_true rfl) (Nat.le_of_ble_eq_true rfl) (Nat.zero_le _) (Nat.zero_le _) (by decide) (by decide) q36.1 q36.2 ?_
                exact v_iret dX0_toldBy_116 rfl (Nat.zero_le _) (Nat.zero_le _) ⟨rfl, hf32, _, _, rfl, hp31, w⟩
            )
            obtain ⟨q37, w⟩ := w
            refine v_icmp_neI (tgt := 86) dX0_toldBy_79 (by decide) q37.1 q37.2 (by decide) (by decide) (fun c38 => ?_) (fun c38 => ?_)
            · replace w := w.1 c38
              refine v_aload_n dX0_toldBy_86 rfl ?_
              refine v_get dX0_toldBy_87 fl_X0_12 ((hp25 44 (by decide)).trans (ent_44 _)) rfl (s_lt hn rfl) ?_
              refine v_aload_n dX0_toldBy_90 rfl ?_
              refine v_iload dX0_toldBy_91 rfl ?_
              refine v_callVIw dX0_toldBy_93 ml_X0_81 (so_X6_valueOf_45 (zSL.sc (zSL.go hz hf26)) hn hp25  w) ((hp25 45 (by decide)).trans (ent_45 _)) rfl (s_lt hn rfl) rfl rfl (Nat.le_of_ble_eq_true rfl) (Nat.le_of_ble_eq_true rfl) (Nat.zero_le _) (Nat.zero_le _) (fun v39 X40 h41 hp43 hf42 w => ?_)
              have hf44 := Fr.trans hf26 hf42
              refine v_pick [0, 1, 2, 3, 4] rfl ?_
              exact w _ hp43 hf44
            · replace w := w.2 c38
              refine v_iconstI dX0_toldBy_82 ?_
              refine v_goto (tgt := 96) dX0_toldBy_83 (by decide) ?_
              refine v_pick [0, 1, 2, 3, 4] rfl ?_
              exact w _ hp25 hf26
          )
          obtain ⟨q45, w⟩ := w
          refine v_icmp_eqI (tgt := 76) dX0_toldBy_59 (by decide) q45.1 q45.2 (by decide) (by decide) (fun c46 => ?_) (fun c46 => ?_)
          · replace w := w.1 c46
            refine v_pick [2, 3, 4, 5, 6, 0] rfl ?_
            exact w _ hp13 hf14
          · replace w := w.2 c46
            refine v_aload_n dX0_toldBy_62 rfl ?_
            refine v_get dX0_toldBy_63 fl_X0_12 ((hp13 44 (by decide)).trans (ent_44 _)) rfl (s_lt hn rfl) ?_
            refine v_aload_n dX0_toldBy_66 rfl ?_
            refine v_iload dX0_toldBy_67 rfl ?_
            refine v_callVIw dX0_toldBy_69 ml_X0_81 (so_X6_valueOf_45 (zSL.sc (zSL.go hz hf14)) hn hp13  w) ((hp13 45 (by decide)).trans (ent_45 _)) rfl (s_lt hn rfl) rfl rfl (Nat.le_of_ble_eq_true rfl) (Nat.le_of_ble_eq_true rfl) (Nat.zero_le _) (Nat.zero_le _) (fun v47 X48 h49 hp51 hf50 w => ?_)
            have hf52 := Fr.trans hf14 hf50
            refine v_iconstI dX0_toldBy_72 ?_
            obtain ⟨q53, w⟩ := w
            refine v_icmp_neI (tgt := 117) dX0_toldBy_73 (by decide) q53.1 q53.2 (by decide) (by decide) (fun c54 => ?_) (fun c54 => ?_)
            · replace w := w.1 c54
              refine v_iincI dX0_toldBy_117 rfl (Nat.le_of_ble_eq_true rfl) ?_
              refine v_goto (tgt := 22) dX0_toldBy_120 (by decide) ?_
              refine v_pick [3, 4, 5, 6, 0] rfl ?_
              exact ih5 _ _ _ (Nat.lt_of_lt_of_le w.2 (Nat.le_of_lt_succ hm9)) w.1 hp51 hf52
            · replace w := w.2 c54
              refine v_pick [2, 3, 4, 5, 6, 0] rfl ?_
              exact w _ hp51 hf52
  exact hL8 _ _ _ _ (Nat.lt_succ_self _) wi7 hp hf

/-! WHAT A SCRIPT'S CODE GIVES: texts over the picture, by program (tools/part34.py) -/
def ftF (o a : Int) (wd cn : Int → Int) : Int := if o = 1 ∨ a < 0 then a else if o = 2 then (if a < 13 then wd a else -1) else (if a < 120 then cn a else -1)
/-- only the cell tc is another -/
def Fz (tc : Nat) (h h1 : Nat → sE) : Prop := ∀ j, ¬ j = tc → h1 j = h j
theorem Fz.fr {tc : Nat} {h h1 : Nat → sE} (hc : Nat.blt tc 115 = true) (a : Fz tc h h1) : Fr h h1 := fun j hj => a j (Nat.ne_of_gt (Nat.lt_of_lt_of_le (Nat.le_of_ble_eq_true hc) hj))
theorem Fz.up {tc : Nat} {h h1 h2 : Nat → sE} (a : Fz tc h h1) (F : ∀ j, j ≠ tc → h2 j = h1 j) : Fz tc h h2 := fun j hj => (F j hj).trans (a j hj)
/-- a script somewhere: its object z, its heads zh of zM places zk, its code zb of zN places zg -/
def zSC (tc n : Nat) (h : Nat → sE) (z zh zb zM zN : Nat) (zk zg zf : Int → Int) : Prop := (h z = .inr (7, [.ref zh, .ref zb, .int (iI (zf 2)), .int (iI (zf 3)), .int (iI (zf 4))]) ∧ h zh = aI zM zk ∧ h zb = aI zN zg) ∧ (z < n ∧ zh < n ∧ zb < n) ∧ (¬ z = tc ∧ ¬ zh = tc ∧ ¬ zb = tc) ∧ zM ≤ 1000 ∧ zN ≤ 1000
/-- one behind the picture -/
def zSL (n : Nat) (h : Nat → sE) (z zh zb zM zN : Nat) (zk zg zf : Int → Int) : Prop := (h z = .inr (7, [.ref zh, .ref zb, .int (iI (zf 2)), .int (iI (zf 3)), .int (iI (zf 4))]) ∧ h zh = aI zM zk ∧ h zb = aI zN zg) ∧ (z < n ∧ zh < n ∧ zb < n) ∧ (115 ≤ z ∧ 115 ≤ zh ∧ 115 ≤ zb) ∧ zM ≤ 1000 ∧ zN ≤ 1000
theorem zSL.go {n : Nat} {h h1 : Nat → sE} {z zh zb zM zN : Nat} {zk zg zf : Int → Int} (a : zSL n h z zh zb zM zN zk zg zf) (f : Fr h h1) : zSL n h1 z zh zb zM zN zk zg zf := ⟨⟨(f _ a.2.2.1.1).trans a.1.1, (f _ a.2.2.1.2.1).trans a.1.2.1, (f _ a.2.2.1.2.2).trans a.1.2.2⟩, a.2⟩
theorem zSL.sc {n : Nat} {h : Nat → sE} {z zh zb zM zN : Nat} {zk zg zf : Int → Int} (a : zSL n h z zh zb zM zN zk zg zf) : zSC 48 n h z zh zb zM zN zk zg zf := ⟨a.1, a.2.1, by have := a.2.2.1; omega, a.2.2.2⟩
theorem zSL.c7 {n : Nat} {h : Nat → sE} {z zh zb zM zN : Nat} {zk zg zf : Int → Int} (a : zSL n h z zh zb zM zN zk zg zf) : ∃ fs, h z = .inr (7, fs) := ⟨_, a.1.1⟩
theorem zSC_le {i : Int} {N : Nat} (h : i < (N : Int)) (hN : N ≤ 1000) : i ≤ 2147483647 := by omega
theorem dX6_fetched_0 : decode cX6_fetched 0 = .ok (.iload_n 1, 1) := by decide +kernel
theorem dX6_fetched_1 : decode cX6_fetched 1 = .ok (.iconst 1, 1) := by decide +kernel
theorem dX6_fetched_2 : decode cX6_fetched 2 = .ok (.if_icmp .eq 7, 3) := by decide +kernel
theorem dX6_fetched_5 : decode cX6_fetched 5 = .ok (.iload_n 2, 1) := by decide +kernel
theorem dX6_fetched_6 : decode cX6_fetched 6 = .ok (.ifCond .ge 5, 3) := by decide +kernel
theorem dX6_fetched_9 : decode cX6_fetched 9 = .ok (.iload_n 2, 1) := by decide +kernel
theorem dX6_fetched_10 : decode cX6_fetched 10 = .ok (.ireturn, 1) := by decide +kernel
theorem dX6_fetched_11 : decode cX6_fetched 11 = .ok (.iload_n 1, 1) := by decide +kernel
theorem dX6_fetched_12 : decode cX6_fetched 12 = .ok (.iconst 2, 1) := by decide +kernel
theorem dX6_fetched_13 : decode cX6_fetched 13 = .ok (.if_icmp .ne 10, 3) := by decide +kernel
theorem dX6_fetched_16 : decode cX6_fetched 16 = .ok (.aload_n 0, 1) := by decide +kernel
theorem dX6_fetched_17 : decode cX6_fetched 17 = .ok (.getfield 11, 3) := by decide +kernel
theorem dX6_fetched_20 : decode cX6_fetched 20 = .ok (.goto 7, 3) := by decide +kernel
theorem dX6_fetched_23 : decode cX6_fetched 23 = .ok (.aload_n 0, 1) := by decide +kernel
theorem dX6_fetched_24 : decode cX6_fetched 24 = .ok (.getfield 17, 3) := by decide +kernel
theorem dX6_fetched_27 : decode cX6_fetched 27 = .ok (.astore_n 3, 1) := by decide +kernel
theorem dX6_fetched_28 : decode cX6_fetched 28 = .ok (.iload_n 2, 1) := by decide +kernel
theorem dX6_fetched_29 : decode cX6_fetched 29 = .ok (.aload_n 3, 1) := by decide +kernel
theorem dX6_fetched_30 : decode cX6_fetched 30 = .ok (.arraylength, 1) := by decide +kernel
theorem dX6_fetched_31 : decode cX6_fetched 31 = .ok (.if_icmp .ge 9, 3) := by decide +kernel
theorem dX6_fetched_34 : decode cX6_fetched 34 = .ok (.aload_n 3, 1) := by decide +kernel
theorem dX6_fetched_35 : decode cX6_fetched 35 = .ok (.iload_n 2, 1) := by decide +kernel
theorem dX6_fetched_36 : decode cX6_fetched 36 = .ok (.iaload, 1) := by decide +kernel
theorem dX6_fetched_37 : decode cX6_fetched 37 = .ok (.goto 4, 3) := by decide +kernel
theorem dX6_fetched_40 : decode cX6_fetched 40 = .ok (.iconst (-1), 1) := by decide +kernel
theorem dX6_fetched_41 : decode cX6_fetched 41 = .ok (.ireturn, 1) := by decide +kernel
theorem sv_X6_fetched_40 {n : Nat} {h : Nat → sE} {a b : Int} {g40 g41 g42 : Int → Int} (hn : 115 ≤ n) (H40 : h 40 = ent 40 g40) (H41 : h 41 = ent 41 g41) (H42 : h 42 = ent 42 g42) (ra : R32 a) (rb : R32 b) : Sp m_X6_fetched 0 0 0 [.ref 40, .int (iI a), .int (iI b)] n h (qR (some (.int (iI (ftF a b g41 g42)))) n h) := by
  refine Sp.ofV (by decide +kernel) (Nat.le_of_ble_eq_true rfl) ?_
  refine v_iload_n dX6_fetched_0 rfl ?_
  refine v_iconstI dX6_fetched_1 ?_
  refine v_icmp_eqI (tgt := 9) dX6_fetched_2 (by decide) ra.1 ra.2 (by decide) (by decide) (fun c1 => ?_) (fun c1 => ?_)
  · refine v_iload_n dX6_fetched_9 rfl ?_
    exact v_iret dX6_fetched_10 rfl (Nat.zero_le _) (Nat.zero_le _) ⟨by unfold ftF; rw [if_pos (Or.inl c1)], rfl, rfl⟩
  refine v_iload_n dX6_fetched_5 rfl ?_
  refine v_if_geI (tgt := 11) dX6_fetched_6 (by decide) rb.1 rb.2 (fun c2 => ?_) (fun c2 => ?_)
  rotate_left
  · refine v_iload_n dX6_fetched_9 rfl ?_
    exact v_iret dX6_fetched_10 rfl (Nat.zero_le _) (Nat.zero_le _) ⟨by unfold ftF; rw [if_pos (Or.inr (by omega))], rfl, rfl⟩
  refine v_iload_n dX6_fetched_11 rfl ?_
  refine v_iconstI dX6_fetched_12 ?_
  refine v_icmp_neI (tgt := 23) dX6_fetched_13 (by decide) ra.1 ra.2 (by decide) (by decide) (fun c3 => ?_) (fun c3 => ?_)
  · refine v_aload_n dX6_fetched_23 rfl ?_
    refine v_get dX6_fetched_24 fl_X6_17 (H40.trans (ent_40 _)) rfl (s_lt hn rfl) ?_
    refine v_astore_n dX6_fetched_27 (Nat.le_of_ble_eq_true rfl) ?_
    refine v_iload_n dX6_fetched_28 rfl ?_
    refine v_aload_n dX6_fetched_29 rfl ?_
    refine v_alen_aI dX6_fetched_30 (H42.trans (ent_42 _)) (s_lt hn rfl) ?_
    refine v_icmp_geI (tgt := 40) dX6_fetched_31 (by decide) rb.1 rb.2 (by decide) (by decide) (fun c4 => ?_) (fun c4 => ?_)
    · refine v_iconstI dX6_fetched_40 ?_
      exact v_iret dX6_fetched_41 rfl (Nat.zero_le _) (Nat.zero_le _) ⟨by unfold ftF; rw [if_neg (by omega), if_neg c3, if_neg (by omega)], rfl, rfl⟩
    · refine v_aload_n dX6_fetched_34 rfl ?_
      refine v_iload_n dX6_fetched_35 rfl ?_
      refine v_ialdI dX6_fetched_36 (H42.trans (ent_42 _)) (s_lt hn rfl) c2 (by omega) rb.2 ?_
      refine v_goto (tgt := 41) dX6_fetched_37 (by decide) ?_
      exact v_iret dX6_fetched_41 rfl (Nat.zero_le _) (Nat.zero_le _) ⟨by unfold ftF; rw [if_neg (by omega), if_neg c3, if_pos (by omega)], rfl, rfl⟩
  · refine v_aload_n dX6_fetched_16 rfl ?_
    refine v_get dX6_fetched_17 fl_X6_11 (H40.trans (ent_40 _)) rfl (s_lt hn rfl) ?_
    refine v_goto (tgt := 27) dX6_fetched_20 (by decide) ?_
    refine v_astore_n dX6_fetched_27 (Nat.le_of_ble_eq_true rfl) ?_
    refine v_iload_n dX6_fetched_28 rfl ?_
    refine v_aload_n dX6_fetched_29 rfl ?_
    refine v_alen_aI dX6_fetched_30 (H41.trans (ent_41 _)) (s_lt hn rfl) ?_
    refine v_icmp_geI (tgt := 40) dX6_fetched_31 (by decide) rb.1 rb.2 (by decide) (by decide) (fun c4 => ?_) (fun c4 => ?_)
    · refine v_iconstI dX6_fetched_40 ?_
      exact v_iret dX6_fetched_41 rfl (Nat.zero_le _) (Nat.zero_le _) ⟨by unfold ftF; rw [if_neg (by omega), if_pos c3, if_neg (by omega)], rfl, rfl⟩
    · refine v_aload_n dX6_fetched_34 rfl ?_
      refine v_iload_n dX6_fetched_35 rfl ?_
      refine v_ialdI dX6_fetched_36 (H41.trans (ent_41 _)) (s_lt hn rfl) c2 (by omega) rb.2 ?_
      refine v_goto (tgt := 41) dX6_fetched_37 (by decide) ?_
      exact v_iret dX6_fetched_41 rfl (Nat.zero_le _) (Nat.zero_le _) ⟨by unfold ftF; rw [if_neg (by omega), if_pos c3, if_pos (by omega)], rfl, rfl⟩
theorem sv_X6_fetched_45 {n : Nat} {h : Nat → sE} {a b : Int} {g45 g46 g47 : Int → Int} (hn : 115 ≤ n) (H45 : h 45 = ent 45 g45) (H46 : h 46 = ent 46 g46) (H47 : h 47 = ent 47 g47) (ra : R32 a) (rb : R32 b) : Sp m_X6_fetched 0 0 0 [.ref 45, .int (iI a), .int (iI b)] n h (qR (some (.int (iI (ftF a b g46 g47)))) n h) := by
  refine Sp.ofV (by decide +kernel) (Nat.le_of_ble_eq_true rfl) ?_
  refine v_iload_n dX6_fetched_0 rfl ?_
  refine v_iconstI dX6_fetched_1 ?_
  refine v_icmp_eqI (tgt := 9) dX6_fetched_2 (by decide) ra.1 ra.2 (by decide) (by decide) (fun c1 => ?_) (fun c1 => ?_)
  · refine v_iload_n dX6_fetched_9 rfl ?_
    exact v_iret dX6_fetched_10 rfl (Nat.zero_le _) (Nat.zero_le _) ⟨by unfold ftF; rw [if_pos (Or.inl c1)], rfl, rfl⟩
  refine v_iload_n dX6_fetched_5 rfl ?_
  refine v_if_geI (tgt := 11) dX6_fetched_6 (by decide) rb.1 rb.2 (fun c2 => ?_) (fun c2 => ?_)
  rotate_left
  · refine v_iload_n dX6_fetched_9 rfl ?_
    exact v_iret dX6_fetched_10 rfl (Nat.zero_le _) (Nat.zero_le _) ⟨by unfold ftF; rw [if_pos (Or.inr (by omega))], rfl, rfl⟩
  refine v_iload_n dX6_fetched_11 rfl ?_
  refine v_iconstI dX6_fetched_12 ?_
  refine v_icmp_neI (tgt := 23) dX6_fetched_13 (by decide) ra.1 ra.2 (by decide) (by decide) (fun c3 => ?_) (fun c3 => ?_)
  · refine v_aload_n dX6_fetched_23 rfl ?_
    refine v_get dX6_fetched_24 fl_X6_17 (H45.trans (ent_45 _)) rfl (s_lt hn rfl) ?_
    refine v_astore_n dX6_fetched_27 (Nat.le_of_ble_eq_true rfl) ?_
    refine v_iload_n dX6_fetched_28 rfl ?_
    refine v_aload_n dX6_fetched_29 rfl ?_
    refine v_alen_aI dX6_fetched_30 (H47.trans (ent_47 _)) (s_lt hn rfl) ?_
    refine v_icmp_geI (tgt := 40) dX6_fetched_31 (by decide) rb.1 rb.2 (by decide) (by decide) (fun c4 => ?_) (fun c4 => ?_)
    · refine v_iconstI dX6_fetched_40 ?_
      exact v_iret dX6_fetched_41 rfl (Nat.zero_le _) (Nat.zero_le _) ⟨by unfold ftF; rw [if_neg (by omega), if_neg c3, if_neg (by omega)], rfl, rfl⟩
    · refine v_aload_n dX6_fetched_34 rfl ?_
      refine v_iload_n dX6_fetched_35 rfl ?_
      refine v_ialdI dX6_fetched_36 (H47.trans (ent_47 _)) (s_lt hn rfl) c2 (by omega) rb.2 ?_
      refine v_goto (tgt := 41) dX6_fetched_37 (by decide) ?_
      exact v_iret dX6_fetched_41 rfl (Nat.zero_le _) (Nat.zero_le _) ⟨by unfold ftF; rw [if_neg (by omega), if_neg c3, if_pos (by omega)], rfl, rfl⟩
  · refine v_aload_n dX6_fetched_16 rfl ?_
    refine v_get dX6_fetched_17 fl_X6_11 (H45.trans (ent_45 _)) rfl (s_lt hn rfl) ?_
    refine v_goto (tgt := 27) dX6_fetched_20 (by decide) ?_
    refine v_astore_n dX6_fetched_27 (Nat.le_of_ble_eq_true rfl) ?_
    refine v_iload_n dX6_fetched_28 rfl ?_
    refine v_aload_n dX6_fetched_29 rfl ?_
    refine v_alen_aI dX6_fetched_30 (H46.trans (ent_46 _)) (s_lt hn rfl) ?_
    refine v_icmp_geI (tgt := 40) dX6_fetched_31 (by decide) rb.1 rb.2 (by decide) (by decide) (fun c4 => ?_) (fun c4 => ?_)
    · refine v_iconstI dX6_fetched_40 ?_
      exact v_iret dX6_fetched_41 rfl (Nat.zero_le _) (Nat.zero_le _) ⟨by unfold ftF; rw [if_neg (by omega), if_pos c3, if_neg (by omega)], rfl, rfl⟩
    · refine v_aload_n dX6_fetched_34 rfl ?_
      refine v_iload_n dX6_fetched_35 rfl ?_
      refine v_ialdI dX6_fetched_36 (H46.trans (ent_46 _)) (s_lt hn rfl) c2 (by omega) rb.2 ?_
      refine v_goto (tgt := 41) dX6_fetched_37 (by decide) ?_
      exact v_iret dX6_fetched_41 rfl (Nat.zero_le _) (Nat.zero_le _) ⟨by unfold ftF; rw [if_neg (by omega), if_pos c3, if_pos (by omega)], rfl, rfl⟩
theorem dX6_joined_0 : decode cX6_joined 0 = .ok (.iload_n 0, 1) := by decide +kernel
theorem dX6_joined_1 : decode cX6_joined 1 = .ok (.tableswitch 159 7 14 #[47, 55, 63, 71, 91, 111, 127, 143], 47) := by decide +kernel
theorem dX6_joined_48 : decode cX6_joined 48 = .ok (.lload_n 1, 1) := by decide +kernel
theorem dX6_joined_49 : decode cX6_joined 49 = .ok (.lload_n 3, 1) := by decide +kernel
theorem dX6_joined_50 : decode cX6_joined 50 = .ok (.ladd, 1) := by decide +kernel
theorem dX6_joined_51 : decode cX6_joined 51 = .ok (.lstore 5, 2) := by decide +kernel
theorem dX6_joined_53 : decode cX6_joined 53 = .ok (.goto 112, 3) := by decide +kernel
theorem dX6_joined_56 : decode cX6_joined 56 = .ok (.lload_n 1, 1) := by decide +kernel
theorem dX6_joined_57 : decode cX6_joined 57 = .ok (.lload_n 3, 1) := by decide +kernel
theorem dX6_joined_58 : decode cX6_joined 58 = .ok (.lsub, 1) := by decide +kernel
theorem dX6_joined_59 : decode cX6_joined 59 = .ok (.lstore 5, 2) := by decide +kernel
theorem dX6_joined_61 : decode cX6_joined 61 = .ok (.goto 104, 3) := by decide +kernel
theorem dX6_joined_64 : decode cX6_joined 64 = .ok (.lload_n 1, 1) := by decide +kernel
theorem dX6_joined_65 : decode cX6_joined 65 = .ok (.lload_n 3, 1) := by decide +kernel
theorem dX6_joined_66 : decode cX6_joined 66 = .ok (.lmul, 1) := by decide +kernel
theorem dX6_joined_67 : decode cX6_joined 67 = .ok (.lstore 5, 2) := by decide +kernel
theorem dX6_joined_69 : decode cX6_joined 69 = .ok (.goto 96, 3) := by decide +kernel
theorem dX6_joined_72 : decode cX6_joined 72 = .ok (.lload_n 3, 1) := by decide +kernel
theorem dX6_joined_73 : decode cX6_joined 73 = .ok (.lconst 0, 1) := by decide +kernel
theorem dX6_joined_74 : decode cX6_joined 74 = .ok (.lcmp, 1) := by decide +kernel
theorem dX6_joined_75 : decode cX6_joined 75 = .ok (.ifCond .ne 9, 3) := by decide +kernel
theorem dX6_joined_78 : decode cX6_joined 78 = .ok (.ldc2_w 37, 3) := by decide +kernel
theorem dX6_joined_81 : decode cX6_joined 81 = .ok (.goto 6, 3) := by decide +kernel
theorem dX6_joined_84 : decode cX6_joined 84 = .ok (.lload_n 1, 1) := by decide +kernel
theorem dX6_joined_85 : decode cX6_joined 85 = .ok (.lload_n 3, 1) := by decide +kernel
theorem dX6_joined_86 : decode cX6_joined 86 = .ok (.ldiv, 1) := by decide +kernel
theorem dX6_joined_87 : decode cX6_joined 87 = .ok (.lstore 5, 2) := by decide +kernel
theorem dX6_joined_89 : decode cX6_joined 89 = .ok (.goto 76, 3) := by decide +kernel
theorem dX6_joined_92 : decode cX6_joined 92 = .ok (.lload_n 3, 1) := by decide +kernel
theorem dX6_joined_93 : decode cX6_joined 93 = .ok (.lconst 0, 1) := by decide +kernel
theorem dX6_joined_94 : decode cX6_joined 94 = .ok (.lcmp, 1) := by decide +kernel
theorem dX6_joined_95 : decode cX6_joined 95 = .ok (.ifCond .ne 9, 3) := by decide +kernel
theorem dX6_joined_98 : decode cX6_joined 98 = .ok (.ldc2_w 37, 3) := by decide +kernel
theorem dX6_joined_101 : decode cX6_joined 101 = .ok (.goto 6, 3) := by decide +kernel
theorem dX6_joined_104 : decode cX6_joined 104 = .ok (.lload_n 1, 1) := by decide +kernel
theorem dX6_joined_105 : decode cX6_joined 105 = .ok (.lload_n 3, 1) := by decide +kernel
theorem dX6_joined_106 : decode cX6_joined 106 = .ok (.lrem, 1) := by decide +kernel
theorem dX6_joined_107 : decode cX6_joined 107 = .ok (.lstore 5, 2) := by decide +kernel
theorem dX6_joined_109 : decode cX6_joined 109 = .ok (.goto 56, 3) := by decide +kernel
theorem dX6_joined_112 : decode cX6_joined 112 = .ok (.lload_n 1, 1) := by decide +kernel
theorem dX6_joined_113 : decode cX6_joined 113 = .ok (.lload_n 3, 1) := by decide +kernel
theorem dX6_joined_114 : decode cX6_joined 114 = .ok (.lcmp, 1) := by decide +kernel
theorem dX6_joined_115 : decode cX6_joined 115 = .ok (.ifCond .ge 7, 3) := by decide +kernel
theorem dX6_joined_118 : decode cX6_joined 118 = .ok (.lconst 1, 1) := by decide +kernel
theorem dX6_joined_119 : decode cX6_joined 119 = .ok (.goto 4, 3) := by decide +kernel
theorem dX6_joined_122 : decode cX6_joined 122 = .ok (.lconst 0, 1) := by decide +kernel
theorem dX6_joined_123 : decode cX6_joined 123 = .ok (.lstore 5, 2) := by decide +kernel
theorem dX6_joined_125 : decode cX6_joined 125 = .ok (.goto 40, 3) := by decide +kernel
theorem dX6_joined_128 : decode cX6_joined 128 = .ok (.lload_n 1, 1) := by decide +kernel
theorem dX6_joined_129 : decode cX6_joined 129 = .ok (.lload_n 3, 1) := by decide +kernel
theorem dX6_joined_130 : decode cX6_joined 130 = .ok (.lcmp, 1) := by decide +kernel
theorem dX6_joined_131 : decode cX6_joined 131 = .ok (.ifCond .le 7, 3) := by decide +kernel
theorem dX6_joined_134 : decode cX6_joined 134 = .ok (.lconst 1, 1) := by decide +kernel
theorem dX6_joined_135 : decode cX6_joined 135 = .ok (.goto 4, 3) := by decide +kernel
theorem dX6_joined_138 : decode cX6_joined 138 = .ok (.lconst 0, 1) := by decide +kernel
theorem dX6_joined_139 : decode cX6_joined 139 = .ok (.lstore 5, 2) := by decide +kernel
theorem dX6_joined_141 : decode cX6_joined 141 = .ok (.goto 24, 3) := by decide +kernel
theorem dX6_joined_144 : decode cX6_joined 144 = .ok (.lload_n 1, 1) := by decide +kernel
theorem dX6_joined_145 : decode cX6_joined 145 = .ok (.lload_n 3, 1) := by decide +kernel
theorem dX6_joined_146 : decode cX6_joined 146 = .ok (.lcmp, 1) := by decide +kernel
theorem dX6_joined_147 : decode cX6_joined 147 = .ok (.ifCond .ne 7, 3) := by decide +kernel
theorem dX6_joined_150 : decode cX6_joined 150 = .ok (.lconst 1, 1) := by decide +kernel
theorem dX6_joined_151 : decode cX6_joined 151 = .ok (.goto 4, 3) := by decide +kernel
theorem dX6_joined_154 : decode cX6_joined 154 = .ok (.lconst 0, 1) := by decide +kernel
theorem dX6_joined_155 : decode cX6_joined 155 = .ok (.lstore 5, 2) := by decide +kernel
theorem dX6_joined_157 : decode cX6_joined 157 = .ok (.goto 8, 3) := by decide +kernel
theorem dX6_joined_160 : decode cX6_joined 160 = .ok (.ldc2_w 37, 3) := by decide +kernel
theorem dX6_joined_163 : decode cX6_joined 163 = .ok (.lstore 5, 2) := by decide +kernel
theorem dX6_joined_165 : decode cX6_joined 165 = .ok (.lload 5, 2) := by decide +kernel
theorem dX6_joined_167 : decode cX6_joined 167 = .ok (.ldc2_w 39, 3) := by decide +kernel
theorem dX6_joined_170 : decode cX6_joined 170 = .ok (.lcmp, 1) := by decide +kernel
theorem dX6_joined_171 : decode cX6_joined 171 = .ok (.ifCond .lt 12, 3) := by decide +kernel
theorem dX6_joined_174 : decode cX6_joined 174 = .ok (.lload 5, 2) := by decide +kernel
theorem dX6_joined_176 : decode cX6_joined 176 = .ok (.ldc2_w 41, 3) := by decide +kernel
theorem dX6_joined_179 : decode cX6_joined 179 = .ok (.lcmp, 1) := by decide +kernel
theorem dX6_joined_180 : decode cX6_joined 180 = .ok (.ifCond .le 8, 3) := by decide +kernel
theorem dX6_joined_183 : decode cX6_joined 183 = .ok (.ldc 28, 2) := by decide +kernel
theorem dX6_joined_185 : decode cX6_joined 185 = .ok (.goto 6, 3) := by decide +kernel
theorem dX6_joined_188 : decode cX6_joined 188 = .ok (.lload 5, 2) := by decide +kernel
theorem dX6_joined_190 : decode cX6_joined 190 = .ok (.l2i, 1) := by decide +kernel
theorem dX6_joined_191 : decode cX6_joined 191 = .ok (.ireturn, 1) := by decide +kernel
def w_X6_joined (a0 a1 a2 : Int) (X : XT) (Q : Int → Prop) : Prop :=
  ∀ J2 : Int → Prop, (∀ (v1 : Int), (R64 v1 ∧ (v1 < (-1000000000) → Q (-2147483648)) ∧ (¬ v1 < (-1000000000) → (v1 ≤ 1000000000 → Q v1) ∧ (¬ v1 ≤ 1000000000 → Q (-2147483648)))) → J2 v1) → R32 a0 ∧ (a0 = 7 → J2 (a1 + a2)) ∧ (a0 = 8 → J2 (a1 - a2)) ∧ (a0 = 9 → J2 (a1 * a2)) ∧ (a0 = 10 → R64 a2 ∧ (¬ a2 = 0 → R64 a1 ∧ (¬ a2 = 0) ∧ (-1000000000000000000 ≤ a1) ∧ J2 (Int.tdiv a1 a2)) ∧ (a2 = 0 → J2 (-2147483648))) ∧ (a0 = 11 → R64 a2 ∧ (¬ a2 = 0 → R64 a1 ∧ (¬ a2 = 0) ∧ (-1000000000000000000 ≤ a1) ∧ J2 (Int.tmod a1 a2)) ∧ (a2 = 0 → J2 (-2147483648))) ∧ (a0 = 12 → R64 a1 ∧ R64 a2 ∧ (a2 ≤ a1 → J2 0) ∧ (¬ a2 ≤ a1 → J2 1)) ∧ (a0 = 13 → R64 a1 ∧ R64 a2 ∧ (a1 ≤ a2 → J2 0) ∧ (¬ a1 ≤ a2 → J2 1)) ∧ (a0 = 14 → R64 a1 ∧ R64 a2 ∧ (¬ a1 = a2 → J2 0) ∧ (a1 = a2 → J2 1)) ∧ (¬ a0 = 7 ∧ ¬ a0 = 8 ∧ ¬ a0 = 9 ∧ ¬ a0 = 10 ∧ ¬ a0 = 11 ∧ ¬ a0 = 12 ∧ ¬ a0 = 13 ∧ ¬ a0 = 14 → J2 (-2147483648))
set_option maxRecDepth 20000 in
theorem so_X6_joined {n : Nat} {h : Nat → sE} {X : XT} {a0 a1 a2 : Int} {Q : Int → Prop} (hn : 115 ≤ n) (hp : Pic X h) (w : w_X6_joined  a0 a1 a2 X Q) : Sp m_X6_joined 0 0 0 [.int (iI a0), .long (jJ a1), .long (jJ a2)] n h (pIr n h Q) := by
  unfold w_X6_joined at w
  refine Sp.ofV (by decide +kernel) (Nat.le_of_ble_eq_true rfl) ?_
  have hf : Fr h h := fun _ _ => rfl
  refine v_iload_n dX6_joined_0 rfl ?_
  replace w := w (fun (v1 : Int) => V (m_X6_joined, 0, 0, 0, n, pIr n h Q, s_G0) 0 0 n h 165 [(5, .long (jJ v1))] []) (by
    intro v1 w
    refine v_lload dX6_joined_165 rfl ?_
    refine v_ldc2I (-1000000000) dX6_joined_167 k_X6_39 rfl ?_
    obtain ⟨q3, w⟩ := w
    refine v_lcmp_ltI (tgt := 183) dX6_joined_170 dX6_joined_171 (by decide) q3.1 q3.2 (by decide) (by decide) (fun c4 => ?_) (fun c4 => ?_)
    · replace w := w.1 c4
      refine v_ldcI (-2147483648) dX6_joined_183 k_X6_28 rfl ?_
      refine v_goto (tgt := 191) dX6_joined_185 (by decide) ?_
      exact v_iret dX6_joined_191 rfl (Nat.zero_le _) (Nat.zero_le _) ⟨rfl, rfl, _, rfl, w⟩
    · replace w := w.2 c4
      refine v_lload dX6_joined_174 rfl ?_
      refine v_ldc2I 1000000000 dX6_joined_176 k_X6_41 rfl ?_
      refine v_lcmp_leI (tgt := 188) dX6_joined_179 dX6_joined_180 (by decide) q3.1 q3.2 (by decide) (by decide) (fun c5 => ?_) (fun c5 => ?_)
      · replace w := w.1 c5
        refine v_lload dX6_joined_188 rfl ?_
        refine v_l2iI dX6_joined_190 ?_
        exact v_iret dX6_joined_191 rfl (Nat.zero_le _) (Nat.zero_le _) ⟨rfl, rfl, _, rfl, w⟩
      · replace w := w.2 c5
        refine v_ldcI (-2147483648) dX6_joined_183 k_X6_28 rfl ?_
        refine v_goto (tgt := 191) dX6_joined_185 (by decide) ?_
        exact v_iret dX6_joined_191 rfl (Nat.zero_le _) (Nat.zero_le _) ⟨rfl, rfl, _, rfl, w⟩
  )
  obtain ⟨q6, w⟩ := w
  by_cases c7 : a0 = 7
  · refine v_tabInI (tgt := 48) 7 dX6_joined_1 c7 (by decide) (by decide) (by decide) (by decide) rfl (by decide) ?_
    replace w := w.1 c7
    refine v_lload_n dX6_joined_48 rfl ?_
    refine v_lload_n dX6_joined_49 rfl ?_
    refine v_laddI dX6_joined_50 ?_
    refine v_lstore dX6_joined_51 (Nat.le_of_ble_eq_true rfl) ?_
    refine v_goto (tgt := 165) dX6_joined_53 (by decide) ?_
    refine v_pick [0] rfl ?_
    exact w
  by_cases c8 : a0 = 8
  · refine v_tabInI (tgt := 56) 8 dX6_joined_1 c8 (by decide) (by decide) (by decide) (by decide) rfl (by decide) ?_
    replace w := w.2.1 c8
    refine v_lload_n dX6_joined_56 rfl ?_
    refine v_lload_n dX6_joined_57 rfl ?_
    refine v_lsubI dX6_joined_58 ?_
    refine v_lstore dX6_joined_59 (Nat.le_of_ble_eq_true rfl) ?_
    refine v_goto (tgt := 165) dX6_joined_61 (by decide) ?_
    refine v_pick [0] rfl ?_
    exact w
  by_cases c9 : a0 = 9
  · refine v_tabInI (tgt := 64) 9 dX6_joined_1 c9 (by decide) (by decide) (by decide) (by decide) rfl (by decide) ?_
    replace w := w.2.2.1 c9
    refine v_lload_n dX6_joined_64 rfl ?_
    refine v_lload_n dX6_joined_65 rfl ?_
    refine v_lmulI dX6_joined_66 ?_
    refine v_lstore dX6_joined_67 (Nat.le_of_ble_eq_true rfl) ?_
    refine v_goto (tgt := 165) dX6_joined_69 (by decide) ?_
    refine v_pick [0] rfl ?_
    exact w
  by_cases c10 : a0 = 10
  · refine v_tabInI (tgt := 72) 10 dX6_joined_1 c10 (by decide) (by decide) (by decide) (by decide) rfl (by decide) ?_
    replace w := w.2.2.2.1 c10
    refine v_lload_n dX6_joined_72 rfl ?_
    refine v_lconstI (w := 0) dX6_joined_73 rfl ?_
    obtain ⟨q11, w⟩ := w
    refine v_lcmp_neI (tgt := 84) dX6_joined_74 dX6_joined_75 (by decide) q11.1 q11.2 (by decide) (by decide) (fun c12 => ?_) (fun c12 => ?_)
    · replace w := w.1 c12
      refine v_lload_n dX6_joined_84 rfl ?_
      refine v_lload_n dX6_joined_85 rfl ?_
      obtain ⟨q13, q14, q15, w⟩ := w
      refine v_ldivT dX6_joined_86 q13 q11 q14 q15 ?_
      refine v_lstore dX6_joined_87 (Nat.le_of_ble_eq_true rfl) ?_
      refine v_goto (tgt := 165) dX6_joined_89 (by decide) ?_
      refine v_pick [0] rfl ?_
      exact w
    · replace w := w.2 c12
      refine v_ldc2I (-2147483648) dX6_joined_78 k_X6_37 rfl ?_
      refine v_goto (tgt := 87) dX6_joined_81 (by decide) ?_
      refine v_lstore dX6_joined_87 (Nat.le_of_ble_eq_true rfl) ?_
      refine v_goto (tgt := 165) dX6_joined_89 (by decide) ?_
      refine v_pick [0] rfl ?_
      exact w
  by_cases c16 : a0 = 11
  · refine v_tabInI (tgt := 92) 11 dX6_joined_1 c16 (by decide) (by decide) (by decide) (by decide) rfl (by decide) ?_
    replace w := w.2.2.2.2.1 c16
    refine v_lload_n dX6_joined_92 rfl ?_
    refine v_lconstI (w := 0) dX6_joined_93 rfl ?_
    obtain ⟨q17, w⟩ := w
    refine v_lcmp_neI (tgt := 104) dX6_joined_94 dX6_joined_95 (by decide) q17.1 q17.2 (by decide) (by decide) (fun c18 => ?_) (fun c18 => ?_)
    · replace w := w.1 c18
      refine v_lload_n dX6_joined_104 rfl ?_
      refine v_lload_n dX6_joined_105 rfl ?_
      obtain ⟨q19, q20, q21, w⟩ := w
      refine v_lremT dX6_joined_106 q19 q17 q20 q21 ?_
      refine v_lstore dX6_joined_107 (Nat.le_of_ble_eq_true rfl) ?_
      refine v_goto (tgt := 165) dX6_joined_109 (by decide) ?_
      refine v_pick [0] rfl ?_
      exact w
    · replace w := w.2 c18
      refine v_ldc2I (-2147483648) dX6_joined_98 k_X6_37 rfl ?_
      refine v_goto (tgt := 107) dX6_joined_101 (by decide) ?_
      refine v_lstore dX6_joined_107 (Nat.le_of_ble_eq_true rfl) ?_
      refine v_goto (tgt := 165) dX6_joined_109 (by decide) ?_
      refine v_pick [0] rfl ?_
      exact w
  by_cases c22 : a0 = 12
  · refine v_tabInI (tgt := 112) 12 dX6_joined_1 c22 (by decide) (by decide) (by decide) (by decide) rfl (by decide) ?_
    replace w := w.2.2.2.2.2.1 c22
    refine v_lload_n dX6_joined_112 rfl ?_
    refine v_lload_n dX6_joined_113 rfl ?_
    obtain ⟨q23, q24, w⟩ := w
    refine v_lcmp_geI (tgt := 122) dX6_joined_114 dX6_joined_115 (by decide) q23.1 q23.2 q24.1 q24.2 (fun c25 => ?_) (fun c25 => ?_)
    · replace w := w.1 c25
      refine v_lconstI (w := 0) dX6_joined_122 rfl ?_
      refine v_lstore dX6_joined_123 (Nat.le_of_ble_eq_true rfl) ?_
      refine v_goto (tgt := 165) dX6_joined_125 (by decide) ?_
      refine v_pick [0] rfl ?_
      exact w
    · replace w := w.2 c25
      refine v_lconstI (w := 1) dX6_joined_118 rfl ?_
      refine v_goto (tgt := 123) dX6_joined_119 (by decide) ?_
      refine v_lstore dX6_joined_123 (Nat.le_of_ble_eq_true rfl) ?_
      refine v_goto (tgt := 165) dX6_joined_125 (by decide) ?_
      refine v_pick [0] rfl ?_
      exact w
  by_cases c26 : a0 = 13
  · refine v_tabInI (tgt := 128) 13 dX6_joined_1 c26 (by decide) (by decide) (by decide) (by decide) rfl (by decide) ?_
    replace w := w.2.2.2.2.2.2.1 c26
    refine v_lload_n dX6_joined_128 rfl ?_
    refine v_lload_n dX6_joined_129 rfl ?_
    obtain ⟨q27, q28, w⟩ := w
    refine v_lcmp_leI (tgt := 138) dX6_joined_130 dX6_joined_131 (by decide) q27.1 q27.2 q28.1 q28.2 (fun c29 => ?_) (fun c29 => ?_)
    · replace w := w.1 c29
      refine v_lconstI (w := 0) dX6_joined_138 rfl ?_
      refine v_lstore dX6_joined_139 (Nat.le_of_ble_eq_true rfl) ?_
      refine v_goto (tgt := 165) dX6_joined_141 (by decide) ?_
      refine v_pick [0] rfl ?_
      exact w
    · replace w := w.2 c29
      refine v_lconstI (w := 1) dX6_joined_134 rfl ?_
      refine v_goto (tgt := 139) dX6_joined_135 (by decide) ?_
      refine v_lstore dX6_joined_139 (Nat.le_of_ble_eq_true rfl) ?_
      refine v_goto (tgt := 165) dX6_joined_141 (by decide) ?_
      refine v_pick [0] rfl ?_
      exact w
  by_cases c30 : a0 = 14
  · refine v_tabInI (tgt := 144) 14 dX6_joined_1 c30 (by decide) (by decide) (by decide) (by decide) rfl (by decide) ?_
    replace w := w.2.2.2.2.2.2.2.1 c30
    refine v_lload_n dX6_joined_144 rfl ?_
    refine v_lload_n dX6_joined_145 rfl ?_
    obtain ⟨q31, q32, w⟩ := w
    refine v_lcmp_neI (tgt := 154) dX6_joined_146 dX6_joined_147 (by decide) q31.1 q31.2 q32.1 q32.2 (fun c33 => ?_) (fun c33 => ?_)
    · replace w := w.1 c33
      refine v_lconstI (w := 0) dX6_joined_154 rfl ?_
      refine v_lstore dX6_joined_155 (Nat.le_of_ble_eq_true rfl) ?_
      refine v_goto (tgt := 165) dX6_joined_157 (by decide) ?_
      refine v_pick [0] rfl ?_
      exact w
    · replace w := w.2 c33
      refine v_lconstI (w := 1) dX6_joined_150 rfl ?_
      refine v_goto (tgt := 155) dX6_joined_151 (by decide) ?_
      refine v_lstore dX6_joined_155 (Nat.le_of_ble_eq_true rfl) ?_
      refine v_goto (tgt := 165) dX6_joined_157 (by decide) ?_
      refine v_pick [0] rfl ?_
      exact w
  replace w := w.2.2.2.2.2.2.2.2 ⟨c7, c8, c9, c10, c16, c22, c26, c30⟩
  refine v_tabOutI (tgt := 160) dX6_joined_1 q6.1 q6.2 (by omega) (by decide) ?_
  refine v_ldc2I (-2147483648) dX6_joined_160 k_X6_37 rfl ?_
  refine v_lstore dX6_joined_163 (Nat.le_of_ble_eq_true rfl) ?_
  refine v_pick [0] rfl ?_
  exact w
theorem dX6_valueOf_0 : decode cX6_valueOf 0 = .ok (.aload_n 1, 1) := by decide +kernel
theorem dX6_valueOf_1 : decode cX6_valueOf 1 = .ok (.getfield 23, 3) := by decide +kernel
theorem dX6_valueOf_4 : decode cX6_valueOf 4 = .ok (.astore_n 3, 1) := by decide +kernel
theorem dX6_valueOf_5 : decode cX6_valueOf 5 = .ok (.iload_n 2, 1) := by decide +kernel
theorem dX6_valueOf_6 : decode cX6_valueOf 6 = .ok (.istore 4, 2) := by decide +kernel
theorem dX6_valueOf_8 : decode cX6_valueOf 8 = .ok (.iconst 0, 1) := by decide +kernel
theorem dX6_valueOf_9 : decode cX6_valueOf 9 = .ok (.istore 5, 2) := by decide +kernel
theorem dX6_valueOf_11 : decode cX6_valueOf 11 = .ok (.iconst 0, 1) := by decide +kernel
theorem dX6_valueOf_12 : decode cX6_valueOf 12 = .ok (.istore 6, 2) := by decide +kernel
theorem dX6_valueOf_14 : decode cX6_valueOf 14 = .ok (.iload 6, 2) := by decide +kernel
theorem dX6_valueOf_16 : decode cX6_valueOf 16 = .ok (.aload_n 3, 1) := by decide +kernel
theorem dX6_valueOf_17 : decode cX6_valueOf 17 = .ok (.arraylength, 1) := by decide +kernel
theorem dX6_valueOf_18 : decode cX6_valueOf 18 = .ok (.if_icmp .ge 260, 3) := by decide +kernel
theorem dX6_valueOf_21 : decode cX6_valueOf 21 = .ok (.iload 4, 2) := by decide +kernel
theorem dX6_valueOf_23 : decode cX6_valueOf 23 = .ok (.ifCond .lt 22, 3) := by decide +kernel
theorem dX6_valueOf_26 : decode cX6_valueOf 26 = .ok (.iload 4, 2) := by decide +kernel
theorem dX6_valueOf_28 : decode cX6_valueOf 28 = .ok (.iconst 1, 1) := by decide +kernel
theorem dX6_valueOf_29 : decode cX6_valueOf 29 = .ok (.iadd, 1) := by decide +kernel
theorem dX6_valueOf_30 : decode cX6_valueOf 30 = .ok (.aload_n 3, 1) := by decide +kernel
theorem dX6_valueOf_31 : decode cX6_valueOf 31 = .ok (.arraylength, 1) := by decide +kernel
theorem dX6_valueOf_32 : decode cX6_valueOf 32 = .ok (.if_icmp .ge 13, 3) := by decide +kernel
theorem dX6_valueOf_35 : decode cX6_valueOf 35 = .ok (.iload 5, 2) := by decide +kernel
theorem dX6_valueOf_37 : decode cX6_valueOf 37 = .ok (.aload_n 0, 1) := by decide +kernel
theorem dX6_valueOf_38 : decode cX6_valueOf 38 = .ok (.getfield 20, 3) := by decide +kernel
theorem dX6_valueOf_41 : decode cX6_valueOf 41 = .ok (.arraylength, 1) := by decide +kernel
theorem dX6_valueOf_42 : decode cX6_valueOf 42 = .ok (.if_icmp .lt 6, 3) := by decide +kernel
theorem dX6_valueOf_45 : decode cX6_valueOf 45 = .ok (.ldc 28, 2) := by decide +kernel
theorem dX6_valueOf_47 : decode cX6_valueOf 47 = .ok (.ireturn, 1) := by decide +kernel
theorem dX6_valueOf_48 : decode cX6_valueOf 48 = .ok (.aload_n 3, 1) := by decide +kernel
theorem dX6_valueOf_49 : decode cX6_valueOf 49 = .ok (.iload 4, 2) := by decide +kernel
theorem dX6_valueOf_51 : decode cX6_valueOf 51 = .ok (.iaload, 1) := by decide +kernel
theorem dX6_valueOf_52 : decode cX6_valueOf 52 = .ok (.istore 7, 2) := by decide +kernel
theorem dX6_valueOf_54 : decode cX6_valueOf 54 = .ok (.aload_n 3, 1) := by decide +kernel
theorem dX6_valueOf_55 : decode cX6_valueOf 55 = .ok (.iload 4, 2) := by decide +kernel
theorem dX6_valueOf_57 : decode cX6_valueOf 57 = .ok (.iconst 1, 1) := by decide +kernel
theorem dX6_valueOf_58 : decode cX6_valueOf 58 = .ok (.iadd, 1) := by decide +kernel
theorem dX6_valueOf_59 : decode cX6_valueOf 59 = .ok (.iaload, 1) := by decide +kernel
theorem dX6_valueOf_60 : decode cX6_valueOf 60 = .ok (.istore 8, 2) := by decide +kernel
theorem dX6_valueOf_62 : decode cX6_valueOf 62 = .ok (.iinc 4 2, 3) := by decide +kernel
theorem dX6_valueOf_65 : decode cX6_valueOf 65 = .ok (.iload 7, 2) := by decide +kernel
theorem dX6_valueOf_67 : decode cX6_valueOf 67 = .ok (.iconst 1, 1) := by decide +kernel
theorem dX6_valueOf_68 : decode cX6_valueOf 68 = .ok (.if_icmp .eq 15, 3) := by decide +kernel
theorem dX6_valueOf_71 : decode cX6_valueOf 71 = .ok (.iload 7, 2) := by decide +kernel
theorem dX6_valueOf_73 : decode cX6_valueOf 73 = .ok (.iconst 2, 1) := by decide +kernel
theorem dX6_valueOf_74 : decode cX6_valueOf 74 = .ok (.if_icmp .eq 9, 3) := by decide +kernel
theorem dX6_valueOf_77 : decode cX6_valueOf 77 = .ok (.iload 7, 2) := by decide +kernel
theorem dX6_valueOf_79 : decode cX6_valueOf 79 = .ok (.iconst 3, 1) := by decide +kernel
theorem dX6_valueOf_80 : decode cX6_valueOf 80 = .ok (.if_icmp .ne 24, 3) := by decide +kernel
theorem dX6_valueOf_83 : decode cX6_valueOf 83 = .ok (.aload_n 0, 1) := by decide +kernel
theorem dX6_valueOf_84 : decode cX6_valueOf 84 = .ok (.getfield 20, 3) := by decide +kernel
theorem dX6_valueOf_87 : decode cX6_valueOf 87 = .ok (.iload 5, 2) := by decide +kernel
theorem dX6_valueOf_89 : decode cX6_valueOf 89 = .ok (.aload_n 0, 1) := by decide +kernel
theorem dX6_valueOf_90 : decode cX6_valueOf 90 = .ok (.iload 7, 2) := by decide +kernel
theorem dX6_valueOf_92 : decode cX6_valueOf 92 = .ok (.iload 8, 2) := by decide +kernel
theorem dX6_valueOf_94 : decode cX6_valueOf 94 = .ok (.invokevirtual 29, 3) := by decide +kernel
theorem dX6_valueOf_97 : decode cX6_valueOf 97 = .ok (.iastore, 1) := by decide +kernel
theorem dX6_valueOf_98 : decode cX6_valueOf 98 = .ok (.iinc 5 1, 3) := by decide +kernel
theorem dX6_valueOf_101 : decode cX6_valueOf 101 = .ok (.goto 171, 3) := by decide +kernel
theorem dX6_valueOf_104 : decode cX6_valueOf 104 = .ok (.iload 5, 2) := by decide +kernel
theorem dX6_valueOf_106 : decode cX6_valueOf 106 = .ok (.iconst 1, 1) := by decide +kernel
theorem dX6_valueOf_107 : decode cX6_valueOf 107 = .ok (.if_icmp .ge 6, 3) := by decide +kernel
theorem dX6_valueOf_110 : decode cX6_valueOf 110 = .ok (.ldc 28, 2) := by decide +kernel
theorem dX6_valueOf_112 : decode cX6_valueOf 112 = .ok (.ireturn, 1) := by decide +kernel
theorem dX6_valueOf_113 : decode cX6_valueOf 113 = .ok (.iload 7, 2) := by decide +kernel
theorem dX6_valueOf_115 : decode cX6_valueOf 115 = .ok (.ifCond .ne 10, 3) := by decide +kernel
theorem dX6_valueOf_118 : decode cX6_valueOf 118 = .ok (.aload_n 0, 1) := by decide +kernel
theorem dX6_valueOf_119 : decode cX6_valueOf 119 = .ok (.getfield 20, 3) := by decide +kernel
theorem dX6_valueOf_122 : decode cX6_valueOf 122 = .ok (.iconst 0, 1) := by decide +kernel
theorem dX6_valueOf_123 : decode cX6_valueOf 123 = .ok (.iaload, 1) := by decide +kernel
theorem dX6_valueOf_124 : decode cX6_valueOf 124 = .ok (.ireturn, 1) := by decide +kernel
theorem dX6_valueOf_125 : decode cX6_valueOf 125 = .ok (.iload 7, 2) := by decide +kernel
theorem dX6_valueOf_127 : decode cX6_valueOf 127 = .ok (.iconst 4, 1) := by decide +kernel
theorem dX6_valueOf_128 : decode cX6_valueOf 128 = .ok (.if_icmp .ne 26, 3) := by decide +kernel
theorem dX6_valueOf_131 : decode cX6_valueOf 131 = .ok (.aload_n 0, 1) := by decide +kernel
theorem dX6_valueOf_132 : decode cX6_valueOf 132 = .ok (.getfield 20, 3) := by decide +kernel
theorem dX6_valueOf_135 : decode cX6_valueOf 135 = .ok (.iload 5, 2) := by decide +kernel
theorem dX6_valueOf_137 : decode cX6_valueOf 137 = .ok (.iconst 1, 1) := by decide +kernel
theorem dX6_valueOf_138 : decode cX6_valueOf 138 = .ok (.isub, 1) := by decide +kernel
theorem dX6_valueOf_139 : decode cX6_valueOf 139 = .ok (.iconst 1, 1) := by decide +kernel
theorem dX6_valueOf_140 : decode cX6_valueOf 140 = .ok (.aload_n 0, 1) := by decide +kernel
theorem dX6_valueOf_141 : decode cX6_valueOf 141 = .ok (.getfield 20, 3) := by decide +kernel
theorem dX6_valueOf_144 : decode cX6_valueOf 144 = .ok (.iload 5, 2) := by decide +kernel
theorem dX6_valueOf_146 : decode cX6_valueOf 146 = .ok (.iconst 1, 1) := by decide +kernel
theorem dX6_valueOf_147 : decode cX6_valueOf 147 = .ok (.isub, 1) := by decide +kernel
theorem dX6_valueOf_148 : decode cX6_valueOf 148 = .ok (.iaload, 1) := by decide +kernel
theorem dX6_valueOf_149 : decode cX6_valueOf 149 = .ok (.isub, 1) := by decide +kernel
theorem dX6_valueOf_150 : decode cX6_valueOf 150 = .ok (.iastore, 1) := by decide +kernel
theorem dX6_valueOf_151 : decode cX6_valueOf 151 = .ok (.goto 121, 3) := by decide +kernel
theorem dX6_valueOf_154 : decode cX6_valueOf 154 = .ok (.iload 7, 2) := by decide +kernel
theorem dX6_valueOf_156 : decode cX6_valueOf 156 = .ok (.iconst 5, 1) := by decide +kernel
theorem dX6_valueOf_157 : decode cX6_valueOf 157 = .ok (.if_icmp .eq 10, 3) := by decide +kernel
theorem dX6_valueOf_160 : decode cX6_valueOf 160 = .ok (.iload 7, 2) := by decide +kernel
theorem dX6_valueOf_162 : decode cX6_valueOf 162 = .ok (.bipush 6, 2) := by decide +kernel
theorem dX6_valueOf_164 : decode cX6_valueOf 164 = .ok (.if_icmp .ne 48, 3) := by decide +kernel
theorem dX6_valueOf_167 : decode cX6_valueOf 167 = .ok (.aload_n 0, 1) := by decide +kernel
theorem dX6_valueOf_168 : decode cX6_valueOf 168 = .ok (.getfield 20, 3) := by decide +kernel
theorem dX6_valueOf_171 : decode cX6_valueOf 171 = .ok (.iload 5, 2) := by decide +kernel
theorem dX6_valueOf_173 : decode cX6_valueOf 173 = .ok (.iconst 1, 1) := by decide +kernel
theorem dX6_valueOf_174 : decode cX6_valueOf 174 = .ok (.isub, 1) := by decide +kernel
theorem dX6_valueOf_175 : decode cX6_valueOf 175 = .ok (.iaload, 1) := by decide +kernel
theorem dX6_valueOf_176 : decode cX6_valueOf 176 = .ok (.iconst 1, 1) := by decide +kernel
theorem dX6_valueOf_177 : decode cX6_valueOf 177 = .ok (.if_icmp .ne 7, 3) := by decide +kernel
theorem dX6_valueOf_180 : decode cX6_valueOf 180 = .ok (.iconst 1, 1) := by decide +kernel
theorem dX6_valueOf_181 : decode cX6_valueOf 181 = .ok (.goto 4, 3) := by decide +kernel
theorem dX6_valueOf_184 : decode cX6_valueOf 184 = .ok (.iconst 0, 1) := by decide +kernel
theorem dX6_valueOf_185 : decode cX6_valueOf 185 = .ok (.iload 7, 2) := by decide +kernel
theorem dX6_valueOf_187 : decode cX6_valueOf 187 = .ok (.iconst 5, 1) := by decide +kernel
theorem dX6_valueOf_188 : decode cX6_valueOf 188 = .ok (.if_icmp .ne 7, 3) := by decide +kernel
theorem dX6_valueOf_191 : decode cX6_valueOf 191 = .ok (.iconst 1, 1) := by decide +kernel
theorem dX6_valueOf_192 : decode cX6_valueOf 192 = .ok (.goto 4, 3) := by decide +kernel
theorem dX6_valueOf_195 : decode cX6_valueOf 195 = .ok (.iconst 0, 1) := by decide +kernel
theorem dX6_valueOf_196 : decode cX6_valueOf 196 = .ok (.if_icmp .ne 10, 3) := by decide +kernel
theorem dX6_valueOf_199 : decode cX6_valueOf 199 = .ok (.iload 8, 2) := by decide +kernel
theorem dX6_valueOf_201 : decode cX6_valueOf 201 = .ok (.istore 4, 2) := by decide +kernel
theorem dX6_valueOf_203 : decode cX6_valueOf 203 = .ok (.goto 69, 3) := by decide +kernel
theorem dX6_valueOf_206 : decode cX6_valueOf 206 = .ok (.iinc 5 (-1), 3) := by decide +kernel
theorem dX6_valueOf_209 : decode cX6_valueOf 209 = .ok (.goto 63, 3) := by decide +kernel
theorem dX6_valueOf_212 : decode cX6_valueOf 212 = .ok (.iload 5, 2) := by decide +kernel
theorem dX6_valueOf_214 : decode cX6_valueOf 214 = .ok (.iconst 2, 1) := by decide +kernel
theorem dX6_valueOf_215 : decode cX6_valueOf 215 = .ok (.if_icmp .ge 6, 3) := by decide +kernel
theorem dX6_valueOf_218 : decode cX6_valueOf 218 = .ok (.ldc 28, 2) := by decide +kernel
theorem dX6_valueOf_220 : decode cX6_valueOf 220 = .ok (.ireturn, 1) := by decide +kernel
theorem dX6_valueOf_221 : decode cX6_valueOf 221 = .ok (.iload 7, 2) := by decide +kernel
theorem dX6_valueOf_223 : decode cX6_valueOf 223 = .ok (.aload_n 0, 1) := by decide +kernel
theorem dX6_valueOf_224 : decode cX6_valueOf 224 = .ok (.getfield 20, 3) := by decide +kernel
theorem dX6_valueOf_227 : decode cX6_valueOf 227 = .ok (.iload 5, 2) := by decide +kernel
theorem dX6_valueOf_229 : decode cX6_valueOf 229 = .ok (.iconst 2, 1) := by decide +kernel
theorem dX6_valueOf_230 : decode cX6_valueOf 230 = .ok (.isub, 1) := by decide +kernel
theorem dX6_valueOf_231 : decode cX6_valueOf 231 = .ok (.iaload, 1) := by decide +kernel
theorem dX6_valueOf_232 : decode cX6_valueOf 232 = .ok (.i2l, 1) := by decide +kernel
theorem dX6_valueOf_233 : decode cX6_valueOf 233 = .ok (.aload_n 0, 1) := by decide +kernel
theorem dX6_valueOf_234 : decode cX6_valueOf 234 = .ok (.getfield 20, 3) := by decide +kernel
theorem dX6_valueOf_237 : decode cX6_valueOf 237 = .ok (.iload 5, 2) := by decide +kernel
theorem dX6_valueOf_239 : decode cX6_valueOf 239 = .ok (.iconst 1, 1) := by decide +kernel
theorem dX6_valueOf_240 : decode cX6_valueOf 240 = .ok (.isub, 1) := by decide +kernel
theorem dX6_valueOf_241 : decode cX6_valueOf 241 = .ok (.iaload, 1) := by decide +kernel
theorem dX6_valueOf_242 : decode cX6_valueOf 242 = .ok (.i2l, 1) := by decide +kernel
theorem dX6_valueOf_243 : decode cX6_valueOf 243 = .ok (.invokestatic 33, 3) := by decide +kernel
theorem dX6_valueOf_246 : decode cX6_valueOf 246 = .ok (.istore 9, 2) := by decide +kernel
theorem dX6_valueOf_248 : decode cX6_valueOf 248 = .ok (.iload 9, 2) := by decide +kernel
theorem dX6_valueOf_250 : decode cX6_valueOf 250 = .ok (.ldc 28, 2) := by decide +kernel
theorem dX6_valueOf_252 : decode cX6_valueOf 252 = .ok (.if_icmp .ne 6, 3) := by decide +kernel
theorem dX6_valueOf_255 : decode cX6_valueOf 255 = .ok (.ldc 28, 2) := by decide +kernel
theorem dX6_valueOf_257 : decode cX6_valueOf 257 = .ok (.ireturn, 1) := by decide +kernel
theorem dX6_valueOf_258 : decode cX6_valueOf 258 = .ok (.iinc 5 (-1), 3) := by decide +kernel
theorem dX6_valueOf_261 : decode cX6_valueOf 261 = .ok (.aload_n 0, 1) := by decide +kernel
theorem dX6_valueOf_262 : decode cX6_valueOf 262 = .ok (.getfield 20, 3) := by decide +kernel
theorem dX6_valueOf_265 : decode cX6_valueOf 265 = .ok (.iload 5, 2) := by decide +kernel
theorem dX6_valueOf_267 : decode cX6_valueOf 267 = .ok (.iconst 1, 1) := by decide +kernel
theorem dX6_valueOf_268 : decode cX6_valueOf 268 = .ok (.isub, 1) := by decide +kernel
theorem dX6_valueOf_269 : decode cX6_valueOf 269 = .ok (.iload 9, 2) := by decide +kernel
theorem dX6_valueOf_271 : decode cX6_valueOf 271 = .ok (.iastore, 1) := by decide +kernel
theorem dX6_valueOf_272 : decode cX6_valueOf 272 = .ok (.iinc 6 1, 3) := by decide +kernel
theorem dX6_valueOf_275 : decode cX6_valueOf 275 = .ok (.goto (-261), 3) := by decide +kernel
theorem dX6_valueOf_278 : decode cX6_valueOf 278 = .ok (.ldc 28, 2) := by decide +kernel
theorem dX6_valueOf_280 : decode cX6_valueOf 280 = .ok (.ireturn, 1) := by decide +kernel
def w_X6_valueOf (zN : Nat) (zg : Int → Int) (ta sb tc : Nat) (a1 : Int) (X : XT) (Q : Int → XT → Prop) : Prop :=
  ∃ (I5 : Int → Int → Int → XT → Prop) (m6 : Int → Int → Int → XT → Nat), I5 a1 0 0 X ∧ ∀ (x1 : Int) (x2 : Int) (x3 : Int) (X4 : XT), I5 x1 x2 x3 X4 → R32 x3 ∧ R32 (zN : Int) ∧ ((zN : Int) ≤ x3 → Q (-2147483648) X4) ∧ (¬ (zN : Int) ≤ x3 → R32 x1 ∧ (x1 < 0 → Q (-2147483648) X4) ∧ (¬ x1 < 0 → R32 (x1 + 1) ∧ ((zN : Int) ≤ (x1 + 1) → Q (-2147483648) X4) ∧ (¬ (zN : Int) ≤ (x1 + 1) → R32 x2 ∧ (x2 < 64 → (0 ≤ x1 ∧ x1 < (zN : Int)) ∧ (0 ≤ (x1 + 1) ∧ (x1 + 1) < (zN : Int)) ∧ ∀ J28 : Prop, ((R32 (zg x1) ∧ R32 (zg (x1 + 1)) ∧ (0 ≤ x2 ∧ x2 < 64) ∧ I5 (x1 + 2) (x2 + 1) (x3 + 1) (x_st X4 tc x2 (ftF (zg x1) (zg (x1 + 1)) (X4 ta) (X4 sb))) ∧ m6 (x1 + 2) (x2 + 1) (x3 + 1) (x_st X4 tc x2 (ftF (zg x1) (zg (x1 + 1)) (X4 ta) (X4 sb))) < m6 x1 x2 x3 X4) → J28) → R32 (zg x1) ∧ ((zg x1) = 1 → J28 ) ∧ (¬ (zg x1) = 1 → ((zg x1) = 2 → J28 ) ∧ (¬ (zg x1) = 2 → (¬ (zg x1) = 3 → (1 ≤ x2 → (¬ (zg x1) = 0 → (¬ (zg x1) = 4 → ∀ J44 : Prop, (((0 ≤ (x2 - 1) ∧ (x2 - 1) < 64) ∧ ∀ J47 : Int → Prop, (∀ (v46 : Int), (∀ J49 : Int → Prop, (∀ (v48 : Int), (R32 v46 ∧ R32 v48 ∧ (¬ v46 = v48 → I5 (x1 + 2) (x2 + (-1)) (x3 + 1) X4 ∧ m6 (x1 + 2) (x2 + (-1)) (x3 + 1) X4 < m6 x1 x2 x3 X4) ∧ (v46 = v48 → I5 (zg (x1 + 1)) x2 (x3 + 1) X4 ∧ m6 (zg (x1 + 1)) x2 (x3 + 1) X4 < m6 x1 x2 x3 X4)) → J49 v48) → (¬ (zg x1) = 5 → J49 0) ∧ ((zg x1) = 5 → J49 1)) → J47 v46) → R32 (X4 tc (x2 - 1)) ∧ (¬ (X4 tc (x2 - 1)) = 1 → J47 0) ∧ ((X4 tc (x2 - 1)) = 1 → J47 1)) → J44) → ((zg x1) = 5 → J44 ) ∧ (¬ (zg x1) = 5 → (¬ (zg x1) = 6 → (2 ≤ x2 → (0 ≤ (x2 - 2) ∧ (x2 - 2) < 64) ∧ R32 (X4 tc (x2 - 2)) ∧ (0 ≤ (x2 - 1) ∧ (x2 - 1) < 64) ∧ R32 (X4 tc (x2 - 1)) ∧ w_X6_joined  (zg x1) (X4 tc (x2 - 2)) (X4 tc (x2 - 1)) X4 (fun (v63 : Int) => R32 v63 ∧ (¬ v63 = (-2147483648) → (0 ≤ ((x2 + (-1)) - 1) ∧ ((x2 + (-1)) - 1) < 64) ∧ I5 (x1 + 2) (x2 + (-1)) (x3 + 1) (x_st X4 tc ((x2 + (-1)) - 1) v63) ∧ m6 (x1 + 2) (x2 + (-1)) (x3 + 1) (x_st X4 tc ((x2 + (-1)) - 1) v63) < m6 x1 x2 x3 X4) ∧ (v63 = (-2147483648) → Q (-2147483648) X4))) ∧ (¬ 2 ≤ x2 → Q (-2147483648) X4)) ∧ ((zg x1) = 6 → J44 ))) ∧ ((zg x1) = 4 → (0 ≤ (x2 - 1) ∧ (x2 - 1) < 64) ∧ I5 (x1 + 2) x2 (x3 + 1) (x_st X4 tc (x2 - 1) (1 - (X4 tc (x2 - 1)))) ∧ m6 (x1 + 2) x2 (x3 + 1) (x_st X4 tc (x2 - 1) (1 - (X4 tc (x2 - 1)))) < m6 x1 x2 x3 X4)) ∧ ((zg x1) = 0 → Q (X4 tc 0) X4)) ∧ (¬ 1 ≤ x2 → Q (-2147483648) X4)) ∧ ((zg x1) = 3 → J28 )))) ∧ (¬ x2 < 64 → Q (-2147483648) X4))))
set_option maxRecDepth 20000 in
theorem so_X6_valueOf_40 {n : Nat} {h : Nat → sE} {X : XT} {a1 : Int} {Q : Int → XT → Prop} {z zh zb zM zN : Nat} {zk zg zf : Int → Int} (hz : zSC 43 n h z zh zb zM zN zk zg zf) (hn : 115 ≤ n) (hp : Pic X h) (w : w_X6_valueOf zN zg 41 42 43 a1 X Q) : Sp m_X6_valueOf 1 0 0 [.ref 40, .ref z, .int (iI a1)] n h (pIw n h Q) := by
  unfold w_X6_valueOf at w
  refine Sp.ofV (by decide +kernel) (Nat.le_of_ble_eq_true rfl) ?_
  have hf : Fz 43 h h := fun _ _ => rfl
  refine v_aload_n dX6_valueOf_0 rfl ?_
  refine v_get dX6_valueOf_1 fl_X6_23 ((hf z hz.2.2.1.1).trans hz.1.1) rfl hz.2.1.1 ?_
  refine v_astore_n dX6_valueOf_4 (Nat.le_of_ble_eq_true rfl) ?_
  refine v_iload_n dX6_valueOf_5 rfl ?_
  refine v_istore dX6_valueOf_6 (Nat.le_of_ble_eq_true rfl) ?_
  refine v_iconstI dX6_valueOf_8 ?_
  refine v_istore dX6_valueOf_9 (Nat.le_of_ble_eq_true rfl) ?_
  refine v_iconstI dX6_valueOf_11 ?_
  refine v_istore dX6_valueOf_12 (Nat.le_of_ble_eq_true rfl) ?_
  refine v_pick [4, 3, 2, 1, 0] rfl ?_
  obtain ⟨I5, m6, wi9, wl8⟩ := w
  have hL10 : ∀ (N13 : Nat) (x1 : Int) (x2 : Int) (x3 : Int) (X4 : XT) (h14 : Nat → sE), m6 x1 x2 x3 X4 < N13 → I5 x1 x2 x3 X4 → Pic X4 h14 → Fz 43 h h14 → V (m_X6_valueOf, 1, 0, 0, n, pIw n h Q, s_G0) 0 0 n h14 14 [(0, .ref 40), (3, .ref zb), (4, .int (iI x1)), (5, .int (iI x2)), (6, .int (iI x3))] [] := by
    intro N13
    induction N13 with
    | zero => intro x1 x2 x3 X4 h14 hm11; exact absurd hm11 (Nat.not_lt_zero _)
    | succ N13 ih7 =>
      intro x1 x2 x3 X4 h14 hm11 hI12 hp15 hf16
      have w := wl8 x1 x2 x3 X4 hI12
      refine v_iload dX6_valueOf_14 rfl ?_
      refine v_aload_n dX6_valueOf_16 rfl ?_
      refine v_alen_aI dX6_valueOf_17 ((hf16 zb hz.2.2.1.2.2).trans hz.1.2.2) hz.2.1.2.2 ?_
      obtain ⟨q17, q18, w⟩ := w
      refine v_icmp_geI (tgt := 278) dX6_valueOf_18 (by decide) q17.1 q17.2 q18.1 q18.2 (fun c19 => ?_) (fun c19 => ?_)
      · replace w := w.1 c19
        refine v_ldcI (-2147483648) dX6_valueOf_278 k_X6_28 rfl ?_
        exact v_iret dX6_valueOf_280 rfl (Nat.zero_le _) (Nat.zero_le _) ⟨rfl, Fz.fr rfl hf16, _, _, rfl, hp15, w⟩
      · replace w := w.2 c19
        refine v_iload dX6_valueOf_21 rfl ?_
        obtain ⟨q20, w⟩ := w
        refine v_if_ltI (tgt := 45) dX6_valueOf_23 (by decide) q20.1 q20.2 (fun c21 => ?_) (fun c21 => ?_)
        · replace w := w.1 c21
          refine v_ldcI (-2147483648) dX6_valueOf_45 k_X6_28 rfl ?_
          exact v_iret dX6_valueOf_47 rfl (Nat.zero_le _) (Nat.zero_le _) ⟨rfl, Fz.fr rfl hf16, _, _, rfl, hp15, w⟩
        · replace w := w.2 c21
          refine v_iload dX6_valueOf_26 rfl ?_
          refine v_iconstI dX6_valueOf_28 ?_
          refine v_iaddI dX6_valueOf_29 ?_
          refine v_aload_n dX6_valueOf_30 rfl ?_
          refine v_alen_aI dX6_valueOf_31 ((hf16 zb hz.2.2.1.2.2).trans hz.1.2.2) hz.2.1.2.2 ?_
          obtain ⟨q22, w⟩ := w
          refine v_icmp_geI (tgt := 45) dX6_valueOf_32 (by decide) q22.1 q22.2 q18.1 q18.2 (fun c23 => ?_) (fun c23 => ?_)
          · replace w := w.1 c23
            refine v_ldcI (-2147483648) dX6_valueOf_45 k_X6_28 rfl ?_
            exact v_iret dX6_valueOf_47 rfl (Nat.zero_le _) (Nat.zero_le _) ⟨rfl, Fz.fr rfl hf16, _, _, rfl, hp15, w⟩
          · replace w := w.2 c23
            refine v_iload dX6_valueOf_35 rfl ?_
            refine v_aload_n dX6_valueOf_37 rfl ?_
            refine v_get dX6_valueOf_38 fl_X6_20 ((hp15 40 (by decide)).trans (ent_40 _)) rfl (s_lt hn rfl) ?_
            refine v_alen_aI dX6_valueOf_41 ((hp15 43 (by decide)).trans (ent_43 _)) (s_lt hn rfl) ?_
            obtain ⟨q24, w⟩ := w
            refine v_icmp_ltI (tgt := 48) dX6_valueOf_42 (by decide) q24.1 q24.2 (by decide) (by decide) (fun c25 => ?_) (fun c25 => ?_)
            · replace w := w.1 c25
              refine v_aload_n dX6_valueOf_48 rfl ?_
              refine v_iload dX6_valueOf_49 rfl ?_
              obtain ⟨q26, w⟩ := w
              refine v_ialdI dX6_valueOf_51 ((hf16 zb hz.2.2.1.2.2).trans hz.1.2.2) hz.2.1.2.2 q26.1 q26.2 (zSC_le q26.2 hz.2.2.2.2) ?_
              refine v_istore dX6_valueOf_52 (Nat.le_of_ble_eq_true rfl) ?_
              refine v_aload_n dX6_valueOf_54 rfl ?_
              refine v_iload dX6_valueOf_55 rfl ?_
              refine v_iconstI dX6_valueOf_57 ?_
              refine v_iaddI dX6_valueOf_58 ?_
              obtain ⟨q27, w⟩ := w
              refine v_ialdI dX6_valueOf_59 ((hf16 zb hz.2.2.1.2.2).trans hz.1.2.2) hz.2.1.2.2 q27.1 q27.2 (zSC_le q27.2 hz.2.2.2.2) ?_
              refine v_istore dX6_valueOf_60 (Nat.le_of_ble_eq_true rfl) ?_
              refine v_iincI dX6_valueOf_62 rfl (Nat.le_of_ble_eq_true rfl) ?_
              refine v_iload dX6_valueOf_65 rfl ?_
              refine v_iconstI dX6_valueOf_67 ?_
              replace w := w (V (m_X6_valueOf, 1, 0, 0, n, pIw n h Q, s_G0) 0 0 n h14 83 [(0, .ref 40), (3, .ref zb), (4, .int (iI (x1 + 2))), (5, .int (iI x2)), (6, .int (iI x3)), (7, .int (iI (zg x1))), (8, .int (iI (zg (x1 + 1))))] []) (by
                intro  w
                refine v_aload_n dX6_valueOf_83 rfl ?_
                refine v_get dX6_valueOf_84 fl_X6_20 ((hp15 40 (by decide)).trans (ent_40 _)) rfl (s_lt hn rfl) ?_
                refine v_iload dX6_valueOf_87 rfl ?_
                refine v_aload_n dX6_valueOf_89 rfl ?_
                refine v_iload dX6_valueOf_90 rfl ?_
                refine v_iload dX6_valueOf_92 rfl ?_
                obtain ⟨q29, q30, w⟩ := w
                refine v_callVp dX6_valueOf_94 ml_X6_29 (sv_X6_fetched_40 (a := (zg x1)) (b := (zg (x1 + 1))) (g40 := X4 40) (g41 := X4 41) (g42 := X4 42) hn (hp15 40 (by decide)) (hp15 41 (by decide)) (hp15 42 (by decide)) q29 q30) ((hp15 40 (by decide)).trans (ent_40 _)) rfl (s_lt hn rfl) rfl rfl (Nat.le_of_ble_eq_true rfl) (Nat.le_of_ble_eq_true rfl) (Nat.zero_le _) (Nat.zero_le _) ?_
                obtain ⟨q31, w⟩ := w
                refine v_iastI dX6_valueOf_97 ((hp15 43 (by decide)).trans (ent_43 _)) (s_lt hn rfl) q31.1 q31.2 (ix_le q31.2 (by decide)) (fun h32 E33 F34 => ?_)
                have hp35 := pic_st hp15 (show h32 43 = ent 43 (uI _ x2 (ftF (zg x1) (zg (x1 + 1)) (X4 41) (X4 42))) from E33) F34
                have hf36 := Fz.up hf16 F34
                refine v_iincI dX6_valueOf_98 rfl (Nat.le_of_ble_eq_true rfl) ?_
                refine v_goto (tgt := 272) dX6_valueOf_101 (by decide) ?_
                refine v_iincI dX6_valueOf_272 rfl (Nat.le_of_ble_eq_true rfl) ?_
                refine v_goto (tgt := 14) dX6_valueOf_275 (by decide) ?_
                refine v_pick [2, 3, 4, 1, 0] rfl ?_
                exact ih7 _ _ _ _ _ (Nat.lt_of_lt_of_le w.2 (Nat.le_of_lt_succ hm11)) w.1 hp35 hf36
              )
              obtain ⟨q37, w⟩ := w
              refine v_icmp_eqI (tgt := 83) dX6_valueOf_68 (by decide) q37.1 q37.2 (by decide) (by decide) (fun c38 => ?_) (fun c38 => ?_)
              · replace w := w.1 c38
                refine v_pick [3, 4, 0, 5, 6, 2, 1] rfl ?_
                exact w
              · replace w := w.2 c38
                refine v_iload dX6_valueOf_71 rfl ?_
                refine v_iconstI dX6_valueOf_73 ?_
                refine v_icmp_eqI (tgt := 83) dX6_valueOf_74 (by decide) q37.1 q37.2 (by decide) (by decide) (fun c39 => ?_) (fun c39 => ?_)
                · replace w := w.1 c39
                  refine v_pick [3, 4, 0, 5, 6, 2, 1] rfl ?_
                  exact w
                · replace w := w.2 c39
                  refine v_iload dX6_valueOf_77 rfl ?_
                  refine v_iconstI dX6_valueOf_79 ?_
                  refine v_icmp_neI (tgt := 104) dX6_valueOf_80 (by decide) q37.1 q37.2 (by decide) (by decide) (fun c40 => ?_) (fun c40 => ?_)
                  · replace w := w.1 c40
                    refine v_iload dX6_valueOf_104 rfl ?_
                    refine v_iconstI dX6_valueOf_106 ?_
                    refine v_icmp_geI (tgt := 113) dX6_valueOf_107 (by decide) q24.1 q24.2 (by decide) (by decide) (fun c41 => ?_) (fun c41 => ?_)
                    · replace w := w.1 c41
                      refine v_iload dX6_valueOf_113 rfl ?_
                      refine v_if_neI (tgt := 125) dX6_valueOf_115 (by decide) q37.1 q37.2 (fun c42 => ?_) (fun c42 => ?_)
                      · replace w := w.1 c42
                        refine v_iload dX6_valueOf_125 rfl ?_
                        refine v_iconstI dX6_valueOf_127 ?_
                        refine v_icmp_neI (tgt := 154) dX6_valueOf_128 (by decide) q37.1 q37.2 (by decide) (by decide) (fun c43 => ?_) (fun c43 => ?_)
                        · replace w := w.1 c43
                          refine v_iload dX6_valueOf_154 rfl ?_
                          refine v_iconstI dX6_valueOf_156 ?_
                          replace w := w (V (m_X6_valueOf, 1, 0, 0, n, pIw n h Q, s_G0) 0 0 n h14 167 [(0, .ref 40), (3, .ref zb), (4, .int (iI (x1 + 2))), (5, .int (iI x2)), (6, .int (iI x3)), (7, .int (iI (zg x1))), (8, .int (iI (zg (x1 + 1))))] []) (by
                            intro  w
                            refine v_aload_n dX6_valueOf_167 rfl ?_
                            refine v_get dX6_valueOf_168 fl_X6_20 ((hp15 40 (by decide)).trans (ent_40 _)) rfl (s_lt hn rfl) ?_
                            refine v_iload dX6_valueOf_171 rfl ?_
                            refine v_iconstI dX6_valueOf_173 ?_
                            refine v_isubI dX6_valueOf_174 ?_
                            obtain ⟨q45, w⟩ := w
                            refine v_ialdI dX6_valueOf_175 ((hp15 43 (by decide)).trans (ent_43 _)) (s_lt hn rfl) q45.1 q45.2 (ix_le q45.2 (by decide)) ?_
                            refine v_iconstI dX6_valueOf_176 ?_
                            replace w := w (fun (v46 : Int) => V (m_X6_valueOf, 1, 0, 0, n, pIw n h Q, s_G0) 0 0 n h14 185 [(0, .ref 40), (3, .ref zb), (4, .int (iI (x1 + 2))), (5, .int (iI x2)), (6, .int (iI x3)), (7, .int (iI (zg x1))), (8, .int (iI (zg (x1 + 1))))] [.int (iI v46)]) (by
                              intro v46 w
                              refine v_iload dX6_valueOf_185 rfl ?_
                              refine v_iconstI dX6_valueOf_187 ?_
                              replace w := w (fun (v48 : Int) => V (m_X6_valueOf, 1, 0, 0, n, pIw n h Q, s_G0) 0 0 n h14 196 [(0, .ref 40), (3, .ref zb), (4, .int (iI (x1 + 2))), (5, .int (iI x2)), (6, .int (iI x3)), (8, .int (iI (zg (x1 + 1))))] [.int (iI v48), .int (iI v46)]) (by
                                intro v48 w
                                obtain ⟨q50, q51, w⟩ := w
                                refine v_icmp_neI (tgt := 206) dX6_valueOf_196 (by decide) q50.1 q50.2 q51.1 q51.2 (fun c52 => ?_) (fun c52 => ?_)
                                · replace w := w.1 c52
                                  refine v_iincI dX6_valueOf_206 rfl (Nat.le_of_ble_eq_true rfl) ?_
                                  refine v_goto (tgt := 272) dX6_valueOf_209 (by decide) ?_
                                  refine v_iincI dX6_valueOf_272 rfl (Nat.le_of_ble_eq_true rfl) ?_
                                  refine v_goto (tgt := 14) dX6_valueOf_275 (by decide) ?_
                                  refine v_pick [2, 3, 4, 1, 0] rfl ?_
                                  exact ih7 _ _ _ _ _ (Nat.lt_of_lt_of_le w.2 (Nat.le_of_lt_succ hm11)) w.1 hp15 hf16
                                · replace w := w.2 c52
                                  refine v_iload dX6_valueOf_199 rfl ?_
                                  refine v_istore dX6_valueOf_201 (Nat.le_of_ble_eq_true rfl) ?_
                                  refine v_goto (tgt := 272) dX6_valueOf_203 (by decide) ?_
                                  refine v_iincI dX6_valueOf_272 rfl (Nat.le_of_ble_eq_true rfl) ?_
                                  refine v_goto (tgt := 14) dX6_valueOf_275 (by decide) ?_
                                  refine v_pick [2, 3, 1, 4, 0] rfl ?_
                                  exact ih7 _ _ _ _ _ (Nat.lt_of_lt_of_le w.2 (Nat.le_of_lt_succ hm11)) w.1 hp15 hf16
                              )
                              refine v_icmp_neI (tgt := 195) dX6_valueOf_188 (by decide) q37.1 q37.2 (by decide) (by decide) (fun c53 => ?_) (fun c53 => ?_)
                              · replace w := w.1 c53
                                refine v_iconstI dX6_valueOf_195 ?_
                                refine v_pick [0, 1, 2, 3, 4, 6] rfl ?_
                                exact w
                              · replace w := w.2 c53
                                refine v_iconstI dX6_valueOf_191 ?_
                                refine v_goto (tgt := 196) dX6_valueOf_192 (by decide) ?_
                                refine v_pick [0, 1, 2, 3, 4, 6] rfl ?_
                                exact w
                            )
                            obtain ⟨q54, w⟩ := w
                            refine v_icmp_neI (tgt := 184) dX6_valueOf_177 (by decide) q54.1 q54.2 (by decide) (by decide) (fun c55 => ?_) (fun c55 => ?_)
                            · replace w := w.1 c55
                              refine v_iconstI dX6_valueOf_184 ?_
                              exact w
                            · replace w := w.2 c55
                              refine v_iconstI dX6_valueOf_180 ?_
                              refine v_goto (tgt := 185) dX6_valueOf_181 (by decide) ?_
                              exact w
                          )
                          refine v_icmp_eqI (tgt := 167) dX6_valueOf_157 (by decide) q37.1 q37.2 (by decide) (by decide) (fun c56 => ?_) (fun c56 => ?_)
                          · replace w := w.1 c56
                            refine v_pick [3, 4, 0, 5, 6, 2, 1] rfl ?_
                            exact w
                          · replace w := w.2 c56
                            refine v_iload dX6_valueOf_160 rfl ?_
                            refine v_bipushI dX6_valueOf_162 rfl ?_
                            refine v_icmp_neI (tgt := 212) dX6_valueOf_164 (by decide) q37.1 q37.2 (by decide) (by decide) (fun c57 => ?_) (fun c57 => ?_)
                            · replace w := w.1 c57
                              refine v_iload dX6_valueOf_212 rfl ?_
                              refine v_iconstI dX6_valueOf_214 ?_
                              refine v_icmp_geI (tgt := 221) dX6_valueOf_215 (by decide) q24.1 q24.2 (by decide) (by decide) (fun c58 => ?_) (fun c58 => ?_)
                              · replace w := w.1 c58
                                refine v_iload dX6_valueOf_221 rfl ?_
                                refine v_aload_n dX6_valueOf_223 rfl ?_
                                refine v_get dX6_valueOf_224 fl_X6_20 ((hp15 40 (by decide)).trans (ent_40 _)) rfl (s_lt hn rfl) ?_
                                refine v_iload dX6_valueOf_227 rfl ?_
                                refine v_iconstI dX6_valueOf_229 ?_
                                refine v_isubI dX6_valueOf_230 ?_
                                obtain ⟨q59, w⟩ := w
                                refine v_ialdI dX6_valueOf_231 ((hp15 43 (by decide)).trans (ent_43 _)) (s_lt hn rfl) q59.1 q59.2 (ix_le q59.2 (by decide)) ?_
                                obtain ⟨q60, w⟩ := w
                                refine v_i2lI dX6_valueOf_232 q60.1 q60.2 ?_
                                refine v_aload_n dX6_valueOf_233 rfl ?_
                                refine v_get dX6_valueOf_234 fl_X6_20 ((hp15 40 (by decide)).trans (ent_40 _)) rfl (s_lt hn rfl) ?_
                                refine v_iload dX6_valueOf_237 rfl ?_
                                refine v_iconstI dX6_valueOf_239 ?_
                                refine v_isubI dX6_valueOf_240 ?_
                                obtain ⟨q61, w⟩ := w
                                refine v_ialdI dX6_valueOf_241 ((hp15 43 (by decide)).trans (ent_43 _)) (s_lt hn rfl) q61.1 q61.2 (ix_le q61.2 (by decide)) ?_
                                obtain ⟨q62, w⟩ := w
                                refine v_i2lI dX6_valueOf_242 q62.1 q62.2 ?_
                                refine v_callSIr dX6_valueOf_243 ml_X6_33 (so_X6_joined hn hp15  w) rfl rfl (Nat.le_of_ble_eq_true rfl) (Nat.le_of_ble_eq_true rfl) (Nat.zero_le _) (Nat.zero_le _) (fun v63 w => ?_)
                                refine v_istore dX6_valueOf_246 (Nat.le_of_ble_eq_true rfl) ?_
                                refine v_iload dX6_valueOf_248 rfl ?_
                                refine v_ldcI (-2147483648) dX6_valueOf_250 k_X6_28 rfl ?_
                                obtain ⟨q69, w⟩ := w
                                refine v_icmp_neI (tgt := 258) dX6_valueOf_252 (by decide) q69.1 q69.2 (by decide) (by decide) (fun c70 => ?_) (fun c70 => ?_)
                                · replace w := w.1 c70
                                  refine v_iincI dX6_valueOf_258 rfl (Nat.le_of_ble_eq_true rfl) ?_
                                  refine v_aload_n dX6_valueOf_261 rfl ?_
                                  refine v_get dX6_valueOf_262 fl_X6_20 ((hp15 40 (by decide)).trans (ent_40 _)) rfl (s_lt hn rfl) ?_
                                  refine v_iload dX6_valueOf_265 rfl ?_
                                  refine v_iconstI dX6_valueOf_267 ?_
                                  refine v_isubI dX6_valueOf_268 ?_
                                  refine v_iload dX6_valueOf_269 rfl ?_
                                  obtain ⟨q71, w⟩ := w
                                  refine v_iastI dX6_valueOf_271 ((hp15 43 (by decide)).trans (ent_43 _)) (s_lt hn rfl) q71.1 q71.2 (ix_le q71.2 (by decide)) (fun h72 E73 F74 => ?_)
                                  have hp75 := pic_st hp15 (show h72 43 = ent 43 (uI _ ((x2 + (-1)) - 1) v63) from E73) F74
                                  have hf76 := Fz.up hf16 F74
                                  refine v_iincI dX6_valueOf_272 rfl (Nat.le_of_ble_eq_true rfl) ?_
                                  refine v_goto (tgt := 14) dX6_valueOf_275 (by decide) ?_
                                  refine v_pick [6, 7, 3, 1, 0] rfl ?_
                                  exact ih7 _ _ _ _ _ (Nat.lt_of_lt_of_le w.2 (Nat.le_of_lt_succ hm11)) w.1 hp75 hf76
                                · replace w := w.2 c70
                                  refine v_ldcI (-2147483648) dX6_valueOf_255 k_X6_28 rfl ?_
                                  exact v_iret dX6_valueOf_257 rfl (Nat.zero_le _) (Nat.zero_le _) ⟨rfl, Fz.fr rfl hf16, _, _, rfl, hp15, w⟩
                              · replace w := w.2 c58
                                refine v_ldcI (-2147483648) dX6_valueOf_218 k_X6_28 rfl ?_
                                exact v_iret dX6_valueOf_220 rfl (Nat.zero_le _) (Nat.zero_le _) ⟨rfl, Fz.fr rfl hf16, _, _, rfl, hp15, w⟩
                            · replace w := w.2 c57
                              refine v_pick [3, 4, 0, 5, 6, 2, 1] rfl ?_
                              exact w
                        · replace w := w.2 c43
                          refine v_aload_n dX6_valueOf_131 rfl ?_
                          refine v_get dX6_valueOf_132 fl_X6_20 ((hp15 40 (by decide)).trans (ent_40 _)) rfl (s_lt hn rfl) ?_
                          refine v_iload dX6_valueOf_135 rfl ?_
                          refine v_iconstI dX6_valueOf_137 ?_
                          refine v_isubI dX6_valueOf_138 ?_
                          refine v_iconstI dX6_valueOf_139 ?_
                          refine v_aload_n dX6_valueOf_140 rfl ?_
                          refine v_get dX6_valueOf_141 fl_X6_20 ((hp15 40 (by decide)).trans (ent_40 _)) rfl (s_lt hn rfl) ?_
                          refine v_iload dX6_valueOf_144 rfl ?_
                          refine v_iconstI dX6_valueOf_146 ?_
                          refine v_isubI dX6_valueOf_147 ?_
                          obtain ⟨q77, w⟩ := w
                          refine v_ialdI dX6_valueOf_148 ((hp15 43 (by decide)).trans (ent_43 _)) (s_lt hn rfl) q77.1 q77.2 (ix_le q77.2 (by decide)) ?_
                          refine v_isubI dX6_valueOf_149 ?_
                          refine v_iastI dX6_valueOf_150 ((hp15 43 (by decide)).trans (ent_43 _)) (s_lt hn rfl) q77.1 q77.2 (ix_le q77.2 (by decide)) (fun h78 E79 F80 => ?_)
                          have hp81 := pic_st hp15 (show h78 43 = ent 43 (uI _ (x2 - 1) (1 - (X4 43 (x2 - 1)))) from E79) F80
                          have hf82 := Fz.up hf16 F80
                          refine v_goto (tgt := 272) dX6_valueOf_151 (by decide) ?_
                          refine v_iincI dX6_valueOf_272 rfl (Nat.le_of_ble_eq_true rfl) ?_
                          refine v_goto (tgt := 14) dX6_valueOf_275 (by decide) ?_
                          refine v_pick [4, 5, 1, 6, 0] rfl ?_
                          exact ih7 _ _ _ _ _ (Nat.lt_of_lt_of_le w.2 (Nat.le_of_lt_succ hm11)) w.1 hp81 hf82
                      · replace w := w.2 c42
                        refine v_aload_n dX6_valueOf_118 rfl ?_
                        refine v_get dX6_valueOf_119 fl_X6_20 ((hp15 40 (by decide)).trans (ent_40 _)) rfl (s_lt hn rfl) ?_
                        refine v_iconstI dX6_valueOf_122 ?_
                        refine v_ialdI dX6_valueOf_123 ((hp15 43 (by decide)).trans (ent_43 _)) (s_lt hn rfl) (by decide) (by decide) (by decide) ?_
                        exact v_iret dX6_valueOf_124 rfl (Nat.zero_le _) (Nat.zero_le _) ⟨rfl, Fz.fr rfl hf16, _, _, rfl, hp15, w⟩
                    · replace w := w.2 c41
                      refine v_ldcI (-2147483648) dX6_valueOf_110 k_X6_28 rfl ?_
                      exact v_iret dX6_valueOf_112 rfl (Nat.zero_le _) (Nat.zero_le _) ⟨rfl, Fz.fr rfl hf16, _, _, rfl, hp15, w⟩
                  · replace w := w.2 c40
                    refine v_pick [3, 4, 0, 5, 6, 2, 1] rfl ?_
                    exact w
            · replace w := w.2 c25
              refine v_ldcI (-2147483648) dX6_valueOf_45 k_X6_28 rfl ?_
              exact v_iret dX6_valueOf_47 rfl (Nat.zero_le _) (Nat.zero_le _) ⟨rfl, Fz.fr rfl hf16, _, _, rfl, hp15, w⟩
  exact hL10 _ _ _ _ _ _ (Nat.lt_succ_self _) wi9 hp hf
set_option maxRecDepth 20000 in
theorem so_X6_valueOf_45 {n : Nat} {h : Nat → sE} {X : XT} {a1 : Int} {Q : Int → XT → Prop} {z zh zb zM zN : Nat} {zk zg zf : Int → Int} (hz : zSC 48 n h z zh zb zM zN zk zg zf) (hn : 115 ≤ n) (hp : Pic X h) (w : w_X6_valueOf zN zg 46 47 48 a1 X Q) : Sp m_X6_valueOf 1 0 0 [.ref 45, .ref z, .int (iI a1)] n h (pIw n h Q) := by
  unfold w_X6_valueOf at w
  refine Sp.ofV (by decide +kernel) (Nat.le_of_ble_eq_true rfl) ?_
  have hf : Fz 48 h h := fun _ _ => rfl
  refine v_aload_n dX6_valueOf_0 rfl ?_
  refine v_get dX6_valueOf_1 fl_X6_23 ((hf z hz.2.2.1.1).trans hz.1.1) rfl hz.2.1.1 ?_
  refine v_astore_n dX6_valueOf_4 (Nat.le_of_ble_eq_true rfl) ?_
  refine v_iload_n dX6_valueOf_5 rfl ?_
  refine v_istore dX6_valueOf_6 (Nat.le_of_ble_eq_true rfl) ?_
  refine v_iconstI dX6_valueOf_8 ?_
  refine v_istore dX6_valueOf_9 (Nat.le_of_ble_eq_true rfl) ?_
  refine v_iconstI dX6_valueOf_11 ?_
  refine v_istore dX6_valueOf_12 (Nat.le_of_ble_eq_true rfl) ?_
  refine v_pick [4, 3, 2, 1, 0] rfl ?_
  obtain ⟨I5, m6, wi9, wl8⟩ := w
  have hL10 : ∀ (N13 : Nat) (x1 : Int) (x2 : Int) (x3 : Int) (X4 : XT) (h14 : Nat → sE), m6 x1 x2 x3 X4 < N13 → I5 x1 x2 x3 X4 → Pic X4 h14 → Fz 48 h h14 → V (m_X6_valueOf, 1, 0, 0, n, pIw n h Q, s_G0) 0 0 n h14 14 [(0, .ref 45), (3, .ref zb), (4, .int (iI x1)), (5, .int (iI x2)), (6, .int (iI x3))] [] := by
    intro N13
    induction N13 with
    | zero => intro x1 x2 x3 X4 h14 hm11; exact absurd hm11 (Nat.not_lt_zero _)
    | succ N13 ih7 =>
      intro x1 x2 x3 X4 h14 hm11 hI12 hp15 hf16
      have w := wl8 x1 x2 x3 X4 hI12
      refine v_iload dX6_valueOf_14 rfl ?_
      refine v_aload_n dX6_valueOf_16 rfl ?_
      refine v_alen_aI dX6_valueOf_17 ((hf16 zb hz.2.2.1.2.2).trans hz.1.2.2) hz.2.1.2.2 ?_
      obtain ⟨q17, q18, w⟩ := w
      refine v_icmp_geI (tgt := 278) dX6_valueOf_18 (by decide) q17.1 q17.2 q18.1 q18.2 (fun c19 => ?_) (fun c19 => ?_)
      · replace w := w.1 c19
        refine v_ldcI (-2147483648) dX6_valueOf_278 k_X6_28 rfl ?_
        exact v_iret dX6_valueOf_280 rfl (Nat.zero_le _) (Nat.zero_le _) ⟨rfl, Fz.fr rfl hf16, _, _, rfl, hp15, w⟩
      · replace w := w.2 c19
        refine v_iload dX6_valueOf_21 rfl ?_
        obtain ⟨q20, w⟩ := w
        refine v_if_ltI (tgt := 45) dX6_valueOf_23 (by decide) q20.1 q20.2 (fun c21 => ?_) (fun c21 => ?_)
        · replace w := w.1 c21
          refine v_ldcI (-2147483648) dX6_valueOf_45 k_X6_28 rfl ?_
          exact v_iret dX6_valueOf_47 rfl (Nat.zero_le _) (Nat.zero_le _) ⟨rfl, Fz.fr rfl hf16, _, _, rfl, hp15, w⟩
        · replace w := w.2 c21
          refine v_iload dX6_valueOf_26 rfl ?_
          refine v_iconstI dX6_valueOf_28 ?_
          refine v_iaddI dX6_valueOf_29 ?_
          refine v_aload_n dX6_valueOf_30 rfl ?_
          refine v_alen_aI dX6_valueOf_31 ((hf16 zb hz.2.2.1.2.2).trans hz.1.2.2) hz.2.1.2.2 ?_
          obtain ⟨q22, w⟩ := w
          refine v_icmp_geI (tgt := 45) dX6_valueOf_32 (by decide) q22.1 q22.2 q18.1 q18.2 (fun c23 => ?_) (fun c23 => ?_)
          · replace w := w.1 c23
            refine v_ldcI (-2147483648) dX6_valueOf_45 k_X6_28 rfl ?_
            exact v_iret dX6_valueOf_47 rfl (Nat.zero_le _) (Nat.zero_le _) ⟨rfl, Fz.fr rfl hf16, _, _, rfl, hp15, w⟩
          · replace w := w.2 c23
            refine v_iload dX6_valueOf_35 rfl ?_
            refine v_aload_n dX6_valueOf_37 rfl ?_
            refine v_get dX6_valueOf_38 fl_X6_20 ((hp15 45 (by decide)).trans (ent_45 _)) rfl (s_lt hn rfl) ?_
            refine v_alen_aI dX6_valueOf_41 ((hp15 48 (by decide)).trans (ent_48 _)) (s_lt hn rfl) ?_
            obtain ⟨q24, w⟩ := w
            refine v_icmp_ltI (tgt := 48) dX6_valueOf_42 (by decide) q24.1 q24.2 (by decide) (by decide) (fun c25 => ?_) (fun c25 => ?_)
            · replace w := w.1 c25
              refine v_aload_n dX6_valueOf_48 rfl ?_
              refine v_iload dX6_valueOf_49 rfl ?_
              obtain ⟨q26, w⟩ := w
              refine v_ialdI dX6_valueOf_51 ((hf16 zb hz.2.2.1.2.2).trans hz.1.2.2) hz.2.1.2.2 q26.1 q26.2 (zSC_le q26.2 hz.2.2.2.2) ?_
              refine v_istore dX6_valueOf_52 (Nat.le_of_ble_eq_true rfl) ?_
              refine v_aload_n dX6_valueOf_54 rfl ?_
              refine v_iload dX6_valueOf_55 rfl ?_
              refine v_iconstI dX6_valueOf_57 ?_
              refine v_iaddI dX6_valueOf_58 ?_
              obtain ⟨q27, w⟩ := w
              refine v_ialdI dX6_valueOf_59 ((hf16 zb hz.2.2.1.2.2).trans hz.1.2.2) hz.2.1.2.2 q27.1 q27.2 (zSC_le q27.2 hz.2.2.2.2) ?_
              refine v_istore dX6_valueOf_60 (Nat.le_of_ble_eq_true rfl) ?_
              refine v_iincI dX6_valueOf_62 rfl (Nat.le_of_ble_eq_true rfl) ?_
              refine v_iload dX6_valueOf_65 rfl ?_
              refine v_iconstI dX6_valueOf_67 ?_
              replace w := w (V (m_X6_valueOf, 1, 0, 0, n, pIw n h Q, s_G0) 0 0 n h14 83 [(0, .ref 45), (3, .ref zb), (4, .int (iI (x1 + 2))), (5, .int (iI x2)), (6, .int (iI x3)), (7, .int (iI (zg x1))), (8, .int (iI (zg (x1 + 1))))] []) (by
                intro  w
                refine v_aload_n dX6_valueOf_83 rfl ?_
                refine v_get dX6_valueOf_84 fl_X6_20 ((hp15 45 (by decide)).trans (ent_45 _)) rfl (s_lt hn rfl) ?_
                refine v_iload dX6_valueOf_87 rfl ?_
                refine v_aload_n dX6_valueOf_89 rfl ?_
                refine v_iload dX6_valueOf_90 rfl ?_
                refine v_iload dX6_valueOf_92 rfl ?_
                obtain ⟨q29, q30, w⟩ := w
                refine v_callVp dX6_valueOf_94 ml_X6_29 (sv_X6_fetched_45 (a := (zg x1)) (b := (zg (x1 + 1))) (g45 := X4 45) (g46 := X4 46) (g47 := X4 47) hn (hp15 45 (by decide)) (hp15 46 (by decide)) (hp15 47 (by decide)) q29 q30) ((hp15 45 (by decide)).trans (ent_45 _)) rfl (s_lt hn rfl) rfl rfl (Nat.le_of_ble_eq_true rfl) (Nat.le_of_ble_eq_true rfl) (Nat.zero_le _) (Nat.zero_le _) ?_
                obtain ⟨q31, w⟩ := w
                refine v_iastI dX6_valueOf_97 ((hp15 48 (by decide)).trans (ent_48 _)) (s_lt hn rfl) q31.1 q31.2 (ix_le q31.2 (by decide)) (fun h32 E33 F34 => ?_)
                have hp35 := pic_st hp15 (show h32 48 = ent 48 (uI _ x2 (ftF (zg x1) (zg (x1 + 1)) (X4 46) (X4 47))) from E33) F34
                have hf36 := Fz.up hf16 F34
                refine v_iincI dX6_valueOf_98 rfl (Nat.le_of_ble_eq_true rfl) ?_
                refine v_goto (tgt := 272) dX6_valueOf_101 (by decide) ?_
                refine v_iincI dX6_valueOf_272 rfl (Nat.le_of_ble_eq_true rfl) ?_
                refine v_goto (tgt := 14) dX6_valueOf_275 (by decide) ?_
                refine v_pick [2, 3, 4, 1, 0] rfl ?_
                exact ih7 _ _ _ _ _ (Nat.lt_of_lt_of_le w.2 (Nat.le_of_lt_succ hm11)) w.1 hp35 hf36
              )
              obtain ⟨q37, w⟩ := w
              refine v_icmp_eqI (tgt := 83) dX6_valueOf_68 (by decide) q37.1 q37.2 (by decide) (by decide) (fun c38 => ?_) (fun c38 => ?_)
              · replace w := w.1 c38
                refine v_pick [3, 4, 0, 5, 6, 2, 1] rfl ?_
                exact w
              · replace w := w.2 c38
                refine v_iload dX6_valueOf_71 rfl ?_
                refine v_iconstI dX6_valueOf_73 ?_
                refine v_icmp_eqI (tgt := 83) dX6_valueOf_74 (by decide) q37.1 q37.2 (by decide) (by decide) (fun c39 => ?_) (fun c39 => ?_)
                · replace w := w.1 c39
                  refine v_pick [3, 4, 0, 5, 6, 2, 1] rfl ?_
                  exact w
                · replace w := w.2 c39
                  refine v_iload dX6_valueOf_77 rfl ?_
                  refine v_iconstI dX6_valueOf_79 ?_
                  refine v_icmp_neI (tgt := 104) dX6_valueOf_80 (by decide) q37.1 q37.2 (by decide) (by decide) (fun c40 => ?_) (fun c40 => ?_)
                  · replace w := w.1 c40
                    refine v_iload dX6_valueOf_104 rfl ?_
                    refine v_iconstI dX6_valueOf_106 ?_
                    refine v_icmp_geI (tgt := 113) dX6_valueOf_107 (by decide) q24.1 q24.2 (by decide) (by decide) (fun c41 => ?_) (fun c41 => ?_)
                    · replace w := w.1 c41
                      refine v_iload dX6_valueOf_113 rfl ?_
                      refine v_if_neI (tgt := 125) dX6_valueOf_115 (by decide) q37.1 q37.2 (fun c42 => ?_) (fun c42 => ?_)
                      · replace w := w.1 c42
                        refine v_iload dX6_valueOf_125 rfl ?_
                        refine v_iconstI dX6_valueOf_127 ?_
                        refine v_icmp_neI (tgt := 154) dX6_valueOf_128 (by decide) q37.1 q37.2 (by decide) (by decide) (fun c43 => ?_) (fun c43 => ?_)
                        · replace w := w.1 c43
                          refine v_iload dX6_valueOf_154 rfl ?_
                          refine v_iconstI dX6_valueOf_156 ?_
                          replace w := w (V (m_X6_valueOf, 1, 0, 0, n, pIw n h Q, s_G0) 0 0 n h14 167 [(0, .ref 45), (3, .ref zb), (4, .int (iI (x1 + 2))), (5, .int (iI x2)), (6, .int (iI x3)), (7, .int (iI (zg x1))), (8, .int (iI (zg (x1 + 1))))] []) (by
                            intro  w
                            refine v_aload_n dX6_valueOf_167 rfl ?_
                            refine v_get dX6_valueOf_168 fl_X6_20 ((hp15 45 (by decide)).trans (ent_45 _)) rfl (s_lt hn rfl) ?_
                            refine v_iload dX6_valueOf_171 rfl ?_
                            refine v_iconstI dX6_valueOf_173 ?_
                            refine v_isubI dX6_valueOf_174 ?_
                            obtain ⟨q45, w⟩ := w
                            refine v_ialdI dX6_valueOf_175 ((hp15 48 (by decide)).trans (ent_48 _)) (s_lt hn rfl) q45.1 q45.2 (ix_le q45.2 (by decide)) ?_
                            refine v_iconstI dX6_valueOf_176 ?_
                            replace w := w (fun (v46 : Int) => V (m_X6_valueOf, 1, 0, 0, n, pIw n h Q, s_G0) 0 0 n h14 185 [(0, .ref 45), (3, .ref zb), (4, .int (iI (x1 + 2))), (5, .int (iI x2)), (6, .int (iI x3)), (7, .int (iI (zg x1))), (8, .int (iI (zg (x1 + 1))))] [.int (iI v46)]) (by
                              intro v46 w
                              refine v_iload dX6_valueOf_185 rfl ?_
                              refine v_iconstI dX6_valueOf_187 ?_
                              replace w := w (fun (v48 : Int) => V (m_X6_valueOf, 1, 0, 0, n, pIw n h Q, s_G0) 0 0 n h14 196 [(0, .ref 45), (3, .ref zb), (4, .int (iI (x1 + 2))), (5, .int (iI x2)), (6, .int (iI x3)), (8, .int (iI (zg (x1 + 1))))] [.int (iI v48), .int (iI v46)]) (by
                                intro v48 w
                                obtain ⟨q50, q51, w⟩ := w
                                refine v_icmp_neI (tgt := 206) dX6_valueOf_196 (by decide) q50.1 q50.2 q51.1 q51.2 (fun c52 => ?_) (fun c52 => ?_)
                                · replace w := w.1 c52
                                  refine v_iincI dX6_valueOf_206 rfl (Nat.le_of_ble_eq_true rfl) ?_
                                  refine v_goto (tgt := 272) dX6_valueOf_209 (by decide) ?_
                                  refine v_iincI dX6_valueOf_272 rfl (Nat.le_of_ble_eq_true rfl) ?_
                                  refine v_goto (tgt := 14) dX6_valueOf_275 (by decide) ?_
                                  refine v_pick [2, 3, 4, 1, 0] rfl ?_
                                  exact ih7 _ _ _ _ _ (Nat.lt_of_lt_of_le w.2 (Nat.le_of_lt_succ hm11)) w.1 hp15 hf16
                                · replace w := w.2 c52
                                  refine v_iload dX6_valueOf_199 rfl ?_
                                  refine v_istore dX6_valueOf_201 (Nat.le_of_ble_eq_true rfl) ?_
                                  refine v_goto (tgt := 272) dX6_valueOf_203 (by decide) ?_
                                  refine v_iincI dX6_valueOf_272 rfl (Nat.le_of_ble_eq_true rfl) ?_
                                  refine v_goto (tgt := 14) dX6_valueOf_275 (by decide) ?_
                                  refine v_pick [2, 3, 1, 4, 0] rfl ?_
                                  exact ih7 _ _ _ _ _ (Nat.lt_of_lt_of_le w.2 (Nat.le_of_lt_succ hm11)) w.1 hp15 hf16
                              )
                              refine v_icmp_neI (tgt := 195) dX6_valueOf_188 (by decide) q37.1 q37.2 (by decide) (by decide) (fun c53 => ?_) (fun c53 => ?_)
                              · replace w := w.1 c53
                                refine v_iconstI dX6_valueOf_195 ?_
                                refine v_pick [0, 1, 2, 3, 4, 6] rfl ?_
                                exact w
                              · replace w := w.2 c53
                                refine v_iconstI dX6_valueOf_191 ?_
                                refine v_goto (tgt := 196) dX6_valueOf_192 (by decide) ?_
                                refine v_pick [0, 1, 2, 3, 4, 6] rfl ?_
                                exact w
                            )
                            obtain ⟨q54, w⟩ := w
                            refine v_icmp_neI (tgt := 184) dX6_valueOf_177 (by decide) q54.1 q54.2 (by decide) (by decide) (fun c55 => ?_) (fun c55 => ?_)
                            · replace w := w.1 c55
                              refine v_iconstI dX6_valueOf_184 ?_
                              exact w
                            · replace w := w.2 c55
                              refine v_iconstI dX6_valueOf_180 ?_
                              refine v_goto (tgt := 185) dX6_valueOf_181 (by decide) ?_
                              exact w
                          )
                          refine v_icmp_eqI (tgt := 167) dX6_valueOf_157 (by decide) q37.1 q37.2 (by decide) (by decide) (fun c56 => ?_) (fun c56 => ?_)
                          · replace w := w.1 c56
                            refine v_pick [3, 4, 0, 5, 6, 2, 1] rfl ?_
                            exact w
                          · replace w := w.2 c56
                            refine v_iload dX6_valueOf_160 rfl ?_
                            refine v_bipushI dX6_valueOf_162 rfl ?_
                            refine v_icmp_neI (tgt := 212) dX6_valueOf_164 (by decide) q37.1 q37.2 (by decide) (by decide) (fun c57 => ?_) (fun c57 => ?_)
                            · replace w := w.1 c57
                              refine v_iload dX6_valueOf_212 rfl ?_
                              refine v_iconstI dX6_valueOf_214 ?_
                              refine v_icmp_geI (tgt := 221) dX6_valueOf_215 (by decide) q24.1 q24.2 (by decide) (by decide) (fun c58 => ?_) (fun c58 => ?_)
                              · replace w := w.1 c58
                                refine v_iload dX6_valueOf_221 rfl ?_
                                refine v_aload_n dX6_valueOf_223 rfl ?_
                                refine v_get dX6_valueOf_224 fl_X6_20 ((hp15 45 (by decide)).trans (ent_45 _)) rfl (s_lt hn rfl) ?_
                                refine v_iload dX6_valueOf_227 rfl ?_
                                refine v_iconstI dX6_valueOf_229 ?_
                                refine v_isubI dX6_valueOf_230 ?_
                                obtain ⟨q59, w⟩ := w
                                refine v_ialdI dX6_valueOf_231 ((hp15 48 (by decide)).trans (ent_48 _)) (s_lt hn rfl) q59.1 q59.2 (ix_le q59.2 (by decide)) ?_
                                obtain ⟨q60, w⟩ := w
                                refine v_i2lI dX6_valueOf_232 q60.1 q60.2 ?_
                                refine v_aload_n dX6_valueOf_233 rfl ?_
                                refine v_get dX6_valueOf_234 fl_X6_20 ((hp15 45 (by decide)).trans (ent_45 _)) rfl (s_lt hn rfl) ?_
                                refine v_iload dX6_valueOf_237 rfl ?_
                                refine v_iconstI dX6_valueOf_239 ?_
                                refine v_isubI dX6_valueOf_240 ?_
                                obtain ⟨q61, w⟩ := w
                                refine v_ialdI dX6_valueOf_241 ((hp15 48 (by decide)).trans (ent_48 _)) (s_lt hn rfl) q61.1 q61.2 (ix_le q61.2 (by decide)) ?_
                                obtain ⟨q62, w⟩ := w
                                refine v_i2lI dX6_valueOf_242 q62.1 q62.2 ?_
                                refine v_callSIr dX6_valueOf_243 ml_X6_33 (so_X6_joined hn hp15  w) rfl rfl (Nat.le_of_ble_eq_true rfl) (Nat.le_of_ble_eq_true rfl) (Nat.zero_le _) (Nat.zero_le _) (fun v63 w => ?_)
                                refine v_istore dX6_valueOf_246 (Nat.le_of_ble_eq_true rfl) ?_
                                refine v_iload dX6_valueOf_248 rfl ?_
                                refine v_ldcI (-2147483648) dX6_valueOf_250 k_X6_28 rfl ?_
                                obtain ⟨q69, w⟩ := w
                                refine v_icmp_neI (tgt := 258) dX6_valueOf_252 (by decide) q69.1 q69.2 (by decide) (by decide) (fun c70 => ?_) (fun c70 => ?_)
                                · replace w := w.1 c70
                                  refine v_iincI dX6_valueOf_258 rfl (Nat.le_of_ble_eq_true rfl) ?_
                                  refine v_aload_n dX6_valueOf_261 rfl ?_
                                  refine v_get dX6_valueOf_262 fl_X6_20 ((hp15 45 (by decide)).trans (ent_45 _)) rfl (s_lt hn rfl) ?_
                                  refine v_iload dX6_valueOf_265 rfl ?_
                                  refine v_iconstI dX6_valueOf_267 ?_
                                  refine v_isubI dX6_valueOf_268 ?_
                                  refine v_iload dX6_valueOf_269 rfl ?_
                                  obtain ⟨q71, w⟩ := w
                                  refine v_iastI dX6_valueOf_271 ((hp15 48 (by decide)).trans (ent_48 _)) (s_lt hn rfl) q71.1 q71.2 (ix_le q71.2 (by decide)) (fun h72 E73 F74 => ?_)
                                  have hp75 := pic_st hp15 (show h72 48 = ent 48 (uI _ ((x2 + (-1)) - 1) v63) from E73) F74
                                  have hf76 := Fz.up hf16 F74
                                  refine v_iincI dX6_valueOf_272 rfl (Nat.le_of_ble_eq_true rfl) ?_
                                  refine v_goto (tgt := 14) dX6_valueOf_275 (by decide) ?_
                                  refine v_pick [6, 7, 3, 1, 0] rfl ?_
                                  exact ih7 _ _ _ _ _ (Nat.lt_of_lt_of_le w.2 (Nat.le_of_lt_succ hm11)) w.1 hp75 hf76
                                · replace w := w.2 c70
                                  refine v_ldcI (-2147483648) dX6_valueOf_255 k_X6_28 rfl ?_
                                  exact v_iret dX6_valueOf_257 rfl (Nat.zero_le _) (Nat.zero_le _) ⟨rfl, Fz.fr rfl hf16, _, _, rfl, hp15, w⟩
                              · replace w := w.2 c58
                                refine v_ldcI (-2147483648) dX6_valueOf_218 k_X6_28 rfl ?_
                                exact v_iret dX6_valueOf_220 rfl (Nat.zero_le _) (Nat.zero_le _) ⟨rfl, Fz.fr rfl hf16, _, _, rfl, hp15, w⟩
                            · replace w := w.2 c57
                              refine v_pick [3, 4, 0, 5, 6, 2, 1] rfl ?_
                              exact w
                        · replace w := w.2 c43
                          refine v_aload_n dX6_valueOf_131 rfl ?_
                          refine v_get dX6_valueOf_132 fl_X6_20 ((hp15 45 (by decide)).trans (ent_45 _)) rfl (s_lt hn rfl) ?_
                          refine v_iload dX6_valueOf_135 rfl ?_
                          refine v_iconstI dX6_valueOf_137 ?_
                          refine v_isubI dX6_valueOf_138 ?_
                          refine v_iconstI dX6_valueOf_139 ?_
                          refine v_aload_n dX6_valueOf_140 rfl ?_
                          refine v_get dX6_valueOf_141 fl_X6_20 ((hp15 45 (by decide)).trans (ent_45 _)) rfl (s_lt hn rfl) ?_
                          refine v_iload dX6_valueOf_144 rfl ?_
                          refine v_iconstI dX6_valueOf_146 ?_
                          refine v_isubI dX6_valueOf_147 ?_
                          obtain ⟨q77, w⟩ := w
                          refine v_ialdI dX6_valueOf_148 ((hp15 48 (by decide)).trans (ent_48 _)) (s_lt hn rfl) q77.1 q77.2 (ix_le q77.2 (by decide)) ?_
                          refine v_isubI dX6_valueOf_149 ?_
                          refine v_iastI dX6_valueOf_150 ((hp15 48 (by decide)).trans (ent_48 _)) (s_lt hn rfl) q77.1 q77.2 (ix_le q77.2 (by decide)) (fun h78 E79 F80 => ?_)
                          have hp81 := pic_st hp15 (show h78 48 = ent 48 (uI _ (x2 - 1) (1 - (X4 48 (x2 - 1)))) from E79) F80
                          have hf82 := Fz.up hf16 F80
                          refine v_goto (tgt := 272) dX6_valueOf_151 (by decide) ?_
                          refine v_iincI dX6_valueOf_272 rfl (Nat.le_of_ble_eq_true rfl) ?_
                          refine v_goto (tgt := 14) dX6_valueOf_275 (by decide) ?_
                          refine v_pick [4, 5, 1, 6, 0] rfl ?_
                          exact ih7 _ _ _ _ _ (Nat.lt_of_lt_of_le w.2 (Nat.le_of_lt_succ hm11)) w.1 hp81 hf82
                      · replace w := w.2 c42
                        refine v_aload_n dX6_valueOf_118 rfl ?_
                        refine v_get dX6_valueOf_119 fl_X6_20 ((hp15 45 (by decide)).trans (ent_45 _)) rfl (s_lt hn rfl) ?_
                        refine v_iconstI dX6_valueOf_122 ?_
                        refine v_ialdI dX6_valueOf_123 ((hp15 48 (by decide)).trans (ent_48 _)) (s_lt hn rfl) (by decide) (by decide) (by decide) ?_
                        exact v_iret dX6_valueOf_124 rfl (Nat.zero_le _) (Nat.zero_le _) ⟨rfl, Fz.fr rfl hf16, _, _, rfl, hp15, w⟩
                    · replace w := w.2 c41
                      refine v_ldcI (-2147483648) dX6_valueOf_110 k_X6_28 rfl ?_
                      exact v_iret dX6_valueOf_112 rfl (Nat.zero_le _) (Nat.zero_le _) ⟨rfl, Fz.fr rfl hf16, _, _, rfl, hp15, w⟩
                  · replace w := w.2 c40
                    refine v_pick [3, 4, 0, 5, 6, 2, 1] rfl ?_
                    exact w
            · replace w := w.2 c25
              refine v_ldcI (-2147483648) dX6_valueOf_45 k_X6_28 rfl ?_
              exact v_iret dX6_valueOf_47 rfl (Nat.zero_le _) (Nat.zero_le _) ⟨rfl, Fz.fr rfl hf16, _, _, rfl, hp15, w⟩
  exact hL10 _ _ _ _ _ _ (Nat.lt_succ_self _) wi9 hp hf
theorem dX7_head_0 : decode cX7_head 0 = .ok (.iload_n 1, 1) := by decide +kernel
theorem dX7_head_1 : decode cX7_head 1 = .ok (.bipush 6, 2) := by decide +kernel
theorem dX7_head_3 : decode cX7_head 3 = .ok (.imul, 1) := by decide +kernel
theorem dX7_head_4 : decode cX7_head 4 = .ok (.iload_n 2, 1) := by decide +kernel
theorem dX7_head_5 : decode cX7_head 5 = .ok (.iadd, 1) := by decide +kernel
theorem dX7_head_6 : decode cX7_head 6 = .ok (.istore_n 3, 1) := by decide +kernel
theorem dX7_head_7 : decode cX7_head 7 = .ok (.iload_n 3, 1) := by decide +kernel
theorem dX7_head_8 : decode cX7_head 8 = .ok (.ifCond .lt 21, 3) := by decide +kernel
theorem dX7_head_11 : decode cX7_head 11 = .ok (.iload_n 3, 1) := by decide +kernel
theorem dX7_head_12 : decode cX7_head 12 = .ok (.aload_n 0, 1) := by decide +kernel
theorem dX7_head_13 : decode cX7_head 13 = .ok (.getfield 17, 3) := by decide +kernel
theorem dX7_head_16 : decode cX7_head 16 = .ok (.arraylength, 1) := by decide +kernel
theorem dX7_head_17 : decode cX7_head 17 = .ok (.if_icmp .ge 12, 3) := by decide +kernel
theorem dX7_head_20 : decode cX7_head 20 = .ok (.aload_n 0, 1) := by decide +kernel
theorem dX7_head_21 : decode cX7_head 21 = .ok (.getfield 17, 3) := by decide +kernel
theorem dX7_head_24 : decode cX7_head 24 = .ok (.iload_n 3, 1) := by decide +kernel
theorem dX7_head_25 : decode cX7_head 25 = .ok (.iaload, 1) := by decide +kernel
theorem dX7_head_26 : decode cX7_head 26 = .ok (.goto 4, 3) := by decide +kernel
theorem dX7_head_29 : decode cX7_head 29 = .ok (.iconst (-1), 1) := by decide +kernel
theorem dX7_head_30 : decode cX7_head 30 = .ok (.ireturn, 1) := by decide +kernel

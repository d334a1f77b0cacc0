/-! FLAGS -/
theorem v_pick {P : s_C} {k u n pc : Nat} {h : Nat → sE} {lv lv' : List (Nat × Value)} {st : List Value} (ks : List Nat) (hp : ks.filterMap (fun k => lv[k]?) = lv') (kk : V P k u n h pc lv' st) : V P k u n h pc lv st := by
  intro l D A al0 p e s m args below meth c E al be H locs ls ha hW hS hl
  refine kk l D A al0 p e s m args below meth c E al be H locs ls ha hW hS ⟨hl.1, hl.2.1, fun q hq => hl.2.2 q ?_⟩
  obtain ⟨q2, hq2, rfl⟩ := List.mem_map.mp hq
  rw [← hp] at hq2
  obtain ⟨j, -, hj⟩ := List.mem_filterMap.mp hq2
  exact List.mem_map.mpr ⟨q2, List.mem_of_getElem? hj, rfl⟩
/-- the direction of the first of m flags that is of that hour and that cloud; -1 -/
def fOf (g : Int → Int) (a b : Int) : Nat → Int
  | 0 => -1
  | m + 1 => if fOf g a b m = -1 then (if g ((m : Int) * 3) = a ∧ g ((m : Int) * 3 + 1) = b then g ((m : Int) * 3 + 2) else -1) else fOf g a b m
theorem fOf_no {g : Int → Int} {a b : Int} {m : Nat} (h : fOf g a b m = -1) (q : ¬ (g ((m : Int) * 3) = a ∧ g ((m : Int) * 3 + 1) = b)) : fOf g a b (m + 1) = -1 := by
  unfold fOf; rw [if_pos h, if_neg q]
theorem fOf_yes {g : Int → Int} {a b : Int} {m : Nat} (h : fOf g a b m = -1) (q : g ((m : Int) * 3) = a ∧ g ((m : Int) * 3 + 1) = b) : fOf g a b (m + 1) = g ((m : Int) * 3 + 2) := by
  show (if fOf g a b m = -1 then _ else _) = _
  rw [if_pos h, if_pos q]
theorem fOf_stay {g : Int → Int} {a b : Int} {m : Nat} (h : ¬ fOf g a b m = -1) : ∀ j : Nat, fOf g a b (m + j) = fOf g a b m := by
  intro j
  induction j with
  | zero => rfl
  | succ j ih =>
    show (if fOf g a b (m + j) = -1 then _ else _) = _
    rw [ih, if_neg h]; exact ih
theorem fOf_end {g : Int → Int} {a b : Int} {m n : Nat} (h : ¬ fOf g a b m = -1) (hmn : m ≤ n) : fOf g a b n = fOf g a b m := by
  have e := fOf_stay h (n - m)
  rwa [Nat.add_sub_cancel' hmn] at e
theorem fOf_cg {g f : Int → Int} {a b : Int} : ∀ m : Nat, (∀ j : Int, 0 ≤ j → j < m * 3 → f j = g j) → fOf f a b m = fOf g a b m := by
  intro m
  induction m with
  | zero => intro _; rfl
  | succ m ih =>
    intro e
    show (if fOf f a b m = -1 then _ else _) = (if fOf g a b m = -1 then _ else _)
    rw [ih (fun j j0 j1 => e j j0 (by omega)), e ((m : Int) * 3) (by omega) (by omega), e ((m : Int) * 3 + 1) (by omega) (by omega), e ((m : Int) * 3 + 2) (by omega) (by omega)]
theorem fOf_r {g : Int → Int} {a b : Int} {m : Nat} (h : ∀ k : Int, 0 ≤ k → k < m → 0 ≤ g (k * 3 + 2) ∧ g (k * 3 + 2) ≤ 3) : -1 ≤ fOf g a b m ∧ fOf g a b m ≤ 3 := by
  induction m with
  | zero => exact ⟨(show (-1 : Int) ≤ -1 by decide), (show (-1 : Int) ≤ 3 by decide)⟩
  | succ m ih =>
    have ih := ih (fun k k0 k1 => h k k0 (by omega))
    have e := h m (by omega) (by omega)
    show -1 ≤ (if fOf g a b m = -1 then _ else _) ∧ (if fOf g a b m = -1 then _ else _) ≤ 3
    split
    · split <;> omega
    · exact ih
theorem dX3_hasFlag_0 : decode cX3_hasFlag 0 = .ok (.iconst 0, 1) := by decide +kernel
theorem dX3_hasFlag_1 : decode cX3_hasFlag 1 = .ok (.istore_n 3, 1) := by decide +kernel
theorem dX3_hasFlag_2 : decode cX3_hasFlag 2 = .ok (.iload_n 3, 1) := by decide +kernel
theorem dX3_hasFlag_3 : decode cX3_hasFlag 3 = .ok (.aload_n 0, 1) := by decide +kernel
theorem dX3_hasFlag_4 : decode cX3_hasFlag 4 = .ok (.getfield 46, 3) := by decide +kernel
theorem dX3_hasFlag_7 : decode cX3_hasFlag 7 = .ok (.if_icmp .ge 31, 3) := by decide +kernel
theorem dX3_hasFlag_10 : decode cX3_hasFlag 10 = .ok (.aload_n 0, 1) := by decide +kernel
theorem dX3_hasFlag_11 : decode cX3_hasFlag 11 = .ok (.iload_n 3, 1) := by decide +kernel
theorem dX3_hasFlag_12 : decode cX3_hasFlag 12 = .ok (.iconst 0, 1) := by decide +kernel
theorem dX3_hasFlag_13 : decode cX3_hasFlag 13 = .ok (.invokevirtual 107, 3) := by decide +kernel
theorem dX3_hasFlag_16 : decode cX3_hasFlag 16 = .ok (.iload_n 1, 1) := by decide +kernel
theorem dX3_hasFlag_17 : decode cX3_hasFlag 17 = .ok (.if_icmp .ne 15, 3) := by decide +kernel
theorem dX3_hasFlag_20 : decode cX3_hasFlag 20 = .ok (.aload_n 0, 1) := by decide +kernel
theorem dX3_hasFlag_21 : decode cX3_hasFlag 21 = .ok (.iload_n 3, 1) := by decide +kernel
theorem dX3_hasFlag_22 : decode cX3_hasFlag 22 = .ok (.iconst 1, 1) := by decide +kernel
theorem dX3_hasFlag_23 : decode cX3_hasFlag 23 = .ok (.invokevirtual 107, 3) := by decide +kernel
theorem dX3_hasFlag_26 : decode cX3_hasFlag 26 = .ok (.iload_n 2, 1) := by decide +kernel
theorem dX3_hasFlag_27 : decode cX3_hasFlag 27 = .ok (.if_icmp .ne 5, 3) := by decide +kernel
theorem dX3_hasFlag_30 : decode cX3_hasFlag 30 = .ok (.iconst 1, 1) := by decide +kernel
theorem dX3_hasFlag_31 : decode cX3_hasFlag 31 = .ok (.ireturn, 1) := by decide +kernel
theorem dX3_hasFlag_32 : decode cX3_hasFlag 32 = .ok (.iinc 3 1, 3) := by decide +kernel
theorem dX3_hasFlag_35 : decode cX3_hasFlag 35 = .ok (.goto (-33), 3) := by decide +kernel
theorem dX3_hasFlag_38 : decode cX3_hasFlag 38 = .ok (.iconst 0, 1) := by decide +kernel
theorem dX3_hasFlag_39 : decode cX3_hasFlag 39 = .ok (.ireturn, 1) := by decide +kernel
theorem dX12_flagOf_0 : decode cX12_flagOf 0 = .ok (.iconst 0, 1) := by decide +kernel
theorem dX12_flagOf_1 : decode cX12_flagOf 1 = .ok (.istore_n 3, 1) := by decide +kernel
theorem dX12_flagOf_2 : decode cX12_flagOf 2 = .ok (.iload_n 3, 1) := by decide +kernel
theorem dX12_flagOf_3 : decode cX12_flagOf 3 = .ok (.aload_n 0, 1) := by decide +kernel
theorem dX12_flagOf_4 : decode cX12_flagOf 4 = .ok (.getfield 13, 3) := by decide +kernel
theorem dX12_flagOf_7 : decode cX12_flagOf 7 = .ok (.iconst 1, 1) := by decide +kernel
theorem dX12_flagOf_8 : decode cX12_flagOf 8 = .ok (.iaload, 1) := by decide +kernel
theorem dX12_flagOf_9 : decode cX12_flagOf 9 = .ok (.if_icmp .ge 52, 3) := by decide +kernel
theorem dX12_flagOf_12 : decode cX12_flagOf 12 = .ok (.sipush 232, 3) := by decide +kernel
theorem dX12_flagOf_15 : decode cX12_flagOf 15 = .ok (.iconst 3, 1) := by decide +kernel
theorem dX12_flagOf_16 : decode cX12_flagOf 16 = .ok (.iload_n 3, 1) := by decide +kernel
theorem dX12_flagOf_17 : decode cX12_flagOf 17 = .ok (.imul, 1) := by decide +kernel
theorem dX12_flagOf_18 : decode cX12_flagOf 18 = .ok (.iadd, 1) := by decide +kernel
theorem dX12_flagOf_19 : decode cX12_flagOf 19 = .ok (.istore 4, 2) := by decide +kernel
theorem dX12_flagOf_21 : decode cX12_flagOf 21 = .ok (.aload_n 0, 1) := by decide +kernel
theorem dX12_flagOf_22 : decode cX12_flagOf 22 = .ok (.getfield 13, 3) := by decide +kernel
theorem dX12_flagOf_25 : decode cX12_flagOf 25 = .ok (.iload 4, 2) := by decide +kernel
theorem dX12_flagOf_27 : decode cX12_flagOf 27 = .ok (.iaload, 1) := by decide +kernel
theorem dX12_flagOf_28 : decode cX12_flagOf 28 = .ok (.iload_n 2, 1) := by decide +kernel
theorem dX12_flagOf_29 : decode cX12_flagOf 29 = .ok (.if_icmp .ne 26, 3) := by decide +kernel
theorem dX12_flagOf_32 : decode cX12_flagOf 32 = .ok (.aload_n 0, 1) := by decide +kernel
theorem dX12_flagOf_33 : decode cX12_flagOf 33 = .ok (.getfield 13, 3) := by decide +kernel
theorem dX12_flagOf_36 : decode cX12_flagOf 36 = .ok (.iload 4, 2) := by decide +kernel
theorem dX12_flagOf_38 : decode cX12_flagOf 38 = .ok (.iconst 1, 1) := by decide +kernel
theorem dX12_flagOf_39 : decode cX12_flagOf 39 = .ok (.iadd, 1) := by decide +kernel
theorem dX12_flagOf_40 : decode cX12_flagOf 40 = .ok (.iaload, 1) := by decide +kernel
theorem dX12_flagOf_41 : decode cX12_flagOf 41 = .ok (.iload_n 1, 1) := by decide +kernel
theorem dX12_flagOf_42 : decode cX12_flagOf 42 = .ok (.if_icmp .ne 13, 3) := by decide +kernel
theorem dX12_flagOf_45 : decode cX12_flagOf 45 = .ok (.aload_n 0, 1) := by decide +kernel
theorem dX12_flagOf_46 : decode cX12_flagOf 46 = .ok (.getfield 13, 3) := by decide +kernel
theorem dX12_flagOf_49 : decode cX12_flagOf 49 = .ok (.iload 4, 2) := by decide +kernel
theorem dX12_flagOf_51 : decode cX12_flagOf 51 = .ok (.iconst 2, 1) := by decide +kernel
theorem dX12_flagOf_52 : decode cX12_flagOf 52 = .ok (.iadd, 1) := by decide +kernel
theorem dX12_flagOf_53 : decode cX12_flagOf 53 = .ok (.iaload, 1) := by decide +kernel
theorem dX12_flagOf_54 : decode cX12_flagOf 54 = .ok (.ireturn, 1) := by decide +kernel
theorem dX12_flagOf_55 : decode cX12_flagOf 55 = .ok (.iinc 3 1, 3) := by decide +kernel
theorem dX12_flagOf_58 : decode cX12_flagOf 58 = .ok (.goto (-56), 3) := by decide +kernel
theorem dX12_flagOf_61 : decode cX12_flagOf 61 = .ok (.iconst (-1), 1) := by decide +kernel
theorem dX12_flagOf_62 : decode cX12_flagOf 62 = .ok (.ireturn, 1) := by decide +kernel
theorem ff_in {g : Int → Int} {k b : Int} (k0 : 0 ≤ k) (k1 : k ≤ 23) (b0 : 0 ≤ b) (b1 : b ≤ 2) : (if 0 ≤ k ∧ k ≤ 23 ∧ 0 ≤ b ∧ b ≤ 2 then g (k * 3 + b) else -1) = g (k * 3 + b) := if_pos (by omega)
theorem hasFlag_loop {n : Nat} {h : Nat → sE} {a b : Int} {g1 g6 : Int → Int} (hn : 115 ≤ n) (H1 : h 1 = ent 1 g1) (H6 : h 6 = ent 6 g6) (ra : -2147483648 ≤ a ∧ a ≤ 2147483647) (rb : -2147483648 ≤ b ∧ b ≤ 2147483647) (i10 : 0 ≤ g1 10 ∧ g1 10 ≤ 24) (hd : ∀ k : Int, 0 ≤ k → k < g1 10 → 0 ≤ g6 (k * 3) ∧ g6 (k * 3) ≤ 10 ∧ 0 ≤ g6 (k * 3 + 1) ∧ g6 (k * 3 + 1) ≤ 4 ∧ 0 ≤ g6 (k * 3 + 2) ∧ g6 (k * 3 + 2) ≤ 3) : ∀ (m : Nat) (k : Nat), (k : Int) ≤ g1 10 → g1 10 - (k : Int) < (m : Int) → (fOf g6 a b k = -1) → V (m_X3_hasFlag, 2, 0, 0, n, qR (some (.int (bI (¬ fOf g6 a b (g1 10).toNat = -1)))) n h, s_G0) 0 0 n h 2 [(3, .int (iI (k : Int))), (0, .ref 1), (1, .int (iI a)), (2, .int (iI b))] [] := by
  intro m
  induction m with
  | zero => intro k b0 b1 hinv; exfalso; omega
  | succ m ih =>
    intro k b0 b1 hinv
    have w0 : g6 ((k : Int) * 3) = g6 ((k : Int) * 3 + 0) := by rw [Int.add_zero]
    have e9 : g1 10 ≤ (k : Int) ∨ (0 ≤ g6 ((k : Int) * 3 + 0) ∧ g6 ((k : Int) * 3 + 0) ≤ 10 ∧ 0 ≤ g6 ((k : Int) * 3 + 1) ∧ g6 ((k : Int) * 3 + 1) ≤ 4 ∧ 0 ≤ g6 ((k : Int) * 3 + 2) ∧ g6 ((k : Int) * 3 + 2) ≤ 3) := by
      rcases Int.lt_or_le (k : Int) (g1 10) with q | q
      · rw [← w0]; exact Or.inr (hd k (by omega) q)
      · exact Or.inl q
    refine v_iload_n dX3_hasFlag_2 rfl ?_
    refine v_aload_n dX3_hasFlag_3 rfl ?_
    refine v_get dX3_hasFlag_4 fl_X3_46 (H1.trans (ent_1 _)) rfl (s_lt hn rfl) ?_
    refine v_icmp_geI (tgt := 38) dX3_hasFlag_7 (by decide) (by omega) (by omega) (by omega) (by omega) (fun c_1 => ?_) (fun c_1 => ?_)
    · refine v_iconstI dX3_hasFlag_38 ?_
      exact v_z0 dX3_hasFlag_39 rfl (Nat.zero_le _) (Nat.zero_le _) (by have e : (k : Int) = g1 10 := (by omega); have e2 : (g1 10).toNat = k := (by omega); exact ⟨congrArg (fun x => some (Value.int x)) (bI_f (by rw [e2]; exact fun q => q hinv)).symm, rfl, rfl⟩)
    · refine v_aload_n dX3_hasFlag_10 rfl ?_
      refine v_iload_n dX3_hasFlag_11 rfl ?_
      refine v_iconstI dX3_hasFlag_12 ?_
      refine v_callV dX3_hasFlag_13 ml_X3_107 (sp_X3_flagFact (a := (k : Int)) (b := 0) (g1 := g1) (g6 := g6) hn (show _ = ent 1 g1 from (H1.trans (ent_1 _))) (show _ = ent 6 g6 from (H6.trans (ent_6 _))) (by omega) (by omega)) (H1.trans (ent_1 _)) rfl (s_lt hn rfl) rfl rfl (Nat.le_of_ble_eq_true rfl) (Nat.le_of_ble_eq_true rfl) (Nat.zero_le _) (Nat.zero_le _) ⟨Or.inl (fun _ _ _ q => q.2.1), fun r n1 h2 q3 => ?_⟩
      obtain ⟨rfl, rfl, rfl⟩ := q3
      try dsimp only [s_push]
      rw [ff_in (by omega) (by omega) (by decide) (by decide)]
      refine v_iload_n dX3_hasFlag_16 rfl ?_
      refine v_icmp_neI (tgt := 32) dX3_hasFlag_17 (by decide) (by omega) (by omega) (by omega) (by omega) (fun c_4 => ?_) (fun c_4 => ?_)
      · refine v_iincI dX3_hasFlag_32 rfl (Nat.le_of_ble_eq_true rfl) ?_
        refine v_goto (tgt := 2) dX3_hasFlag_35 (by decide) ?_
        rw [show ((k : Nat) : Int) + 1 = ((k + 1 : Nat) : Int) by omega]
        exact ih (k + 1) (by omega) (by omega) (fOf_no hinv (by rw [w0]; omega))
      · refine v_aload_n dX3_hasFlag_20 rfl ?_
        refine v_iload_n dX3_hasFlag_21 rfl ?_
        refine v_iconstI dX3_hasFlag_22 ?_
        refine v_callV dX3_hasFlag_23 ml_X3_107 (sp_X3_flagFact (a := (k : Int)) (b := 1) (g1 := g1) (g6 := g6) hn (show _ = ent 1 g1 from (H1.trans (ent_1 _))) (show _ = ent 6 g6 from (H6.trans (ent_6 _))) (by omega) (by omega)) (H1.trans (ent_1 _)) rfl (s_lt hn rfl) rfl rfl (Nat.le_of_ble_eq_true rfl) (Nat.le_of_ble_eq_true rfl) (Nat.zero_le _) (Nat.zero_le _) ⟨Or.inl (fun _ _ _ q => q.2.1), fun r n1 h5 q6 => ?_⟩
        obtain ⟨rfl, rfl, rfl⟩ := q6
        try dsimp only [s_push]
        rw [ff_in (by omega) (by omega) (by decide) (by decide)]
        refine v_iload_n dX3_hasFlag_26 rfl ?_
        refine v_icmp_neI (tgt := 32) dX3_hasFlag_27 (by decide) (by omega) (by omega) (by omega) (by omega) (fun c_7 => ?_) (fun c_7 => ?_)
        · refine v_iincI dX3_hasFlag_32 rfl (Nat.le_of_ble_eq_true rfl) ?_
          refine v_goto (tgt := 2) dX3_hasFlag_35 (by decide) ?_
          rw [show ((k : Nat) : Int) + 1 = ((k + 1 : Nat) : Int) by omega]
          exact ih (k + 1) (by omega) (by omega) (fOf_no hinv (by rw [w0]; omega))
        · refine v_iconstI dX3_hasFlag_30 ?_
          exact v_z1 dX3_hasFlag_31 rfl (Nat.zero_le _) (Nat.zero_le _) (by have e := fOf_yes hinv (show g6 ((k : Int) * 3) = a ∧ g6 ((k : Int) * 3 + 1) = b by rw [w0]; omega); have e2 := hd k (by omega) (by omega); exact ⟨congrArg (fun x => some (Value.int x)) (bI_t (by rw [fOf_end (m := k + 1) (by rw [e]; omega) (by omega), e]; omega)).symm, rfl, rfl⟩)
theorem sp_X3_hasFlag {n : Nat} {h : Nat → sE} {a b : Int} {g1 g6 : Int → Int} (hn : 115 ≤ n) (H1 : h 1 = ent 1 g1) (H6 : h 6 = ent 6 g6) (ra : -2147483648 ≤ a ∧ a ≤ 2147483647) (rb : -2147483648 ≤ b ∧ b ≤ 2147483647) (i10 : 0 ≤ g1 10 ∧ g1 10 ≤ 24) (hd : ∀ k : Int, 0 ≤ k → k < g1 10 → 0 ≤ g6 (k * 3) ∧ g6 (k * 3) ≤ 10 ∧ 0 ≤ g6 (k * 3 + 1) ∧ g6 (k * 3 + 1) ≤ 4 ∧ 0 ≤ g6 (k * 3 + 2) ∧ g6 (k * 3 + 2) ≤ 3) : Sp m_X3_hasFlag 2 0 0 [.ref 1, .int (iI a), .int (iI b)] n h (qR (some (.int (bI (¬ fOf g6 a b (g1 10).toNat = -1)))) n h) := by
  refine Sp.ofV (by decide +kernel) (Nat.le_of_ble_eq_true rfl) ?_
  refine v_iconstI dX3_hasFlag_0 ?_
  refine v_istore_n dX3_hasFlag_1 (Nat.le_of_ble_eq_true rfl) ?_
  exact hasFlag_loop hn H1 H6 ra rb i10 hd 30 0 (by omega) (by omega) rfl
theorem flagOf_loop {n : Nat} {h : Nat → sE} {a b : Int} {g77 g79 : Int → Int} (hn : 115 ≤ n) (H77 : h 77 = ent 77 g77) (H79 : h 79 = ent 79 g79) (ra : -2147483648 ≤ a ∧ a ≤ 2147483647) (rb : -2147483648 ≤ b ∧ b ≤ 2147483647) (i10 : 0 ≤ g79 1 ∧ g79 1 ≤ 24) (hd : ∀ k : Int, 0 ≤ k → k < g79 1 → 0 ≤ g79 (232 + k * 3) ∧ g79 (232 + k * 3) ≤ 10 ∧ 0 ≤ g79 (232 + (k * 3 + 1)) ∧ g79 (232 + (k * 3 + 1)) ≤ 4 ∧ 0 ≤ g79 (232 + (k * 3 + 2)) ∧ g79 (232 + (k * 3 + 2)) ≤ 3) : ∀ (m : Nat) (k : Nat), (k : Int) ≤ g79 1 → g79 1 - (k : Int) < (m : Int) → (fOf (fun j => g79 (232 + j)) b a k = -1) → V (m_X12_flagOf, 0, 0, 0, n, qR (some (.int (iI (fOf (fun j => g79 (232 + j)) b a (g79 1).toNat)))) n h, s_G0) 0 0 n h 2 [(3, .int (iI (k : Int))), (0, .ref 77), (1, .int (iI a)), (2, .int (iI b))] [] := by
  intro m
  induction m with
  | zero => intro k b0 b1 hinv; exfalso; omega
  | succ m ih =>
    intro k b0 b1 hinv
    have v0 : g79 (232 + (k : Int) * 3) = g79 (232 + 3 * (k : Int)) := congrArg g79 (by omega)
    have v1 : g79 (232 + ((k : Int) * 3 + 1)) = g79 (232 + 3 * (k : Int) + 1) := congrArg g79 (by omega)
    have v2 : g79 (232 + ((k : Int) * 3 + 2)) = g79 (232 + 3 * (k : Int) + 2) := congrArg g79 (by omega)
    have e9 : g79 1 ≤ (k : Int) ∨ (0 ≤ g79 (232 + 3 * (k : Int)) ∧ g79 (232 + 3 * (k : Int)) ≤ 10 ∧ 0 ≤ g79 (232 + 3 * (k : Int) + 1) ∧ g79 (232 + 3 * (k : Int) + 1) ≤ 4 ∧ 0 ≤ g79 (232 + 3 * (k : Int) + 2) ∧ g79 (232 + 3 * (k : Int) + 2) ≤ 3) := by
      rcases Int.lt_or_le (k : Int) (g79 1) with q | q
      · rw [← v0, ← v1, ← v2]; exact Or.inr (hd k (by omega) q)
      · exact Or.inl q
    refine v_iload_n dX12_flagOf_2 rfl ?_
    refine v_aload_n dX12_flagOf_3 rfl ?_
    refine v_get dX12_flagOf_4 fl_X12_13 (H77.trans (ent_77 _)) rfl (s_lt hn rfl) ?_
    refine v_iconstI dX12_flagOf_7 ?_
    refine v_ialdI dX12_flagOf_8 (H79.trans (ent_79 _)) (s_lt hn rfl) (by omega) (by omega) (by omega) ?_
    refine v_icmp_geI (tgt := 61) dX12_flagOf_9 (by decide) (by omega) (by omega) (by omega) (by omega) (fun c_1 => ?_) (fun c_1 => ?_)
    · refine v_iconstI dX12_flagOf_61 ?_
      exact v_iret dX12_flagOf_62 rfl (Nat.zero_le _) (Nat.zero_le _) (by have e2 : (g79 1).toNat = k := (by omega); exact ⟨congrArg (fun x => some (Value.int x)) (congrArg iI (by rw [e2]; exact hinv.symm)), rfl, rfl⟩)
    · refine v_sipushI dX12_flagOf_12 rfl ?_
      refine v_iconstI dX12_flagOf_15 ?_
      refine v_iload_n dX12_flagOf_16 rfl ?_
      refine v_imulI dX12_flagOf_17 ?_
      refine v_iaddI dX12_flagOf_18 ?_
      refine v_istore dX12_flagOf_19 (Nat.le_of_ble_eq_true rfl) ?_
      refine v_aload_n dX12_flagOf_21 rfl ?_
      refine v_get dX12_flagOf_22 fl_X12_13 (H77.trans (ent_77 _)) rfl (s_lt hn rfl) ?_
      refine v_iload dX12_flagOf_25 rfl ?_
      refine v_ialdI dX12_flagOf_27 (H79.trans (ent_79 _)) (s_lt hn rfl) (by omega) (by omega) (by omega) ?_
      refine v_iload_n dX12_flagOf_28 rfl ?_
      refine v_icmp_neI (tgt := 55) dX12_flagOf_29 (by decide) (by omega) (by omega) (by omega) (by omega) (fun c_2 => ?_) (fun c_2 => ?_)
      · refine v_iincI dX12_flagOf_55 rfl (Nat.le_of_ble_eq_true rfl) ?_
        refine v_goto (tgt := 2) dX12_flagOf_58 (by decide) ?_
        refine v_pick [0, 2, 3, 4] rfl ?_
        rw [show ((k : Nat) : Int) + 1 = ((k + 1 : Nat) : Int) by omega]
        exact ih (k + 1) (by omega) (by omega) (fOf_no (g := fun j => g79 (232 + j)) hinv (by show ¬ (g79 (232 + (k : Int) * 3) = b ∧ g79 (232 + ((k : Int) * 3 + 1)) = a); rw [v0, v1]; omega))
      · refine v_aload_n dX12_flagOf_32 rfl ?_
        refine v_get dX12_flagOf_33 fl_X12_13 (H77.trans (ent_77 _)) rfl (s_lt hn rfl) ?_
        refine v_iload dX12_flagOf_36 rfl ?_
        refine v_iconstI dX12_flagOf_38 ?_
        refine v_iaddI dX12_flagOf_39 ?_
        refine v_ialdI dX12_flagOf_40 (H79.trans (ent_79 _)) (s_lt hn rfl) (by omega) (by omega) (by omega) ?_
        refine v_iload_n dX12_flagOf_41 rfl ?_
        refine v_icmp_neI (tgt := 55) dX12_flagOf_42 (by decide) (by omega) (by omega) (by omega) (by omega) (fun c_3 => ?_) (fun c_3 => ?_)
        · refine v_iincI dX12_flagOf_55 rfl (Nat.le_of_ble_eq_true rfl) ?_
          refine v_goto (tgt := 2) dX12_flagOf_58 (by decide) ?_
          refine v_pick [0, 2, 3, 4] rfl ?_
          rw [show ((k : Nat) : Int) + 1 = ((k + 1 : Nat) : Int) by omega]
          exact ih (k + 1) (by omega) (by omega) (fOf_no (g := fun j => g79 (232 + j)) hinv (by show ¬ (g79 (232 + (k : Int) * 3) = b ∧ g79 (232 + ((k : Int) * 3 + 1)) = a); rw [v0, v1]; omega))
        · refine v_aload_n dX12_flagOf_45 rfl ?_
          refine v_get dX12_flagOf_46 fl_X12_13 (H77.trans (ent_77 _)) rfl (s_lt hn rfl) ?_
          refine v_iload dX12_flagOf_49 rfl ?_
          refine v_iconstI dX12_flagOf_51 ?_
          refine v_iaddI dX12_flagOf_52 ?_
          refine v_ialdI dX12_flagOf_53 (H79.trans (ent_79 _)) (s_lt hn rfl) (by omega) (by omega) (by omega) ?_
          exact v_iret dX12_flagOf_54 rfl (Nat.zero_le _) (Nat.zero_le _) (by have e := fOf_yes (g := fun j => g79 (232 + j)) hinv (by show g79 (232 + (k : Int) * 3) = b ∧ g79 (232 + ((k : Int) * 3 + 1)) = a; rw [v0, v1]; omega); exact ⟨congrArg (fun x => some (Value.int x)) (congrArg iI (by rw [fOf_end (m := k + 1) (by rw [e]; show ¬ g79 (232 + ((k : Int) * 3 + 2)) = -1; rw [v2]; omega) (by omega), e]; exact v2.symm)), rfl, rfl⟩)
theorem sp_X12_flagOf {n : Nat} {h : Nat → sE} {a b : Int} {g77 g79 : Int → Int} (hn : 115 ≤ n) (H77 : h 77 = ent 77 g77) (H79 : h 79 = ent 79 g79) (ra : -2147483648 ≤ a ∧ a ≤ 2147483647) (rb : -2147483648 ≤ b ∧ b ≤ 2147483647) (i10 : 0 ≤ g79 1 ∧ g79 1 ≤ 24) (hd : ∀ k : Int, 0 ≤ k → k < g79 1 → 0 ≤ g79 (232 + k * 3) ∧ g79 (232 + k * 3) ≤ 10 ∧ 0 ≤ g79 (232 + (k * 3 + 1)) ∧ g79 (232 + (k * 3 + 1)) ≤ 4 ∧ 0 ≤ g79 (232 + (k * 3 + 2)) ∧ g79 (232 + (k * 3 + 2)) ≤ 3) : Sp m_X12_flagOf 0 0 0 [.ref 77, .int (iI a), .int (iI b)] n h (qR (some (.int (iI (fOf (fun j => g79 (232 + j)) b a (g79 1).toNat)))) n h) := by
  refine Sp.ofV (by decide +kernel) (Nat.le_of_ble_eq_true rfl) ?_
  refine v_iconstI dX12_flagOf_0 ?_
  refine v_istore_n dX12_flagOf_1 (Nat.le_of_ble_eq_true rfl) ?_
  exact flagOf_loop hn H77 H79 ra rb i10 hd 30 0 (by omega) (by omega) rfl

/-! LAW: a script is copied, and kept -/
theorem zLv0 {n : Nat} : ∀ q ∈ ([] : List (Nat × Value)), s_ok n q.2 := fun q hq => absurd hq (List.not_mem_nil)
theorem zLv1 {n a : Nat} {v : Value} {t : List (Nat × Value)} (h : s_ok n v) (ht : ∀ q ∈ t, s_ok n q.2) : ∀ q ∈ (a, v) :: t, s_ok n q.2 := fun q hq => by
  rcases List.mem_cons.mp hq with rfl | h2
  · exact h
  · exact ht q h2
theorem zSt0 {n : Nat} : ∀ v ∈ ([] : List Value), s_ok n v := fun q hq => absurd hq (List.not_mem_nil)
theorem zSt1 {n : Nat} {v : Value} {t : List Value} (h : s_ok n v) (ht : ∀ v ∈ t, s_ok n v) : ∀ w ∈ v :: t, s_ok n w := fun q hq => by
  rcases List.mem_cons.mp hq with rfl | h2
  · exact h
  · exact ht q h2
theorem sp_X7_init_z {z n m s : Nat} {h : Nat → sE} (hz : z < n) (hm : m ≤ 12) (hs : s ≤ 800) (ho : h z = .inr (7, [.null, .null, .int (iI 0), .int (iI 0), .int (iI 0)])) : Sp m_X7_init 1 2 (6 * m + s) [.ref z, .int (iI (m : Int)), .int (iI (s : Int))] n h (fun r n' h' => r = none ∧ n' = n + 2 ∧ (∀ j, j < n → ¬ j = z → h' j = h j) ∧ h' z = .inr (7, [.ref n, .ref (n + 1), .int (iI 0), .int (iI 0), .int (iI 0)]) ∧ h' n = aI (6 * m) (fun _ => 0) ∧ h' (n + 1) = aI s (fun _ => 0)) := by
  refine Sp.ofV (by decide +kernel) (Nat.le_of_ble_eq_true rfl) ?_
  refine v_aload_n dX7_init_0 rfl ?_
  refine v_objInit dX7_init_1 ml_X7_3 (by decide) (Nat.le_of_ble_eq_true rfl) ?_
  refine v_aload_n dX7_init_4 rfl ?_
  refine v_iconstI dX7_init_5 ?_
  refine v_iload_n dX7_init_6 rfl ?_
  refine v_maxI dX7_init_7 ml_X7_9 (Nat.le_of_ble_eq_true rfl) (Nat.le_of_ble_eq_true rfl) (Nat.zero_le _) (Nat.zero_le _) (by decide) (by decide) (by omega) (by omega) ?_
  refine v_bipushI dX7_init_10 rfl ?_
  refine v_imulI dX7_init_12 ?_
  rw [show max 0 (m : Int) * 6 = ((6 * m : Nat) : Int) by omega]
  refine v_newa_aI (N := 6 * m) dX7_init_13 ac_int (Nat.ble_eq_true_of_le (by omega)) (zLv1 (show z < n from hz) (zLv1 trivial (zLv1 trivial zLv0))) (zSt1 (show z < n from hz) zSt0) (show 0 + 1 ≤ 2 by omega) (show 0 + 6 * m ≤ 6 * m + s by omega) (fun h1 E1 F1 => ?_)
  have H1 := (F1 z (by omega)).trans ho
  refine v_putF dX7_init_15 fl_X7_17 rfl rfl H1 (show z < n + 1 by omega) (Nat.le_of_ble_eq_true rfl) (fun _ => ⟨rfl, rfl⟩) (show n < n + 1 by omega) (fun h2 E2 F2 => ?_)
  refine v_aload_n dX7_init_18 rfl ?_
  refine v_iconstI dX7_init_19 ?_
  refine v_iload_n dX7_init_20 rfl ?_
  refine v_maxI dX7_init_21 ml_X7_9 (Nat.le_of_ble_eq_true rfl) (Nat.le_of_ble_eq_true rfl) (show 0 + 1 ≤ 2 by omega) (show 0 + 6 * m ≤ 6 * m + s by omega) (by decide) (by decide) (by omega) (by omega) ?_
  rw [show max 0 (s : Int) = ((s : Nat) : Int) by omega]
  refine v_newa_aI (N := s) dX7_init_24 ac_int (Nat.ble_eq_true_of_le (by omega)) (zLv1 (show z < n + 1 by omega) (zLv1 trivial (zLv1 trivial zLv0))) (zSt1 (show z < n + 1 by omega) zSt0) (show 0 + 1 + 1 ≤ 2 by omega) (show 0 + 6 * m + s ≤ 6 * m + s by omega) (fun h3 E3 F3 => ?_)
  have H3 := (F3 z (by omega)).trans E2
  refine v_putF dX7_init_26 fl_X7_21 rfl rfl H3 (show z < n + 1 + 1 by omega) (Nat.le_of_ble_eq_true rfl) (fun _ => ⟨rfl, rfl⟩) (show n + 1 < n + 1 + 1 by omega) (fun h4 E4 F4 => ?_)
  refine v_aload_n dX7_init_29 rfl ?_
  refine v_iconstI dX7_init_30 ?_
  refine v_put dX7_init_31 fl_X7_24 E4 (show z < n + 1 + 1 by omega) (Nat.le_of_ble_eq_true rfl) (fun _ => ⟨rfl, rfl⟩) trivial (fun h5 E5 F5 => ?_)
  refine v_aload_n dX7_init_34 rfl ?_
  refine v_iconstI dX7_init_35 ?_
  refine v_put dX7_init_36 fl_X7_28 E5 (show z < n + 1 + 1 by omega) (Nat.le_of_ble_eq_true rfl) (fun _ => ⟨rfl, rfl⟩) trivial (fun h6 E6 F6 => ?_)
  refine v_aload_n dX7_init_39 rfl ?_
  refine v_iconstI dX7_init_40 ?_
  refine v_put dX7_init_41 fl_X7_31 E6 (show z < n + 1 + 1 by omega) (Nat.le_of_ble_eq_true rfl) (fun _ => ⟨iI_nb0, rfl⟩) trivial (fun h7 E7 F7 => ?_)
  have keep : ∀ j, ¬ j = z → ¬ j = n + 1 → h7 j = h2 j := fun j a b => (F7 j a).trans ((F6 j a).trans ((F5 j a).trans ((F4 j a).trans (F3 j b))))
  exact v_vret dX7_init_44 rfl (show 0 + 1 + 1 ≤ 2 by omega) (show 0 + 6 * m + s ≤ 6 * m + s by omega) ⟨rfl, rfl, fun j hj a => (keep j a (by omega)).trans ((F2 j a).trans (F1 j (by omega))), E7, (keep n (by omega) (by omega)).trans ((F2 n (by omega)).trans E1), (F7 _ (by omega)).trans ((F6 _ (by omega)).trans ((F5 _ (by omega)).trans ((F4 _ (by omega)).trans E3)))⟩
theorem dX7_exactCopy_0 : decode cX7_exactCopy 0 = .ok (.new 15, 3) := by decide +kernel
theorem dX7_exactCopy_3 : decode cX7_exactCopy 3 = .ok (.dup, 1) := by decide +kernel
theorem dX7_exactCopy_4 : decode cX7_exactCopy 4 = .ok (.aload_n 0, 1) := by decide +kernel
theorem dX7_exactCopy_5 : decode cX7_exactCopy 5 = .ok (.getfield 24, 3) := by decide +kernel
theorem dX7_exactCopy_8 : decode cX7_exactCopy 8 = .ok (.aload_n 0, 1) := by decide +kernel
theorem dX7_exactCopy_9 : decode cX7_exactCopy 9 = .ok (.getfield 28, 3) := by decide +kernel
theorem dX7_exactCopy_12 : decode cX7_exactCopy 12 = .ok (.invokespecial 35, 3) := by decide +kernel
theorem dX7_exactCopy_15 : decode cX7_exactCopy 15 = .ok (.astore_n 1, 1) := by decide +kernel
theorem dX7_exactCopy_16 : decode cX7_exactCopy 16 = .ok (.aload_n 0, 1) := by decide +kernel
theorem dX7_exactCopy_17 : decode cX7_exactCopy 17 = .ok (.getfield 17, 3) := by decide +kernel
theorem dX7_exactCopy_20 : decode cX7_exactCopy 20 = .ok (.iconst 0, 1) := by decide +kernel
theorem dX7_exactCopy_21 : decode cX7_exactCopy 21 = .ok (.aload_n 1, 1) := by decide +kernel
theorem dX7_exactCopy_22 : decode cX7_exactCopy 22 = .ok (.getfield 17, 3) := by decide +kernel
theorem dX7_exactCopy_25 : decode cX7_exactCopy 25 = .ok (.iconst 0, 1) := by decide +kernel
theorem dX7_exactCopy_26 : decode cX7_exactCopy 26 = .ok (.aload_n 0, 1) := by decide +kernel
theorem dX7_exactCopy_27 : decode cX7_exactCopy 27 = .ok (.getfield 17, 3) := by decide +kernel
theorem dX7_exactCopy_30 : decode cX7_exactCopy 30 = .ok (.arraylength, 1) := by decide +kernel
theorem dX7_exactCopy_31 : decode cX7_exactCopy 31 = .ok (.aload_n 1, 1) := by decide +kernel
theorem dX7_exactCopy_32 : decode cX7_exactCopy 32 = .ok (.getfield 17, 3) := by decide +kernel
theorem dX7_exactCopy_35 : decode cX7_exactCopy 35 = .ok (.arraylength, 1) := by decide +kernel
theorem dX7_exactCopy_36 : decode cX7_exactCopy 36 = .ok (.invokestatic 38, 3) := by decide +kernel
theorem dX7_exactCopy_39 : decode cX7_exactCopy 39 = .ok (.invokestatic 41, 3) := by decide +kernel
theorem dX7_exactCopy_42 : decode cX7_exactCopy 42 = .ok (.aload_n 0, 1) := by decide +kernel
theorem dX7_exactCopy_43 : decode cX7_exactCopy 43 = .ok (.getfield 21, 3) := by decide +kernel
theorem dX7_exactCopy_46 : decode cX7_exactCopy 46 = .ok (.iconst 0, 1) := by decide +kernel
theorem dX7_exactCopy_47 : decode cX7_exactCopy 47 = .ok (.aload_n 1, 1) := by decide +kernel
theorem dX7_exactCopy_48 : decode cX7_exactCopy 48 = .ok (.getfield 21, 3) := by decide +kernel
theorem dX7_exactCopy_51 : decode cX7_exactCopy 51 = .ok (.iconst 0, 1) := by decide +kernel
theorem dX7_exactCopy_52 : decode cX7_exactCopy 52 = .ok (.aload_n 0, 1) := by decide +kernel
theorem dX7_exactCopy_53 : decode cX7_exactCopy 53 = .ok (.getfield 21, 3) := by decide +kernel
theorem dX7_exactCopy_56 : decode cX7_exactCopy 56 = .ok (.arraylength, 1) := by decide +kernel
theorem dX7_exactCopy_57 : decode cX7_exactCopy 57 = .ok (.aload_n 1, 1) := by decide +kernel
theorem dX7_exactCopy_58 : decode cX7_exactCopy 58 = .ok (.getfield 21, 3) := by decide +kernel
theorem dX7_exactCopy_61 : decode cX7_exactCopy 61 = .ok (.arraylength, 1) := by decide +kernel
theorem dX7_exactCopy_62 : decode cX7_exactCopy 62 = .ok (.invokestatic 38, 3) := by decide +kernel
theorem dX7_exactCopy_65 : decode cX7_exactCopy 65 = .ok (.invokestatic 41, 3) := by decide +kernel
theorem dX7_exactCopy_68 : decode cX7_exactCopy 68 = .ok (.aload_n 1, 1) := by decide +kernel
theorem dX7_exactCopy_69 : decode cX7_exactCopy 69 = .ok (.aload_n 0, 1) := by decide +kernel
theorem dX7_exactCopy_70 : decode cX7_exactCopy 70 = .ok (.getfield 24, 3) := by decide +kernel
theorem dX7_exactCopy_73 : decode cX7_exactCopy 73 = .ok (.putfield 24, 3) := by decide +kernel
theorem dX7_exactCopy_76 : decode cX7_exactCopy 76 = .ok (.aload_n 1, 1) := by decide +kernel
theorem dX7_exactCopy_77 : decode cX7_exactCopy 77 = .ok (.aload_n 0, 1) := by decide +kernel
theorem dX7_exactCopy_78 : decode cX7_exactCopy 78 = .ok (.getfield 28, 3) := by decide +kernel
theorem dX7_exactCopy_81 : decode cX7_exactCopy 81 = .ok (.putfield 28, 3) := by decide +kernel
theorem dX7_exactCopy_84 : decode cX7_exactCopy 84 = .ok (.aload_n 1, 1) := by decide +kernel
theorem dX7_exactCopy_85 : decode cX7_exactCopy 85 = .ok (.aload_n 0, 1) := by decide +kernel
theorem dX7_exactCopy_86 : decode cX7_exactCopy 86 = .ok (.getfield 31, 3) := by decide +kernel
theorem dX7_exactCopy_89 : decode cX7_exactCopy 89 = .ok (.putfield 31, 3) := by decide +kernel
theorem dX7_exactCopy_92 : decode cX7_exactCopy 92 = .ok (.aload_n 1, 1) := by decide +kernel
theorem dX7_exactCopy_93 : decode cX7_exactCopy 93 = .ok (.areturn, 1) := by decide +kernel
/-- what exactCopy makes -/
def zXc (X : XT) (n m s : Nat) (h h' : Nat → sE) : Prop := (∀ j, j < n → h' j = h j) ∧ h' n = .inr (7, [.ref (n + 1), .ref (n + 2), .int (iI (X 37 2)), .int (iI (X 37 3)), .int (iI (X 37 4))]) ∧ h' (n + 1) = aI (6 * m) (fun j => if 0 ≤ j ∧ j < ((6 * m : Nat) : Int) then X 38 j else 0) ∧ h' (n + 2) = aI s (fun j => if 0 ≤ j ∧ j < (s : Int) then X 39 j else 0)
theorem sp_X7_exactCopy {n m s : Nat} {h : Nat → sE} {X : XT} (hn : 115 ≤ n) (hp : Pic X h) (h2 : X 37 2 = (m : Int)) (hm : m ≤ 12) (h3 : X 37 3 = (s : Int)) (hs : s ≤ 800) (h4 : X 37 4 = 0 ∨ X 37 4 = 1) : Sp m_X7_exactCopy 2 3 900 [.ref 37] n h (fun r n' h' => r = some (.ref n) ∧ n' = n + 3 ∧ zXc X n m s h h') := by
  have P37 := (hp 37 (by decide)).trans (ent_37 _)
  have P38 := (hp 38 (by decide)).trans (ent_38 _)
  have P39 := (hp 39 (by decide)).trans (ent_39 _)
  refine Sp.ofV (by decide +kernel) (Nat.le_of_ble_eq_true rfl) ?_
  refine v_new dX7_exactCopy_0 cl_X7_15 rfl (zLv1 (show 37 < n by omega) zLv0) zSt0 (show 0 + 1 ≤ 3 by omega) (show 0 + 5 ≤ 900 by omega) (fun h1 E1 F1 => ?_)
  have Q37 := (F1 37 (by omega)).trans P37
  refine v_dup dX7_exactCopy_3 rfl ?_
  refine v_aload_n dX7_exactCopy_4 rfl ?_
  refine v_get dX7_exactCopy_5 fl_X7_24 Q37 rfl (show 37 < n + 1 by omega) ?_
  refine v_aload_n dX7_exactCopy_8 rfl ?_
  refine v_get dX7_exactCopy_9 fl_X7_28 Q37 rfl (show 37 < n + 1 by omega) ?_
  rw [h2, h3]
  refine v_callI dX7_exactCopy_12 ml_X7_35 (sp_X7_init_z (show n < n + 1 by omega) hm hs E1) rfl rfl (Nat.le_of_ble_eq_true rfl) (Nat.le_of_ble_eq_true rfl) (show 0 + 1 + 2 ≤ 3 by omega) (show 0 + 5 + (6 * m + s) ≤ 900 by omega) ⟨Or.inr ⟨(zLv1 (show 37 < n + 1 by omega) zLv0), zSt1 (show n < n + 1 by omega) zSt0⟩, fun r n1 h5 q => ?_⟩
  obtain ⟨rfl, rfl, FA, EA, EB, EC⟩ := q
  dsimp only [s_push]
  refine v_astore_n dX7_exactCopy_15 (Nat.le_of_ble_eq_true rfl) ?_
  have n3 : n + 1 + 2 = n + 3 := by omega
  have G37 : h5 37 = _ := (FA 37 (by omega) (by omega)).trans Q37
  have G38 : h5 38 = _ := (FA 38 (by omega) (by omega)).trans ((F1 38 (by omega)).trans P38)
  have G39 : h5 39 = _ := (FA 39 (by omega) (by omega)).trans ((F1 39 (by omega)).trans P39)
  refine v_aload_n dX7_exactCopy_16 rfl ?_
  refine v_get dX7_exactCopy_17 fl_X7_17 G37 rfl (show 37 < n + 1 + 2 by omega) ?_
  refine v_iconstI dX7_exactCopy_20 ?_
  refine v_aload_n dX7_exactCopy_21 rfl ?_
  refine v_get dX7_exactCopy_22 fl_X7_17 EA rfl (show n < n + 1 + 2 by omega) ?_
  refine v_iconstI dX7_exactCopy_25 ?_
  refine v_aload_n dX7_exactCopy_26 rfl ?_
  refine v_get dX7_exactCopy_27 fl_X7_17 G37 rfl (show 37 < n + 1 + 2 by omega) ?_
  refine v_alen_aI dX7_exactCopy_30 G38 (show 38 < n + 1 + 2 by omega) ?_
  refine v_aload_n dX7_exactCopy_31 rfl ?_
  refine v_get dX7_exactCopy_32 fl_X7_17 EA rfl (show n < n + 1 + 2 by omega) ?_
  refine v_alen_aI dX7_exactCopy_35 EB (show n + 1 < n + 1 + 2 by omega) ?_
  refine v_minI dX7_exactCopy_36 ml_X7_38 (Nat.le_of_ble_eq_true rfl) (Nat.le_of_ble_eq_true rfl) (show 0 + 1 + 2 ≤ 3 by omega) (show 0 + 5 + (6 * m + s) ≤ 900 by omega) (by decide) (by decide) (by omega) (by omega) ?_
  rw [show min ((72 : Nat) : Int) ((6 * m : Nat) : Int) = ((6 * m : Nat) : Int) by omega]
  refine v_copyI (N := 6 * m) dX7_exactCopy_39 ml_X7_41 G38 EB (show 38 < n + 1 + 2 by omega) (show n + 1 < n + 1 + 2 by omega) (Nat.ble_eq_true_of_le (by omega)) (Nat.ble_eq_true_of_le (by omega)) (Nat.ble_eq_true_of_le (by omega)) (Nat.le_of_ble_eq_true rfl) (Nat.le_of_ble_eq_true rfl) (fun h6 E6 F6 => ?_)
  have K37 : h6 37 = _ := (F6 37 (by omega)).trans G37
  have K39 : h6 39 = _ := (F6 39 (by omega)).trans G39
  have KA : h6 n = _ := (F6 n (by omega)).trans EA
  have KC : h6 (n + 1 + 1) = _ := (F6 (n + 1 + 1) (by omega)).trans EC
  refine v_aload_n dX7_exactCopy_42 rfl ?_
  refine v_get dX7_exactCopy_43 fl_X7_21 K37 rfl (show 37 < n + 1 + 2 by omega) ?_
  refine v_iconstI dX7_exactCopy_46 ?_
  refine v_aload_n dX7_exactCopy_47 rfl ?_
  refine v_get dX7_exactCopy_48 fl_X7_21 KA rfl (show n < n + 1 + 2 by omega) ?_
  refine v_iconstI dX7_exactCopy_51 ?_
  refine v_aload_n dX7_exactCopy_52 rfl ?_
  refine v_get dX7_exactCopy_53 fl_X7_21 K37 rfl (show 37 < n + 1 + 2 by omega) ?_
  refine v_alen_aI dX7_exactCopy_56 K39 (show 39 < n + 1 + 2 by omega) ?_
  refine v_aload_n dX7_exactCopy_57 rfl ?_
  refine v_get dX7_exactCopy_58 fl_X7_21 KA rfl (show n < n + 1 + 2 by omega) ?_
  refine v_alen_aI dX7_exactCopy_61 KC (show n + 1 + 1 < n + 1 + 2 by omega) ?_
  refine v_minI dX7_exactCopy_62 ml_X7_38 (Nat.le_of_ble_eq_true rfl) (Nat.le_of_ble_eq_true rfl) (show 0 + 1 + 2 ≤ 3 by omega) (show 0 + 5 + (6 * m + s) ≤ 900 by omega) (by decide) (by decide) (by omega) (by omega) ?_
  rw [show min ((800 : Nat) : Int) (s : Int) = (s : Int) by omega]
  refine v_copyI (N := s) dX7_exactCopy_65 ml_X7_41 K39 KC (show 39 < n + 1 + 2 by omega) (show n + 1 + 1 < n + 1 + 2 by omega) (Nat.ble_eq_true_of_le (by omega)) (Nat.ble_eq_true_of_le (by omega)) (Nat.ble_eq_true_of_le (Nat.le_refl _)) (Nat.le_of_ble_eq_true rfl) (Nat.le_of_ble_eq_true rfl) (fun h7 E7 F7 => ?_)
  have L37 : h7 37 = _ := (F7 37 (by omega)).trans K37
  have LA : h7 n = _ := (F7 n (by omega)).trans KA
  refine v_aload_n dX7_exactCopy_68 rfl ?_
  refine v_aload_n dX7_exactCopy_69 rfl ?_
  refine v_get dX7_exactCopy_70 fl_X7_24 L37 rfl (show 37 < n + 1 + 2 by omega) ?_
  refine v_put dX7_exactCopy_73 fl_X7_24 LA (show n < n + 1 + 2 by omega) (Nat.le_of_ble_eq_true rfl) (fun _ => ⟨rfl, rfl⟩) trivial (fun h8 E8 F8 => ?_)
  have M37 : h8 37 = _ := (F8 37 (by omega)).trans L37
  refine v_aload_n dX7_exactCopy_76 rfl ?_
  refine v_aload_n dX7_exactCopy_77 rfl ?_
  refine v_get dX7_exactCopy_78 fl_X7_28 M37 rfl (show 37 < n + 1 + 2 by omega) ?_
  refine v_put dX7_exactCopy_81 fl_X7_28 E8 (show n < n + 1 + 2 by omega) (Nat.le_of_ble_eq_true rfl) (fun _ => ⟨rfl, rfl⟩) trivial (fun h9 E9 F9 => ?_)
  have N37 : h9 37 = _ := (F9 37 (by omega)).trans M37
  refine v_aload_n dX7_exactCopy_84 rfl ?_
  refine v_aload_n dX7_exactCopy_85 rfl ?_
  refine v_get dX7_exactCopy_86 fl_X7_31 N37 rfl (show 37 < n + 1 + 2 by omega) ?_
  refine v_put dX7_exactCopy_89 fl_X7_31 E9 (show n < n + 1 + 2 by omega) (Nat.le_of_ble_eq_true rfl) (iI_nbs h4) trivial (fun ha Ea Fa => ?_)
  refine v_aload_n dX7_exactCopy_92 rfl ?_
  have kp : ∀ j, ¬ j = n → ¬ j = n + 1 + 1 → ha j = h6 j := fun j a b => (Fa j a).trans ((F9 j a).trans ((F8 j a).trans (F7 j b)))
  refine v_aret dX7_exactCopy_93 rfl (show 0 + 1 + 2 ≤ 3 by omega) (show 0 + 5 + (6 * m + s) ≤ 900 by omega) ⟨rfl, n3, fun j hj => ?_, Ea, ?_, ?_⟩
  · exact (kp j (by omega) (by omega)).trans ((F6 j (by omega)).trans ((FA j (by omega) (by omega)).trans (F1 j (by omega))))
  · exact (kp (n + 1) (by omega) (by omega)).trans E6
  · exact (Fa _ (by omega)).trans ((F9 _ (by omega)).trans ((F8 _ (by omega)).trans E7))
theorem dX3_addLaw_0 : decode cX3_addLaw 0 = .ok (.aload_n 0, 1) := by decide +kernel
theorem dX3_addLaw_1 : decode cX3_addLaw 1 = .ok (.getfield 55, 3) := by decide +kernel
theorem dX3_addLaw_4 : decode cX3_addLaw 4 = .ok (.bipush 6, 2) := by decide +kernel
theorem dX3_addLaw_6 : decode cX3_addLaw 6 = .ok (.if_icmp .ge 23, 3) := by decide +kernel
theorem dX3_addLaw_9 : decode cX3_addLaw 9 = .ok (.aload_n 0, 1) := by decide +kernel
theorem dX3_addLaw_10 : decode cX3_addLaw 10 = .ok (.getfield 38, 3) := by decide +kernel
theorem dX3_addLaw_13 : decode cX3_addLaw 13 = .ok (.aload_n 0, 1) := by decide +kernel
theorem dX3_addLaw_14 : decode cX3_addLaw 14 = .ok (.getfield 55, 3) := by decide +kernel
theorem dX3_addLaw_17 : decode cX3_addLaw 17 = .ok (.aload_n 1, 1) := by decide +kernel
theorem dX3_addLaw_18 : decode cX3_addLaw 18 = .ok (.aastore, 1) := by decide +kernel
theorem dX3_addLaw_19 : decode cX3_addLaw 19 = .ok (.aload_n 0, 1) := by decide +kernel
theorem dX3_addLaw_20 : decode cX3_addLaw 20 = .ok (.dup, 1) := by decide +kernel
theorem dX3_addLaw_21 : decode cX3_addLaw 21 = .ok (.getfield 55, 3) := by decide +kernel
theorem dX3_addLaw_24 : decode cX3_addLaw 24 = .ok (.iconst 1, 1) := by decide +kernel
theorem dX3_addLaw_25 : decode cX3_addLaw 25 = .ok (.iadd, 1) := by decide +kernel
theorem dX3_addLaw_26 : decode cX3_addLaw 26 = .ok (.putfield 55, 3) := by decide +kernel
theorem dX3_addLaw_29 : decode cX3_addLaw 29 = .ok (.return_, 1) := by decide +kernel
theorem sp_X3_addLaw {n z : Nat} {h : Nat → sE} {X : XT} {fs : List Value} (hn : 115 ≤ n) (hp : Pic X h) (hz : z < n) (ho : h z = .inr (7, fs)) (h13 : 0 ≤ X 1 13 ∧ X 1 13 < 6) : Sp m_X3_addLaw 0 0 0 [.ref 1, .ref z] n h (fun r n' h' => r = none ∧ n' = n ∧ Fr h h' ∧ Pic (x_st (x_st X 10 (X 1 13) (z : Int)) 1 13 (X 1 13 + 1)) h') := by
  have H1 := (hp 1 (by decide)).trans (ent_1 _)
  refine Sp.ofV (by decide +kernel) (Nat.le_of_ble_eq_true rfl) ?_
  refine v_aload_n dX3_addLaw_0 rfl ?_
  refine v_get dX3_addLaw_1 fl_X3_55 H1 rfl (s_lt hn rfl) ?_
  refine v_bipushI dX3_addLaw_4 rfl ?_
  refine v_icmp_geI (tgt := 29) dX3_addLaw_6 (by decide) (by omega) (by omega) (by decide) (by decide) (fun c => absurd c (by omega)) (fun _ => ?_)
  refine v_aload_n dX3_addLaw_9 rfl ?_
  refine v_get dX3_addLaw_10 fl_X3_38 H1 rfl (s_lt hn rfl) ?_
  refine v_aload_n dX3_addLaw_13 rfl ?_
  refine v_get dX3_addLaw_14 fl_X3_55 H1 rfl (s_lt hn rfl) ?_
  refine v_aload_n dX3_addLaw_17 rfl ?_
  refine v_aastI dX3_addLaw_18 ((hp 10 (by decide)).trans (ent_10 _)) (s_lt hn rfl) ho hz rfl h13.1 h13.2 (by omega) (fun h1 E1 F1 => ?_)
  have p1 : Pic (x_st X 10 (X 1 13) (z : Int)) h1 := pic_st hp E1 F1
  have f1 : Fr h h1 := Fr.up (c := 10) (fun _ _ => rfl) F1 rfl
  have e13 : (x_st X 10 (X 1 13) (z : Int)) 1 = X 1 := x_st_c (by decide)
  have H1' := (p1 1 (by decide)).trans (ent_1 _)
  rw [e13] at H1'
  refine v_aload_n dX3_addLaw_19 rfl ?_
  refine v_dup dX3_addLaw_20 rfl ?_
  refine v_get dX3_addLaw_21 fl_X3_55 H1' rfl (s_lt hn rfl) ?_
  refine v_iconstI dX3_addLaw_24 ?_
  refine v_iaddI dX3_addLaw_25 ?_
  refine v_put dX3_addLaw_26 fl_X3_55 H1' (s_lt hn rfl) (Nat.le_of_ble_eq_true rfl) (fun _ => ⟨rfl, rfl⟩) trivial (fun h2 E2 F2 => ?_)
  have p2 : Pic (x_st (x_st X 10 (X 1 13) (z : Int)) 1 13 (X 1 13 + 1)) h2 := pic_st p1 (by rw [e13]; exact E2) F2
  exact v_vret dX3_addLaw_29 rfl (Nat.zero_le _) (Nat.zero_le _) ⟨rfl, rfl, Fr.up (c := 1) f1 F2 rfl, p2⟩
theorem dX11_law_0 : decode cX11_law 0 = .ok (.aload_n 0, 1) := by decide +kernel
theorem dX11_law_1 : decode cX11_law 1 = .ok (.getfield 12, 3) := by decide +kernel
theorem dX11_law_4 : decode cX11_law 4 = .ok (.getfield 198, 3) := by decide +kernel
theorem dX11_law_7 : decode cX11_law 7 = .ok (.bipush 6, 2) := by decide +kernel
theorem dX11_law_9 : decode cX11_law 9 = .ok (.if_icmp .lt 18, 3) := by decide +kernel
theorem dX11_law_12 : decode cX11_law 12 = .ok (.aload_n 0, 1) := by decide +kernel
theorem dX11_law_13 : decode cX11_law 13 = .ok (.getfield 27, 3) := by decide +kernel
theorem dX11_law_16 : decode cX11_law 16 = .ok (.iconst 0, 1) := by decide +kernel
theorem dX11_law_17 : decode cX11_law 17 = .ok (.putfield 201, 3) := by decide +kernel
theorem dX11_law_20 : decode cX11_law 20 = .ok (.aload_n 0, 1) := by decide +kernel
theorem dX11_law_21 : decode cX11_law 21 = .ok (.bipush (-5), 2) := by decide +kernel
theorem dX11_law_23 : decode cX11_law 23 = .ok (.invokevirtual 123, 3) := by decide +kernel
theorem dX11_law_26 : decode cX11_law 26 = .ok (.ireturn, 1) := by decide +kernel
theorem dX11_law_27 : decode cX11_law 27 = .ok (.aload_n 0, 1) := by decide +kernel
theorem dX11_law_28 : decode cX11_law 28 = .ok (.getfield 27, 3) := by decide +kernel
theorem dX11_law_31 : decode cX11_law 31 = .ok (.iconst 1, 1) := by decide +kernel
theorem dX11_law_32 : decode cX11_law 32 = .ok (.invokevirtual 214, 3) := by decide +kernel
theorem dX11_law_35 : decode cX11_law 35 = .ok (.istore_n 1, 1) := by decide +kernel
theorem dX11_law_36 : decode cX11_law 36 = .ok (.aload_n 0, 1) := by decide +kernel
theorem dX11_law_37 : decode cX11_law 37 = .ok (.getfield 27, 3) := by decide +kernel
theorem dX11_law_40 : decode cX11_law 40 = .ok (.iconst 0, 1) := by decide +kernel
theorem dX11_law_41 : decode cX11_law 41 = .ok (.putfield 201, 3) := by decide +kernel
theorem dX11_law_44 : decode cX11_law 44 = .ok (.iload_n 1, 1) := by decide +kernel
theorem dX11_law_45 : decode cX11_law 45 = .ok (.ifCond .ne 10, 3) := by decide +kernel
theorem dX11_law_48 : decode cX11_law 48 = .ok (.aload_n 0, 1) := by decide +kernel
theorem dX11_law_49 : decode cX11_law 49 = .ok (.bipush (-6), 2) := by decide +kernel
theorem dX11_law_51 : decode cX11_law 51 = .ok (.invokevirtual 123, 3) := by decide +kernel
theorem dX11_law_54 : decode cX11_law 54 = .ok (.ireturn, 1) := by decide +kernel
theorem dX11_law_55 : decode cX11_law 55 = .ok (.aload_n 0, 1) := by decide +kernel
theorem dX11_law_56 : decode cX11_law 56 = .ok (.getfield 12, 3) := by decide +kernel
theorem dX11_law_59 : decode cX11_law 59 = .ok (.aload_n 0, 1) := by decide +kernel
theorem dX11_law_60 : decode cX11_law 60 = .ok (.getfield 27, 3) := by decide +kernel
theorem dX11_law_63 : decode cX11_law 63 = .ok (.getfield 218, 3) := by decide +kernel
theorem dX11_law_66 : decode cX11_law 66 = .ok (.invokevirtual 222, 3) := by decide +kernel
theorem dX11_law_69 : decode cX11_law 69 = .ok (.invokevirtual 228, 3) := by decide +kernel
theorem dX11_law_72 : decode cX11_law 72 = .ok (.aload_n 0, 1) := by decide +kernel
theorem dX11_law_73 : decode cX11_law 73 = .ok (.aload_n 0, 1) := by decide +kernel
theorem dX11_law_74 : decode cX11_law 74 = .ok (.getfield 12, 3) := by decide +kernel
theorem dX11_law_77 : decode cX11_law 77 = .ok (.getfield 198, 3) := by decide +kernel
theorem dX11_law_80 : decode cX11_law 80 = .ok (.iconst 1, 1) := by decide +kernel
theorem dX11_law_81 : decode cX11_law 81 = .ok (.isub, 1) := by decide +kernel
theorem dX11_law_82 : decode cX11_law 82 = .ok (.invokevirtual 135, 3) := by decide +kernel
theorem dX11_law_85 : decode cX11_law 85 = .ok (.ireturn, 1) := by decide +kernel
/-- the class's law: refused, or kept in three new cells -/
def w_lawC (X : XT) (Q : Int → XT → Prop) (G : Int → XT → Nat → Nat → (Nat → sE) → (Nat → sE) → XT → Prop) (n : Nat) : Prop := R32 (X 1 13) ∧ (¬ X 1 13 < 6 → w_X11_refuse (-5) (x_st X 33 4 0) Q) ∧ (X 1 13 < 6 → w_X5_readText 1 X (fun (v : Int) (X1 : XT) => R32 v ∧ (v = 0 → w_X11_refuse (-6) (x_st X1 33 4 0) Q) ∧ (¬ v = 0 → (0 ≤ X1 1 13 ∧ X1 1 13 < 6) ∧ ∃ m s : Nat, (X1 37 2 = (m : Int) ∧ m ≤ 12 ∧ X1 37 3 = (s : Int) ∧ s ≤ 800 ∧ (X1 37 4 = 0 ∨ X1 37 4 = 1)) ∧ ∀ h h1, zXc (x_st X1 33 4 0) n m s h h1 → w_X11_grant (X1 1 13) (x_st (x_st (x_st X1 33 4 0) 10 (X1 1 13) (n : Int)) 1 13 (X1 1 13 + 1)) (fun v2 X2 => G v2 X1 m s h h1 X2))))
theorem sp_X11_law {n : Nat} {h : Nat → sE} {X : XT} {Q : Int → XT → Prop} {G : Int → XT → Nat → Nat → (Nat → sE) → (Nat → sE) → XT → Prop} (hn : 115 ≤ n) (hp : Pic X h) (w : w_lawC X Q G n) : Sp m_X11_law 66 3 900 [.ref 0] n h (fun r n' h' => ∃ (v : Int) (X' : XT), r = some (.int (iI v)) ∧ Pic X' h' ∧ ((n' = n ∧ Fr h h' ∧ Q v X') ∨ (n' = n + 3 ∧ ∃ (X1 : XT) (m s : Nat) (h0 h1 : Nat → sE), Fr h h0 ∧ zXc (x_st X1 33 4 0) n m s h0 h1 ∧ Fr h1 h' ∧ G v X1 m s h0 h1 X'))) := by
  have H0 := (hp 0 (by decide)).trans (ent_0 _)
  have H1 := (hp 1 (by decide)).trans (ent_1 _)
  have H33 := (hp 33 (by decide)).trans (ent_33 _)
  obtain ⟨r13, w5, w⟩ := w
  refine Sp.ofV (by decide +kernel) (Nat.le_of_ble_eq_true rfl) ?_
  refine v_aload_n dX11_law_0 rfl ?_
  refine v_get dX11_law_1 fl_X11_12 H0 rfl (s_lt hn rfl) ?_
  refine v_get dX11_law_4 fl_X11_198 H1 rfl (s_lt hn rfl) ?_
  refine v_bipushI dX11_law_7 rfl ?_
  refine v_icmp_ltI (tgt := 27) dX11_law_9 (by decide) r13.1 r13.2 (by decide) (by decide) (fun c => ?_) (fun c => ?_)
  rotate_left
  · refine v_aload_n dX11_law_12 rfl ?_
    refine v_get dX11_law_13 fl_X11_27 H0 rfl (s_lt hn rfl) ?_
    refine v_iconstI dX11_law_16 ?_
    refine v_put dX11_law_17 fl_X11_201 H33 (s_lt hn rfl) (Nat.le_of_ble_eq_true rfl) (fun _ => ⟨rfl, rfl⟩) trivial (fun h1 E1 F1 => ?_)
    have p1 : Pic (x_st X 33 4 0) h1 := pic_st hp E1 F1
    have f1 : Fr h h1 := Fr.up (c := 33) (fun _ _ => rfl) F1 rfl
    refine v_aload_n dX11_law_20 rfl ?_
    refine v_bipushI dX11_law_21 rfl ?_
    refine v_callVIw dX11_law_23 ml_X11_123 (so_X11_refuse hn p1 (w5 c)) ((p1 0 (by decide)).trans (ent_0 _)) rfl (s_lt hn rfl) rfl rfl (Nat.le_of_ble_eq_true rfl) (Nat.le_of_ble_eq_true rfl) (Nat.zero_le _) (Nat.zero_le _) (fun v X2 h2 p2 f2 q => ?_)
    exact v_iret dX11_law_26 rfl (Nat.zero_le _) (Nat.zero_le _) ⟨v, X2, rfl, p2, Or.inl ⟨rfl, Fr.trans f1 f2, q⟩⟩
  replace w := w c
  refine v_aload_n dX11_law_27 rfl ?_
  refine v_get dX11_law_28 fl_X11_27 H0 rfl (s_lt hn rfl) ?_
  refine v_iconstI dX11_law_31 ?_
  refine v_callVIw dX11_law_32 ml_X11_214 (so_X5_readText hn hp w) H33 rfl (s_lt hn rfl) rfl rfl (Nat.le_of_ble_eq_true rfl) (Nat.le_of_ble_eq_true rfl) (Nat.zero_le _) (Nat.zero_le _) (fun v X1 h1 p1 f1 w => ?_)
  obtain ⟨rv, w6, w⟩ := w
  refine v_istore_n dX11_law_35 (Nat.le_of_ble_eq_true rfl) ?_
  refine v_aload_n dX11_law_36 rfl ?_
  refine v_get dX11_law_37 fl_X11_27 ((p1 0 (by decide)).trans (ent_0 _)) rfl (s_lt hn rfl) ?_
  refine v_iconstI dX11_law_40 ?_
  refine v_put dX11_law_41 fl_X11_201 ((p1 33 (by decide)).trans (ent_33 _)) (s_lt hn rfl) (Nat.le_of_ble_eq_true rfl) (fun _ => ⟨rfl, rfl⟩) trivial (fun h2 E2 F2 => ?_)
  have p2 : Pic (x_st X1 33 4 0) h2 := pic_st p1 E2 F2
  have f2 : Fr h h2 := Fr.up (c := 33) f1 F2 rfl
  have J0 := (p2 0 (by decide)).trans (ent_0 _)
  have J1 := (p2 1 (by decide)).trans (ent_1 _)
  refine v_iload_n dX11_law_44 rfl ?_
  refine v_if_neI (tgt := 55) dX11_law_45 (by decide) rv.1 rv.2 (fun c => ?_) (fun c => ?_)
  rotate_left
  · refine v_aload_n dX11_law_48 rfl ?_
    refine v_bipushI dX11_law_49 rfl ?_
    refine v_callVIw dX11_law_51 ml_X11_123 (so_X11_refuse hn p2 (w6 c)) J0 rfl (s_lt hn rfl) rfl rfl (Nat.le_of_ble_eq_true rfl) (Nat.le_of_ble_eq_true rfl) (Nat.zero_le _) (Nat.zero_le _) (fun v X2 h3 p3 f3 q => ?_)
    exact v_iret dX11_law_54 rfl (Nat.zero_le _) (Nat.zero_le _) ⟨v, X2, rfl, p3, Or.inl ⟨rfl, Fr.trans f2 f3, q⟩⟩
  obtain ⟨b13, m, s, ⟨m2, m12, s3, s8, a4⟩, w⟩ := w c
  refine v_aload_n dX11_law_55 rfl ?_
  refine v_get dX11_law_56 fl_X11_12 J0 rfl (s_lt hn rfl) ?_
  refine v_aload_n dX11_law_59 rfl ?_
  refine v_get dX11_law_60 fl_X11_27 J0 rfl (s_lt hn rfl) ?_
  refine v_get dX11_law_63 fl_X11_218 ((p2 33 (by decide)).trans (ent_33 _)) rfl (s_lt hn rfl) ?_
  have e37 : (x_st X1 33 4 0) 37 = X1 37 := x_st_c (by decide)
  have e1 : (x_st X1 33 4 0) 1 = X1 1 := x_st_c (by decide)
  refine v_callV dX11_law_66 ml_X11_222 (sp_X7_exactCopy hn p2 (by rw [e37]; exact m2) m12 (by rw [e37]; exact s3) s8 (by rw [e37]; exact a4)) ((p2 37 (by decide)).trans (ent_37 _)) rfl (s_lt hn rfl) rfl rfl (Nat.le_of_ble_eq_true rfl) (Nat.le_of_ble_eq_true rfl) (show 0 + 3 ≤ 3 by omega) (show 0 + 900 ≤ 900 by omega) ⟨Or.inr ⟨zLv1 trivial (zLv1 (show 0 < n by omega) zLv0), zSt1 (show 1 < n by omega) zSt0⟩, fun r n1 h3 q => ?_⟩
  obtain ⟨rfl, rfl, xc⟩ := q
  dsimp only [s_push]
  have hn3 : 115 ≤ n + 3 := by omega
  have p3 : Pic (x_st X1 33 4 0) h3 := fun j hj => (xc.1 j (by omega)).trans (p2 j hj)
  refine v_callV dX11_law_69 ml_X11_228 (sp_X3_addLaw hn3 p3 (show n < n + 3 by omega) xc.2.1 (by rw [e1]; exact b13)) ((p3 1 (by decide)).trans (ent_1 _)) rfl (s_lt hn3 rfl) rfl rfl (Nat.le_of_ble_eq_true rfl) (Nat.le_of_ble_eq_true rfl) (show 0 + 3 + 0 ≤ 3 by omega) (show 0 + 900 + 0 ≤ 900 by omega) ⟨Or.inl (fun _ _ _ q => q.2.1), fun r n1 h4 q => ?_⟩
  obtain ⟨rfl, rfl, f4, p4⟩ := q
  dsimp only [s_push]
  rw [e1] at p4
  have K0 := (p4 0 (by decide)).trans (ent_0 _)
  have e13 : (x_st (x_st (x_st X1 33 4 0) 10 (X1 1 13) (n : Int)) 1 13 (X1 1 13 + 1)) 1 13 = X1 1 13 + 1 := x_st_at
  refine v_aload_n dX11_law_72 rfl ?_
  refine v_aload_n dX11_law_73 rfl ?_
  refine v_get dX11_law_74 fl_X11_12 K0 rfl (s_lt hn3 rfl) ?_
  refine v_get dX11_law_77 fl_X11_198 ((p4 1 (by decide)).trans (ent_1 _)) rfl (s_lt hn3 rfl) ?_
  refine v_iconstI dX11_law_80 ?_
  refine v_isubI dX11_law_81 ?_
  rw [e13, show X1 1 13 + 1 - 1 = X1 1 13 by omega]
  refine v_callVIw dX11_law_82 ml_X11_135 (so_X11_grant hn3 p4 (w h2 h3 xc)) K0 rfl (s_lt hn3 rfl) rfl rfl (Nat.le_of_ble_eq_true rfl) (Nat.le_of_ble_eq_true rfl) (show 0 + 3 + 0 + 0 ≤ 3 by omega) (show 0 + 900 + 0 + 0 ≤ 900 by omega) (fun v X2 h5 p5 f5 q => ?_)
  exact v_iret dX11_law_85 rfl (show 0 + 3 + 0 ≤ 3 by omega) (show 0 + 900 + 0 ≤ 900 by omega) ⟨v, X2, rfl, p5, Or.inr ⟨rfl, X1, m, s, h2, h3, f2, xc, Fr.trans f4 f5, q⟩⟩

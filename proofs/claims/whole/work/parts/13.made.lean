/-! THE CONSTRUCTORS: what the cells are behind them -/
def s_okb (n : Nat) (v : Value) : Bool := match v with
  | .ref i => Nat.blt i n
  | _ => true
theorem s_okb_ok {n : Nat} {v : Value} (h : s_okb n v = true) : s_ok n v := by
  cases v <;> first | trivial | exact Nat.le_of_ble_eq_true h
theorem s_lvok {n : Nat} {lv : List (Nat × Value)} (h : lv.all (fun q => s_okb n q.2) = true) : ∀ q ∈ lv, s_ok n q.2 := fun q hq => s_okb_ok (List.all_eq_true.mp h q hq)
theorem s_stok {n : Nat} {st : List Value} (h : st.all (s_okb n) = true) : ∀ v ∈ st, s_ok n v := fun v hv => s_okb_ok (List.all_eq_true.mp h v hv)
theorem iI_nb0 : narrow .boolean (.int (iI 0)) = .int (iI 0) := by decide
theorem iI_nb1 : narrow .boolean (.int (iI 1)) = .int (iI 1) := by decide
theorem uI_fill {c c' : Int → Prop} [∀ k, Decidable (c k)] [∀ k, Decidable (c' k)] {b : Int → Int} {a v : Int} (h : ∀ k, c' k ↔ (k = a ∨ c k)) : uI (fun k => if c k then v else b k) a v = fun k => if c' k then v else b k := by
  funext k
  unfold uI
  by_cases h1 : k = a
  · rw [if_pos h1, if_pos ((h k).mpr (Or.inl h1))]
  · rw [if_neg h1]
    show (if c k then v else b k) = _
    by_cases h2 : c k
    · rw [if_pos h2, if_pos ((h k).mpr (Or.inr h2))]
    · rw [if_neg h2, if_neg (fun q => ((h k).mp q).elim h1 h2)]
theorem iI_pos (N : Nat) (h : N ≤ 60000000) : ¬ (iI (N : Int)) < 0 := by
  rw [show (0 : Int32) = iI 0 from rfl, iI_lt (by omega) (by omega) (by omega) (by omega)]; omega
theorem iI_N (N : Nat) (h : N ≤ 60000000) : (iI (N : Int)).toNatClampNeg = N := by have := iI_nat (a := (N : Int)) (by omega) (by omega); omega
section NEWS
variable {P : s_C} {k u n pc : Nat} {h : Nat → sE} {lv : List (Nat × Value)} {st : List Value} {N : Nat}
theorem v_newa_aI (hdg : decode P.1.2.1 pc = .ok (.newarray .int, 2)) (hw : Cond.arrayClass .int ∈ s_tb) (hN : Nat.ble N 60000000 = true) (hlv : ∀ q ∈ lv, s_ok n q.2) (hst : ∀ v ∈ st, s_ok n v) (hk : k + 1 ≤ P.2.2.1) (hu : u + N ≤ P.2.2.2.1) (kk : ∀ h' : Nat → sE, h' n = aI N (fun _ => 0) → (∀ j, j ≠ n → h' j = h j) → V P (k + 1) (u + N) (n + 1) h' (pc + 2) lv (.ref n :: st)) : V P k u n h pc lv (.int (iI (N : Int)) :: st) :=
  v_newa_int hdg hw (iI_pos N (Nat.le_of_ble_eq_true hN)) (iI_N N (Nat.le_of_ble_eq_true hN)) (Nat.le_of_ble_eq_true hN) hlv hst hk hu kk
theorem v_newa_zI (hdg : decode P.1.2.1 pc = .ok (.newarray .boolean, 2)) (hw : Cond.arrayClass .boolean ∈ s_tb) (hN : Nat.ble N 60000000 = true) (hlv : ∀ q ∈ lv, s_ok n q.2) (hst : ∀ v ∈ st, s_ok n v) (hk : k + 1 ≤ P.2.2.1) (hu : u + N ≤ P.2.2.2.1) (kk : ∀ h' : Nat → sE, h' n = zI N (fun _ => 0) → (∀ j, j ≠ n → h' j = h j) → V P (k + 1) (u + N) (n + 1) h' (pc + 2) lv (.ref n :: st)) : V P k u n h pc lv (.int (iI (N : Int)) :: st) :=
  v_newa_bool hdg hw (iI_pos N (Nat.le_of_ble_eq_true hN)) (iI_N N (Nat.le_of_ble_eq_true hN)) (Nat.le_of_ble_eq_true hN) hlv hst hk hu kk
theorem v_newa_lI (hdg : decode P.1.2.1 pc = .ok (.newarray .long, 2)) (hw : Cond.arrayClass .long ∈ s_tb) (hN : Nat.ble N 60000000 = true) (hlv : ∀ q ∈ lv, s_ok n q.2) (hst : ∀ v ∈ st, s_ok n v) (hk : k + 1 ≤ P.2.2.1) (hu : u + N ≤ P.2.2.2.1) (kk : ∀ h' : Nat → sE, h' n = lI N (fun _ => 0) → (∀ j, j ≠ n → h' j = h j) → V P (k + 1) (u + N) (n + 1) h' (pc + 2) lv (.ref n :: st)) : V P k u n h pc lv (.int (iI (N : Int)) :: st) :=
  v_newa_long hdg hw (iI_pos N (Nat.le_of_ble_eq_true hN)) (iI_N N (Nat.le_of_ble_eq_true hN)) (Nat.le_of_ble_eq_true hN) hlv hst hk hu kk
theorem v_newqI {index : Nat} {C : String} (hdg : decode P.1.2.1 pc = .ok (.anewarray index, 3)) (hw : Cond.classLink P.1.1.cls index C ∈ s_tb) (hC : C = "ShadowHerds$Plain" ∨ C = "ShadowHerds$Script") (hN : Nat.ble N 60000000 = true) (hlv : ∀ q ∈ lv, s_ok n q.2) (hst : ∀ v ∈ st, s_ok n v) (hk : k + 1 ≤ P.2.2.1) (hu : u + N ≤ P.2.2.2.1) (kk : ∀ h' : Nat → sE, h' n = qI N C (fun _ => -1) → (∀ j, j ≠ n → h' j = h j) → V P (k + 1) (u + N) (n + 1) h' (pc + 3) lv (.ref n :: st)) : V P k u n h pc lv (.int (iI (N : Int)) :: st) :=
  v_newq hdg hw hC (iI_pos N (Nat.le_of_ble_eq_true hN)) (iI_N N (Nat.le_of_ble_eq_true hN)) (Nat.le_of_ble_eq_true hN) hlv hst hk hu kk
theorem v_aastI {i v ci : Nat} {C : String} {vs : List Value} {g : Int → Int} {a : Int} (hdg : decode P.1.2.1 pc = .ok (.aastore, 1)) (he : h i = qI N C g) (hi : i < n) (hv : h v = .inr (ci, vs)) (hvn : v < n) (hc : s_cl[ci]?.map (fun q => q.1) = some C) (a0 : 0 ≤ a) (a1 : a < N) (a2 : a ≤ 2147483647) (kk : ∀ h' : Nat → sE, h' i = qI N C (uI g a v) → (∀ j, j ≠ i → h' j = h j) → V P k u n h' (pc + 1) lv st) : V P k u n h pc lv (.ref v :: .int (iI a) :: .ref i :: st) := by
  obtain ⟨r, hr, hrc⟩ := Option.map_eq_some_iff.mp hc
  subst hrc
  refine v_aastore hdg he hi hv hvn hr (iI_in a0 a1 a2) (fun h' E F => kk h' (E.trans ?_) F)
  unfold qI
  refine congrArg (fun g : Nat → Option Nat => (Sum.inl (FieldType.object r.1, N, Sum.inr (Sum.inr (Sum.inr (Sum.inr g)))) : sE)) (funext fun j => ?_)
  have h3 := iI_nat a0 a2
  unfold va_up uI
  by_cases hj : j = (iI a).toNatClampNeg
  · have hja : (j : Int) = a := by omega
    rw [if_pos hj, if_pos hja, if_neg (by omega), Int.toNat_natCast]
  · rw [if_neg hj, if_neg (by omega : ¬ (j : Int) = a)]
end NEWS
theorem dX3_init_0 : decode cX3_init 0 = .ok (.aload_n 0, 1) := by decide +kernel
theorem dX3_init_1 : decode cX3_init 1 = .ok (.invokespecial 3, 3) := by decide +kernel
theorem dX3_init_4 : decode cX3_init 4 = .ok (.aload_n 0, 1) := by decide +kernel
theorem dX3_init_5 : decode cX3_init 5 = .ok (.sipush 192, 3) := by decide +kernel
theorem dX3_init_8 : decode cX3_init 8 = .ok (.newarray .int, 2) := by decide +kernel
theorem dX3_init_10 : decode cX3_init 10 = .ok (.putfield 9, 3) := by decide +kernel
theorem dX3_init_13 : decode cX3_init 13 = .ok (.aload_n 0, 1) := by decide +kernel
theorem dX3_init_14 : decode cX3_init 14 = .ok (.iconst 3, 1) := by decide +kernel
theorem dX3_init_15 : decode cX3_init 15 = .ok (.newarray .int, 2) := by decide +kernel
theorem dX3_init_17 : decode cX3_init 17 = .ok (.putfield 15, 3) := by decide +kernel
theorem dX3_init_20 : decode cX3_init 20 = .ok (.aload_n 0, 1) := by decide +kernel
theorem dX3_init_21 : decode cX3_init 21 = .ok (.iconst 3, 1) := by decide +kernel
theorem dX3_init_22 : decode cX3_init 22 = .ok (.newarray .int, 2) := by decide +kernel
theorem dX3_init_24 : decode cX3_init 24 = .ok (.putfield 18, 3) := by decide +kernel
theorem dX3_init_27 : decode cX3_init 27 = .ok (.aload_n 0, 1) := by decide +kernel
theorem dX3_init_28 : decode cX3_init 28 = .ok (.bipush 25, 2) := by decide +kernel
theorem dX3_init_30 : decode cX3_init 30 = .ok (.newarray .int, 2) := by decide +kernel
theorem dX3_init_32 : decode cX3_init 32 = .ok (.putfield 21, 3) := by decide +kernel
theorem dX3_init_35 : decode cX3_init 35 = .ok (.aload_n 0, 1) := by decide +kernel
theorem dX3_init_36 : decode cX3_init 36 = .ok (.bipush 72, 2) := by decide +kernel
theorem dX3_init_38 : decode cX3_init 38 = .ok (.newarray .int, 2) := by decide +kernel
theorem dX3_init_40 : decode cX3_init 40 = .ok (.putfield 24, 3) := by decide +kernel
theorem dX3_init_43 : decode cX3_init 43 = .ok (.aload_n 0, 1) := by decide +kernel
theorem dX3_init_44 : decode cX3_init 44 = .ok (.bipush 40, 2) := by decide +kernel
theorem dX3_init_46 : decode cX3_init 46 = .ok (.newarray .int, 2) := by decide +kernel
theorem dX3_init_48 : decode cX3_init 48 = .ok (.putfield 27, 3) := by decide +kernel
theorem dX3_init_51 : decode cX3_init 51 = .ok (.aload_n 0, 1) := by decide +kernel
theorem dX3_init_52 : decode cX3_init 52 = .ok (.bipush 30, 2) := by decide +kernel
theorem dX3_init_54 : decode cX3_init 54 = .ok (.newarray .int, 2) := by decide +kernel
theorem dX3_init_56 : decode cX3_init 56 = .ok (.putfield 30, 3) := by decide +kernel
theorem dX3_init_59 : decode cX3_init 59 = .ok (.aload_n 0, 1) := by decide +kernel
theorem dX3_init_60 : decode cX3_init 60 = .ok (.iconst 3, 1) := by decide +kernel
theorem dX3_init_61 : decode cX3_init 61 = .ok (.newarray .int, 2) := by decide +kernel
theorem dX3_init_63 : decode cX3_init 63 = .ok (.dup, 1) := by decide +kernel
theorem dX3_init_64 : decode cX3_init 64 = .ok (.iconst 0, 1) := by decide +kernel
theorem dX3_init_65 : decode cX3_init 65 = .ok (.iconst 0, 1) := by decide +kernel
theorem dX3_init_66 : decode cX3_init 66 = .ok (.iastore, 1) := by decide +kernel
theorem dX3_init_67 : decode cX3_init 67 = .ok (.dup, 1) := by decide +kernel
theorem dX3_init_68 : decode cX3_init 68 = .ok (.iconst 1, 1) := by decide +kernel
theorem dX3_init_69 : decode cX3_init 69 = .ok (.iconst 2, 1) := by decide +kernel
theorem dX3_init_70 : decode cX3_init 70 = .ok (.iastore, 1) := by decide +kernel
theorem dX3_init_71 : decode cX3_init 71 = .ok (.dup, 1) := by decide +kernel
theorem dX3_init_72 : decode cX3_init 72 = .ok (.iconst 2, 1) := by decide +kernel
theorem dX3_init_73 : decode cX3_init 73 = .ok (.iconst 0, 1) := by decide +kernel
theorem dX3_init_74 : decode cX3_init 74 = .ok (.iastore, 1) := by decide +kernel
theorem dX3_init_75 : decode cX3_init 75 = .ok (.putfield 33, 3) := by decide +kernel
theorem dX3_init_78 : decode cX3_init 78 = .ok (.aload_n 0, 1) := by decide +kernel
theorem dX3_init_79 : decode cX3_init 79 = .ok (.bipush 6, 2) := by decide +kernel
theorem dX3_init_81 : decode cX3_init 81 = .ok (.anewarray 36, 3) := by decide +kernel
theorem dX3_init_84 : decode cX3_init 84 = .ok (.putfield 38, 3) := by decide +kernel
theorem dX3_init_87 : decode cX3_init 87 = .ok (.aload_n 0, 1) := by decide +kernel
theorem dX3_init_88 : decode cX3_init 88 = .ok (.iconst 0, 1) := by decide +kernel
theorem dX3_init_89 : decode cX3_init 89 = .ok (.putfield 42, 3) := by decide +kernel
theorem dX3_init_92 : decode cX3_init 92 = .ok (.aload_n 0, 1) := by decide +kernel
theorem dX3_init_93 : decode cX3_init 93 = .ok (.iconst 0, 1) := by decide +kernel
theorem dX3_init_94 : decode cX3_init 94 = .ok (.putfield 46, 3) := by decide +kernel
theorem dX3_init_97 : decode cX3_init 97 = .ok (.aload_n 0, 1) := by decide +kernel
theorem dX3_init_98 : decode cX3_init 98 = .ok (.iconst 0, 1) := by decide +kernel
theorem dX3_init_99 : decode cX3_init 99 = .ok (.putfield 49, 3) := by decide +kernel
theorem dX3_init_102 : decode cX3_init 102 = .ok (.aload_n 0, 1) := by decide +kernel
theorem dX3_init_103 : decode cX3_init 103 = .ok (.iconst 0, 1) := by decide +kernel
theorem dX3_init_104 : decode cX3_init 104 = .ok (.putfield 52, 3) := by decide +kernel
theorem dX3_init_107 : decode cX3_init 107 = .ok (.aload_n 0, 1) := by decide +kernel
theorem dX3_init_108 : decode cX3_init 108 = .ok (.iconst 0, 1) := by decide +kernel
theorem dX3_init_109 : decode cX3_init 109 = .ok (.putfield 55, 3) := by decide +kernel
theorem dX3_init_112 : decode cX3_init 112 = .ok (.aload_n 0, 1) := by decide +kernel
theorem dX3_init_113 : decode cX3_init 113 = .ok (.iconst (-1), 1) := by decide +kernel
theorem dX3_init_114 : decode cX3_init 114 = .ok (.putfield 58, 3) := by decide +kernel
theorem dX3_init_117 : decode cX3_init 117 = .ok (.iconst 0, 1) := by decide +kernel
theorem dX3_init_118 : decode cX3_init 118 = .ok (.istore_n 1, 1) := by decide +kernel
theorem dX3_init_119 : decode cX3_init 119 = .ok (.iload_n 1, 1) := by decide +kernel
theorem dX3_init_120 : decode cX3_init 120 = .ok (.bipush 64, 2) := by decide +kernel
theorem dX3_init_122 : decode cX3_init 122 = .ok (.if_icmp .ge 20, 3) := by decide +kernel
theorem dX3_init_125 : decode cX3_init 125 = .ok (.aload_n 0, 1) := by decide +kernel
theorem dX3_init_126 : decode cX3_init 126 = .ok (.getfield 9, 3) := by decide +kernel
theorem dX3_init_129 : decode cX3_init 129 = .ok (.bipush 64, 2) := by decide +kernel
theorem dX3_init_131 : decode cX3_init 131 = .ok (.iload_n 1, 1) := by decide +kernel
theorem dX3_init_132 : decode cX3_init 132 = .ok (.iadd, 1) := by decide +kernel
theorem dX3_init_133 : decode cX3_init 133 = .ok (.bipush 100, 2) := by decide +kernel
theorem dX3_init_135 : decode cX3_init 135 = .ok (.iastore, 1) := by decide +kernel
theorem dX3_init_136 : decode cX3_init 136 = .ok (.iinc 1 1, 3) := by decide +kernel
theorem dX3_init_139 : decode cX3_init 139 = .ok (.goto (-20), 3) := by decide +kernel
theorem dX3_init_142 : decode cX3_init 142 = .ok (.return_, 1) := by decide +kernel
set_option maxRecDepth 20000 in
theorem sp_X3_init_1_loop {h0 : Nat → sE} : ∀ (m : Nat) (i : Int) (h : Nat → sE), 0 ≤ i → i ≤ 64 → (m : Int) = 64 - i → (∀ j, j < 1 → h j = h0 j) → h 1 = .inr (3, [.ref 2, .ref 3, .ref 4, .ref 5, .ref 6, .ref 7, .ref 8, .ref 9, .ref 10, .int (iI 0), .int (iI 0), .int (iI 0), .int (iI 0), .int (iI 0), .int (iI (-1))]) → h 2 = aI 192 (fun k => if 64 ≤ k ∧ k < 64 + i then 100 else 0) → h 3 = aI 3 (fun _ => 0) → h 4 = aI 3 (fun _ => 0) → h 5 = aI 25 (fun _ => 0) → h 6 = aI 72 (fun _ => 0) → h 7 = aI 40 (fun _ => 0) → h 8 = aI 30 (fun _ => 0) → h 9 = aI 3 (uI (uI (uI (fun _ => 0) 0 0) 1 2) 2 0) → h 10 = qI 6 "ShadowHerds$Script" (fun _ => -1) → V (m_X3_init, 1, 9, 374, 2, fun r n' h' => r = none ∧ n' = 11 ∧ (∀ j, j < 1 → h' j = h0 j) ∧ h' 1 = .inr (3, [.ref 2, .ref 3, .ref 4, .ref 5, .ref 6, .ref 7, .ref 8, .ref 9, .ref 10, .int (iI 0), .int (iI 0), .int (iI 0), .int (iI 0), .int (iI 0), .int (iI (-1))]) ∧ h' 2 = aI 192 (fun k => if 64 ≤ k ∧ k < 128 then 100 else 0) ∧ h' 3 = aI 3 (fun _ => 0) ∧ h' 4 = aI 3 (fun _ => 0) ∧ h' 5 = aI 25 (fun _ => 0) ∧ h' 6 = aI 72 (fun _ => 0) ∧ h' 7 = aI 40 (fun _ => 0) ∧ h' 8 = aI 30 (fun _ => 0) ∧ h' 9 = aI 3 (uI (uI (uI (fun _ => 0) 0 0) 1 2) 2 0) ∧ h' 10 = qI 6 "ShadowHerds$Script" (fun _ => -1), s_G0) 9 374 11 h 119 [(1, .int (iI i)), (0, .ref 1)] [] := by
  intro m
  induction m with
  | zero =>
    intro i h i0 i1 hm hF H1 H2 H3 H4 H5 H6 H7 H8 H9 H10
    have hi : i = 64 := by omega
    subst hi
    refine v_iload_n dX3_init_119 rfl ?_
    refine v_bipushI dX3_init_120 rfl ?_
    refine v_icmp_geI (tgt := 142) dX3_init_122 (by decide) (by omega) (by omega) (by omega) (by omega) (fun c_1 => ?_) (fun c_1 => ?_)
    · exact v_vret dX3_init_142 rfl (Nat.le_of_ble_eq_true rfl) (Nat.le_of_ble_eq_true rfl) ⟨rfl, rfl, hF, H1, (H2.trans (congrArg (aI 192) (funext fun k => rfl))), H3, H4, H5, H6, H7, H8, H9, H10⟩
    · exact absurd (by omega) c_1
  | succ m ih =>
    intro i h i0 i1 hm hF H1 H2 H3 H4 H5 H6 H7 H8 H9 H10
    refine v_iload_n dX3_init_119 rfl ?_
    refine v_bipushI dX3_init_120 rfl ?_
    refine v_icmp_geI (tgt := 142) dX3_init_122 (by decide) (by omega) (by omega) (by omega) (by omega) (fun c_1 => ?_) (fun c_1 => ?_)
    · exact absurd c_1 (by omega)
    · refine v_aload_n dX3_init_125 rfl ?_
      refine v_get dX3_init_126 fl_X3_9 H1 rfl (Nat.le_of_ble_eq_true rfl) ?_
      refine v_bipushI dX3_init_129 rfl ?_
      refine v_iload_n dX3_init_131 rfl ?_
      refine v_iaddI dX3_init_132 ?_
      refine v_bipushI dX3_init_133 rfl ?_
      refine v_iastI dX3_init_135 H2 (Nat.le_of_ble_eq_true rfl) (by omega) (by omega) (by omega) (fun h2 E3 F4 => ?_)
      refine v_iincI dX3_init_136 rfl (Nat.le_of_ble_eq_true rfl) ?_
      refine v_goto (tgt := 119) dX3_init_139 (by decide) ?_
      exact ih (i + 1) _ (by omega) (by omega) (by omega) (fun j hj => ((F4 j (by omega)).trans (hF j hj))) ((F4 1 (by decide)).trans H1) (E3.trans (congrArg (aI 192) (uI_fill (fun k => by omega)))) ((F4 3 (by decide)).trans H3) ((F4 4 (by decide)).trans H4) ((F4 5 (by decide)).trans H5) ((F4 6 (by decide)).trans H6) ((F4 7 (by decide)).trans H7) ((F4 8 (by decide)).trans H8) ((F4 9 (by decide)).trans H9) ((F4 10 (by decide)).trans H10)
set_option maxRecDepth 20000 in
theorem sp_X3_init_1 {h : Nat → sE} (ho : h 1 = .inr (3, [.null, .null, .null, .null, .null, .null, .null, .null, .null, .int (iI 0), .int (iI 0), .int (iI 0), .int (iI 0), .int (iI 0), .int (iI 0)])) : Sp m_X3_init 1 9 374 [.ref 1] 2 h (fun r n' h' => r = none ∧ n' = 11 ∧ (∀ j, j < 1 → h' j = h j) ∧ h' 1 = .inr (3, [.ref 2, .ref 3, .ref 4, .ref 5, .ref 6, .ref 7, .ref 8, .ref 9, .ref 10, .int (iI 0), .int (iI 0), .int (iI 0), .int (iI 0), .int (iI 0), .int (iI (-1))]) ∧ h' 2 = aI 192 (fun k => if 64 ≤ k ∧ k < 128 then 100 else 0) ∧ h' 3 = aI 3 (fun _ => 0) ∧ h' 4 = aI 3 (fun _ => 0) ∧ h' 5 = aI 25 (fun _ => 0) ∧ h' 6 = aI 72 (fun _ => 0) ∧ h' 7 = aI 40 (fun _ => 0) ∧ h' 8 = aI 30 (fun _ => 0) ∧ h' 9 = aI 3 (uI (uI (uI (fun _ => 0) 0 0) 1 2) 2 0) ∧ h' 10 = qI 6 "ShadowHerds$Script" (fun _ => -1)) := by
  refine Sp.ofV (by decide +kernel) (Nat.le_of_ble_eq_true rfl) ?_
  refine v_aload_n dX3_init_0 rfl ?_
  refine v_objInit dX3_init_1 ml_X3_3 (by decide) (Nat.le_of_ble_eq_true rfl) ?_
  refine v_aload_n dX3_init_4 rfl ?_
  refine v_sipushI dX3_init_5 rfl ?_
  refine v_newa_aI (N := 192) dX3_init_8 ac_int rfl (s_lvok rfl) (s_stok rfl) (Nat.le_of_ble_eq_true rfl) (Nat.le_of_ble_eq_true rfl) (fun h1 E2 F3 => ?_)
  have H4 := ((F3 1 (by decide)).trans ho)
  refine v_putF dX3_init_10 fl_X3_9 rfl rfl H4 (Nat.le_of_ble_eq_true rfl) (Nat.le_of_ble_eq_true rfl) (fun _ => ⟨rfl, rfl⟩) (Nat.le_of_ble_eq_true rfl) (fun h5 E6 F7 => ?_)
  refine v_aload_n dX3_init_13 rfl ?_
  refine v_iconstI dX3_init_14 ?_
  refine v_newa_aI (N := 3) dX3_init_15 ac_int rfl (s_lvok rfl) (s_stok rfl) (Nat.le_of_ble_eq_true rfl) (Nat.le_of_ble_eq_true rfl) (fun h8 E9 F10 => ?_)
  have H11 := ((F10 1 (by decide)).trans E6)
  refine v_putF dX3_init_17 fl_X3_15 rfl rfl H11 (Nat.le_of_ble_eq_true rfl) (Nat.le_of_ble_eq_true rfl) (fun _ => ⟨rfl, rfl⟩) (Nat.le_of_ble_eq_true rfl) (fun h12 E13 F14 => ?_)
  refine v_aload_n dX3_init_20 rfl ?_
  refine v_iconstI dX3_init_21 ?_
  refine v_newa_aI (N := 3) dX3_init_22 ac_int rfl (s_lvok rfl) (s_stok rfl) (Nat.le_of_ble_eq_true rfl) (Nat.le_of_ble_eq_true rfl) (fun h15 E16 F17 => ?_)
  have H18 := ((F17 1 (by decide)).trans E13)
  refine v_putF dX3_init_24 fl_X3_18 rfl rfl H18 (Nat.le_of_ble_eq_true rfl) (Nat.le_of_ble_eq_true rfl) (fun _ => ⟨rfl, rfl⟩) (Nat.le_of_ble_eq_true rfl) (fun h19 E20 F21 => ?_)
  refine v_aload_n dX3_init_27 rfl ?_
  refine v_bipushI dX3_init_28 rfl ?_
  refine v_newa_aI (N := 25) dX3_init_30 ac_int rfl (s_lvok rfl) (s_stok rfl) (Nat.le_of_ble_eq_true rfl) (Nat.le_of_ble_eq_true rfl) (fun h22 E23 F24 => ?_)
  have H25 := ((F24 1 (by decide)).trans E20)
  refine v_putF dX3_init_32 fl_X3_21 rfl rfl H25 (Nat.le_of_ble_eq_true rfl) (Nat.le_of_ble_eq_true rfl) (fun _ => ⟨rfl, rfl⟩) (Nat.le_of_ble_eq_true rfl) (fun h26 E27 F28 => ?_)
  refine v_aload_n dX3_init_35 rfl ?_
  refine v_bipushI dX3_init_36 rfl ?_
  refine v_newa_aI (N := 72) dX3_init_38 ac_int rfl (s_lvok rfl) (s_stok rfl) (Nat.le_of_ble_eq_true rfl) (Nat.le_of_ble_eq_true rfl) (fun h29 E30 F31 => ?_)
  have H32 := ((F31 1 (by decide)).trans E27)
  refine v_putF dX3_init_40 fl_X3_24 rfl rfl H32 (Nat.le_of_ble_eq_true rfl) (Nat.le_of_ble_eq_true rfl) (fun _ => ⟨rfl, rfl⟩) (Nat.le_of_ble_eq_true rfl) (fun h33 E34 F35 => ?_)
  refine v_aload_n dX3_init_43 rfl ?_
  refine v_bipushI dX3_init_44 rfl ?_
  refine v_newa_aI (N := 40) dX3_init_46 ac_int rfl (s_lvok rfl) (s_stok rfl) (Nat.le_of_ble_eq_true rfl) (Nat.le_of_ble_eq_true rfl) (fun h36 E37 F38 => ?_)
  have H39 := ((F38 1 (by decide)).trans E34)
  refine v_putF dX3_init_48 fl_X3_27 rfl rfl H39 (Nat.le_of_ble_eq_true rfl) (Nat.le_of_ble_eq_true rfl) (fun _ => ⟨rfl, rfl⟩) (Nat.le_of_ble_eq_true rfl) (fun h40 E41 F42 => ?_)
  refine v_aload_n dX3_init_51 rfl ?_
  refine v_bipushI dX3_init_52 rfl ?_
  refine v_newa_aI (N := 30) dX3_init_54 ac_int rfl (s_lvok rfl) (s_stok rfl) (Nat.le_of_ble_eq_true rfl) (Nat.le_of_ble_eq_true rfl) (fun h43 E44 F45 => ?_)
  have H46 := ((F45 1 (by decide)).trans E41)
  refine v_putF dX3_init_56 fl_X3_30 rfl rfl H46 (Nat.le_of_ble_eq_true rfl) (Nat.le_of_ble_eq_true rfl) (fun _ => ⟨rfl, rfl⟩) (Nat.le_of_ble_eq_true rfl) (fun h47 E48 F49 => ?_)
  refine v_aload_n dX3_init_59 rfl ?_
  refine v_iconstI dX3_init_60 ?_
  refine v_newa_aI (N := 3) dX3_init_61 ac_int rfl (s_lvok rfl) (s_stok rfl) (Nat.le_of_ble_eq_true rfl) (Nat.le_of_ble_eq_true rfl) (fun h50 E51 F52 => ?_)
  refine v_dup dX3_init_63 rfl ?_
  refine v_iconstI dX3_init_64 ?_
  refine v_iconstI dX3_init_65 ?_
  refine v_iastI dX3_init_66 E51 (Nat.le_of_ble_eq_true rfl) (by omega) (by omega) (by omega) (fun h53 E54 F55 => ?_)
  refine v_dup dX3_init_67 rfl ?_
  refine v_iconstI dX3_init_68 ?_
  refine v_iconstI dX3_init_69 ?_
  refine v_iastI dX3_init_70 E54 (Nat.le_of_ble_eq_true rfl) (by omega) (by omega) (by omega) (fun h56 E57 F58 => ?_)
  refine v_dup dX3_init_71 rfl ?_
  refine v_iconstI dX3_init_72 ?_
  refine v_iconstI dX3_init_73 ?_
  refine v_iastI dX3_init_74 E57 (Nat.le_of_ble_eq_true rfl) (by omega) (by omega) (by omega) (fun h59 E60 F61 => ?_)
  have H62 := ((F61 1 (by decide)).trans ((F58 1 (by decide)).trans ((F55 1 (by decide)).trans ((F52 1 (by decide)).trans E48))))
  refine v_putF dX3_init_75 fl_X3_33 rfl rfl H62 (Nat.le_of_ble_eq_true rfl) (Nat.le_of_ble_eq_true rfl) (fun _ => ⟨rfl, rfl⟩) (Nat.le_of_ble_eq_true rfl) (fun h63 E64 F65 => ?_)
  refine v_aload_n dX3_init_78 rfl ?_
  refine v_bipushI dX3_init_79 rfl ?_
  refine v_newqI (N := 6) dX3_init_81 ck_X3_36 (by first | exact Or.inl rfl | exact Or.inr rfl) rfl (s_lvok rfl) (s_stok rfl) (Nat.le_of_ble_eq_true rfl) (Nat.le_of_ble_eq_true rfl) (fun h66 E67 F68 => ?_)
  have H69 := ((F68 1 (by decide)).trans E64)
  refine v_putF dX3_init_84 fl_X3_38 rfl rfl H69 (Nat.le_of_ble_eq_true rfl) (Nat.le_of_ble_eq_true rfl) (fun _ => ⟨rfl, rfl⟩) (Nat.le_of_ble_eq_true rfl) (fun h70 E71 F72 => ?_)
  refine v_aload_n dX3_init_87 rfl ?_
  refine v_iconstI dX3_init_88 ?_
  refine v_put dX3_init_89 fl_X3_42 E71 (Nat.le_of_ble_eq_true rfl) (Nat.le_of_ble_eq_true rfl) (fun _ => ⟨rfl, rfl⟩) trivial (fun h73 E74 F75 => ?_)
  refine v_aload_n dX3_init_92 rfl ?_
  refine v_iconstI dX3_init_93 ?_
  refine v_put dX3_init_94 fl_X3_46 E74 (Nat.le_of_ble_eq_true rfl) (Nat.le_of_ble_eq_true rfl) (fun _ => ⟨rfl, rfl⟩) trivial (fun h76 E77 F78 => ?_)
  refine v_aload_n dX3_init_97 rfl ?_
  refine v_iconstI dX3_init_98 ?_
  refine v_put dX3_init_99 fl_X3_49 E77 (Nat.le_of_ble_eq_true rfl) (Nat.le_of_ble_eq_true rfl) (fun _ => ⟨rfl, rfl⟩) trivial (fun h79 E80 F81 => ?_)
  refine v_aload_n dX3_init_102 rfl ?_
  refine v_iconstI dX3_init_103 ?_
  refine v_put dX3_init_104 fl_X3_52 E80 (Nat.le_of_ble_eq_true rfl) (Nat.le_of_ble_eq_true rfl) (fun _ => ⟨rfl, rfl⟩) trivial (fun h82 E83 F84 => ?_)
  refine v_aload_n dX3_init_107 rfl ?_
  refine v_iconstI dX3_init_108 ?_
  refine v_put dX3_init_109 fl_X3_55 E83 (Nat.le_of_ble_eq_true rfl) (Nat.le_of_ble_eq_true rfl) (fun _ => ⟨rfl, rfl⟩) trivial (fun h85 E86 F87 => ?_)
  refine v_aload_n dX3_init_112 rfl ?_
  refine v_iconstI dX3_init_113 ?_
  refine v_put dX3_init_114 fl_X3_58 E86 (Nat.le_of_ble_eq_true rfl) (Nat.le_of_ble_eq_true rfl) (fun _ => ⟨rfl, rfl⟩) trivial (fun h88 E89 F90 => ?_)
  refine v_iconstI dX3_init_117 ?_
  refine v_istore_n dX3_init_118 (Nat.le_of_ble_eq_true rfl) ?_
  exact sp_X3_init_1_loop 64 0 _ (by decide) (by decide) (by decide) (fun j hj => ((F90 j (by omega)).trans ((F87 j (by omega)).trans ((F84 j (by omega)).trans ((F81 j (by omega)).trans ((F78 j (by omega)).trans ((F75 j (by omega)).trans ((F72 j (by omega)).trans ((F68 j (by omega)).trans ((F65 j (by omega)).trans ((F61 j (by omega)).trans ((F58 j (by omega)).trans ((F55 j (by omega)).trans ((F52 j (by omega)).trans ((F49 j (by omega)).trans ((F45 j (by omega)).trans ((F42 j (by omega)).trans ((F38 j (by omega)).trans ((F35 j (by omega)).trans ((F31 j (by omega)).trans ((F28 j (by omega)).trans ((F24 j (by omega)).trans ((F21 j (by omega)).trans ((F17 j (by omega)).trans ((F14 j (by omega)).trans ((F10 j (by omega)).trans ((F7 j (by omega)).trans (F3 j (by omega))))))))))))))))))))))))))))) E89 (((F90 2 (by decide)).trans ((F87 2 (by decide)).trans ((F84 2 (by decide)).trans ((F81 2 (by decide)).trans ((F78 2 (by decide)).trans ((F75 2 (by decide)).trans ((F72 2 (by decide)).trans ((F68 2 (by decide)).trans ((F65 2 (by decide)).trans ((F61 2 (by decide)).trans ((F58 2 (by decide)).trans ((F55 2 (by decide)).trans ((F52 2 (by decide)).trans ((F49 2 (by decide)).trans ((F45 2 (by decide)).trans ((F42 2 (by decide)).trans ((F38 2 (by decide)).trans ((F35 2 (by decide)).trans ((F31 2 (by decide)).trans ((F28 2 (by decide)).trans ((F24 2 (by decide)).trans ((F21 2 (by decide)).trans ((F17 2 (by decide)).trans ((F14 2 (by decide)).trans ((F10 2 (by decide)).trans ((F7 2 (by decide)).trans E2)))))))))))))))))))))))))).trans (congrArg (aI 192) (funext fun k => by rw [if_neg (by omega)]))) ((F90 3 (by decide)).trans ((F87 3 (by decide)).trans ((F84 3 (by decide)).trans ((F81 3 (by decide)).trans ((F78 3 (by decide)).trans ((F75 3 (by decide)).trans ((F72 3 (by decide)).trans ((F68 3 (by decide)).trans ((F65 3 (by decide)).trans ((F61 3 (by decide)).trans ((F58 3 (by decide)).trans ((F55 3 (by decide)).trans ((F52 3 (by decide)).trans ((F49 3 (by decide)).trans ((F45 3 (by decide)).trans ((F42 3 (by decide)).trans ((F38 3 (by decide)).trans ((F35 3 (by decide)).trans ((F31 3 (by decide)).trans ((F28 3 (by decide)).trans ((F24 3 (by decide)).trans ((F21 3 (by decide)).trans ((F17 3 (by decide)).trans ((F14 3 (by decide)).trans E9)))))))))))))))))))))))) ((F90 4 (by decide)).trans ((F87 4 (by decide)).trans ((F84 4 (by decide)).trans ((F81 4 (by decide)).trans ((F78 4 (by decide)).trans ((F75 4 (by decide)).trans ((F72 4 (by decide)).trans ((F68 4 (by decide)).trans ((F65 4 (by decide)).trans ((F61 4 (by decide)).trans ((F58 4 (by decide)).trans ((F55 4 (by decide)).trans ((F52 4 (by decide)).trans ((F49 4 (by decide)).trans ((F45 4 (by decide)).trans ((F42 4 (by decide)).trans ((F38 4 (by decide)).trans ((F35 4 (by decide)).trans ((F31 4 (by decide)).trans ((F28 4 (by decide)).trans ((F24 4 (by decide)).trans ((F21 4 (by decide)).trans E16)))))))))))))))))))))) ((F90 5 (by decide)).trans ((F87 5 (by decide)).trans ((F84 5 (by decide)).trans ((F81 5 (by decide)).trans ((F78 5 (by decide)).trans ((F75 5 (by decide)).trans ((F72 5 (by decide)).trans ((F68 5 (by decide)).trans ((F65 5 (by decide)).trans ((F61 5 (by decide)).trans ((F58 5 (by decide)).trans ((F55 5 (by decide)).trans ((F52 5 (by decide)).trans ((F49 5 (by decide)).trans ((F45 5 (by decide)).trans ((F42 5 (by decide)).trans ((F38 5 (by decide)).trans ((F35 5 (by decide)).trans ((F31 5 (by decide)).trans ((F28 5 (by decide)).trans E23)))))))))))))))))))) ((F90 6 (by decide)).trans ((F87 6 (by decide)).trans ((F84 6 (by decide)).trans ((F81 6 (by decide)).trans ((F78 6 (by decide)).trans ((F75 6 (by decide)).trans ((F72 6 (by decide)).trans ((F68 6 (by decide)).trans ((F65 6 (by decide)).trans ((F61 6 (by decide)).trans ((F58 6 (by decide)).trans ((F55 6 (by decide)).trans ((F52 6 (by decide)).trans ((F49 6 (by decide)).trans ((F45 6 (by decide)).trans ((F42 6 (by decide)).trans ((F38 6 (by decide)).trans ((F35 6 (by decide)).trans E30)))))))))))))))))) ((F90 7 (by decide)).trans ((F87 7 (by decide)).trans ((F84 7 (by decide)).trans ((F81 7 (by decide)).trans ((F78 7 (by decide)).trans ((F75 7 (by decide)).trans ((F72 7 (by decide)).trans ((F68 7 (by decide)).trans ((F65 7 (by decide)).trans ((F61 7 (by decide)).trans ((F58 7 (by decide)).trans ((F55 7 (by decide)).trans ((F52 7 (by decide)).trans ((F49 7 (by decide)).trans ((F45 7 (by decide)).trans ((F42 7 (by decide)).trans E37)))))))))))))))) ((F90 8 (by decide)).trans ((F87 8 (by decide)).trans ((F84 8 (by decide)).trans ((F81 8 (by decide)).trans ((F78 8 (by decide)).trans ((F75 8 (by decide)).trans ((F72 8 (by decide)).trans ((F68 8 (by decide)).trans ((F65 8 (by decide)).trans ((F61 8 (by decide)).trans ((F58 8 (by decide)).trans ((F55 8 (by decide)).trans ((F52 8 (by decide)).trans ((F49 8 (by decide)).trans E44)))))))))))))) ((F90 9 (by decide)).trans ((F87 9 (by decide)).trans ((F84 9 (by decide)).trans ((F81 9 (by decide)).trans ((F78 9 (by decide)).trans ((F75 9 (by decide)).trans ((F72 9 (by decide)).trans ((F68 9 (by decide)).trans ((F65 9 (by decide)).trans E60))))))))) ((F90 10 (by decide)).trans ((F87 10 (by decide)).trans ((F84 10 (by decide)).trans ((F81 10 (by decide)).trans ((F78 10 (by decide)).trans ((F75 10 (by decide)).trans ((F72 10 (by decide)).trans E67)))))))
set_option maxRecDepth 20000 in
theorem sp_X3_init_12_loop {h0 : Nat → sE} : ∀ (m : Nat) (i : Int) (h : Nat → sE), 0 ≤ i → i ≤ 64 → (m : Int) = 64 - i → (∀ j, j < 12 → h j = h0 j) → h 12 = .inr (3, [.ref 13, .ref 14, .ref 15, .ref 16, .ref 17, .ref 18, .ref 19, .ref 20, .ref 21, .int (iI 0), .int (iI 0), .int (iI 0), .int (iI 0), .int (iI 0), .int (iI (-1))]) → h 13 = aI 192 (fun k => if 64 ≤ k ∧ k < 64 + i then 100 else 0) → h 14 = aI 3 (fun _ => 0) → h 15 = aI 3 (fun _ => 0) → h 16 = aI 25 (fun _ => 0) → h 17 = aI 72 (fun _ => 0) → h 18 = aI 40 (fun _ => 0) → h 19 = aI 30 (fun _ => 0) → h 20 = aI 3 (uI (uI (uI (fun _ => 0) 0 0) 1 2) 2 0) → h 21 = qI 6 "ShadowHerds$Script" (fun _ => -1) → V (m_X3_init, 1, 9, 374, 13, fun r n' h' => r = none ∧ n' = 22 ∧ (∀ j, j < 12 → h' j = h0 j) ∧ h' 12 = .inr (3, [.ref 13, .ref 14, .ref 15, .ref 16, .ref 17, .ref 18, .ref 19, .ref 20, .ref 21, .int (iI 0), .int (iI 0), .int (iI 0), .int (iI 0), .int (iI 0), .int (iI (-1))]) ∧ h' 13 = aI 192 (fun k => if 64 ≤ k ∧ k < 128 then 100 else 0) ∧ h' 14 = aI 3 (fun _ => 0) ∧ h' 15 = aI 3 (fun _ => 0) ∧ h' 16 = aI 25 (fun _ => 0) ∧ h' 17 = aI 72 (fun _ => 0) ∧ h' 18 = aI 40 (fun _ => 0) ∧ h' 19 = aI 30 (fun _ => 0) ∧ h' 20 = aI 3 (uI (uI (uI (fun _ => 0) 0 0) 1 2) 2 0) ∧ h' 21 = qI 6 "ShadowHerds$Script" (fun _ => -1), s_G0) 9 374 22 h 119 [(1, .int (iI i)), (0, .ref 12)] [] := by
  intro m
  induction m with
  | zero =>
    intro i h i0 i1 hm hF H12 H13 H14 H15 H16 H17 H18 H19 H20 H21
    have hi : i = 64 := by omega
    subst hi
    refine v_iload_n dX3_init_119 rfl ?_
    refine v_bipushI dX3_init_120 rfl ?_
    refine v_icmp_geI (tgt := 142) dX3_init_122 (by decide) (by omega) (by omega) (by omega) (by omega) (fun c_1 => ?_) (fun c_1 => ?_)
    · exact v_vret dX3_init_142 rfl (Nat.le_of_ble_eq_true rfl) (Nat.le_of_ble_eq_true rfl) ⟨rfl, rfl, hF, H12, (H13.trans (congrArg (aI 192) (funext fun k => rfl))), H14, H15, H16, H17, H18, H19, H20, H21⟩
    · exact absurd (by omega) c_1
  | succ m ih =>
    intro i h i0 i1 hm hF H12 H13 H14 H15 H16 H17 H18 H19 H20 H21
    refine v_iload_n dX3_init_119 rfl ?_
    refine v_bipushI dX3_init_120 rfl ?_
    refine v_icmp_geI (tgt := 142) dX3_init_122 (by decide) (by omega) (by omega) (by omega) (by omega) (fun c_1 => ?_) (fun c_1 => ?_)
    · exact absurd c_1 (by omega)
    · refine v_aload_n dX3_init_125 rfl ?_
      refine v_get dX3_init_126 fl_X3_9 H12 rfl (Nat.le_of_ble_eq_true rfl) ?_
      refine v_bipushI dX3_init_129 rfl ?_
      refine v_iload_n dX3_init_131 rfl ?_
      refine v_iaddI dX3_init_132 ?_
      refine v_bipushI dX3_init_133 rfl ?_
      refine v_iastI dX3_init_135 H13 (Nat.le_of_ble_eq_true rfl) (by omega) (by omega) (by omega) (fun h2 E3 F4 => ?_)
      refine v_iincI dX3_init_136 rfl (Nat.le_of_ble_eq_true rfl) ?_
      refine v_goto (tgt := 119) dX3_init_139 (by decide) ?_
      exact ih (i + 1) _ (by omega) (by omega) (by omega) (fun j hj => ((F4 j (by omega)).trans (hF j hj))) ((F4 12 (by decide)).trans H12) (E3.trans (congrArg (aI 192) (uI_fill (fun k => by omega)))) ((F4 14 (by decide)).trans H14) ((F4 15 (by decide)).trans H15) ((F4 16 (by decide)).trans H16) ((F4 17 (by decide)).trans H17) ((F4 18 (by decide)).trans H18) ((F4 19 (by decide)).trans H19) ((F4 20 (by decide)).trans H20) ((F4 21 (by decide)).trans H21)
set_option maxRecDepth 20000 in
theorem sp_X3_init_12 {h : Nat → sE} (ho : h 12 = .inr (3, [.null, .null, .null, .null, .null, .null, .null, .null, .null, .int (iI 0), .int (iI 0), .int (iI 0), .int (iI 0), .int (iI 0), .int (iI 0)])) : Sp m_X3_init 1 9 374 [.ref 12] 13 h (fun r n' h' => r = none ∧ n' = 22 ∧ (∀ j, j < 12 → h' j = h j) ∧ h' 12 = .inr (3, [.ref 13, .ref 14, .ref 15, .ref 16, .ref 17, .ref 18, .ref 19, .ref 20, .ref 21, .int (iI 0), .int (iI 0), .int (iI 0), .int (iI 0), .int (iI 0), .int (iI (-1))]) ∧ h' 13 = aI 192 (fun k => if 64 ≤ k ∧ k < 128 then 100 else 0) ∧ h' 14 = aI 3 (fun _ => 0) ∧ h' 15 = aI 3 (fun _ => 0) ∧ h' 16 = aI 25 (fun _ => 0) ∧ h' 17 = aI 72 (fun _ => 0) ∧ h' 18 = aI 40 (fun _ => 0) ∧ h' 19 = aI 30 (fun _ => 0) ∧ h' 20 = aI 3 (uI (uI (uI (fun _ => 0) 0 0) 1 2) 2 0) ∧ h' 21 = qI 6 "ShadowHerds$Script" (fun _ => -1)) := by
  refine Sp.ofV (by decide +kernel) (Nat.le_of_ble_eq_true rfl) ?_
  refine v_aload_n dX3_init_0 rfl ?_
  refine v_objInit dX3_init_1 ml_X3_3 (by decide) (Nat.le_of_ble_eq_true rfl) ?_
  refine v_aload_n dX3_init_4 rfl ?_
  refine v_sipushI dX3_init_5 rfl ?_
  refine v_newa_aI (N := 192) dX3_init_8 ac_int rfl (s_lvok rfl) (s_stok rfl) (Nat.le_of_ble_eq_true rfl) (Nat.le_of_ble_eq_true rfl) (fun h1 E2 F3 => ?_)
  have H4 := ((F3 12 (by decide)).trans ho)
  refine v_putF dX3_init_10 fl_X3_9 rfl rfl H4 (Nat.le_of_ble_eq_true rfl) (Nat.le_of_ble_eq_true rfl) (fun _ => ⟨rfl, rfl⟩) (Nat.le_of_ble_eq_true rfl) (fun h5 E6 F7 => ?_)
  refine v_aload_n dX3_init_13 rfl ?_
  refine v_iconstI dX3_init_14 ?_
  refine v_newa_aI (N := 3) dX3_init_15 ac_int rfl (s_lvok rfl) (s_stok rfl) (Nat.le_of_ble_eq_true rfl) (Nat.le_of_ble_eq_true rfl) (fun h8 E9 F10 => ?_)
  have H11 := ((F10 12 (by decide)).trans E6)
  refine v_putF dX3_init_17 fl_X3_15 rfl rfl H11 (Nat.le_of_ble_eq_true rfl) (Nat.le_of_ble_eq_true rfl) (fun _ => ⟨rfl, rfl⟩) (Nat.le_of_ble_eq_true rfl) (fun h12 E13 F14 => ?_)
  refine v_aload_n dX3_init_20 rfl ?_
  refine v_iconstI dX3_init_21 ?_
  refine v_newa_aI (N := 3) dX3_init_22 ac_int rfl (s_lvok rfl) (s_stok rfl) (Nat.le_of_ble_eq_true rfl) (Nat.le_of_ble_eq_true rfl) (fun h15 E16 F17 => ?_)
  have H18 := ((F17 12 (by decide)).trans E13)
  refine v_putF dX3_init_24 fl_X3_18 rfl rfl H18 (Nat.le_of_ble_eq_true rfl) (Nat.le_of_ble_eq_true rfl) (fun _ => ⟨rfl, rfl⟩) (Nat.le_of_ble_eq_true rfl) (fun h19 E20 F21 => ?_)
  refine v_aload_n dX3_init_27 rfl ?_
  refine v_bipushI dX3_init_28 rfl ?_
  refine v_newa_aI (N := 25) dX3_init_30 ac_int rfl (s_lvok rfl) (s_stok rfl) (Nat.le_of_ble_eq_true rfl) (Nat.le_of_ble_eq_true rfl) (fun h22 E23 F24 => ?_)
  have H25 := ((F24 12 (by decide)).trans E20)
  refine v_putF dX3_init_32 fl_X3_21 rfl rfl H25 (Nat.le_of_ble_eq_true rfl) (Nat.le_of_ble_eq_true rfl) (fun _ => ⟨rfl, rfl⟩) (Nat.le_of_ble_eq_true rfl) (fun h26 E27 F28 => ?_)
  refine v_aload_n dX3_init_35 rfl ?_
  refine v_bipushI dX3_init_36 rfl ?_
  refine v_newa_aI (N := 72) dX3_init_38 ac_int rfl (s_lvok rfl) (s_stok rfl) (Nat.le_of_ble_eq_true rfl) (Nat.le_of_ble_eq_true rfl) (fun h29 E30 F31 => ?_)
  have H32 := ((F31 12 (by decide)).trans E27)
  refine v_putF dX3_init_40 fl_X3_24 rfl rfl H32 (Nat.le_of_ble_eq_true rfl) (Nat.le_of_ble_eq_true rfl) (fun _ => ⟨rfl, rfl⟩) (Nat.le_of_ble_eq_true rfl) (fun h33 E34 F35 => ?_)
  refine v_aload_n dX3_init_43 rfl ?_
  refine v_bipushI dX3_init_44 rfl ?_
  refine v_newa_aI (N := 40) dX3_init_46 ac_int rfl (s_lvok rfl) (s_stok rfl) (Nat.le_of_ble_eq_true rfl) (Nat.le_of_ble_eq_true rfl) (fun h36 E37 F38 => ?_)
  have H39 := ((F38 12 (by decide)).trans E34)
  refine v_putF dX3_init_48 fl_X3_27 rfl rfl H39 (Nat.le_of_ble_eq_true rfl) (Nat.le_of_ble_eq_true rfl) (fun _ => ⟨rfl, rfl⟩) (Nat.le_of_ble_eq_true rfl) (fun h40 E41 F42 => ?_)
  refine v_aload_n dX3_init_51 rfl ?_
  refine v_bipushI dX3_init_52 rfl ?_
  refine v_newa_aI (N := 30) dX3_init_54 ac_int rfl (s_lvok rfl) (s_stok rfl) (Nat.le_of_ble_eq_true rfl) (Nat.le_of_ble_eq_true rfl) (fun h43 E44 F45 => ?_)
  have H46 := ((F45 12 (by decide)).trans E41)
  refine v_putF dX3_init_56 fl_X3_30 rfl rfl H46 (Nat.le_of_ble_eq_true rfl) (Nat.le_of_ble_eq_true rfl) (fun _ => ⟨rfl, rfl⟩) (Nat.le_of_ble_eq_true rfl) (fun h47 E48 F49 => ?_)
  refine v_aload_n dX3_init_59 rfl ?_
  refine v_iconstI dX3_init_60 ?_
  refine v_newa_aI (N := 3) dX3_init_61 ac_int rfl (s_lvok rfl) (s_stok rfl) (Nat.le_of_ble_eq_true rfl) (Nat.le_of_ble_eq_true rfl) (fun h50 E51 F52 => ?_)
  refine v_dup dX3_init_63 rfl ?_
  refine v_iconstI dX3_init_64 ?_
  refine v_iconstI dX3_init_65 ?_
  refine v_iastI dX3_init_66 E51 (Nat.le_of_ble_eq_true rfl) (by omega) (by omega) (by omega) (fun h53 E54 F55 => ?_)
  refine v_dup dX3_init_67 rfl ?_
  refine v_iconstI dX3_init_68 ?_
  refine v_iconstI dX3_init_69 ?_
  refine v_iastI dX3_init_70 E54 (Nat.le_of_ble_eq_true rfl) (by omega) (by omega) (by omega) (fun h56 E57 F58 => ?_)
  refine v_dup dX3_init_71 rfl ?_
  refine v_iconstI dX3_init_72 ?_
  refine v_iconstI dX3_init_73 ?_
  refine v_iastI dX3_init_74 E57 (Nat.le_of_ble_eq_true rfl) (by omega) (by omega) (by omega) (fun h59 E60 F61 => ?_)
  have H62 := ((F61 12 (by decide)).trans ((F58 12 (by decide)).trans ((F55 12 (by decide)).trans ((F52 12 (by decide)).trans E48))))
  refine v_putF dX3_init_75 fl_X3_33 rfl rfl H62 (Nat.le_of_ble_eq_true rfl) (Nat.le_of_ble_eq_true rfl) (fun _ => ⟨rfl, rfl⟩) (Nat.le_of_ble_eq_true rfl) (fun h63 E64 F65 => ?_)
  refine v_aload_n dX3_init_78 rfl ?_
  refine v_bipushI dX3_init_79 rfl ?_
  refine v_newqI (N := 6) dX3_init_81 ck_X3_36 (by first | exact Or.inl rfl | exact Or.inr rfl) rfl (s_lvok rfl) (s_stok rfl) (Nat.le_of_ble_eq_true rfl) (Nat.le_of_ble_eq_true rfl) (fun h66 E67 F68 => ?_)
  have H69 := ((F68 12 (by decide)).trans E64)
  refine v_putF dX3_init_84 fl_X3_38 rfl rfl H69 (Nat.le_of_ble_eq_true rfl) (Nat.le_of_ble_eq_true rfl) (fun _ => ⟨rfl, rfl⟩) (Nat.le_of_ble_eq_true rfl) (fun h70 E71 F72 => ?_)
  refine v_aload_n dX3_init_87 rfl ?_
  refine v_iconstI dX3_init_88 ?_
  refine v_put dX3_init_89 fl_X3_42 E71 (Nat.le_of_ble_eq_true rfl) (Nat.le_of_ble_eq_true rfl) (fun _ => ⟨rfl, rfl⟩) trivial (fun h73 E74 F75 => ?_)
  refine v_aload_n dX3_init_92 rfl ?_
  refine v_iconstI dX3_init_93 ?_
  refine v_put dX3_init_94 fl_X3_46 E74 (Nat.le_of_ble_eq_true rfl) (Nat.le_of_ble_eq_true rfl) (fun _ => ⟨rfl, rfl⟩) trivial (fun h76 E77 F78 => ?_)
  refine v_aload_n dX3_init_97 rfl ?_
  refine v_iconstI dX3_init_98 ?_
  refine v_put dX3_init_99 fl_X3_49 E77 (Nat.le_of_ble_eq_true rfl) (Nat.le_of_ble_eq_true rfl) (fun _ => ⟨rfl, rfl⟩) trivial (fun h79 E80 F81 => ?_)
  refine v_aload_n dX3_init_102 rfl ?_
  refine v_iconstI dX3_init_103 ?_
  refine v_put dX3_init_104 fl_X3_52 E80 (Nat.le_of_ble_eq_true rfl) (Nat.le_of_ble_eq_true rfl) (fun _ => ⟨rfl, rfl⟩) trivial (fun h82 E83 F84 => ?_)
  refine v_aload_n dX3_init_107 rfl ?_
  refine v_iconstI dX3_init_108 ?_
  refine v_put dX3_init_109 fl_X3_55 E83 (Nat.le_of_ble_eq_true rfl) (Nat.le_of_ble_eq_true rfl) (fun _ => ⟨rfl, rfl⟩) trivial (fun h85 E86 F87 => ?_)
  refine v_aload_n dX3_init_112 rfl ?_
  refine v_iconstI dX3_init_113 ?_
  refine v_put dX3_init_114 fl_X3_58 E86 (Nat.le_of_ble_eq_true rfl) (Nat.le_of_ble_eq_true rfl) (fun _ => ⟨rfl, rfl⟩) trivial (fun h88 E89 F90 => ?_)
  refine v_iconstI dX3_init_117 ?_
  refine v_istore_n dX3_init_118 (Nat.le_of_ble_eq_true rfl) ?_
  exact sp_X3_init_12_loop 64 0 _ (by decide) (by decide) (by decide) (fun j hj => ((F90 j (by omega)).trans ((F87 j (by omega)).trans ((F84 j (by omega)).trans ((F81 j (by omega)).trans ((F78 j (by omega)).trans ((F75 j (by omega)).trans ((F72 j (by omega)).trans ((F68 j (by omega)).trans ((F65 j (by omega)).trans ((F61 j (by omega)).trans ((F58 j (by omega)).trans ((F55 j (by omega)).trans ((F52 j (by omega)).trans ((F49 j (by omega)).trans ((F45 j (by omega)).trans ((F42 j (by omega)).trans ((F38 j (by omega)).trans ((F35 j (by omega)).trans ((F31 j (by omega)).trans ((F28 j (by omega)).trans ((F24 j (by omega)).trans ((F21 j (by omega)).trans ((F17 j (by omega)).trans ((F14 j (by omega)).trans ((F10 j (by omega)).trans ((F7 j (by omega)).trans (F3 j (by omega))))))))))))))))))))))))))))) E89 (((F90 13 (by decide)).trans ((F87 13 (by decide)).trans ((F84 13 (by decide)).trans ((F81 13 (by decide)).trans ((F78 13 (by decide)).trans ((F75 13 (by decide)).trans ((F72 13 (by decide)).trans ((F68 13 (by decide)).trans ((F65 13 (by decide)).trans ((F61 13 (by decide)).trans ((F58 13 (by decide)).trans ((F55 13 (by decide)).trans ((F52 13 (by decide)).trans ((F49 13 (by decide)).trans ((F45 13 (by decide)).trans ((F42 13 (by decide)).trans ((F38 13 (by decide)).trans ((F35 13 (by decide)).trans ((F31 13 (by decide)).trans ((F28 13 (by decide)).trans ((F24 13 (by decide)).trans ((F21 13 (by decide)).trans ((F17 13 (by decide)).trans ((F14 13 (by decide)).trans ((F10 13 (by decide)).trans ((F7 13 (by decide)).trans E2)))))))))))))))))))))))))).trans (congrArg (aI 192) (funext fun k => by rw [if_neg (by omega)]))) ((F90 14 (by decide)).trans ((F87 14 (by decide)).trans ((F84 14 (by decide)).trans ((F81 14 (by decide)).trans ((F78 14 (by decide)).trans ((F75 14 (by decide)).trans ((F72 14 (by decide)).trans ((F68 14 (by decide)).trans ((F65 14 (by decide)).trans ((F61 14 (by decide)).trans ((F58 14 (by decide)).trans ((F55 14 (by decide)).trans ((F52 14 (by decide)).trans ((F49 14 (by decide)).trans ((F45 14 (by decide)).trans ((F42 14 (by decide)).trans ((F38 14 (by decide)).trans ((F35 14 (by decide)).trans ((F31 14 (by decide)).trans ((F28 14 (by decide)).trans ((F24 14 (by decide)).trans ((F21 14 (by decide)).trans ((F17 14 (by decide)).trans ((F14 14 (by decide)).trans E9)))))))))))))))))))))))) ((F90 15 (by decide)).trans ((F87 15 (by decide)).trans ((F84 15 (by decide)).trans ((F81 15 (by decide)).trans ((F78 15 (by decide)).trans ((F75 15 (by decide)).trans ((F72 15 (by decide)).trans ((F68 15 (by decide)).trans ((F65 15 (by decide)).trans ((F61 15 (by decide)).trans ((F58 15 (by decide)).trans ((F55 15 (by decide)).trans ((F52 15 (by decide)).trans ((F49 15 (by decide)).trans ((F45 15 (by decide)).trans ((F42 15 (by decide)).trans ((F38 15 (by decide)).trans ((F35 15 (by decide)).trans ((F31 15 (by decide)).trans ((F28 15 (by decide)).trans ((F24 15 (by decide)).trans ((F21 15 (by decide)).trans E16)))))))))))))))))))))) ((F90 16 (by decide)).trans ((F87 16 (by decide)).trans ((F84 16 (by decide)).trans ((F81 16 (by decide)).trans ((F78 16 (by decide)).trans ((F75 16 (by decide)).trans ((F72 16 (by decide)).trans ((F68 16 (by decide)).trans ((F65 16 (by decide)).trans ((F61 16 (by decide)).trans ((F58 16 (by decide)).trans ((F55 16 (by decide)).trans ((F52 16 (by decide)).trans ((F49 16 (by decide)).trans ((F45 16 (by decide)).trans ((F42 16 (by decide)).trans ((F38 16 (by decide)).trans ((F35 16 (by decide)).trans ((F31 16 (by decide)).trans ((F28 16 (by decide)).trans E23)))))))))))))))))))) ((F90 17 (by decide)).trans ((F87 17 (by decide)).trans ((F84 17 (by decide)).trans ((F81 17 (by decide)).trans ((F78 17 (by decide)).trans ((F75 17 (by decide)).trans ((F72 17 (by decide)).trans ((F68 17 (by decide)).trans ((F65 17 (by decide)).trans ((F61 17 (by decide)).trans ((F58 17 (by decide)).trans ((F55 17 (by decide)).trans ((F52 17 (by decide)).trans ((F49 17 (by decide)).trans ((F45 17 (by decide)).trans ((F42 17 (by decide)).trans ((F38 17 (by decide)).trans ((F35 17 (by decide)).trans E30)))))))))))))))))) ((F90 18 (by decide)).trans ((F87 18 (by decide)).trans ((F84 18 (by decide)).trans ((F81 18 (by decide)).trans ((F78 18 (by decide)).trans ((F75 18 (by decide)).trans ((F72 18 (by decide)).trans ((F68 18 (by decide)).trans ((F65 18 (by decide)).trans ((F61 18 (by decide)).trans ((F58 18 (by decide)).trans ((F55 18 (by decide)).trans ((F52 18 (by decide)).trans ((F49 18 (by decide)).trans ((F45 18 (by decide)).trans ((F42 18 (by decide)).trans E37)))))))))))))))) ((F90 19 (by decide)).trans ((F87 19 (by decide)).trans ((F84 19 (by decide)).trans ((F81 19 (by decide)).trans ((F78 19 (by decide)).trans ((F75 19 (by decide)).trans ((F72 19 (by decide)).trans ((F68 19 (by decide)).trans ((F65 19 (by decide)).trans ((F61 19 (by decide)).trans ((F58 19 (by decide)).trans ((F55 19 (by decide)).trans ((F52 19 (by decide)).trans ((F49 19 (by decide)).trans E44)))))))))))))) ((F90 20 (by decide)).trans ((F87 20 (by decide)).trans ((F84 20 (by decide)).trans ((F81 20 (by decide)).trans ((F78 20 (by decide)).trans ((F75 20 (by decide)).trans ((F72 20 (by decide)).trans ((F68 20 (by decide)).trans ((F65 20 (by decide)).trans E60))))))))) ((F90 21 (by decide)).trans ((F87 21 (by decide)).trans ((F84 21 (by decide)).trans ((F81 21 (by decide)).trans ((F78 21 (by decide)).trans ((F75 21 (by decide)).trans ((F72 21 (by decide)).trans E67)))))))
set_option maxRecDepth 20000 in
theorem sp_X3_init_22_loop {h0 : Nat → sE} : ∀ (m : Nat) (i : Int) (h : Nat → sE), 0 ≤ i → i ≤ 64 → (m : Int) = 64 - i → (∀ j, j < 22 → h j = h0 j) → h 22 = .inr (3, [.ref 23, .ref 24, .ref 25, .ref 26, .ref 27, .ref 28, .ref 29, .ref 30, .ref 31, .int (iI 0), .int (iI 0), .int (iI 0), .int (iI 0), .int (iI 0), .int (iI (-1))]) → h 23 = aI 192 (fun k => if 64 ≤ k ∧ k < 64 + i then 100 else 0) → h 24 = aI 3 (fun _ => 0) → h 25 = aI 3 (fun _ => 0) → h 26 = aI 25 (fun _ => 0) → h 27 = aI 72 (fun _ => 0) → h 28 = aI 40 (fun _ => 0) → h 29 = aI 30 (fun _ => 0) → h 30 = aI 3 (uI (uI (uI (fun _ => 0) 0 0) 1 2) 2 0) → h 31 = qI 6 "ShadowHerds$Script" (fun _ => -1) → V (m_X3_init, 1, 9, 374, 23, fun r n' h' => r = none ∧ n' = 32 ∧ (∀ j, j < 22 → h' j = h0 j) ∧ h' 22 = .inr (3, [.ref 23, .ref 24, .ref 25, .ref 26, .ref 27, .ref 28, .ref 29, .ref 30, .ref 31, .int (iI 0), .int (iI 0), .int (iI 0), .int (iI 0), .int (iI 0), .int (iI (-1))]) ∧ h' 23 = aI 192 (fun k => if 64 ≤ k ∧ k < 128 then 100 else 0) ∧ h' 24 = aI 3 (fun _ => 0) ∧ h' 25 = aI 3 (fun _ => 0) ∧ h' 26 = aI 25 (fun _ => 0) ∧ h' 27 = aI 72 (fun _ => 0) ∧ h' 28 = aI 40 (fun _ => 0) ∧ h' 29 = aI 30 (fun _ => 0) ∧ h' 30 = aI 3 (uI (uI (uI (fun _ => 0) 0 0) 1 2) 2 0) ∧ h' 31 = qI 6 "ShadowHerds$Script" (fun _ => -1), s_G0) 9 374 32 h 119 [(1, .int (iI i)), (0, .ref 22)] [] := by
  intro m
  induction m with
  | zero =>
    intro i h i0 i1 hm hF H22 H23 H24 H25 H26 H27 H28 H29 H30 H31
    have hi : i = 64 := by omega
    subst hi
    refine v_iload_n dX3_init_119 rfl ?_
    refine v_bipushI dX3_init_120 rfl ?_
    refine v_icmp_geI (tgt := 142) dX3_init_122 (by decide) (by omega) (by omega) (by omega) (by omega) (fun c_1 => ?_) (fun c_1 => ?_)
    · exact v_vret dX3_init_142 rfl (Nat.le_of_ble_eq_true rfl) (Nat.le_of_ble_eq_true rfl) ⟨rfl, rfl, hF, H22, (H23.trans (congrArg (aI 192) (funext fun k => rfl))), H24, H25, H26, H27, H28, H29, H30, H31⟩
    · exact absurd (by omega) c_1
  | succ m ih =>
    intro i h i0 i1 hm hF H22 H23 H24 H25 H26 H27 H28 H29 H30 H31
    refine v_iload_n dX3_init_119 rfl ?_
    refine v_bipushI dX3_init_120 rfl ?_
    refine v_icmp_geI (tgt := 142) dX3_init_122 (by decide) (by omega) (by omega) (by omega) (by omega) (fun c_1 => ?_) (fun c_1 => ?_)
    · exact absurd c_1 (by omega)
    · refine v_aload_n dX3_init_125 rfl ?_
      refine v_get dX3_init_126 fl_X3_9 H22 rfl (Nat.le_of_ble_eq_true rfl) ?_
      refine v_bipushI dX3_init_129 rfl ?_
      refine v_iload_n dX3_init_131 rfl ?_
      refine v_iaddI dX3_init_132 ?_
      refine v_bipushI dX3_init_133 rfl ?_
      refine v_iastI dX3_init_135 H23 (Nat.le_of_ble_eq_true rfl) (by omega) (by omega) (by omega) (fun h2 E3 F4 => ?_)
      refine v_iincI dX3_init_136 rfl (Nat.le_of_ble_eq_true rfl) ?_
      refine v_goto (tgt := 119) dX3_init_139 (by decide) ?_
      exact ih (i + 1) _ (by omega) (by omega) (by omega) (fun j hj => ((F4 j (by omega)).trans (hF j hj))) ((F4 22 (by decide)).trans H22) (E3.trans (congrArg (aI 192) (uI_fill (fun k => by omega)))) ((F4 24 (by decide)).trans H24) ((F4 25 (by decide)).trans H25) ((F4 26 (by decide)).trans H26) ((F4 27 (by decide)).trans H27) ((F4 28 (by decide)).trans H28) ((F4 29 (by decide)).trans H29) ((F4 30 (by decide)).trans H30) ((F4 31 (by decide)).trans H31)
set_option maxRecDepth 20000 in
theorem sp_X3_init_22 {h : Nat → sE} (ho : h 22 = .inr (3, [.null, .null, .null, .null, .null, .null, .null, .null, .null, .int (iI 0), .int (iI 0), .int (iI 0), .int (iI 0), .int (iI 0), .int (iI 0)])) : Sp m_X3_init 1 9 374 [.ref 22] 23 h (fun r n' h' => r = none ∧ n' = 32 ∧ (∀ j, j < 22 → h' j = h j) ∧ h' 22 = .inr (3, [.ref 23, .ref 24, .ref 25, .ref 26, .ref 27, .ref 28, .ref 29, .ref 30, .ref 31, .int (iI 0), .int (iI 0), .int (iI 0), .int (iI 0), .int (iI 0), .int (iI (-1))]) ∧ h' 23 = aI 192 (fun k => if 64 ≤ k ∧ k < 128 then 100 else 0) ∧ h' 24 = aI 3 (fun _ => 0) ∧ h' 25 = aI 3 (fun _ => 0) ∧ h' 26 = aI 25 (fun _ => 0) ∧ h' 27 = aI 72 (fun _ => 0) ∧ h' 28 = aI 40 (fun _ => 0) ∧ h' 29 = aI 30 (fun _ => 0) ∧ h' 30 = aI 3 (uI (uI (uI (fun _ => 0) 0 0) 1 2) 2 0) ∧ h' 31 = qI 6 "ShadowHerds$Script" (fun _ => -1)) := by
  refine Sp.ofV (by decide +kernel) (Nat.le_of_ble_eq_true rfl) ?_
  refine v_aload_n dX3_init_0 rfl ?_
  refine v_objInit dX3_init_1 ml_X3_3 (by decide) (Nat.le_of_ble_eq_true rfl) ?_
  refine v_aload_n dX3_init_4 rfl ?_
  refine v_sipushI dX3_init_5 rfl ?_
  refine v_newa_aI (N := 192) dX3_init_8 ac_int rfl (s_lvok rfl) (s_stok rfl) (Nat.le_of_ble_eq_true rfl) (Nat.le_of_ble_eq_true rfl) (fun h1 E2 F3 => ?_)
  have H4 := ((F3 22 (by decide)).trans ho)
  refine v_putF dX3_init_10 fl_X3_9 rfl rfl H4 (Nat.le_of_ble_eq_true rfl) (Nat.le_of_ble_eq_true rfl) (fun _ => ⟨rfl, rfl⟩) (Nat.le_of_ble_eq_true rfl) (fun h5 E6 F7 => ?_)
  refine v_aload_n dX3_init_13 rfl ?_
  refine v_iconstI dX3_init_14 ?_
  refine v_newa_aI (N := 3) dX3_init_15 ac_int rfl (s_lvok rfl) (s_stok rfl) (Nat.le_of_ble_eq_true rfl) (Nat.le_of_ble_eq_true rfl) (fun h8 E9 F10 => ?_)
  have H11 := ((F10 22 (by decide)).trans E6)
  refine v_putF dX3_init_17 fl_X3_15 rfl rfl H11 (Nat.le_of_ble_eq_true rfl) (Nat.le_of_ble_eq_true rfl) (fun _ => ⟨rfl, rfl⟩) (Nat.le_of_ble_eq_true rfl) (fun h12 E13 F14 => ?_)
  refine v_aload_n dX3_init_20 rfl ?_
  refine v_iconstI dX3_init_21 ?_
  refine v_newa_aI (N := 3) dX3_init_22 ac_int rfl (s_lvok rfl) (s_stok rfl) (Nat.le_of_ble_eq_true rfl) (Nat.le_of_ble_eq_true rfl) (fun h15 E16 F17 => ?_)
  have H18 := ((F17 22 (by decide)).trans E13)
  refine v_putF dX3_init_24 fl_X3_18 rfl rfl H18 (Nat.le_of_ble_eq_true rfl) (Nat.le_of_ble_eq_true rfl) (fun _ => ⟨rfl, rfl⟩) (Nat.le_of_ble_eq_true rfl) (fun h19 E20 F21 => ?_)
  refine v_aload_n dX3_init_27 rfl ?_
  refine v_bipushI dX3_init_28 rfl ?_
  refine v_newa_aI (N := 25) dX3_init_30 ac_int rfl (s_lvok rfl) (s_stok rfl) (Nat.le_of_ble_eq_true rfl) (Nat.le_of_ble_eq_true rfl) (fun h22 E23 F24 => ?_)
  have H25 := ((F24 22 (by decide)).trans E20)
  refine v_putF dX3_init_32 fl_X3_21 rfl rfl H25 (Nat.le_of_ble_eq_true rfl) (Nat.le_of_ble_eq_true rfl) (fun _ => ⟨rfl, rfl⟩) (Nat.le_of_ble_eq_true rfl) (fun h26 E27 F28 => ?_)
  refine v_aload_n dX3_init_35 rfl ?_
  refine v_bipushI dX3_init_36 rfl ?_
  refine v_newa_aI (N := 72) dX3_init_38 ac_int rfl (s_lvok rfl) (s_stok rfl) (Nat.le_of_ble_eq_true rfl) (Nat.le_of_ble_eq_true rfl) (fun h29 E30 F31 => ?_)
  have H32 := ((F31 22 (by decide)).trans E27)
  refine v_putF dX3_init_40 fl_X3_24 rfl rfl H32 (Nat.le_of_ble_eq_true rfl) (Nat.le_of_ble_eq_true rfl) (fun _ => ⟨rfl, rfl⟩) (Nat.le_of_ble_eq_true rfl) (fun h33 E34 F35 => ?_)
  refine v_aload_n dX3_init_43 rfl ?_
  refine v_bipushI dX3_init_44 rfl ?_
  refine v_newa_aI (N := 40) dX3_init_46 ac_int rfl (s_lvok rfl) (s_stok rfl) (Nat.le_of_ble_eq_true rfl) (Nat.le_of_ble_eq_true rfl) (fun h36 E37 F38 => ?_)
  have H39 := ((F38 22 (by decide)).trans E34)
  refine v_putF dX3_init_48 fl_X3_27 rfl rfl H39 (Nat.le_of_ble_eq_true rfl) (Nat.le_of_ble_eq_true rfl) (fun _ => ⟨rfl, rfl⟩) (Nat.le_of_ble_eq_true rfl) (fun h40 E41 F42 => ?_)
  refine v_aload_n dX3_init_51 rfl ?_
  refine v_bipushI dX3_init_52 rfl ?_
  refine v_newa_aI (N := 30) dX3_init_54 ac_int rfl (s_lvok rfl) (s_stok rfl) (Nat.le_of_ble_eq_true rfl) (Nat.le_of_ble_eq_true rfl) (fun h43 E44 F45 => ?_)
  have H46 := ((F45 22 (by decide)).trans E41)
  refine v_putF dX3_init_56 fl_X3_30 rfl rfl H46 (Nat.le_of_ble_eq_true rfl) (Nat.le_of_ble_eq_true rfl) (fun _ => ⟨rfl, rfl⟩) (Nat.le_of_ble_eq_true rfl) (fun h47 E48 F49 => ?_)
  refine v_aload_n dX3_init_59 rfl ?_
  refine v_iconstI dX3_init_60 ?_
  refine v_newa_aI (N := 3) dX3_init_61 ac_int rfl (s_lvok rfl) (s_stok rfl) (Nat.le_of_ble_eq_true rfl) (Nat.le_of_ble_eq_true rfl) (fun h50 E51 F52 => ?_)
  refine v_dup dX3_init_63 rfl ?_
  refine v_iconstI dX3_init_64 ?_
  refine v_iconstI dX3_init_65 ?_
  refine v_iastI dX3_init_66 E51 (Nat.le_of_ble_eq_true rfl) (by omega) (by omega) (by omega) (fun h53 E54 F55 => ?_)
  refine v_dup dX3_init_67 rfl ?_
  refine v_iconstI dX3_init_68 ?_
  refine v_iconstI dX3_init_69 ?_
  refine v_iastI dX3_init_70 E54 (Nat.le_of_ble_eq_true rfl) (by omega) (by omega) (by omega) (fun h56 E57 F58 => ?_)
  refine v_dup dX3_init_71 rfl ?_
  refine v_iconstI dX3_init_72 ?_
  refine v_iconstI dX3_init_73 ?_
  refine v_iastI dX3_init_74 E57 (Nat.le_of_ble_eq_true rfl) (by omega) (by omega) (by omega) (fun h59 E60 F61 => ?_)
  have H62 := ((F61 22 (by decide)).trans ((F58 22 (by decide)).trans ((F55 22 (by decide)).trans ((F52 22 (by decide)).trans E48))))
  refine v_putF dX3_init_75 fl_X3_33 rfl rfl H62 (Nat.le_of_ble_eq_true rfl) (Nat.le_of_ble_eq_true rfl) (fun _ => ⟨rfl, rfl⟩) (Nat.le_of_ble_eq_true rfl) (fun h63 E64 F65 => ?_)
  refine v_aload_n dX3_init_78 rfl ?_
  refine v_bipushI dX3_init_79 rfl ?_
  refine v_newqI (N := 6) dX3_init_81 ck_X3_36 (by first | exact Or.inl rfl | exact Or.inr rfl) rfl (s_lvok rfl) (s_stok rfl) (Nat.le_of_ble_eq_true rfl) (Nat.le_of_ble_eq_true rfl) (fun h66 E67 F68 => ?_)
  have H69 := ((F68 22 (by decide)).trans E64)
  refine v_putF dX3_init_84 fl_X3_38 rfl rfl H69 (Nat.le_of_ble_eq_true rfl) (Nat.le_of_ble_eq_true rfl) (fun _ => ⟨rfl, rfl⟩) (Nat.le_of_ble_eq_true rfl) (fun h70 E71 F72 => ?_)
  refine v_aload_n dX3_init_87 rfl ?_
  refine v_iconstI dX3_init_88 ?_
  refine v_put dX3_init_89 fl_X3_42 E71 (Nat.le_of_ble_eq_true rfl) (Nat.le_of_ble_eq_true rfl) (fun _ => ⟨rfl, rfl⟩) trivial (fun h73 E74 F75 => ?_)
  refine v_aload_n dX3_init_92 rfl ?_
  refine v_iconstI dX3_init_93 ?_
  refine v_put dX3_init_94 fl_X3_46 E74 (Nat.le_of_ble_eq_true rfl) (Nat.le_of_ble_eq_true rfl) (fun _ => ⟨rfl, rfl⟩) trivial (fun h76 E77 F78 => ?_)
  refine v_aload_n dX3_init_97 rfl ?_
  refine v_iconstI dX3_init_98 ?_
  refine v_put dX3_init_99 fl_X3_49 E77 (Nat.le_of_ble_eq_true rfl) (Nat.le_of_ble_eq_true rfl) (fun _ => ⟨rfl, rfl⟩) trivial (fun h79 E80 F81 => ?_)
  refine v_aload_n dX3_init_102 rfl ?_
  refine v_iconstI dX3_init_103 ?_
  refine v_put dX3_init_104 fl_X3_52 E80 (Nat.le_of_ble_eq_true rfl) (Nat.le_of_ble_eq_true rfl) (fun _ => ⟨rfl, rfl⟩) trivial (fun h82 E83 F84 => ?_)
  refine v_aload_n dX3_init_107 rfl ?_
  refine v_iconstI dX3_init_108 ?_
  refine v_put dX3_init_109 fl_X3_55 E83 (Nat.le_of_ble_eq_true rfl) (Nat.le_of_ble_eq_true rfl) (fun _ => ⟨rfl, rfl⟩) trivial (fun h85 E86 F87 => ?_)
  refine v_aload_n dX3_init_112 rfl ?_
  refine v_iconstI dX3_init_113 ?_
  refine v_put dX3_init_114 fl_X3_58 E86 (Nat.le_of_ble_eq_true rfl) (Nat.le_of_ble_eq_true rfl) (fun _ => ⟨rfl, rfl⟩) trivial (fun h88 E89 F90 => ?_)
  refine v_iconstI dX3_init_117 ?_
  refine v_istore_n dX3_init_118 (Nat.le_of_ble_eq_true rfl) ?_
  exact sp_X3_init_22_loop 64 0 _ (by decide) (by decide) (by decide) (fun j hj => ((F90 j (by omega)).trans ((F87 j (by omega)).trans ((F84 j (by omega)).trans ((F81 j (by omega)).trans ((F78 j (by omega)).trans ((F75 j (by omega)).trans ((F72 j (by omega)).trans ((F68 j (by omega)).trans ((F65 j (by omega)).trans ((F61 j (by omega)).trans ((F58 j (by omega)).trans ((F55 j (by omega)).trans ((F52 j (by omega)).trans ((F49 j (by omega)).trans ((F45 j (by omega)).trans ((F42 j (by omega)).trans ((F38 j (by omega)).trans ((F35 j (by omega)).trans ((F31 j (by omega)).trans ((F28 j (by omega)).trans ((F24 j (by omega)).trans ((F21 j (by omega)).trans ((F17 j (by omega)).trans ((F14 j (by omega)).trans ((F10 j (by omega)).trans ((F7 j (by omega)).trans (F3 j (by omega))))))))))))))))))))))))))))) E89 (((F90 23 (by decide)).trans ((F87 23 (by decide)).trans ((F84 23 (by decide)).trans ((F81 23 (by decide)).trans ((F78 23 (by decide)).trans ((F75 23 (by decide)).trans ((F72 23 (by decide)).trans ((F68 23 (by decide)).trans ((F65 23 (by decide)).trans ((F61 23 (by decide)).trans ((F58 23 (by decide)).trans ((F55 23 (by decide)).trans ((F52 23 (by decide)).trans ((F49 23 (by decide)).trans ((F45 23 (by decide)).trans ((F42 23 (by decide)).trans ((F38 23 (by decide)).trans ((F35 23 (by decide)).trans ((F31 23 (by decide)).trans ((F28 23 (by decide)).trans ((F24 23 (by decide)).trans ((F21 23 (by decide)).trans ((F17 23 (by decide)).trans ((F14 23 (by decide)).trans ((F10 23 (by decide)).trans ((F7 23 (by decide)).trans E2)))))))))))))))))))))))))).trans (congrArg (aI 192) (funext fun k => by rw [if_neg (by omega)]))) ((F90 24 (by decide)).trans ((F87 24 (by decide)).trans ((F84 24 (by decide)).trans ((F81 24 (by decide)).trans ((F78 24 (by decide)).trans ((F75 24 (by decide)).trans ((F72 24 (by decide)).trans ((F68 24 (by decide)).trans ((F65 24 (by decide)).trans ((F61 24 (by decide)).trans ((F58 24 (by decide)).trans ((F55 24 (by decide)).trans ((F52 24 (by decide)).trans ((F49 24 (by decide)).trans ((F45 24 (by decide)).trans ((F42 24 (by decide)).trans ((F38 24 (by decide)).trans ((F35 24 (by decide)).trans ((F31 24 (by decide)).trans ((F28 24 (by decide)).trans ((F24 24 (by decide)).trans ((F21 24 (by decide)).trans ((F17 24 (by decide)).trans ((F14 24 (by decide)).trans E9)))))))))))))))))))))))) ((F90 25 (by decide)).trans ((F87 25 (by decide)).trans ((F84 25 (by decide)).trans ((F81 25 (by decide)).trans ((F78 25 (by decide)).trans ((F75 25 (by decide)).trans ((F72 25 (by decide)).trans ((F68 25 (by decide)).trans ((F65 25 (by decide)).trans ((F61 25 (by decide)).trans ((F58 25 (by decide)).trans ((F55 25 (by decide)).trans ((F52 25 (by decide)).trans ((F49 25 (by decide)).trans ((F45 25 (by decide)).trans ((F42 25 (by decide)).trans ((F38 25 (by decide)).trans ((F35 25 (by decide)).trans ((F31 25 (by decide)).trans ((F28 25 (by decide)).trans ((F24 25 (by decide)).trans ((F21 25 (by decide)).trans E16)))))))))))))))))))))) ((F90 26 (by decide)).trans ((F87 26 (by decide)).trans ((F84 26 (by decide)).trans ((F81 26 (by decide)).trans ((F78 26 (by decide)).trans ((F75 26 (by decide)).trans ((F72 26 (by decide)).trans ((F68 26 (by decide)).trans ((F65 26 (by decide)).trans ((F61 26 (by decide)).trans ((F58 26 (by decide)).trans ((F55 26 (by decide)).trans ((F52 26 (by decide)).trans ((F49 26 (by decide)).trans ((F45 26 (by decide)).trans ((F42 26 (by decide)).trans ((F38 26 (by decide)).trans ((F35 26 (by decide)).trans ((F31 26 (by decide)).trans ((F28 26 (by decide)).trans E23)))))))))))))))))))) ((F90 27 (by decide)).trans ((F87 27 (by decide)).trans ((F84 27 (by decide)).trans ((F81 27 (by decide)).trans ((F78 27 (by decide)).trans ((F75 27 (by decide)).trans ((F72 27 (by decide)).trans ((F68 27 (by decide)).trans ((F65 27 (by decide)).trans ((F61 27 (by decide)).trans ((F58 27 (by decide)).trans ((F55 27 (by decide)).trans ((F52 27 (by decide)).trans ((F49 27 (by decide)).trans ((F45 27 (by decide)).trans ((F42 27 (by decide)).trans ((F38 27 (by decide)).trans ((F35 27 (by decide)).trans E30)))))))))))))))))) ((F90 28 (by decide)).trans ((F87 28 (by decide)).trans ((F84 28 (by decide)).trans ((F81 28 (by decide)).trans ((F78 28 (by decide)).trans ((F75 28 (by decide)).trans ((F72 28 (by decide)).trans ((F68 28 (by decide)).trans ((F65 28 (by decide)).trans ((F61 28 (by decide)).trans ((F58 28 (by decide)).trans ((F55 28 (by decide)).trans ((F52 28 (by decide)).trans ((F49 28 (by decide)).trans ((F45 28 (by decide)).trans ((F42 28 (by decide)).trans E37)))))))))))))))) ((F90 29 (by decide)).trans ((F87 29 (by decide)).trans ((F84 29 (by decide)).trans ((F81 29 (by decide)).trans ((F78 29 (by decide)).trans ((F75 29 (by decide)).trans ((F72 29 (by decide)).trans ((F68 29 (by decide)).trans ((F65 29 (by decide)).trans ((F61 29 (by decide)).trans ((F58 29 (by decide)).trans ((F55 29 (by decide)).trans ((F52 29 (by decide)).trans ((F49 29 (by decide)).trans E44)))))))))))))) ((F90 30 (by decide)).trans ((F87 30 (by decide)).trans ((F84 30 (by decide)).trans ((F81 30 (by decide)).trans ((F78 30 (by decide)).trans ((F75 30 (by decide)).trans ((F72 30 (by decide)).trans ((F68 30 (by decide)).trans ((F65 30 (by decide)).trans E60))))))))) ((F90 31 (by decide)).trans ((F87 31 (by decide)).trans ((F84 31 (by decide)).trans ((F81 31 (by decide)).trans ((F78 31 (by decide)).trans ((F75 31 (by decide)).trans ((F72 31 (by decide)).trans E67)))))))
theorem dX7_init_0 : decode cX7_init 0 = .ok (.aload_n 0, 1) := by decide +kernel
theorem dX7_init_1 : decode cX7_init 1 = .ok (.invokespecial 3, 3) := by decide +kernel
theorem dX7_init_4 : decode cX7_init 4 = .ok (.aload_n 0, 1) := by decide +kernel
theorem dX7_init_5 : decode cX7_init 5 = .ok (.iconst 0, 1) := by decide +kernel
theorem dX7_init_6 : decode cX7_init 6 = .ok (.iload_n 1, 1) := by decide +kernel
theorem dX7_init_7 : decode cX7_init 7 = .ok (.invokestatic 9, 3) := by decide +kernel
theorem dX7_init_10 : decode cX7_init 10 = .ok (.bipush 6, 2) := by decide +kernel
theorem dX7_init_12 : decode cX7_init 12 = .ok (.imul, 1) := by decide +kernel
theorem dX7_init_13 : decode cX7_init 13 = .ok (.newarray .int, 2) := by decide +kernel
theorem dX7_init_15 : decode cX7_init 15 = .ok (.putfield 17, 3) := by decide +kernel
theorem dX7_init_18 : decode cX7_init 18 = .ok (.aload_n 0, 1) := by decide +kernel
theorem dX7_init_19 : decode cX7_init 19 = .ok (.iconst 0, 1) := by decide +kernel
theorem dX7_init_20 : decode cX7_init 20 = .ok (.iload_n 2, 1) := by decide +kernel
theorem dX7_init_21 : decode cX7_init 21 = .ok (.invokestatic 9, 3) := by decide +kernel
theorem dX7_init_24 : decode cX7_init 24 = .ok (.newarray .int, 2) := by decide +kernel
theorem dX7_init_26 : decode cX7_init 26 = .ok (.putfield 21, 3) := by decide +kernel
theorem dX7_init_29 : decode cX7_init 29 = .ok (.aload_n 0, 1) := by decide +kernel
theorem dX7_init_30 : decode cX7_init 30 = .ok (.iconst 0, 1) := by decide +kernel
theorem dX7_init_31 : decode cX7_init 31 = .ok (.putfield 24, 3) := by decide +kernel
theorem dX7_init_34 : decode cX7_init 34 = .ok (.aload_n 0, 1) := by decide +kernel
theorem dX7_init_35 : decode cX7_init 35 = .ok (.iconst 0, 1) := by decide +kernel
theorem dX7_init_36 : decode cX7_init 36 = .ok (.putfield 28, 3) := by decide +kernel
theorem dX7_init_39 : decode cX7_init 39 = .ok (.aload_n 0, 1) := by decide +kernel
theorem dX7_init_40 : decode cX7_init 40 = .ok (.iconst 0, 1) := by decide +kernel
theorem dX7_init_41 : decode cX7_init 41 = .ok (.putfield 31, 3) := by decide +kernel
theorem dX7_init_44 : decode cX7_init 44 = .ok (.return_, 1) := by decide +kernel
set_option maxRecDepth 20000 in
theorem sp_X7_init_37 {h : Nat → sE} (ho : h 37 = .inr (7, [.null, .null, .int (iI 0), .int (iI 0), .int (iI 0)])) : Sp m_X7_init 1 2 872 [.ref 37, .int (iI 12), .int (iI 800)] 38 h (fun r n' h' => r = none ∧ n' = 40 ∧ (∀ j, j < 37 → h' j = h j) ∧ h' 37 = .inr (7, [.ref 38, .ref 39, .int (iI 0), .int (iI 0), .int (iI 0)]) ∧ h' 38 = aI 72 (fun _ => 0) ∧ h' 39 = aI 800 (fun _ => 0)) := by
  refine Sp.ofV (by decide +kernel) (Nat.le_of_ble_eq_true rfl) ?_
  refine v_aload_n dX7_init_0 rfl ?_
  refine v_objInit dX7_init_1 ml_X7_3 (by decide) (Nat.le_of_ble_eq_true rfl) ?_
  refine v_aload_n dX7_init_4 rfl ?_
  refine v_iconstI dX7_init_5 ?_
  refine v_iload_n dX7_init_6 rfl ?_
  refine v_maxI dX7_init_7 ml_X7_9 (Nat.le_of_ble_eq_true rfl) (Nat.le_of_ble_eq_true rfl) (Nat.zero_le _) (Nat.zero_le _) (by omega) (by omega) (by omega) (by omega) ?_
  refine v_bipushI dX7_init_10 rfl ?_
  refine v_imulI dX7_init_12 ?_
  refine v_newa_aI (N := 72) dX7_init_13 ac_int rfl (s_lvok rfl) (s_stok rfl) (Nat.le_of_ble_eq_true rfl) (Nat.le_of_ble_eq_true rfl) (fun h1 E2 F3 => ?_)
  have H4 := ((F3 37 (by decide)).trans ho)
  refine v_putF dX7_init_15 fl_X7_17 rfl rfl H4 (Nat.le_of_ble_eq_true rfl) (Nat.le_of_ble_eq_true rfl) (fun _ => ⟨rfl, rfl⟩) (Nat.le_of_ble_eq_true rfl) (fun h5 E6 F7 => ?_)
  refine v_aload_n dX7_init_18 rfl ?_
  refine v_iconstI dX7_init_19 ?_
  refine v_iload_n dX7_init_20 rfl ?_
  refine v_maxI dX7_init_21 ml_X7_9 (Nat.le_of_ble_eq_true rfl) (Nat.le_of_ble_eq_true rfl) (Nat.le_of_ble_eq_true rfl) (Nat.le_of_ble_eq_true rfl) (by omega) (by omega) (by omega) (by omega) ?_
  refine v_newa_aI (N := 800) dX7_init_24 ac_int rfl (s_lvok rfl) (s_stok rfl) (Nat.le_of_ble_eq_true rfl) (Nat.le_of_ble_eq_true rfl) (fun h8 E9 F10 => ?_)
  have H11 := ((F10 37 (by decide)).trans E6)
  refine v_putF dX7_init_26 fl_X7_21 rfl rfl H11 (Nat.le_of_ble_eq_true rfl) (Nat.le_of_ble_eq_true rfl) (fun _ => ⟨rfl, rfl⟩) (Nat.le_of_ble_eq_true rfl) (fun h12 E13 F14 => ?_)
  refine v_aload_n dX7_init_29 rfl ?_
  refine v_iconstI dX7_init_30 ?_
  refine v_put dX7_init_31 fl_X7_24 E13 (Nat.le_of_ble_eq_true rfl) (Nat.le_of_ble_eq_true rfl) (fun _ => ⟨rfl, rfl⟩) trivial (fun h15 E16 F17 => ?_)
  refine v_aload_n dX7_init_34 rfl ?_
  refine v_iconstI dX7_init_35 ?_
  refine v_put dX7_init_36 fl_X7_28 E16 (Nat.le_of_ble_eq_true rfl) (Nat.le_of_ble_eq_true rfl) (fun _ => ⟨rfl, rfl⟩) trivial (fun h18 E19 F20 => ?_)
  refine v_aload_n dX7_init_39 rfl ?_
  refine v_iconstI dX7_init_40 ?_
  refine v_put dX7_init_41 fl_X7_31 E19 (Nat.le_of_ble_eq_true rfl) (Nat.le_of_ble_eq_true rfl) (fun _ => ⟨iI_nb0, rfl⟩) trivial (fun h21 E22 F23 => ?_)
  exact v_vret dX7_init_44 rfl (Nat.le_of_ble_eq_true rfl) (Nat.le_of_ble_eq_true rfl) ⟨rfl, rfl, (fun j hj => ((F23 j (by omega)).trans ((F20 j (by omega)).trans ((F17 j (by omega)).trans ((F14 j (by omega)).trans ((F10 j (by omega)).trans ((F7 j (by omega)).trans (F3 j (by omega))))))))), E22, ((F23 38 (by decide)).trans ((F20 38 (by decide)).trans ((F17 38 (by decide)).trans ((F14 38 (by decide)).trans ((F10 38 (by decide)).trans ((F7 38 (by decide)).trans E2)))))), ((F23 39 (by decide)).trans ((F20 39 (by decide)).trans ((F17 39 (by decide)).trans ((F14 39 (by decide)).trans E9))))⟩
theorem dX5_init_0 : decode cX5_init 0 = .ok (.aload_n 0, 1) := by decide +kernel
theorem dX5_init_1 : decode cX5_init 1 = .ok (.invokespecial 3, 3) := by decide +kernel
theorem dX5_init_4 : decode cX5_init 4 = .ok (.aload_n 0, 1) := by decide +kernel
theorem dX5_init_5 : decode cX5_init 5 = .ok (.sipush 400, 3) := by decide +kernel
theorem dX5_init_8 : decode cX5_init 8 = .ok (.newarray .int, 2) := by decide +kernel
theorem dX5_init_10 : decode cX5_init 10 = .ok (.putfield 9, 3) := by decide +kernel
theorem dX5_init_13 : decode cX5_init 13 = .ok (.aload_n 0, 1) := by decide +kernel
theorem dX5_init_14 : decode cX5_init 14 = .ok (.sipush 401, 3) := by decide +kernel
theorem dX5_init_17 : decode cX5_init 17 = .ok (.newarray .int, 2) := by decide +kernel
theorem dX5_init_19 : decode cX5_init 19 = .ok (.putfield 15, 3) := by decide +kernel
theorem dX5_init_22 : decode cX5_init 22 = .ok (.aload_n 0, 1) := by decide +kernel
theorem dX5_init_23 : decode cX5_init 23 = .ok (.sipush 401, 3) := by decide +kernel
theorem dX5_init_26 : decode cX5_init 26 = .ok (.newarray .int, 2) := by decide +kernel
theorem dX5_init_28 : decode cX5_init 28 = .ok (.putfield 18, 3) := by decide +kernel
theorem dX5_init_31 : decode cX5_init 31 = .ok (.aload_n 0, 1) := by decide +kernel
theorem dX5_init_32 : decode cX5_init 32 = .ok (.new 21, 3) := by decide +kernel
theorem dX5_init_35 : decode cX5_init 35 = .ok (.dup, 1) := by decide +kernel
theorem dX5_init_36 : decode cX5_init 36 = .ok (.bipush 12, 2) := by decide +kernel
theorem dX5_init_38 : decode cX5_init 38 = .ok (.sipush 800, 3) := by decide +kernel
theorem dX5_init_41 : decode cX5_init 41 = .ok (.invokespecial 23, 3) := by decide +kernel
theorem dX5_init_44 : decode cX5_init 44 = .ok (.putfield 26, 3) := by decide +kernel
theorem dX5_init_47 : decode cX5_init 47 = .ok (.aload_n 0, 1) := by decide +kernel
theorem dX5_init_48 : decode cX5_init 48 = .ok (.iconst 0, 1) := by decide +kernel
theorem dX5_init_49 : decode cX5_init 49 = .ok (.putfield 30, 3) := by decide +kernel
theorem dX5_init_52 : decode cX5_init 52 = .ok (.aload_n 0, 1) := by decide +kernel
theorem dX5_init_53 : decode cX5_init 53 = .ok (.iconst 0, 1) := by decide +kernel
theorem dX5_init_54 : decode cX5_init 54 = .ok (.putfield 34, 3) := by decide +kernel
theorem dX5_init_57 : decode cX5_init 57 = .ok (.aload_n 0, 1) := by decide +kernel
theorem dX5_init_58 : decode cX5_init 58 = .ok (.iconst 0, 1) := by decide +kernel
theorem dX5_init_59 : decode cX5_init 59 = .ok (.putfield 37, 3) := by decide +kernel
theorem dX5_init_62 : decode cX5_init 62 = .ok (.aload_n 0, 1) := by decide +kernel
theorem dX5_init_63 : decode cX5_init 63 = .ok (.iconst 0, 1) := by decide +kernel
theorem dX5_init_64 : decode cX5_init 64 = .ok (.putfield 40, 3) := by decide +kernel
theorem dX5_init_67 : decode cX5_init 67 = .ok (.aload_n 0, 1) := by decide +kernel
theorem dX5_init_68 : decode cX5_init 68 = .ok (.iconst (-1), 1) := by decide +kernel
theorem dX5_init_69 : decode cX5_init 69 = .ok (.putfield 43, 3) := by decide +kernel
theorem dX5_init_72 : decode cX5_init 72 = .ok (.aload_n 0, 1) := by decide +kernel
theorem dX5_init_73 : decode cX5_init 73 = .ok (.iconst 0, 1) := by decide +kernel
theorem dX5_init_74 : decode cX5_init 74 = .ok (.putfield 46, 3) := by decide +kernel
theorem dX5_init_77 : decode cX5_init 77 = .ok (.return_, 1) := by decide +kernel
set_option maxRecDepth 20000 in
theorem sp_X5_init_33 {h : Nat → sE} (ho : h 33 = .inr (5, [.null, .null, .null, .null, .int (iI 0), .int (iI 0), .int (iI 0), .int (iI 0), .int (iI 0), .int (iI 0)])) : Sp m_X5_init 2 6 2079 [.ref 33] 34 h (fun r n' h' => r = none ∧ n' = 40 ∧ (∀ j, j < 33 → h' j = h j) ∧ h' 33 = .inr (5, [.ref 34, .ref 35, .ref 36, .ref 37, .int (iI 0), .int (iI 0), .int (iI 0), .int (iI 0), .int (iI (-1)), .int (iI 0)]) ∧ h' 34 = aI 400 (fun _ => 0) ∧ h' 35 = aI 401 (fun _ => 0) ∧ h' 36 = aI 401 (fun _ => 0) ∧ h' 37 = .inr (7, [.ref 38, .ref 39, .int (iI 0), .int (iI 0), .int (iI 0)]) ∧ h' 38 = aI 72 (fun _ => 0) ∧ h' 39 = aI 800 (fun _ => 0)) := by
  refine Sp.ofV (by decide +kernel) (Nat.le_of_ble_eq_true rfl) ?_
  refine v_aload_n dX5_init_0 rfl ?_
  refine v_objInit dX5_init_1 ml_X5_3 (by decide) (Nat.le_of_ble_eq_true rfl) ?_
  refine v_aload_n dX5_init_4 rfl ?_
  refine v_sipushI dX5_init_5 rfl ?_
  refine v_newa_aI (N := 400) dX5_init_8 ac_int rfl (s_lvok rfl) (s_stok rfl) (Nat.le_of_ble_eq_true rfl) (Nat.le_of_ble_eq_true rfl) (fun h1 E2 F3 => ?_)
  have H4 := ((F3 33 (by decide)).trans ho)
  refine v_putF dX5_init_10 fl_X5_9 rfl rfl H4 (Nat.le_of_ble_eq_true rfl) (Nat.le_of_ble_eq_true rfl) (fun _ => ⟨rfl, rfl⟩) (Nat.le_of_ble_eq_true rfl) (fun h5 E6 F7 => ?_)
  refine v_aload_n dX5_init_13 rfl ?_
  refine v_sipushI dX5_init_14 rfl ?_
  refine v_newa_aI (N := 401) dX5_init_17 ac_int rfl (s_lvok rfl) (s_stok rfl) (Nat.le_of_ble_eq_true rfl) (Nat.le_of_ble_eq_true rfl) (fun h8 E9 F10 => ?_)
  have H11 := ((F10 33 (by decide)).trans E6)
  refine v_putF dX5_init_19 fl_X5_15 rfl rfl H11 (Nat.le_of_ble_eq_true rfl) (Nat.le_of_ble_eq_true rfl) (fun _ => ⟨rfl, rfl⟩) (Nat.le_of_ble_eq_true rfl) (fun h12 E13 F14 => ?_)
  refine v_aload_n dX5_init_22 rfl ?_
  refine v_sipushI dX5_init_23 rfl ?_
  refine v_newa_aI (N := 401) dX5_init_26 ac_int rfl (s_lvok rfl) (s_stok rfl) (Nat.le_of_ble_eq_true rfl) (Nat.le_of_ble_eq_true rfl) (fun h15 E16 F17 => ?_)
  have H18 := ((F17 33 (by decide)).trans E13)
  refine v_putF dX5_init_28 fl_X5_18 rfl rfl H18 (Nat.le_of_ble_eq_true rfl) (Nat.le_of_ble_eq_true rfl) (fun _ => ⟨rfl, rfl⟩) (Nat.le_of_ble_eq_true rfl) (fun h19 E20 F21 => ?_)
  refine v_aload_n dX5_init_31 rfl ?_
  refine v_new dX5_init_32 cl_X5_21 rfl (s_lvok rfl) (s_stok rfl) (Nat.le_of_ble_eq_true rfl) (Nat.le_of_ble_eq_true rfl) (fun h22 E23 F24 => ?_)
  refine v_dup dX5_init_35 rfl ?_
  refine v_bipushI dX5_init_36 rfl ?_
  refine v_sipushI dX5_init_38 rfl ?_
  refine v_callI dX5_init_41 ml_X5_23 (sp_X7_init_37 E23) rfl rfl (by decide) (Nat.le_of_ble_eq_true rfl) (Nat.le_of_ble_eq_true rfl) (Nat.le_of_ble_eq_true rfl) ⟨Or.inr ⟨s_lvok rfl, s_stok rfl⟩, fun r n1 h25 q26 => ?_⟩
  obtain ⟨rfl, rfl, F30, q27, q28, q29⟩ := q26
  dsimp only [s_push]
  have H31 := ((F30 33 (by decide)).trans ((F24 33 (by decide)).trans E20))
  refine v_putF dX5_init_44 fl_X5_26 rfl rfl H31 (Nat.le_of_ble_eq_true rfl) (Nat.le_of_ble_eq_true rfl) (fun _ => ⟨rfl, rfl⟩) (Nat.le_of_ble_eq_true rfl) (fun h32 E33 F34 => ?_)
  refine v_aload_n dX5_init_47 rfl ?_
  refine v_iconstI dX5_init_48 ?_
  refine v_put dX5_init_49 fl_X5_30 E33 (Nat.le_of_ble_eq_true rfl) (Nat.le_of_ble_eq_true rfl) (fun _ => ⟨rfl, rfl⟩) trivial (fun h35 E36 F37 => ?_)
  refine v_aload_n dX5_init_52 rfl ?_
  refine v_iconstI dX5_init_53 ?_
  refine v_put dX5_init_54 fl_X5_34 E36 (Nat.le_of_ble_eq_true rfl) (Nat.le_of_ble_eq_true rfl) (fun _ => ⟨rfl, rfl⟩) trivial (fun h38 E39 F40 => ?_)
  refine v_aload_n dX5_init_57 rfl ?_
  refine v_iconstI dX5_init_58 ?_
  refine v_put dX5_init_59 fl_X5_37 E39 (Nat.le_of_ble_eq_true rfl) (Nat.le_of_ble_eq_true rfl) (fun _ => ⟨rfl, rfl⟩) trivial (fun h41 E42 F43 => ?_)
  refine v_aload_n dX5_init_62 rfl ?_
  refine v_iconstI dX5_init_63 ?_
  refine v_put dX5_init_64 fl_X5_40 E42 (Nat.le_of_ble_eq_true rfl) (Nat.le_of_ble_eq_true rfl) (fun _ => ⟨rfl, rfl⟩) trivial (fun h44 E45 F46 => ?_)
  refine v_aload_n dX5_init_67 rfl ?_
  refine v_iconstI dX5_init_68 ?_
  refine v_put dX5_init_69 fl_X5_43 E45 (Nat.le_of_ble_eq_true rfl) (Nat.le_of_ble_eq_true rfl) (fun _ => ⟨rfl, rfl⟩) trivial (fun h47 E48 F49 => ?_)
  refine v_aload_n dX5_init_72 rfl ?_
  refine v_iconstI dX5_init_73 ?_
  refine v_put dX5_init_74 fl_X5_46 E48 (Nat.le_of_ble_eq_true rfl) (Nat.le_of_ble_eq_true rfl) (fun _ => ⟨iI_nb0, rfl⟩) trivial (fun h50 E51 F52 => ?_)
  exact v_vret dX5_init_77 rfl (Nat.le_of_ble_eq_true rfl) (Nat.le_of_ble_eq_true rfl) ⟨rfl, rfl, (fun j hj => ((F52 j (by omega)).trans ((F49 j (by omega)).trans ((F46 j (by omega)).trans ((F43 j (by omega)).trans ((F40 j (by omega)).trans ((F37 j (by omega)).trans ((F34 j (by omega)).trans ((F30 j (by omega)).trans ((F24 j (by omega)).trans ((F21 j (by omega)).trans ((F17 j (by omega)).trans ((F14 j (by omega)).trans ((F10 j (by omega)).trans ((F7 j (by omega)).trans (F3 j (by omega))))))))))))))))), E51, ((F52 34 (by decide)).trans ((F49 34 (by decide)).trans ((F46 34 (by decide)).trans ((F43 34 (by decide)).trans ((F40 34 (by decide)).trans ((F37 34 (by decide)).trans ((F34 34 (by decide)).trans ((F30 34 (by decide)).trans ((F24 34 (by decide)).trans ((F21 34 (by decide)).trans ((F17 34 (by decide)).trans ((F14 34 (by decide)).trans ((F10 34 (by decide)).trans ((F7 34 (by decide)).trans E2)))))))))))))), ((F52 35 (by decide)).trans ((F49 35 (by decide)).trans ((F46 35 (by decide)).trans ((F43 35 (by decide)).trans ((F40 35 (by decide)).trans ((F37 35 (by decide)).trans ((F34 35 (by decide)).trans ((F30 35 (by decide)).trans ((F24 35 (by decide)).trans ((F21 35 (by decide)).trans ((F17 35 (by decide)).trans ((F14 35 (by decide)).trans E9)))))))))))), ((F52 36 (by decide)).trans ((F49 36 (by decide)).trans ((F46 36 (by decide)).trans ((F43 36 (by decide)).trans ((F40 36 (by decide)).trans ((F37 36 (by decide)).trans ((F34 36 (by decide)).trans ((F30 36 (by decide)).trans ((F24 36 (by decide)).trans ((F21 36 (by decide)).trans E16)))))))))), ((F52 37 (by decide)).trans ((F49 37 (by decide)).trans ((F46 37 (by decide)).trans ((F43 37 (by decide)).trans ((F40 37 (by decide)).trans ((F37 37 (by decide)).trans ((F34 37 (by decide)).trans q27))))))), ((F52 38 (by decide)).trans ((F49 38 (by decide)).trans ((F46 38 (by decide)).trans ((F43 38 (by decide)).trans ((F40 38 (by decide)).trans ((F37 38 (by decide)).trans ((F34 38 (by decide)).trans q28))))))), ((F52 39 (by decide)).trans ((F49 39 (by decide)).trans ((F46 39 (by decide)).trans ((F43 39 (by decide)).trans ((F40 39 (by decide)).trans ((F37 39 (by decide)).trans ((F34 39 (by decide)).trans q29)))))))⟩
theorem dX6_init_0 : decode cX6_init 0 = .ok (.aload_n 0, 1) := by decide +kernel
theorem dX6_init_1 : decode cX6_init 1 = .ok (.invokespecial 5, 3) := by decide +kernel
theorem dX6_init_4 : decode cX6_init 4 = .ok (.aload_n 0, 1) := by decide +kernel
theorem dX6_init_5 : decode cX6_init 5 = .ok (.bipush 13, 2) := by decide +kernel
theorem dX6_init_7 : decode cX6_init 7 = .ok (.newarray .int, 2) := by decide +kernel
theorem dX6_init_9 : decode cX6_init 9 = .ok (.putfield 11, 3) := by decide +kernel
theorem dX6_init_12 : decode cX6_init 12 = .ok (.aload_n 0, 1) := by decide +kernel
theorem dX6_init_13 : decode cX6_init 13 = .ok (.bipush 120, 2) := by decide +kernel
theorem dX6_init_15 : decode cX6_init 15 = .ok (.newarray .int, 2) := by decide +kernel
theorem dX6_init_17 : decode cX6_init 17 = .ok (.putfield 17, 3) := by decide +kernel
theorem dX6_init_20 : decode cX6_init 20 = .ok (.aload_n 0, 1) := by decide +kernel
theorem dX6_init_21 : decode cX6_init 21 = .ok (.bipush 64, 2) := by decide +kernel
theorem dX6_init_23 : decode cX6_init 23 = .ok (.newarray .int, 2) := by decide +kernel
theorem dX6_init_25 : decode cX6_init 25 = .ok (.putfield 20, 3) := by decide +kernel
theorem dX6_init_28 : decode cX6_init 28 = .ok (.return_, 1) := by decide +kernel
set_option maxRecDepth 20000 in
theorem sp_X6_init_40 {h : Nat → sE} (ho : h 40 = .inr (6, [.null, .null, .null])) : Sp m_X6_init 1 3 197 [.ref 40] 41 h (fun r n' h' => r = none ∧ n' = 44 ∧ (∀ j, j < 40 → h' j = h j) ∧ h' 40 = .inr (6, [.ref 41, .ref 42, .ref 43]) ∧ h' 41 = aI 13 (fun _ => 0) ∧ h' 42 = aI 120 (fun _ => 0) ∧ h' 43 = aI 64 (fun _ => 0)) := by
  refine Sp.ofV (by decide +kernel) (Nat.le_of_ble_eq_true rfl) ?_
  refine v_aload_n dX6_init_0 rfl ?_
  refine v_objInit dX6_init_1 ml_X6_5 (by decide) (Nat.le_of_ble_eq_true rfl) ?_
  refine v_aload_n dX6_init_4 rfl ?_
  refine v_bipushI dX6_init_5 rfl ?_
  refine v_newa_aI (N := 13) dX6_init_7 ac_int rfl (s_lvok rfl) (s_stok rfl) (Nat.le_of_ble_eq_true rfl) (Nat.le_of_ble_eq_true rfl) (fun h1 E2 F3 => ?_)
  have H4 := ((F3 40 (by decide)).trans ho)
  refine v_putF dX6_init_9 fl_X6_11 rfl rfl H4 (Nat.le_of_ble_eq_true rfl) (Nat.le_of_ble_eq_true rfl) (fun _ => ⟨rfl, rfl⟩) (Nat.le_of_ble_eq_true rfl) (fun h5 E6 F7 => ?_)
  refine v_aload_n dX6_init_12 rfl ?_
  refine v_bipushI dX6_init_13 rfl ?_
  refine v_newa_aI (N := 120) dX6_init_15 ac_int rfl (s_lvok rfl) (s_stok rfl) (Nat.le_of_ble_eq_true rfl) (Nat.le_of_ble_eq_true rfl) (fun h8 E9 F10 => ?_)
  have H11 := ((F10 40 (by decide)).trans E6)
  refine v_putF dX6_init_17 fl_X6_17 rfl rfl H11 (Nat.le_of_ble_eq_true rfl) (Nat.le_of_ble_eq_true rfl) (fun _ => ⟨rfl, rfl⟩) (Nat.le_of_ble_eq_true rfl) (fun h12 E13 F14 => ?_)
  refine v_aload_n dX6_init_20 rfl ?_
  refine v_bipushI dX6_init_21 rfl ?_
  refine v_newa_aI (N := 64) dX6_init_23 ac_int rfl (s_lvok rfl) (s_stok rfl) (Nat.le_of_ble_eq_true rfl) (Nat.le_of_ble_eq_true rfl) (fun h15 E16 F17 => ?_)
  have H18 := ((F17 40 (by decide)).trans E13)
  refine v_putF dX6_init_25 fl_X6_20 rfl rfl H18 (Nat.le_of_ble_eq_true rfl) (Nat.le_of_ble_eq_true rfl) (fun _ => ⟨rfl, rfl⟩) (Nat.le_of_ble_eq_true rfl) (fun h19 E20 F21 => ?_)
  exact v_vret dX6_init_28 rfl (Nat.le_of_ble_eq_true rfl) (Nat.le_of_ble_eq_true rfl) ⟨rfl, rfl, (fun j hj => ((F21 j (by omega)).trans ((F17 j (by omega)).trans ((F14 j (by omega)).trans ((F10 j (by omega)).trans ((F7 j (by omega)).trans (F3 j (by omega)))))))), E20, ((F21 41 (by decide)).trans ((F17 41 (by decide)).trans ((F14 41 (by decide)).trans ((F10 41 (by decide)).trans ((F7 41 (by decide)).trans E2))))), ((F21 42 (by decide)).trans ((F17 42 (by decide)).trans ((F14 42 (by decide)).trans E9))), ((F21 43 (by decide)).trans E16)⟩
set_option maxRecDepth 20000 in
theorem sp_X6_init_45 {h : Nat → sE} (ho : h 45 = .inr (6, [.null, .null, .null])) : Sp m_X6_init 1 3 197 [.ref 45] 46 h (fun r n' h' => r = none ∧ n' = 49 ∧ (∀ j, j < 45 → h' j = h j) ∧ h' 45 = .inr (6, [.ref 46, .ref 47, .ref 48]) ∧ h' 46 = aI 13 (fun _ => 0) ∧ h' 47 = aI 120 (fun _ => 0) ∧ h' 48 = aI 64 (fun _ => 0)) := by
  refine Sp.ofV (by decide +kernel) (Nat.le_of_ble_eq_true rfl) ?_
  refine v_aload_n dX6_init_0 rfl ?_
  refine v_objInit dX6_init_1 ml_X6_5 (by decide) (Nat.le_of_ble_eq_true rfl) ?_
  refine v_aload_n dX6_init_4 rfl ?_
  refine v_bipushI dX6_init_5 rfl ?_
  refine v_newa_aI (N := 13) dX6_init_7 ac_int rfl (s_lvok rfl) (s_stok rfl) (Nat.le_of_ble_eq_true rfl) (Nat.le_of_ble_eq_true rfl) (fun h1 E2 F3 => ?_)
  have H4 := ((F3 45 (by decide)).trans ho)
  refine v_putF dX6_init_9 fl_X6_11 rfl rfl H4 (Nat.le_of_ble_eq_true rfl) (Nat.le_of_ble_eq_true rfl) (fun _ => ⟨rfl, rfl⟩) (Nat.le_of_ble_eq_true rfl) (fun h5 E6 F7 => ?_)
  refine v_aload_n dX6_init_12 rfl ?_
  refine v_bipushI dX6_init_13 rfl ?_
  refine v_newa_aI (N := 120) dX6_init_15 ac_int rfl (s_lvok rfl) (s_stok rfl) (Nat.le_of_ble_eq_true rfl) (Nat.le_of_ble_eq_true rfl) (fun h8 E9 F10 => ?_)
  have H11 := ((F10 45 (by decide)).trans E6)
  refine v_putF dX6_init_17 fl_X6_17 rfl rfl H11 (Nat.le_of_ble_eq_true rfl) (Nat.le_of_ble_eq_true rfl) (fun _ => ⟨rfl, rfl⟩) (Nat.le_of_ble_eq_true rfl) (fun h12 E13 F14 => ?_)
  refine v_aload_n dX6_init_20 rfl ?_
  refine v_bipushI dX6_init_21 rfl ?_
  refine v_newa_aI (N := 64) dX6_init_23 ac_int rfl (s_lvok rfl) (s_stok rfl) (Nat.le_of_ble_eq_true rfl) (Nat.le_of_ble_eq_true rfl) (fun h15 E16 F17 => ?_)
  have H18 := ((F17 45 (by decide)).trans E13)
  refine v_putF dX6_init_25 fl_X6_20 rfl rfl H18 (Nat.le_of_ble_eq_true rfl) (Nat.le_of_ble_eq_true rfl) (fun _ => ⟨rfl, rfl⟩) (Nat.le_of_ble_eq_true rfl) (fun h19 E20 F21 => ?_)
  exact v_vret dX6_init_28 rfl (Nat.le_of_ble_eq_true rfl) (Nat.le_of_ble_eq_true rfl) ⟨rfl, rfl, (fun j hj => ((F21 j (by omega)).trans ((F17 j (by omega)).trans ((F14 j (by omega)).trans ((F10 j (by omega)).trans ((F7 j (by omega)).trans (F3 j (by omega)))))))), E20, ((F21 46 (by decide)).trans ((F17 46 (by decide)).trans ((F14 46 (by decide)).trans ((F10 46 (by decide)).trans ((F7 46 (by decide)).trans E2))))), ((F21 47 (by decide)).trans ((F17 47 (by decide)).trans ((F14 47 (by decide)).trans E9))), ((F21 48 (by decide)).trans E16)⟩
theorem dX0_init_0 : decode cX0_init 0 = .ok (.aload_n 0, 1) := by decide +kernel
theorem dX0_init_1 : decode cX0_init 1 = .ok (.invokespecial 3, 3) := by decide +kernel
theorem dX0_init_4 : decode cX0_init 4 = .ok (.aload_n 0, 1) := by decide +kernel
theorem dX0_init_5 : decode cX0_init 5 = .ok (.new 9, 3) := by decide +kernel
theorem dX0_init_8 : decode cX0_init 8 = .ok (.dup, 1) := by decide +kernel
theorem dX0_init_9 : decode cX0_init 9 = .ok (.invokespecial 11, 3) := by decide +kernel
theorem dX0_init_12 : decode cX0_init 12 = .ok (.putfield 12, 3) := by decide +kernel
theorem dX0_init_15 : decode cX0_init 15 = .ok (.aload_n 0, 1) := by decide +kernel
theorem dX0_init_16 : decode cX0_init 16 = .ok (.aload_n 1, 1) := by decide +kernel
theorem dX0_init_17 : decode cX0_init 17 = .ok (.putfield 18, 3) := by decide +kernel
theorem dX0_init_20 : decode cX0_init 20 = .ok (.return_, 1) := by decide +kernel
set_option maxRecDepth 20000 in
theorem sp_X0_init_44 {h : Nat → sE} (ho : h 44 = .inr (0, [.null, .null])) : Sp m_X0_init 2 4 200 [.ref 44, .ref 1] 45 h (fun r n' h' => r = none ∧ n' = 49 ∧ (∀ j, j < 44 → h' j = h j) ∧ h' 44 = .inr (0, [.ref 1, .ref 45]) ∧ h' 45 = .inr (6, [.ref 46, .ref 47, .ref 48]) ∧ h' 46 = aI 13 (fun _ => 0) ∧ h' 47 = aI 120 (fun _ => 0) ∧ h' 48 = aI 64 (fun _ => 0)) := by
  refine Sp.ofV (by decide +kernel) (Nat.le_of_ble_eq_true rfl) ?_
  refine v_aload_n dX0_init_0 rfl ?_
  refine v_objInit dX0_init_1 ml_X0_3 (by decide) (Nat.le_of_ble_eq_true rfl) ?_
  refine v_aload_n dX0_init_4 rfl ?_
  refine v_new dX0_init_5 cl_X0_9 rfl (s_lvok rfl) (s_stok rfl) (Nat.le_of_ble_eq_true rfl) (Nat.le_of_ble_eq_true rfl) (fun h1 E2 F3 => ?_)
  refine v_dup dX0_init_8 rfl ?_
  refine v_callI dX0_init_9 ml_X0_11 (sp_X6_init_45 E2) rfl rfl (by decide) (Nat.le_of_ble_eq_true rfl) (Nat.le_of_ble_eq_true rfl) (Nat.le_of_ble_eq_true rfl) ⟨Or.inr ⟨s_lvok rfl, s_stok rfl⟩, fun r n1 h4 q5 => ?_⟩
  obtain ⟨rfl, rfl, F10, q6, q7, q8, q9⟩ := q5
  dsimp only [s_push]
  have H11 := ((F10 44 (by decide)).trans ((F3 44 (by decide)).trans ho))
  refine v_putF dX0_init_12 fl_X0_12 rfl rfl H11 (Nat.le_of_ble_eq_true rfl) (Nat.le_of_ble_eq_true rfl) (fun _ => ⟨rfl, rfl⟩) (Nat.le_of_ble_eq_true rfl) (fun h12 E13 F14 => ?_)
  refine v_aload_n dX0_init_15 rfl ?_
  refine v_aload_n dX0_init_16 rfl ?_
  refine v_putF dX0_init_17 fl_X0_18 rfl rfl E13 (Nat.le_of_ble_eq_true rfl) (Nat.le_of_ble_eq_true rfl) (fun _ => ⟨rfl, rfl⟩) (Nat.le_of_ble_eq_true rfl) (fun h15 E16 F17 => ?_)
  exact v_vret dX0_init_20 rfl (Nat.le_of_ble_eq_true rfl) (Nat.le_of_ble_eq_true rfl) ⟨rfl, rfl, (fun j hj => ((F17 j (by omega)).trans ((F14 j (by omega)).trans ((F10 j (by omega)).trans (F3 j (by omega)))))), E16, ((F17 45 (by decide)).trans ((F14 45 (by decide)).trans q6)), ((F17 46 (by decide)).trans ((F14 46 (by decide)).trans q7)), ((F17 47 (by decide)).trans ((F14 47 (by decide)).trans q8)), ((F17 48 (by decide)).trans ((F14 48 (by decide)).trans q9))⟩
theorem dX8_init_0 : decode cX8_init 0 = .ok (.aload_n 0, 1) := by decide +kernel
theorem dX8_init_1 : decode cX8_init 1 = .ok (.invokespecial 3, 3) := by decide +kernel
theorem dX8_init_4 : decode cX8_init 4 = .ok (.aload_n 0, 1) := by decide +kernel
theorem dX8_init_5 : decode cX8_init 5 = .ok (.bipush 55, 2) := by decide +kernel
theorem dX8_init_7 : decode cX8_init 7 = .ok (.newarray .int, 2) := by decide +kernel
theorem dX8_init_9 : decode cX8_init 9 = .ok (.putfield 9, 3) := by decide +kernel
theorem dX8_init_12 : decode cX8_init 12 = .ok (.aload_n 0, 1) := by decide +kernel
theorem dX8_init_13 : decode cX8_init 13 = .ok (.bipush 60, 2) := by decide +kernel
theorem dX8_init_15 : decode cX8_init 15 = .ok (.newarray .int, 2) := by decide +kernel
theorem dX8_init_17 : decode cX8_init 17 = .ok (.putfield 15, 3) := by decide +kernel
theorem dX8_init_20 : decode cX8_init 20 = .ok (.aload_n 0, 1) := by decide +kernel
theorem dX8_init_21 : decode cX8_init 21 = .ok (.aload_n 1, 1) := by decide +kernel
theorem dX8_init_22 : decode cX8_init 22 = .ok (.putfield 18, 3) := by decide +kernel
theorem dX8_init_25 : decode cX8_init 25 = .ok (.aload_n 0, 1) := by decide +kernel
theorem dX8_init_26 : decode cX8_init 26 = .ok (.aload_n 2, 1) := by decide +kernel
theorem dX8_init_27 : decode cX8_init 27 = .ok (.putfield 22, 3) := by decide +kernel
theorem dX8_init_30 : decode cX8_init 30 = .ok (.return_, 1) := by decide +kernel
set_option maxRecDepth 20000 in
theorem sp_X8_init_49 {h : Nat → sE} (ho : h 49 = .inr (8, [.null, .null, .null, .null])) : Sp m_X8_init 1 2 115 [.ref 49, .ref 1, .ref 44] 50 h (fun r n' h' => r = none ∧ n' = 52 ∧ (∀ j, j < 49 → h' j = h j) ∧ h' 49 = .inr (8, [.ref 1, .ref 44, .ref 50, .ref 51]) ∧ h' 50 = aI 55 (fun _ => 0) ∧ h' 51 = aI 60 (fun _ => 0)) := by
  refine Sp.ofV (by decide +kernel) (Nat.le_of_ble_eq_true rfl) ?_
  refine v_aload_n dX8_init_0 rfl ?_
  refine v_objInit dX8_init_1 ml_X8_3 (by decide) (Nat.le_of_ble_eq_true rfl) ?_
  refine v_aload_n dX8_init_4 rfl ?_
  refine v_bipushI dX8_init_5 rfl ?_
  refine v_newa_aI (N := 55) dX8_init_7 ac_int rfl (s_lvok rfl) (s_stok rfl) (Nat.le_of_ble_eq_true rfl) (Nat.le_of_ble_eq_true rfl) (fun h1 E2 F3 => ?_)
  have H4 := ((F3 49 (by decide)).trans ho)
  refine v_putF dX8_init_9 fl_X8_9 rfl rfl H4 (Nat.le_of_ble_eq_true rfl) (Nat.le_of_ble_eq_true rfl) (fun _ => ⟨rfl, rfl⟩) (Nat.le_of_ble_eq_true rfl) (fun h5 E6 F7 => ?_)
  refine v_aload_n dX8_init_12 rfl ?_
  refine v_bipushI dX8_init_13 rfl ?_
  refine v_newa_aI (N := 60) dX8_init_15 ac_int rfl (s_lvok rfl) (s_stok rfl) (Nat.le_of_ble_eq_true rfl) (Nat.le_of_ble_eq_true rfl) (fun h8 E9 F10 => ?_)
  have H11 := ((F10 49 (by decide)).trans E6)
  refine v_putF dX8_init_17 fl_X8_15 rfl rfl H11 (Nat.le_of_ble_eq_true rfl) (Nat.le_of_ble_eq_true rfl) (fun _ => ⟨rfl, rfl⟩) (Nat.le_of_ble_eq_true rfl) (fun h12 E13 F14 => ?_)
  refine v_aload_n dX8_init_20 rfl ?_
  refine v_aload_n dX8_init_21 rfl ?_
  refine v_putF dX8_init_22 fl_X8_18 rfl rfl E13 (Nat.le_of_ble_eq_true rfl) (Nat.le_of_ble_eq_true rfl) (fun _ => ⟨rfl, rfl⟩) (Nat.le_of_ble_eq_true rfl) (fun h15 E16 F17 => ?_)
  refine v_aload_n dX8_init_25 rfl ?_
  refine v_aload_n dX8_init_26 rfl ?_
  refine v_putF dX8_init_27 fl_X8_22 rfl rfl E16 (Nat.le_of_ble_eq_true rfl) (Nat.le_of_ble_eq_true rfl) (fun _ => ⟨rfl, rfl⟩) (Nat.le_of_ble_eq_true rfl) (fun h18 E19 F20 => ?_)
  exact v_vret dX8_init_30 rfl (Nat.le_of_ble_eq_true rfl) (Nat.le_of_ble_eq_true rfl) ⟨rfl, rfl, (fun j hj => ((F20 j (by omega)).trans ((F17 j (by omega)).trans ((F14 j (by omega)).trans ((F10 j (by omega)).trans ((F7 j (by omega)).trans (F3 j (by omega)))))))), E19, ((F20 50 (by decide)).trans ((F17 50 (by decide)).trans ((F14 50 (by decide)).trans ((F10 50 (by decide)).trans ((F7 50 (by decide)).trans E2))))), ((F20 51 (by decide)).trans ((F17 51 (by decide)).trans ((F14 51 (by decide)).trans E9)))⟩
set_option maxRecDepth 20000 in
theorem sp_X8_init_55 {h : Nat → sE} (ho : h 55 = .inr (8, [.null, .null, .null, .null])) : Sp m_X8_init 1 2 115 [.ref 55, .ref 1, .ref 44] 56 h (fun r n' h' => r = none ∧ n' = 58 ∧ (∀ j, j < 55 → h' j = h j) ∧ h' 55 = .inr (8, [.ref 1, .ref 44, .ref 56, .ref 57]) ∧ h' 56 = aI 55 (fun _ => 0) ∧ h' 57 = aI 60 (fun _ => 0)) := by
  refine Sp.ofV (by decide +kernel) (Nat.le_of_ble_eq_true rfl) ?_
  refine v_aload_n dX8_init_0 rfl ?_
  refine v_objInit dX8_init_1 ml_X8_3 (by decide) (Nat.le_of_ble_eq_true rfl) ?_
  refine v_aload_n dX8_init_4 rfl ?_
  refine v_bipushI dX8_init_5 rfl ?_
  refine v_newa_aI (N := 55) dX8_init_7 ac_int rfl (s_lvok rfl) (s_stok rfl) (Nat.le_of_ble_eq_true rfl) (Nat.le_of_ble_eq_true rfl) (fun h1 E2 F3 => ?_)
  have H4 := ((F3 55 (by decide)).trans ho)
  refine v_putF dX8_init_9 fl_X8_9 rfl rfl H4 (Nat.le_of_ble_eq_true rfl) (Nat.le_of_ble_eq_true rfl) (fun _ => ⟨rfl, rfl⟩) (Nat.le_of_ble_eq_true rfl) (fun h5 E6 F7 => ?_)
  refine v_aload_n dX8_init_12 rfl ?_
  refine v_bipushI dX8_init_13 rfl ?_
  refine v_newa_aI (N := 60) dX8_init_15 ac_int rfl (s_lvok rfl) (s_stok rfl) (Nat.le_of_ble_eq_true rfl) (Nat.le_of_ble_eq_true rfl) (fun h8 E9 F10 => ?_)
  have H11 := ((F10 55 (by decide)).trans E6)
  refine v_putF dX8_init_17 fl_X8_15 rfl rfl H11 (Nat.le_of_ble_eq_true rfl) (Nat.le_of_ble_eq_true rfl) (fun _ => ⟨rfl, rfl⟩) (Nat.le_of_ble_eq_true rfl) (fun h12 E13 F14 => ?_)
  refine v_aload_n dX8_init_20 rfl ?_
  refine v_aload_n dX8_init_21 rfl ?_
  refine v_putF dX8_init_22 fl_X8_18 rfl rfl E13 (Nat.le_of_ble_eq_true rfl) (Nat.le_of_ble_eq_true rfl) (fun _ => ⟨rfl, rfl⟩) (Nat.le_of_ble_eq_true rfl) (fun h15 E16 F17 => ?_)
  refine v_aload_n dX8_init_25 rfl ?_
  refine v_aload_n dX8_init_26 rfl ?_
  refine v_putF dX8_init_27 fl_X8_22 rfl rfl E16 (Nat.le_of_ble_eq_true rfl) (Nat.le_of_ble_eq_true rfl) (fun _ => ⟨rfl, rfl⟩) (Nat.le_of_ble_eq_true rfl) (fun h18 E19 F20 => ?_)
  exact v_vret dX8_init_30 rfl (Nat.le_of_ble_eq_true rfl) (Nat.le_of_ble_eq_true rfl) ⟨rfl, rfl, (fun j hj => ((F20 j (by omega)).trans ((F17 j (by omega)).trans ((F14 j (by omega)).trans ((F10 j (by omega)).trans ((F7 j (by omega)).trans (F3 j (by omega)))))))), E19, ((F20 56 (by decide)).trans ((F17 56 (by decide)).trans ((F14 56 (by decide)).trans ((F10 56 (by decide)).trans ((F7 56 (by decide)).trans E2))))), ((F20 57 (by decide)).trans ((F17 57 (by decide)).trans ((F14 57 (by decide)).trans E9)))⟩
theorem dX9_init_0 : decode cX9_init 0 = .ok (.aload_n 0, 1) := by decide +kernel
theorem dX9_init_1 : decode cX9_init 1 = .ok (.invokespecial 5, 3) := by decide +kernel
theorem dX9_init_4 : decode cX9_init 4 = .ok (.aload_n 0, 1) := by decide +kernel
theorem dX9_init_5 : decode cX9_init 5 = .ok (.sipush 4608, 3) := by decide +kernel
theorem dX9_init_8 : decode cX9_init 8 = .ok (.newarray .int, 2) := by decide +kernel
theorem dX9_init_10 : decode cX9_init 10 = .ok (.putfield 13, 3) := by decide +kernel
theorem dX9_init_13 : decode cX9_init 13 = .ok (.aload_n 0, 1) := by decide +kernel
theorem dX9_init_14 : decode cX9_init 14 = .ok (.bipush 64, 2) := by decide +kernel
theorem dX9_init_16 : decode cX9_init 16 = .ok (.newarray .int, 2) := by decide +kernel
theorem dX9_init_18 : decode cX9_init 18 = .ok (.putfield 17, 3) := by decide +kernel
theorem dX9_init_21 : decode cX9_init 21 = .ok (.aload_n 0, 1) := by decide +kernel
theorem dX9_init_22 : decode cX9_init 22 = .ok (.iconst 0, 1) := by decide +kernel
theorem dX9_init_23 : decode cX9_init 23 = .ok (.putfield 20, 3) := by decide +kernel
theorem dX9_init_26 : decode cX9_init 26 = .ok (.aload_n 0, 1) := by decide +kernel
theorem dX9_init_27 : decode cX9_init 27 = .ok (.iconst 0, 1) := by decide +kernel
theorem dX9_init_28 : decode cX9_init 28 = .ok (.putfield 24, 3) := by decide +kernel
theorem dX9_init_31 : decode cX9_init 31 = .ok (.aload_n 0, 1) := by decide +kernel
theorem dX9_init_32 : decode cX9_init 32 = .ok (.aload_n 1, 1) := by decide +kernel
theorem dX9_init_33 : decode cX9_init 33 = .ok (.putfield 28, 3) := by decide +kernel
theorem dX9_init_36 : decode cX9_init 36 = .ok (.aload_n 0, 1) := by decide +kernel
theorem dX9_init_37 : decode cX9_init 37 = .ok (.aload_n 2, 1) := by decide +kernel
theorem dX9_init_38 : decode cX9_init 38 = .ok (.putfield 32, 3) := by decide +kernel
theorem dX9_init_41 : decode cX9_init 41 = .ok (.aload_n 0, 1) := by decide +kernel
theorem dX9_init_42 : decode cX9_init 42 = .ok (.new 36, 3) := by decide +kernel
theorem dX9_init_45 : decode cX9_init 45 = .ok (.dup, 1) := by decide +kernel
theorem dX9_init_46 : decode cX9_init 46 = .ok (.aload_n 1, 1) := by decide +kernel
theorem dX9_init_47 : decode cX9_init 47 = .ok (.aload_n 2, 1) := by decide +kernel
theorem dX9_init_48 : decode cX9_init 48 = .ok (.invokespecial 38, 3) := by decide +kernel
theorem dX9_init_51 : decode cX9_init 51 = .ok (.putfield 41, 3) := by decide +kernel
theorem dX9_init_54 : decode cX9_init 54 = .ok (.return_, 1) := by decide +kernel
set_option maxRecDepth 20000 in
theorem sp_X9_init_52 {h : Nat → sE} (ho : h 52 = .inr (9, [.null, .null, .null, .null, .null, .int (iI 0), .int (iI 0)])) : Sp m_X9_init 2 5 4791 [.ref 52, .ref 1, .ref 44] 53 h (fun r n' h' => r = none ∧ n' = 58 ∧ (∀ j, j < 52 → h' j = h j) ∧ h' 52 = .inr (9, [.ref 1, .ref 44, .ref 55, .ref 53, .ref 54, .int (iI 0), .int (iI 0)]) ∧ h' 53 = aI 4608 (fun _ => 0) ∧ h' 54 = aI 64 (fun _ => 0) ∧ h' 55 = .inr (8, [.ref 1, .ref 44, .ref 56, .ref 57]) ∧ h' 56 = aI 55 (fun _ => 0) ∧ h' 57 = aI 60 (fun _ => 0)) := by
  refine Sp.ofV (by decide +kernel) (Nat.le_of_ble_eq_true rfl) ?_
  refine v_aload_n dX9_init_0 rfl ?_
  refine v_objInit dX9_init_1 ml_X9_5 (by decide) (Nat.le_of_ble_eq_true rfl) ?_
  refine v_aload_n dX9_init_4 rfl ?_
  refine v_sipushI dX9_init_5 rfl ?_
  refine v_newa_aI (N := 4608) dX9_init_8 ac_int rfl (s_lvok rfl) (s_stok rfl) (Nat.le_of_ble_eq_true rfl) (Nat.le_of_ble_eq_true rfl) (fun h1 E2 F3 => ?_)
  have H4 := ((F3 52 (by decide)).trans ho)
  refine v_putF dX9_init_10 fl_X9_13 rfl rfl H4 (Nat.le_of_ble_eq_true rfl) (Nat.le_of_ble_eq_true rfl) (fun _ => ⟨rfl, rfl⟩) (Nat.le_of_ble_eq_true rfl) (fun h5 E6 F7 => ?_)
  refine v_aload_n dX9_init_13 rfl ?_
  refine v_bipushI dX9_init_14 rfl ?_
  refine v_newa_aI (N := 64) dX9_init_16 ac_int rfl (s_lvok rfl) (s_stok rfl) (Nat.le_of_ble_eq_true rfl) (Nat.le_of_ble_eq_true rfl) (fun h8 E9 F10 => ?_)
  have H11 := ((F10 52 (by decide)).trans E6)
  refine v_putF dX9_init_18 fl_X9_17 rfl rfl H11 (Nat.le_of_ble_eq_true rfl) (Nat.le_of_ble_eq_true rfl) (fun _ => ⟨rfl, rfl⟩) (Nat.le_of_ble_eq_true rfl) (fun h12 E13 F14 => ?_)
  refine v_aload_n dX9_init_21 rfl ?_
  refine v_iconstI dX9_init_22 ?_
  refine v_put dX9_init_23 fl_X9_20 E13 (Nat.le_of_ble_eq_true rfl) (Nat.le_of_ble_eq_true rfl) (fun _ => ⟨iI_nb0, rfl⟩) trivial (fun h15 E16 F17 => ?_)
  refine v_aload_n dX9_init_26 rfl ?_
  refine v_iconstI dX9_init_27 ?_
  refine v_put dX9_init_28 fl_X9_24 E16 (Nat.le_of_ble_eq_true rfl) (Nat.le_of_ble_eq_true rfl) (fun _ => ⟨rfl, rfl⟩) trivial (fun h18 E19 F20 => ?_)
  refine v_aload_n dX9_init_31 rfl ?_
  refine v_aload_n dX9_init_32 rfl ?_
  refine v_putF dX9_init_33 fl_X9_28 rfl rfl E19 (Nat.le_of_ble_eq_true rfl) (Nat.le_of_ble_eq_true rfl) (fun _ => ⟨rfl, rfl⟩) (Nat.le_of_ble_eq_true rfl) (fun h21 E22 F23 => ?_)
  refine v_aload_n dX9_init_36 rfl ?_
  refine v_aload_n dX9_init_37 rfl ?_
  refine v_putF dX9_init_38 fl_X9_32 rfl rfl E22 (Nat.le_of_ble_eq_true rfl) (Nat.le_of_ble_eq_true rfl) (fun _ => ⟨rfl, rfl⟩) (Nat.le_of_ble_eq_true rfl) (fun h24 E25 F26 => ?_)
  refine v_aload_n dX9_init_41 rfl ?_
  refine v_new dX9_init_42 cl_X9_36 rfl (s_lvok rfl) (s_stok rfl) (Nat.le_of_ble_eq_true rfl) (Nat.le_of_ble_eq_true rfl) (fun h27 E28 F29 => ?_)
  refine v_dup dX9_init_45 rfl ?_
  refine v_aload_n dX9_init_46 rfl ?_
  refine v_aload_n dX9_init_47 rfl ?_
  refine v_callI dX9_init_48 ml_X9_38 (sp_X8_init_55 E28) rfl rfl (by decide) (Nat.le_of_ble_eq_true rfl) (Nat.le_of_ble_eq_true rfl) (Nat.le_of_ble_eq_true rfl) ⟨Or.inr ⟨s_lvok rfl, s_stok rfl⟩, fun r n1 h30 q31 => ?_⟩
  obtain ⟨rfl, rfl, F35, q32, q33, q34⟩ := q31
  dsimp only [s_push]
  have H36 := ((F35 52 (by decide)).trans ((F29 52 (by decide)).trans E25))
  refine v_putF dX9_init_51 fl_X9_41 rfl rfl H36 (Nat.le_of_ble_eq_true rfl) (Nat.le_of_ble_eq_true rfl) (fun _ => ⟨rfl, rfl⟩) (Nat.le_of_ble_eq_true rfl) (fun h37 E38 F39 => ?_)
  exact v_vret dX9_init_54 rfl (Nat.le_of_ble_eq_true rfl) (Nat.le_of_ble_eq_true rfl) ⟨rfl, rfl, (fun j hj => ((F39 j (by omega)).trans ((F35 j (by omega)).trans ((F29 j (by omega)).trans ((F26 j (by omega)).trans ((F23 j (by omega)).trans ((F20 j (by omega)).trans ((F17 j (by omega)).trans ((F14 j (by omega)).trans ((F10 j (by omega)).trans ((F7 j (by omega)).trans (F3 j (by omega))))))))))))), E38, ((F39 53 (by decide)).trans ((F35 53 (by decide)).trans ((F29 53 (by decide)).trans ((F26 53 (by decide)).trans ((F23 53 (by decide)).trans ((F20 53 (by decide)).trans ((F17 53 (by decide)).trans ((F14 53 (by decide)).trans ((F10 53 (by decide)).trans ((F7 53 (by decide)).trans E2)))))))))), ((F39 54 (by decide)).trans ((F35 54 (by decide)).trans ((F29 54 (by decide)).trans ((F26 54 (by decide)).trans ((F23 54 (by decide)).trans ((F20 54 (by decide)).trans ((F17 54 (by decide)).trans ((F14 54 (by decide)).trans E9)))))))), ((F39 55 (by decide)).trans q32), ((F39 56 (by decide)).trans q33), ((F39 57 (by decide)).trans q34)⟩
theorem dX2_init_0 : decode cX2_init 0 = .ok (.aload_n 0, 1) := by decide +kernel
theorem dX2_init_1 : decode cX2_init 1 = .ok (.invokespecial 3, 3) := by decide +kernel
theorem dX2_init_4 : decode cX2_init 4 = .ok (.aload_n 0, 1) := by decide +kernel
theorem dX2_init_5 : decode cX2_init 5 = .ok (.sipush 6924, 3) := by decide +kernel
theorem dX2_init_8 : decode cX2_init 8 = .ok (.newarray .int, 2) := by decide +kernel
theorem dX2_init_10 : decode cX2_init 10 = .ok (.putfield 9, 3) := by decide +kernel
theorem dX2_init_13 : decode cX2_init 13 = .ok (.aload_n 0, 1) := by decide +kernel
theorem dX2_init_14 : decode cX2_init 14 = .ok (.iconst (-1), 1) := by decide +kernel
theorem dX2_init_15 : decode cX2_init 15 = .ok (.putfield 15, 3) := by decide +kernel
theorem dX2_init_18 : decode cX2_init 18 = .ok (.aload_n 0, 1) := by decide +kernel
theorem dX2_init_19 : decode cX2_init 19 = .ok (.iconst 0, 1) := by decide +kernel
theorem dX2_init_20 : decode cX2_init 20 = .ok (.putfield 19, 3) := by decide +kernel
theorem dX2_init_23 : decode cX2_init 23 = .ok (.aload_n 0, 1) := by decide +kernel
theorem dX2_init_24 : decode cX2_init 24 = .ok (.iconst 0, 1) := by decide +kernel
theorem dX2_init_25 : decode cX2_init 25 = .ok (.putfield 22, 3) := by decide +kernel
theorem dX2_init_28 : decode cX2_init 28 = .ok (.aload_n 0, 1) := by decide +kernel
theorem dX2_init_29 : decode cX2_init 29 = .ok (.aload_n 1, 1) := by decide +kernel
theorem dX2_init_30 : decode cX2_init 30 = .ok (.putfield 25, 3) := by decide +kernel
theorem dX2_init_33 : decode cX2_init 33 = .ok (.aload_n 0, 1) := by decide +kernel
theorem dX2_init_34 : decode cX2_init 34 = .ok (.aload_n 2, 1) := by decide +kernel
theorem dX2_init_35 : decode cX2_init 35 = .ok (.putfield 29, 3) := by decide +kernel
theorem dX2_init_38 : decode cX2_init 38 = .ok (.return_, 1) := by decide +kernel
set_option maxRecDepth 20000 in
theorem sp_X2_init_58 {h : Nat → sE} (ho : h 58 = .inr (2, [.null, .null, .null, .int (iI 0), .int (iI 0), .int (iI 0)])) : Sp m_X2_init 1 1 6924 [.ref 58, .ref 1, .ref 44] 59 h (fun r n' h' => r = none ∧ n' = 60 ∧ (∀ j, j < 58 → h' j = h j) ∧ h' 58 = .inr (2, [.ref 1, .ref 44, .ref 59, .int (iI (-1)), .int (iI 0), .int (iI 0)]) ∧ h' 59 = aI 6924 (fun _ => 0)) := by
  refine Sp.ofV (by decide +kernel) (Nat.le_of_ble_eq_true rfl) ?_
  refine v_aload_n dX2_init_0 rfl ?_
  refine v_objInit dX2_init_1 ml_X2_3 (by decide) (Nat.le_of_ble_eq_true rfl) ?_
  refine v_aload_n dX2_init_4 rfl ?_
  refine v_sipushI dX2_init_5 rfl ?_
  refine v_newa_aI (N := 6924) dX2_init_8 ac_int rfl (s_lvok rfl) (s_stok rfl) (Nat.le_of_ble_eq_true rfl) (Nat.le_of_ble_eq_true rfl) (fun h1 E2 F3 => ?_)
  have H4 := ((F3 58 (by decide)).trans ho)
  refine v_putF dX2_init_10 fl_X2_9 rfl rfl H4 (Nat.le_of_ble_eq_true rfl) (Nat.le_of_ble_eq_true rfl) (fun _ => ⟨rfl, rfl⟩) (Nat.le_of_ble_eq_true rfl) (fun h5 E6 F7 => ?_)
  refine v_aload_n dX2_init_13 rfl ?_
  refine v_iconstI dX2_init_14 ?_
  refine v_put dX2_init_15 fl_X2_15 E6 (Nat.le_of_ble_eq_true rfl) (Nat.le_of_ble_eq_true rfl) (fun _ => ⟨rfl, rfl⟩) trivial (fun h8 E9 F10 => ?_)
  refine v_aload_n dX2_init_18 rfl ?_
  refine v_iconstI dX2_init_19 ?_
  refine v_put dX2_init_20 fl_X2_19 E9 (Nat.le_of_ble_eq_true rfl) (Nat.le_of_ble_eq_true rfl) (fun _ => ⟨rfl, rfl⟩) trivial (fun h11 E12 F13 => ?_)
  refine v_aload_n dX2_init_23 rfl ?_
  refine v_iconstI dX2_init_24 ?_
  refine v_put dX2_init_25 fl_X2_22 E12 (Nat.le_of_ble_eq_true rfl) (Nat.le_of_ble_eq_true rfl) (fun _ => ⟨rfl, rfl⟩) trivial (fun h14 E15 F16 => ?_)
  refine v_aload_n dX2_init_28 rfl ?_
  refine v_aload_n dX2_init_29 rfl ?_
  refine v_putF dX2_init_30 fl_X2_25 rfl rfl E15 (Nat.le_of_ble_eq_true rfl) (Nat.le_of_ble_eq_true rfl) (fun _ => ⟨rfl, rfl⟩) (Nat.le_of_ble_eq_true rfl) (fun h17 E18 F19 => ?_)
  refine v_aload_n dX2_init_33 rfl ?_
  refine v_aload_n dX2_init_34 rfl ?_
  refine v_putF dX2_init_35 fl_X2_29 rfl rfl E18 (Nat.le_of_ble_eq_true rfl) (Nat.le_of_ble_eq_true rfl) (fun _ => ⟨rfl, rfl⟩) (Nat.le_of_ble_eq_true rfl) (fun h20 E21 F22 => ?_)
  exact v_vret dX2_init_38 rfl (Nat.le_of_ble_eq_true rfl) (Nat.le_of_ble_eq_true rfl) ⟨rfl, rfl, (fun j hj => ((F22 j (by omega)).trans ((F19 j (by omega)).trans ((F16 j (by omega)).trans ((F13 j (by omega)).trans ((F10 j (by omega)).trans ((F7 j (by omega)).trans (F3 j (by omega))))))))), E21, ((F22 59 (by decide)).trans ((F19 59 (by decide)).trans ((F16 59 (by decide)).trans ((F13 59 (by decide)).trans ((F10 59 (by decide)).trans ((F7 59 (by decide)).trans E2))))))⟩
theorem dX4_init_0 : decode cX4_init 0 = .ok (.aload_n 0, 1) := by decide +kernel
theorem dX4_init_1 : decode cX4_init 1 = .ok (.invokespecial 5, 3) := by decide +kernel
theorem dX4_init_4 : decode cX4_init 4 = .ok (.aload_n 0, 1) := by decide +kernel
theorem dX4_init_5 : decode cX4_init 5 = .ok (.sipush 6924, 3) := by decide +kernel
theorem dX4_init_8 : decode cX4_init 8 = .ok (.newarray .int, 2) := by decide +kernel
theorem dX4_init_10 : decode cX4_init 10 = .ok (.putfield 11, 3) := by decide +kernel
theorem dX4_init_13 : decode cX4_init 13 = .ok (.aload_n 0, 1) := by decide +kernel
theorem dX4_init_14 : decode cX4_init 14 = .ok (.sipush 13848, 3) := by decide +kernel
theorem dX4_init_17 : decode cX4_init 17 = .ok (.newarray .int, 2) := by decide +kernel
theorem dX4_init_19 : decode cX4_init 19 = .ok (.putfield 15, 3) := by decide +kernel
theorem dX4_init_22 : decode cX4_init 22 = .ok (.aload_n 0, 1) := by decide +kernel
theorem dX4_init_23 : decode cX4_init 23 = .ok (.sipush 6347, 3) := by decide +kernel
theorem dX4_init_26 : decode cX4_init 26 = .ok (.newarray .long, 2) := by decide +kernel
theorem dX4_init_28 : decode cX4_init 28 = .ok (.putfield 18, 3) := by decide +kernel
theorem dX4_init_31 : decode cX4_init 31 = .ok (.aload_n 0, 1) := by decide +kernel
theorem dX4_init_32 : decode cX4_init 32 = .ok (.bipush 64, 2) := by decide +kernel
theorem dX4_init_34 : decode cX4_init 34 = .ok (.newarray .int, 2) := by decide +kernel
theorem dX4_init_36 : decode cX4_init 36 = .ok (.putfield 22, 3) := by decide +kernel
theorem dX4_init_39 : decode cX4_init 39 = .ok (.aload_n 0, 1) := by decide +kernel
theorem dX4_init_40 : decode cX4_init 40 = .ok (.sipush 288, 3) := by decide +kernel
theorem dX4_init_43 : decode cX4_init 43 = .ok (.newarray .int, 2) := by decide +kernel
theorem dX4_init_45 : decode cX4_init 45 = .ok (.putfield 25, 3) := by decide +kernel
theorem dX4_init_48 : decode cX4_init 48 = .ok (.aload_n 0, 1) := by decide +kernel
theorem dX4_init_49 : decode cX4_init 49 = .ok (.bipush 24, 2) := by decide +kernel
theorem dX4_init_51 : decode cX4_init 51 = .ok (.newarray .int, 2) := by decide +kernel
theorem dX4_init_53 : decode cX4_init 53 = .ok (.putfield 28, 3) := by decide +kernel
theorem dX4_init_56 : decode cX4_init 56 = .ok (.aload_n 0, 1) := by decide +kernel
theorem dX4_init_57 : decode cX4_init 57 = .ok (.bipush 24, 2) := by decide +kernel
theorem dX4_init_59 : decode cX4_init 59 = .ok (.newarray .int, 2) := by decide +kernel
theorem dX4_init_61 : decode cX4_init 61 = .ok (.putfield 31, 3) := by decide +kernel
theorem dX4_init_64 : decode cX4_init 64 = .ok (.aload_n 0, 1) := by decide +kernel
theorem dX4_init_65 : decode cX4_init 65 = .ok (.aload_n 1, 1) := by decide +kernel
theorem dX4_init_66 : decode cX4_init 66 = .ok (.putfield 34, 3) := by decide +kernel
theorem dX4_init_69 : decode cX4_init 69 = .ok (.aload_n 0, 1) := by decide +kernel
theorem dX4_init_70 : decode cX4_init 70 = .ok (.aload_n 2, 1) := by decide +kernel
theorem dX4_init_71 : decode cX4_init 71 = .ok (.putfield 38, 3) := by decide +kernel
theorem dX4_init_74 : decode cX4_init 74 = .ok (.aload_n 0, 1) := by decide +kernel
theorem dX4_init_75 : decode cX4_init 75 = .ok (.aload_n 3, 1) := by decide +kernel
theorem dX4_init_76 : decode cX4_init 76 = .ok (.putfield 42, 3) := by decide +kernel
theorem dX4_init_79 : decode cX4_init 79 = .ok (.return_, 1) := by decide +kernel
set_option maxRecDepth 20000 in
theorem sp_X4_init_60 {h : Nat → sE} (ho : h 60 = .inr (4, [.null, .null, .null, .null, .null, .null, .null, .null, .null, .null])) : Sp m_X4_init 1 7 27519 [.ref 60, .ref 1, .ref 44, .ref 58] 61 h (fun r n' h' => r = none ∧ n' = 68 ∧ (∀ j, j < 60 → h' j = h j) ∧ h' 60 = .inr (4, [.ref 1, .ref 44, .ref 58, .ref 61, .ref 62, .ref 63, .ref 64, .ref 65, .ref 66, .ref 67]) ∧ h' 61 = aI 6924 (fun _ => 0) ∧ h' 62 = aI 13848 (fun _ => 0) ∧ h' 63 = lI 6347 (fun _ => 0) ∧ h' 64 = aI 64 (fun _ => 0) ∧ h' 65 = aI 288 (fun _ => 0) ∧ h' 66 = aI 24 (fun _ => 0) ∧ h' 67 = aI 24 (fun _ => 0)) := by
  refine Sp.ofV (by decide +kernel) (Nat.le_of_ble_eq_true rfl) ?_
  refine v_aload_n dX4_init_0 rfl ?_
  refine v_objInit dX4_init_1 ml_X4_5 (by decide) (Nat.le_of_ble_eq_true rfl) ?_
  refine v_aload_n dX4_init_4 rfl ?_
  refine v_sipushI dX4_init_5 rfl ?_
  refine v_newa_aI (N := 6924) dX4_init_8 ac_int rfl (s_lvok rfl) (s_stok rfl) (Nat.le_of_ble_eq_true rfl) (Nat.le_of_ble_eq_true rfl) (fun h1 E2 F3 => ?_)
  have H4 := ((F3 60 (by decide)).trans ho)
  refine v_putF dX4_init_10 fl_X4_11 rfl rfl H4 (Nat.le_of_ble_eq_true rfl) (Nat.le_of_ble_eq_true rfl) (fun _ => ⟨rfl, rfl⟩) (Nat.le_of_ble_eq_true rfl) (fun h5 E6 F7 => ?_)
  refine v_aload_n dX4_init_13 rfl ?_
  refine v_sipushI dX4_init_14 rfl ?_
  refine v_newa_aI (N := 13848) dX4_init_17 ac_int rfl (s_lvok rfl) (s_stok rfl) (Nat.le_of_ble_eq_true rfl) (Nat.le_of_ble_eq_true rfl) (fun h8 E9 F10 => ?_)
  have H11 := ((F10 60 (by decide)).trans E6)
  refine v_putF dX4_init_19 fl_X4_15 rfl rfl H11 (Nat.le_of_ble_eq_true rfl) (Nat.le_of_ble_eq_true rfl) (fun _ => ⟨rfl, rfl⟩) (Nat.le_of_ble_eq_true rfl) (fun h12 E13 F14 => ?_)
  refine v_aload_n dX4_init_22 rfl ?_
  refine v_sipushI dX4_init_23 rfl ?_
  refine v_newa_lI (N := 6347) dX4_init_26 ac_long rfl (s_lvok rfl) (s_stok rfl) (Nat.le_of_ble_eq_true rfl) (Nat.le_of_ble_eq_true rfl) (fun h15 E16 F17 => ?_)
  have H18 := ((F17 60 (by decide)).trans E13)
  refine v_putF dX4_init_28 fl_X4_18 rfl rfl H18 (Nat.le_of_ble_eq_true rfl) (Nat.le_of_ble_eq_true rfl) (fun _ => ⟨rfl, rfl⟩) (Nat.le_of_ble_eq_true rfl) (fun h19 E20 F21 => ?_)
  refine v_aload_n dX4_init_31 rfl ?_
  refine v_bipushI dX4_init_32 rfl ?_
  refine v_newa_aI (N := 64) dX4_init_34 ac_int rfl (s_lvok rfl) (s_stok rfl) (Nat.le_of_ble_eq_true rfl) (Nat.le_of_ble_eq_true rfl) (fun h22 E23 F24 => ?_)
  have H25 := ((F24 60 (by decide)).trans E20)
  refine v_putF dX4_init_36 fl_X4_22 rfl rfl H25 (Nat.le_of_ble_eq_true rfl) (Nat.le_of_ble_eq_true rfl) (fun _ => ⟨rfl, rfl⟩) (Nat.le_of_ble_eq_true rfl) (fun h26 E27 F28 => ?_)
  refine v_aload_n dX4_init_39 rfl ?_
  refine v_sipushI dX4_init_40 rfl ?_
  refine v_newa_aI (N := 288) dX4_init_43 ac_int rfl (s_lvok rfl) (s_stok rfl) (Nat.le_of_ble_eq_true rfl) (Nat.le_of_ble_eq_true rfl) (fun h29 E30 F31 => ?_)
  have H32 := ((F31 60 (by decide)).trans E27)
  refine v_putF dX4_init_45 fl_X4_25 rfl rfl H32 (Nat.le_of_ble_eq_true rfl) (Nat.le_of_ble_eq_true rfl) (fun _ => ⟨rfl, rfl⟩) (Nat.le_of_ble_eq_true rfl) (fun h33 E34 F35 => ?_)
  refine v_aload_n dX4_init_48 rfl ?_
  refine v_bipushI dX4_init_49 rfl ?_
  refine v_newa_aI (N := 24) dX4_init_51 ac_int rfl (s_lvok rfl) (s_stok rfl) (Nat.le_of_ble_eq_true rfl) (Nat.le_of_ble_eq_true rfl) (fun h36 E37 F38 => ?_)
  have H39 := ((F38 60 (by decide)).trans E34)
  refine v_putF dX4_init_53 fl_X4_28 rfl rfl H39 (Nat.le_of_ble_eq_true rfl) (Nat.le_of_ble_eq_true rfl) (fun _ => ⟨rfl, rfl⟩) (Nat.le_of_ble_eq_true rfl) (fun h40 E41 F42 => ?_)
  refine v_aload_n dX4_init_56 rfl ?_
  refine v_bipushI dX4_init_57 rfl ?_
  refine v_newa_aI (N := 24) dX4_init_59 ac_int rfl (s_lvok rfl) (s_stok rfl) (Nat.le_of_ble_eq_true rfl) (Nat.le_of_ble_eq_true rfl) (fun h43 E44 F45 => ?_)
  have H46 := ((F45 60 (by decide)).trans E41)
  refine v_putF dX4_init_61 fl_X4_31 rfl rfl H46 (Nat.le_of_ble_eq_true rfl) (Nat.le_of_ble_eq_true rfl) (fun _ => ⟨rfl, rfl⟩) (Nat.le_of_ble_eq_true rfl) (fun h47 E48 F49 => ?_)
  refine v_aload_n dX4_init_64 rfl ?_
  refine v_aload_n dX4_init_65 rfl ?_
  refine v_putF dX4_init_66 fl_X4_34 rfl rfl E48 (Nat.le_of_ble_eq_true rfl) (Nat.le_of_ble_eq_true rfl) (fun _ => ⟨rfl, rfl⟩) (Nat.le_of_ble_eq_true rfl) (fun h50 E51 F52 => ?_)
  refine v_aload_n dX4_init_69 rfl ?_
  refine v_aload_n dX4_init_70 rfl ?_
  refine v_putF dX4_init_71 fl_X4_38 rfl rfl E51 (Nat.le_of_ble_eq_true rfl) (Nat.le_of_ble_eq_true rfl) (fun _ => ⟨rfl, rfl⟩) (Nat.le_of_ble_eq_true rfl) (fun h53 E54 F55 => ?_)
  refine v_aload_n dX4_init_74 rfl ?_
  refine v_aload_n dX4_init_75 rfl ?_
  refine v_putF dX4_init_76 fl_X4_42 rfl rfl E54 (Nat.le_of_ble_eq_true rfl) (Nat.le_of_ble_eq_true rfl) (fun _ => ⟨rfl, rfl⟩) (Nat.le_of_ble_eq_true rfl) (fun h56 E57 F58 => ?_)
  exact v_vret dX4_init_79 rfl (Nat.le_of_ble_eq_true rfl) (Nat.le_of_ble_eq_true rfl) ⟨rfl, rfl, (fun j hj => ((F58 j (by omega)).trans ((F55 j (by omega)).trans ((F52 j (by omega)).trans ((F49 j (by omega)).trans ((F45 j (by omega)).trans ((F42 j (by omega)).trans ((F38 j (by omega)).trans ((F35 j (by omega)).trans ((F31 j (by omega)).trans ((F28 j (by omega)).trans ((F24 j (by omega)).trans ((F21 j (by omega)).trans ((F17 j (by omega)).trans ((F14 j (by omega)).trans ((F10 j (by omega)).trans ((F7 j (by omega)).trans (F3 j (by omega))))))))))))))))))), E57, ((F58 61 (by decide)).trans ((F55 61 (by decide)).trans ((F52 61 (by decide)).trans ((F49 61 (by decide)).trans ((F45 61 (by decide)).trans ((F42 61 (by decide)).trans ((F38 61 (by decide)).trans ((F35 61 (by decide)).trans ((F31 61 (by decide)).trans ((F28 61 (by decide)).trans ((F24 61 (by decide)).trans ((F21 61 (by decide)).trans ((F17 61 (by decide)).trans ((F14 61 (by decide)).trans ((F10 61 (by decide)).trans ((F7 61 (by decide)).trans E2)))))))))))))))), ((F58 62 (by decide)).trans ((F55 62 (by decide)).trans ((F52 62 (by decide)).trans ((F49 62 (by decide)).trans ((F45 62 (by decide)).trans ((F42 62 (by decide)).trans ((F38 62 (by decide)).trans ((F35 62 (by decide)).trans ((F31 62 (by decide)).trans ((F28 62 (by decide)).trans ((F24 62 (by decide)).trans ((F21 62 (by decide)).trans ((F17 62 (by decide)).trans ((F14 62 (by decide)).trans E9)))))))))))))), ((F58 63 (by decide)).trans ((F55 63 (by decide)).trans ((F52 63 (by decide)).trans ((F49 63 (by decide)).trans ((F45 63 (by decide)).trans ((F42 63 (by decide)).trans ((F38 63 (by decide)).trans ((F35 63 (by decide)).trans ((F31 63 (by decide)).trans ((F28 63 (by decide)).trans ((F24 63 (by decide)).trans ((F21 63 (by decide)).trans E16)))))))))))), ((F58 64 (by decide)).trans ((F55 64 (by decide)).trans ((F52 64 (by decide)).trans ((F49 64 (by decide)).trans ((F45 64 (by decide)).trans ((F42 64 (by decide)).trans ((F38 64 (by decide)).trans ((F35 64 (by decide)).trans ((F31 64 (by decide)).trans ((F28 64 (by decide)).trans E23)))))))))), ((F58 65 (by decide)).trans ((F55 65 (by decide)).trans ((F52 65 (by decide)).trans ((F49 65 (by decide)).trans ((F45 65 (by decide)).trans ((F42 65 (by decide)).trans ((F38 65 (by decide)).trans ((F35 65 (by decide)).trans E30)))))))), ((F58 66 (by decide)).trans ((F55 66 (by decide)).trans ((F52 66 (by decide)).trans ((F49 66 (by decide)).trans ((F45 66 (by decide)).trans ((F42 66 (by decide)).trans E37)))))), ((F58 67 (by decide)).trans ((F55 67 (by decide)).trans ((F52 67 (by decide)).trans ((F49 67 (by decide)).trans E44))))⟩
theorem dX1_init_0 : decode cX1_init 0 = .ok (.aload_n 0, 1) := by decide +kernel
theorem dX1_init_1 : decode cX1_init 1 = .ok (.invokespecial 3, 3) := by decide +kernel
theorem dX1_init_4 : decode cX1_init 4 = .ok (.aload_n 0, 1) := by decide +kernel
theorem dX1_init_5 : decode cX1_init 5 = .ok (.sipush 1154, 3) := by decide +kernel
theorem dX1_init_8 : decode cX1_init 8 = .ok (.newarray .long, 2) := by decide +kernel
theorem dX1_init_10 : decode cX1_init 10 = .ok (.putfield 9, 3) := by decide +kernel
theorem dX1_init_13 : decode cX1_init 13 = .ok (.aload_n 0, 1) := by decide +kernel
theorem dX1_init_14 : decode cX1_init 14 = .ok (.iconst 0, 1) := by decide +kernel
theorem dX1_init_15 : decode cX1_init 15 = .ok (.putfield 15, 3) := by decide +kernel
theorem dX1_init_18 : decode cX1_init 18 = .ok (.aload_n 0, 1) := by decide +kernel
theorem dX1_init_19 : decode cX1_init 19 = .ok (.iconst 4, 1) := by decide +kernel
theorem dX1_init_20 : decode cX1_init 20 = .ok (.putfield 19, 3) := by decide +kernel
theorem dX1_init_23 : decode cX1_init 23 = .ok (.aload_n 0, 1) := by decide +kernel
theorem dX1_init_24 : decode cX1_init 24 = .ok (.aload_n 1, 1) := by decide +kernel
theorem dX1_init_25 : decode cX1_init 25 = .ok (.putfield 22, 3) := by decide +kernel
theorem dX1_init_28 : decode cX1_init 28 = .ok (.aload_n 0, 1) := by decide +kernel
theorem dX1_init_29 : decode cX1_init 29 = .ok (.aload_n 2, 1) := by decide +kernel
theorem dX1_init_30 : decode cX1_init 30 = .ok (.putfield 26, 3) := by decide +kernel
theorem dX1_init_33 : decode cX1_init 33 = .ok (.return_, 1) := by decide +kernel
set_option maxRecDepth 20000 in
theorem sp_X1_init_68 {h : Nat → sE} (ho : h 68 = .inr (1, [.null, .null, .null, .int (iI 0), .int (iI 0)])) : Sp m_X1_init 1 1 1154 [.ref 68, .ref 1, .ref 58] 69 h (fun r n' h' => r = none ∧ n' = 70 ∧ (∀ j, j < 68 → h' j = h j) ∧ h' 68 = .inr (1, [.ref 1, .ref 58, .ref 69, .int (iI 0), .int (iI 4)]) ∧ h' 69 = lI 1154 (fun _ => 0)) := by
  refine Sp.ofV (by decide +kernel) (Nat.le_of_ble_eq_true rfl) ?_
  refine v_aload_n dX1_init_0 rfl ?_
  refine v_objInit dX1_init_1 ml_X1_3 (by decide) (Nat.le_of_ble_eq_true rfl) ?_
  refine v_aload_n dX1_init_4 rfl ?_
  refine v_sipushI dX1_init_5 rfl ?_
  refine v_newa_lI (N := 1154) dX1_init_8 ac_long rfl (s_lvok rfl) (s_stok rfl) (Nat.le_of_ble_eq_true rfl) (Nat.le_of_ble_eq_true rfl) (fun h1 E2 F3 => ?_)
  have H4 := ((F3 68 (by decide)).trans ho)
  refine v_putF dX1_init_10 fl_X1_9 rfl rfl H4 (Nat.le_of_ble_eq_true rfl) (Nat.le_of_ble_eq_true rfl) (fun _ => ⟨rfl, rfl⟩) (Nat.le_of_ble_eq_true rfl) (fun h5 E6 F7 => ?_)
  refine v_aload_n dX1_init_13 rfl ?_
  refine v_iconstI dX1_init_14 ?_
  refine v_put dX1_init_15 fl_X1_15 E6 (Nat.le_of_ble_eq_true rfl) (Nat.le_of_ble_eq_true rfl) (fun _ => ⟨rfl, rfl⟩) trivial (fun h8 E9 F10 => ?_)
  refine v_aload_n dX1_init_18 rfl ?_
  refine v_iconstI dX1_init_19 ?_
  refine v_put dX1_init_20 fl_X1_19 E9 (Nat.le_of_ble_eq_true rfl) (Nat.le_of_ble_eq_true rfl) (fun _ => ⟨rfl, rfl⟩) trivial (fun h11 E12 F13 => ?_)
  refine v_aload_n dX1_init_23 rfl ?_
  refine v_aload_n dX1_init_24 rfl ?_
  refine v_putF dX1_init_25 fl_X1_22 rfl rfl E12 (Nat.le_of_ble_eq_true rfl) (Nat.le_of_ble_eq_true rfl) (fun _ => ⟨rfl, rfl⟩) (Nat.le_of_ble_eq_true rfl) (fun h14 E15 F16 => ?_)
  refine v_aload_n dX1_init_28 rfl ?_
  refine v_aload_n dX1_init_29 rfl ?_
  refine v_putF dX1_init_30 fl_X1_26 rfl rfl E15 (Nat.le_of_ble_eq_true rfl) (Nat.le_of_ble_eq_true rfl) (fun _ => ⟨rfl, rfl⟩) (Nat.le_of_ble_eq_true rfl) (fun h17 E18 F19 => ?_)
  exact v_vret dX1_init_33 rfl (Nat.le_of_ble_eq_true rfl) (Nat.le_of_ble_eq_true rfl) ⟨rfl, rfl, (fun j hj => ((F19 j (by omega)).trans ((F16 j (by omega)).trans ((F13 j (by omega)).trans ((F10 j (by omega)).trans ((F7 j (by omega)).trans (F3 j (by omega)))))))), E18, ((F19 69 (by decide)).trans ((F16 69 (by decide)).trans ((F13 69 (by decide)).trans ((F10 69 (by decide)).trans ((F7 69 (by decide)).trans E2)))))⟩
theorem dX10_init_0 : decode cX10_init 0 = .ok (.aload_n 0, 1) := by decide +kernel
theorem dX10_init_1 : decode cX10_init 1 = .ok (.invokespecial 3, 3) := by decide +kernel
theorem dX10_init_4 : decode cX10_init 4 = .ok (.aload_n 0, 1) := by decide +kernel
theorem dX10_init_5 : decode cX10_init 5 = .ok (.bipush 12, 2) := by decide +kernel
theorem dX10_init_7 : decode cX10_init 7 = .ok (.newarray .int, 2) := by decide +kernel
theorem dX10_init_9 : decode cX10_init 9 = .ok (.putfield 9, 3) := by decide +kernel
theorem dX10_init_12 : decode cX10_init 12 = .ok (.aload_n 0, 1) := by decide +kernel
theorem dX10_init_13 : decode cX10_init 13 = .ok (.bipush 24, 2) := by decide +kernel
theorem dX10_init_15 : decode cX10_init 15 = .ok (.newarray .int, 2) := by decide +kernel
theorem dX10_init_17 : decode cX10_init 17 = .ok (.putfield 15, 3) := by decide +kernel
theorem dX10_init_20 : decode cX10_init 20 = .ok (.aload_n 0, 1) := by decide +kernel
theorem dX10_init_21 : decode cX10_init 21 = .ok (.bipush 24, 2) := by decide +kernel
theorem dX10_init_23 : decode cX10_init 23 = .ok (.newarray .int, 2) := by decide +kernel
theorem dX10_init_25 : decode cX10_init 25 = .ok (.putfield 18, 3) := by decide +kernel
theorem dX10_init_28 : decode cX10_init 28 = .ok (.aload_n 0, 1) := by decide +kernel
theorem dX10_init_29 : decode cX10_init 29 = .ok (.bipush 24, 2) := by decide +kernel
theorem dX10_init_31 : decode cX10_init 31 = .ok (.newarray .int, 2) := by decide +kernel
theorem dX10_init_33 : decode cX10_init 33 = .ok (.putfield 21, 3) := by decide +kernel
theorem dX10_init_36 : decode cX10_init 36 = .ok (.aload_n 0, 1) := by decide +kernel
theorem dX10_init_37 : decode cX10_init 37 = .ok (.bipush 24, 2) := by decide +kernel
theorem dX10_init_39 : decode cX10_init 39 = .ok (.newarray .int, 2) := by decide +kernel
theorem dX10_init_41 : decode cX10_init 41 = .ok (.putfield 24, 3) := by decide +kernel
theorem dX10_init_44 : decode cX10_init 44 = .ok (.aload_n 0, 1) := by decide +kernel
theorem dX10_init_45 : decode cX10_init 45 = .ok (.aload_n 1, 1) := by decide +kernel
theorem dX10_init_46 : decode cX10_init 46 = .ok (.putfield 27, 3) := by decide +kernel
theorem dX10_init_49 : decode cX10_init 49 = .ok (.return_, 1) := by decide +kernel
set_option maxRecDepth 20000 in
theorem sp_X10_init_70 {h : Nat → sE} (ho : h 70 = .inr (10, [.null, .null, .null, .null, .null, .null])) : Sp m_X10_init 1 5 108 [.ref 70, .ref 1] 71 h (fun r n' h' => r = none ∧ n' = 76 ∧ (∀ j, j < 70 → h' j = h j) ∧ h' 70 = .inr (10, [.ref 1, .ref 71, .ref 72, .ref 73, .ref 74, .ref 75]) ∧ h' 71 = aI 12 (fun _ => 0) ∧ h' 72 = aI 24 (fun _ => 0) ∧ h' 73 = aI 24 (fun _ => 0) ∧ h' 74 = aI 24 (fun _ => 0) ∧ h' 75 = aI 24 (fun _ => 0)) := by
  refine Sp.ofV (by decide +kernel) (Nat.le_of_ble_eq_true rfl) ?_
  refine v_aload_n dX10_init_0 rfl ?_
  refine v_objInit dX10_init_1 ml_X10_3 (by decide) (Nat.le_of_ble_eq_true rfl) ?_
  refine v_aload_n dX10_init_4 rfl ?_
  refine v_bipushI dX10_init_5 rfl ?_
  refine v_newa_aI (N := 12) dX10_init_7 ac_int rfl (s_lvok rfl) (s_stok rfl) (Nat.le_of_ble_eq_true rfl) (Nat.le_of_ble_eq_true rfl) (fun h1 E2 F3 => ?_)
  have H4 := ((F3 70 (by decide)).trans ho)
  refine v_putF dX10_init_9 fl_X10_9 rfl rfl H4 (Nat.le_of_ble_eq_true rfl) (Nat.le_of_ble_eq_true rfl) (fun _ => ⟨rfl, rfl⟩) (Nat.le_of_ble_eq_true rfl) (fun h5 E6 F7 => ?_)
  refine v_aload_n dX10_init_12 rfl ?_
  refine v_bipushI dX10_init_13 rfl ?_
  refine v_newa_aI (N := 24) dX10_init_15 ac_int rfl (s_lvok rfl) (s_stok rfl) (Nat.le_of_ble_eq_true rfl) (Nat.le_of_ble_eq_true rfl) (fun h8 E9 F10 => ?_)
  have H11 := ((F10 70 (by decide)).trans E6)
  refine v_putF dX10_init_17 fl_X10_15 rfl rfl H11 (Nat.le_of_ble_eq_true rfl) (Nat.le_of_ble_eq_true rfl) (fun _ => ⟨rfl, rfl⟩) (Nat.le_of_ble_eq_true rfl) (fun h12 E13 F14 => ?_)
  refine v_aload_n dX10_init_20 rfl ?_
  refine v_bipushI dX10_init_21 rfl ?_
  refine v_newa_aI (N := 24) dX10_init_23 ac_int rfl (s_lvok rfl) (s_stok rfl) (Nat.le_of_ble_eq_true rfl) (Nat.le_of_ble_eq_true rfl) (fun h15 E16 F17 => ?_)
  have H18 := ((F17 70 (by decide)).trans E13)
  refine v_putF dX10_init_25 fl_X10_18 rfl rfl H18 (Nat.le_of_ble_eq_true rfl) (Nat.le_of_ble_eq_true rfl) (fun _ => ⟨rfl, rfl⟩) (Nat.le_of_ble_eq_true rfl) (fun h19 E20 F21 => ?_)
  refine v_aload_n dX10_init_28 rfl ?_
  refine v_bipushI dX10_init_29 rfl ?_
  refine v_newa_aI (N := 24) dX10_init_31 ac_int rfl (s_lvok rfl) (s_stok rfl) (Nat.le_of_ble_eq_true rfl) (Nat.le_of_ble_eq_true rfl) (fun h22 E23 F24 => ?_)
  have H25 := ((F24 70 (by decide)).trans E20)
  refine v_putF dX10_init_33 fl_X10_21 rfl rfl H25 (Nat.le_of_ble_eq_true rfl) (Nat.le_of_ble_eq_true rfl) (fun _ => ⟨rfl, rfl⟩) (Nat.le_of_ble_eq_true rfl) (fun h26 E27 F28 => ?_)
  refine v_aload_n dX10_init_36 rfl ?_
  refine v_bipushI dX10_init_37 rfl ?_
  refine v_newa_aI (N := 24) dX10_init_39 ac_int rfl (s_lvok rfl) (s_stok rfl) (Nat.le_of_ble_eq_true rfl) (Nat.le_of_ble_eq_true rfl) (fun h29 E30 F31 => ?_)
  have H32 := ((F31 70 (by decide)).trans E27)
  refine v_putF dX10_init_41 fl_X10_24 rfl rfl H32 (Nat.le_of_ble_eq_true rfl) (Nat.le_of_ble_eq_true rfl) (fun _ => ⟨rfl, rfl⟩) (Nat.le_of_ble_eq_true rfl) (fun h33 E34 F35 => ?_)
  refine v_aload_n dX10_init_44 rfl ?_
  refine v_aload_n dX10_init_45 rfl ?_
  refine v_putF dX10_init_46 fl_X10_27 rfl rfl E34 (Nat.le_of_ble_eq_true rfl) (Nat.le_of_ble_eq_true rfl) (fun _ => ⟨rfl, rfl⟩) (Nat.le_of_ble_eq_true rfl) (fun h36 E37 F38 => ?_)
  exact v_vret dX10_init_49 rfl (Nat.le_of_ble_eq_true rfl) (Nat.le_of_ble_eq_true rfl) ⟨rfl, rfl, (fun j hj => ((F38 j (by omega)).trans ((F35 j (by omega)).trans ((F31 j (by omega)).trans ((F28 j (by omega)).trans ((F24 j (by omega)).trans ((F21 j (by omega)).trans ((F17 j (by omega)).trans ((F14 j (by omega)).trans ((F10 j (by omega)).trans ((F7 j (by omega)).trans (F3 j (by omega))))))))))))), E37, ((F38 71 (by decide)).trans ((F35 71 (by decide)).trans ((F31 71 (by decide)).trans ((F28 71 (by decide)).trans ((F24 71 (by decide)).trans ((F21 71 (by decide)).trans ((F17 71 (by decide)).trans ((F14 71 (by decide)).trans ((F10 71 (by decide)).trans ((F7 71 (by decide)).trans E2)))))))))), ((F38 72 (by decide)).trans ((F35 72 (by decide)).trans ((F31 72 (by decide)).trans ((F28 72 (by decide)).trans ((F24 72 (by decide)).trans ((F21 72 (by decide)).trans ((F17 72 (by decide)).trans ((F14 72 (by decide)).trans E9)))))))), ((F38 73 (by decide)).trans ((F35 73 (by decide)).trans ((F31 73 (by decide)).trans ((F28 73 (by decide)).trans ((F24 73 (by decide)).trans ((F21 73 (by decide)).trans E16)))))), ((F38 74 (by decide)).trans ((F35 74 (by decide)).trans ((F31 74 (by decide)).trans ((F28 74 (by decide)).trans E23)))), ((F38 75 (by decide)).trans ((F35 75 (by decide)).trans E30))⟩
theorem dX12_init_0 : decode cX12_init 0 = .ok (.aload_n 0, 1) := by decide +kernel
theorem dX12_init_1 : decode cX12_init 1 = .ok (.invokespecial 1, 3) := by decide +kernel
theorem dX12_init_4 : decode cX12_init 4 = .ok (.aload_n 0, 1) := by decide +kernel
theorem dX12_init_5 : decode cX12_init 5 = .ok (.bipush 7, 2) := by decide +kernel
theorem dX12_init_7 : decode cX12_init 7 = .ok (.newarray .int, 2) := by decide +kernel
theorem dX12_init_9 : decode cX12_init 9 = .ok (.putfield 7, 3) := by decide +kernel
theorem dX12_init_12 : decode cX12_init 12 = .ok (.aload_n 0, 1) := by decide +kernel
theorem dX12_init_13 : decode cX12_init 13 = .ok (.sipush 5780, 3) := by decide +kernel
theorem dX12_init_16 : decode cX12_init 16 = .ok (.newarray .int, 2) := by decide +kernel
theorem dX12_init_18 : decode cX12_init 18 = .ok (.putfield 13, 3) := by decide +kernel
theorem dX12_init_21 : decode cX12_init 21 = .ok (.aload_n 0, 1) := by decide +kernel
theorem dX12_init_22 : decode cX12_init 22 = .ok (.sipush 11560, 3) := by decide +kernel
theorem dX12_init_25 : decode cX12_init 25 = .ok (.newarray .int, 2) := by decide +kernel
theorem dX12_init_27 : decode cX12_init 27 = .ok (.putfield 16, 3) := by decide +kernel
theorem dX12_init_30 : decode cX12_init 30 = .ok (.aload_n 0, 1) := by decide +kernel
theorem dX12_init_31 : decode cX12_init 31 = .ok (.iconst 2, 1) := by decide +kernel
theorem dX12_init_32 : decode cX12_init 32 = .ok (.newarray .boolean, 2) := by decide +kernel
theorem dX12_init_34 : decode cX12_init 34 = .ok (.putfield 19, 3) := by decide +kernel
theorem dX12_init_37 : decode cX12_init 37 = .ok (.aload_n 0, 1) := by decide +kernel
theorem dX12_init_38 : decode cX12_init 38 = .ok (.sipush 400, 3) := by decide +kernel
theorem dX12_init_41 : decode cX12_init 41 = .ok (.newarray .int, 2) := by decide +kernel
theorem dX12_init_43 : decode cX12_init 43 = .ok (.putfield 23, 3) := by decide +kernel
theorem dX12_init_46 : decode cX12_init 46 = .ok (.aload_n 0, 1) := by decide +kernel
theorem dX12_init_47 : decode cX12_init 47 = .ok (.iconst (-1), 1) := by decide +kernel
theorem dX12_init_48 : decode cX12_init 48 = .ok (.putfield 26, 3) := by decide +kernel
theorem dX12_init_51 : decode cX12_init 51 = .ok (.aload_n 0, 1) := by decide +kernel
theorem dX12_init_52 : decode cX12_init 52 = .ok (.bipush 96, 2) := by decide +kernel
theorem dX12_init_54 : decode cX12_init 54 = .ok (.newarray .int, 2) := by decide +kernel
theorem dX12_init_56 : decode cX12_init 56 = .ok (.putfield 30, 3) := by decide +kernel
theorem dX12_init_59 : decode cX12_init 59 = .ok (.aload_n 0, 1) := by decide +kernel
theorem dX12_init_60 : decode cX12_init 60 = .ok (.sipush 400, 3) := by decide +kernel
theorem dX12_init_63 : decode cX12_init 63 = .ok (.newarray .int, 2) := by decide +kernel
theorem dX12_init_65 : decode cX12_init 65 = .ok (.putfield 33, 3) := by decide +kernel
theorem dX12_init_68 : decode cX12_init 68 = .ok (.aload_n 0, 1) := by decide +kernel
theorem dX12_init_69 : decode cX12_init 69 = .ok (.sipush 400, 3) := by decide +kernel
theorem dX12_init_72 : decode cX12_init 72 = .ok (.newarray .int, 2) := by decide +kernel
theorem dX12_init_74 : decode cX12_init 74 = .ok (.putfield 36, 3) := by decide +kernel
theorem dX12_init_77 : decode cX12_init 77 = .ok (.aload_n 0, 1) := by decide +kernel
theorem dX12_init_78 : decode cX12_init 78 = .ok (.sipush 400, 3) := by decide +kernel
theorem dX12_init_81 : decode cX12_init 81 = .ok (.newarray .int, 2) := by decide +kernel
theorem dX12_init_83 : decode cX12_init 83 = .ok (.putfield 39, 3) := by decide +kernel
theorem dX12_init_86 : decode cX12_init 86 = .ok (.aload_n 0, 1) := by decide +kernel
theorem dX12_init_87 : decode cX12_init 87 = .ok (.sipush 400, 3) := by decide +kernel
theorem dX12_init_90 : decode cX12_init 90 = .ok (.newarray .int, 2) := by decide +kernel
theorem dX12_init_92 : decode cX12_init 92 = .ok (.putfield 42, 3) := by decide +kernel
theorem dX12_init_95 : decode cX12_init 95 = .ok (.aload_n 0, 1) := by decide +kernel
theorem dX12_init_96 : decode cX12_init 96 = .ok (.bipush 8, 2) := by decide +kernel
theorem dX12_init_98 : decode cX12_init 98 = .ok (.newarray .long, 2) := by decide +kernel
theorem dX12_init_100 : decode cX12_init 100 = .ok (.dup, 1) := by decide +kernel
theorem dX12_init_101 : decode cX12_init 101 = .ok (.iconst 0, 1) := by decide +kernel
theorem dX12_init_102 : decode cX12_init 102 = .ok (.ldc2_w 45, 3) := by decide +kernel
theorem dX12_init_105 : decode cX12_init 105 = .ok (.lastore, 1) := by decide +kernel
theorem dX12_init_106 : decode cX12_init 106 = .ok (.dup, 1) := by decide +kernel
theorem dX12_init_107 : decode cX12_init 107 = .ok (.iconst 1, 1) := by decide +kernel
theorem dX12_init_108 : decode cX12_init 108 = .ok (.ldc2_w 47, 3) := by decide +kernel
theorem dX12_init_111 : decode cX12_init 111 = .ok (.lastore, 1) := by decide +kernel
theorem dX12_init_112 : decode cX12_init 112 = .ok (.dup, 1) := by decide +kernel
theorem dX12_init_113 : decode cX12_init 113 = .ok (.iconst 2, 1) := by decide +kernel
theorem dX12_init_114 : decode cX12_init 114 = .ok (.ldc2_w 49, 3) := by decide +kernel
theorem dX12_init_117 : decode cX12_init 117 = .ok (.lastore, 1) := by decide +kernel
theorem dX12_init_118 : decode cX12_init 118 = .ok (.dup, 1) := by decide +kernel
theorem dX12_init_119 : decode cX12_init 119 = .ok (.iconst 3, 1) := by decide +kernel
theorem dX12_init_120 : decode cX12_init 120 = .ok (.ldc2_w 51, 3) := by decide +kernel
theorem dX12_init_123 : decode cX12_init 123 = .ok (.lastore, 1) := by decide +kernel
theorem dX12_init_124 : decode cX12_init 124 = .ok (.dup, 1) := by decide +kernel
theorem dX12_init_125 : decode cX12_init 125 = .ok (.iconst 4, 1) := by decide +kernel
theorem dX12_init_126 : decode cX12_init 126 = .ok (.ldc2_w 53, 3) := by decide +kernel
theorem dX12_init_129 : decode cX12_init 129 = .ok (.lastore, 1) := by decide +kernel
theorem dX12_init_130 : decode cX12_init 130 = .ok (.dup, 1) := by decide +kernel
theorem dX12_init_131 : decode cX12_init 131 = .ok (.iconst 5, 1) := by decide +kernel
theorem dX12_init_132 : decode cX12_init 132 = .ok (.ldc2_w 55, 3) := by decide +kernel
theorem dX12_init_135 : decode cX12_init 135 = .ok (.lastore, 1) := by decide +kernel
theorem dX12_init_136 : decode cX12_init 136 = .ok (.dup, 1) := by decide +kernel
theorem dX12_init_137 : decode cX12_init 137 = .ok (.bipush 6, 2) := by decide +kernel
theorem dX12_init_139 : decode cX12_init 139 = .ok (.ldc2_w 57, 3) := by decide +kernel
theorem dX12_init_142 : decode cX12_init 142 = .ok (.lastore, 1) := by decide +kernel
theorem dX12_init_143 : decode cX12_init 143 = .ok (.dup, 1) := by decide +kernel
theorem dX12_init_144 : decode cX12_init 144 = .ok (.bipush 7, 2) := by decide +kernel
theorem dX12_init_146 : decode cX12_init 146 = .ok (.ldc2_w 59, 3) := by decide +kernel
theorem dX12_init_149 : decode cX12_init 149 = .ok (.lastore, 1) := by decide +kernel
theorem dX12_init_150 : decode cX12_init 150 = .ok (.putfield 61, 3) := by decide +kernel
theorem dX12_init_153 : decode cX12_init 153 = .ok (.aload_n 0, 1) := by decide +kernel
theorem dX12_init_154 : decode cX12_init 154 = .ok (.bipush 8, 2) := by decide +kernel
theorem dX12_init_156 : decode cX12_init 156 = .ok (.newarray .long, 2) := by decide +kernel
theorem dX12_init_158 : decode cX12_init 158 = .ok (.dup, 1) := by decide +kernel
theorem dX12_init_159 : decode cX12_init 159 = .ok (.iconst 0, 1) := by decide +kernel
theorem dX12_init_160 : decode cX12_init 160 = .ok (.ldc2_w 65, 3) := by decide +kernel
theorem dX12_init_163 : decode cX12_init 163 = .ok (.lastore, 1) := by decide +kernel
theorem dX12_init_164 : decode cX12_init 164 = .ok (.dup, 1) := by decide +kernel
theorem dX12_init_165 : decode cX12_init 165 = .ok (.iconst 1, 1) := by decide +kernel
theorem dX12_init_166 : decode cX12_init 166 = .ok (.ldc2_w 67, 3) := by decide +kernel
theorem dX12_init_169 : decode cX12_init 169 = .ok (.lastore, 1) := by decide +kernel
theorem dX12_init_170 : decode cX12_init 170 = .ok (.dup, 1) := by decide +kernel
theorem dX12_init_171 : decode cX12_init 171 = .ok (.iconst 2, 1) := by decide +kernel
theorem dX12_init_172 : decode cX12_init 172 = .ok (.ldc2_w 69, 3) := by decide +kernel
theorem dX12_init_175 : decode cX12_init 175 = .ok (.lastore, 1) := by decide +kernel
theorem dX12_init_176 : decode cX12_init 176 = .ok (.dup, 1) := by decide +kernel
theorem dX12_init_177 : decode cX12_init 177 = .ok (.iconst 3, 1) := by decide +kernel
theorem dX12_init_178 : decode cX12_init 178 = .ok (.ldc2_w 71, 3) := by decide +kernel
theorem dX12_init_181 : decode cX12_init 181 = .ok (.lastore, 1) := by decide +kernel
theorem dX12_init_182 : decode cX12_init 182 = .ok (.dup, 1) := by decide +kernel
theorem dX12_init_183 : decode cX12_init 183 = .ok (.iconst 4, 1) := by decide +kernel
theorem dX12_init_184 : decode cX12_init 184 = .ok (.ldc2_w 73, 3) := by decide +kernel
theorem dX12_init_187 : decode cX12_init 187 = .ok (.lastore, 1) := by decide +kernel
theorem dX12_init_188 : decode cX12_init 188 = .ok (.dup, 1) := by decide +kernel
theorem dX12_init_189 : decode cX12_init 189 = .ok (.iconst 5, 1) := by decide +kernel
theorem dX12_init_190 : decode cX12_init 190 = .ok (.ldc2_w 57, 3) := by decide +kernel
theorem dX12_init_193 : decode cX12_init 193 = .ok (.lastore, 1) := by decide +kernel
theorem dX12_init_194 : decode cX12_init 194 = .ok (.dup, 1) := by decide +kernel
theorem dX12_init_195 : decode cX12_init 195 = .ok (.bipush 6, 2) := by decide +kernel
theorem dX12_init_197 : decode cX12_init 197 = .ok (.ldc2_w 75, 3) := by decide +kernel
theorem dX12_init_200 : decode cX12_init 200 = .ok (.lastore, 1) := by decide +kernel
theorem dX12_init_201 : decode cX12_init 201 = .ok (.dup, 1) := by decide +kernel
theorem dX12_init_202 : decode cX12_init 202 = .ok (.bipush 7, 2) := by decide +kernel
theorem dX12_init_204 : decode cX12_init 204 = .ok (.ldc2_w 77, 3) := by decide +kernel
theorem dX12_init_207 : decode cX12_init 207 = .ok (.lastore, 1) := by decide +kernel
theorem dX12_init_208 : decode cX12_init 208 = .ok (.putfield 79, 3) := by decide +kernel
theorem dX12_init_211 : decode cX12_init 211 = .ok (.aload_n 0, 1) := by decide +kernel
theorem dX12_init_212 : decode cX12_init 212 = .ok (.iconst 4, 1) := by decide +kernel
theorem dX12_init_213 : decode cX12_init 213 = .ok (.newarray .long, 2) := by decide +kernel
theorem dX12_init_215 : decode cX12_init 215 = .ok (.dup, 1) := by decide +kernel
theorem dX12_init_216 : decode cX12_init 216 = .ok (.iconst 0, 1) := by decide +kernel
theorem dX12_init_217 : decode cX12_init 217 = .ok (.ldc2_w 82, 3) := by decide +kernel
theorem dX12_init_220 : decode cX12_init 220 = .ok (.lastore, 1) := by decide +kernel
theorem dX12_init_221 : decode cX12_init 221 = .ok (.dup, 1) := by decide +kernel
theorem dX12_init_222 : decode cX12_init 222 = .ok (.iconst 1, 1) := by decide +kernel
theorem dX12_init_223 : decode cX12_init 223 = .ok (.ldc2_w 84, 3) := by decide +kernel
theorem dX12_init_226 : decode cX12_init 226 = .ok (.lastore, 1) := by decide +kernel
theorem dX12_init_227 : decode cX12_init 227 = .ok (.dup, 1) := by decide +kernel
theorem dX12_init_228 : decode cX12_init 228 = .ok (.iconst 2, 1) := by decide +kernel
theorem dX12_init_229 : decode cX12_init 229 = .ok (.ldc2_w 86, 3) := by decide +kernel
theorem dX12_init_232 : decode cX12_init 232 = .ok (.lastore, 1) := by decide +kernel
theorem dX12_init_233 : decode cX12_init 233 = .ok (.dup, 1) := by decide +kernel
theorem dX12_init_234 : decode cX12_init 234 = .ok (.iconst 3, 1) := by decide +kernel
theorem dX12_init_235 : decode cX12_init 235 = .ok (.ldc2_w 88, 3) := by decide +kernel
theorem dX12_init_238 : decode cX12_init 238 = .ok (.lastore, 1) := by decide +kernel
theorem dX12_init_239 : decode cX12_init 239 = .ok (.putfield 90, 3) := by decide +kernel
theorem dX12_init_242 : decode cX12_init 242 = .ok (.aload_n 0, 1) := by decide +kernel
theorem dX12_init_243 : decode cX12_init 243 = .ok (.bipush 13, 2) := by decide +kernel
theorem dX12_init_245 : decode cX12_init 245 = .ok (.newarray .long, 2) := by decide +kernel
theorem dX12_init_247 : decode cX12_init 247 = .ok (.putfield 93, 3) := by decide +kernel
theorem dX12_init_250 : decode cX12_init 250 = .ok (.aload_n 0, 1) := by decide +kernel
theorem dX12_init_251 : decode cX12_init 251 = .ok (.bipush 13, 2) := by decide +kernel
theorem dX12_init_253 : decode cX12_init 253 = .ok (.newarray .long, 2) := by decide +kernel
theorem dX12_init_255 : decode cX12_init 255 = .ok (.putfield 96, 3) := by decide +kernel
theorem dX12_init_258 : decode cX12_init 258 = .ok (.aload_n 0, 1) := by decide +kernel
theorem dX12_init_259 : decode cX12_init 259 = .ok (.sipush 400, 3) := by decide +kernel
theorem dX12_init_262 : decode cX12_init 262 = .ok (.newarray .long, 2) := by decide +kernel
theorem dX12_init_264 : decode cX12_init 264 = .ok (.putfield 99, 3) := by decide +kernel
theorem dX12_init_267 : decode cX12_init 267 = .ok (.aload_n 0, 1) := by decide +kernel
theorem dX12_init_268 : decode cX12_init 268 = .ok (.bipush 60, 2) := by decide +kernel
theorem dX12_init_270 : decode cX12_init 270 = .ok (.newarray .int, 2) := by decide +kernel
theorem dX12_init_272 : decode cX12_init 272 = .ok (.putfield 102, 3) := by decide +kernel
theorem dX12_init_275 : decode cX12_init 275 = .ok (.aload_n 0, 1) := by decide +kernel
theorem dX12_init_276 : decode cX12_init 276 = .ok (.bipush 13, 2) := by decide +kernel
theorem dX12_init_278 : decode cX12_init 278 = .ok (.newarray .int, 2) := by decide +kernel
theorem dX12_init_280 : decode cX12_init 280 = .ok (.putfield 105, 3) := by decide +kernel
theorem dX12_init_283 : decode cX12_init 283 = .ok (.aload_n 0, 1) := by decide +kernel
theorem dX12_init_284 : decode cX12_init 284 = .ok (.sipush 6912, 3) := by decide +kernel
theorem dX12_init_287 : decode cX12_init 287 = .ok (.newarray .boolean, 2) := by decide +kernel
theorem dX12_init_289 : decode cX12_init 289 = .ok (.putfield 108, 3) := by decide +kernel
theorem dX12_init_292 : decode cX12_init 292 = .ok (.aload_n 0, 1) := by decide +kernel
theorem dX12_init_293 : decode cX12_init 293 = .ok (.sipush 6912, 3) := by decide +kernel
theorem dX12_init_296 : decode cX12_init 296 = .ok (.newarray .int, 2) := by decide +kernel
theorem dX12_init_298 : decode cX12_init 298 = .ok (.putfield 111, 3) := by decide +kernel
theorem dX12_init_301 : decode cX12_init 301 = .ok (.aload_n 0, 1) := by decide +kernel
theorem dX12_init_302 : decode cX12_init 302 = .ok (.ldc 114, 2) := by decide +kernel
theorem dX12_init_304 : decode cX12_init 304 = .ok (.newarray .int, 2) := by decide +kernel
theorem dX12_init_306 : decode cX12_init 306 = .ok (.putfield 115, 3) := by decide +kernel
theorem dX12_init_309 : decode cX12_init 309 = .ok (.aload_n 0, 1) := by decide +kernel
theorem dX12_init_310 : decode cX12_init 310 = .ok (.sipush 768, 3) := by decide +kernel
theorem dX12_init_313 : decode cX12_init 313 = .ok (.newarray .int, 2) := by decide +kernel
theorem dX12_init_315 : decode cX12_init 315 = .ok (.putfield 118, 3) := by decide +kernel
theorem dX12_init_318 : decode cX12_init 318 = .ok (.aload_n 0, 1) := by decide +kernel
theorem dX12_init_319 : decode cX12_init 319 = .ok (.sipush 576, 3) := by decide +kernel
theorem dX12_init_322 : decode cX12_init 322 = .ok (.newarray .boolean, 2) := by decide +kernel
theorem dX12_init_324 : decode cX12_init 324 = .ok (.putfield 121, 3) := by decide +kernel
theorem dX12_init_327 : decode cX12_init 327 = .ok (.aload_n 0, 1) := by decide +kernel
theorem dX12_init_328 : decode cX12_init 328 = .ok (.sipush 576, 3) := by decide +kernel
theorem dX12_init_331 : decode cX12_init 331 = .ok (.newarray .boolean, 2) := by decide +kernel
theorem dX12_init_333 : decode cX12_init 333 = .ok (.putfield 124, 3) := by decide +kernel
theorem dX12_init_336 : decode cX12_init 336 = .ok (.aload_n 0, 1) := by decide +kernel
theorem dX12_init_337 : decode cX12_init 337 = .ok (.sipush 576, 3) := by decide +kernel
theorem dX12_init_340 : decode cX12_init 340 = .ok (.newarray .long, 2) := by decide +kernel
theorem dX12_init_342 : decode cX12_init 342 = .ok (.putfield 127, 3) := by decide +kernel
theorem dX12_init_345 : decode cX12_init 345 = .ok (.aload_n 0, 1) := by decide +kernel
theorem dX12_init_346 : decode cX12_init 346 = .ok (.sipush 576, 3) := by decide +kernel
theorem dX12_init_349 : decode cX12_init 349 = .ok (.newarray .long, 2) := by decide +kernel
theorem dX12_init_351 : decode cX12_init 351 = .ok (.putfield 130, 3) := by decide +kernel
theorem dX12_init_354 : decode cX12_init 354 = .ok (.aload_n 0, 1) := by decide +kernel
theorem dX12_init_355 : decode cX12_init 355 = .ok (.sipush 6912, 3) := by decide +kernel
theorem dX12_init_358 : decode cX12_init 358 = .ok (.newarray .long, 2) := by decide +kernel
theorem dX12_init_360 : decode cX12_init 360 = .ok (.putfield 133, 3) := by decide +kernel
theorem dX12_init_363 : decode cX12_init 363 = .ok (.aload_n 0, 1) := by decide +kernel
theorem dX12_init_364 : decode cX12_init 364 = .ok (.bipush 12, 2) := by decide +kernel
theorem dX12_init_366 : decode cX12_init 366 = .ok (.newarray .int, 2) := by decide +kernel
theorem dX12_init_368 : decode cX12_init 368 = .ok (.putfield 136, 3) := by decide +kernel
theorem dX12_init_371 : decode cX12_init 371 = .ok (.aload_n 0, 1) := by decide +kernel
theorem dX12_init_372 : decode cX12_init 372 = .ok (.bipush 24, 2) := by decide +kernel
theorem dX12_init_374 : decode cX12_init 374 = .ok (.newarray .int, 2) := by decide +kernel
theorem dX12_init_376 : decode cX12_init 376 = .ok (.putfield 139, 3) := by decide +kernel
theorem dX12_init_379 : decode cX12_init 379 = .ok (.aload_n 0, 1) := by decide +kernel
theorem dX12_init_380 : decode cX12_init 380 = .ok (.bipush 24, 2) := by decide +kernel
theorem dX12_init_382 : decode cX12_init 382 = .ok (.newarray .int, 2) := by decide +kernel
theorem dX12_init_384 : decode cX12_init 384 = .ok (.putfield 142, 3) := by decide +kernel
theorem dX12_init_387 : decode cX12_init 387 = .ok (.aload_n 0, 1) := by decide +kernel
theorem dX12_init_388 : decode cX12_init 388 = .ok (.bipush 24, 2) := by decide +kernel
theorem dX12_init_390 : decode cX12_init 390 = .ok (.newarray .int, 2) := by decide +kernel
theorem dX12_init_392 : decode cX12_init 392 = .ok (.putfield 145, 3) := by decide +kernel
theorem dX12_init_395 : decode cX12_init 395 = .ok (.aload_n 0, 1) := by decide +kernel
theorem dX12_init_396 : decode cX12_init 396 = .ok (.bipush 24, 2) := by decide +kernel
theorem dX12_init_398 : decode cX12_init 398 = .ok (.newarray .boolean, 2) := by decide +kernel
theorem dX12_init_400 : decode cX12_init 400 = .ok (.putfield 148, 3) := by decide +kernel
theorem dX12_init_403 : decode cX12_init 403 = .ok (.aload_n 0, 1) := by decide +kernel
theorem dX12_init_404 : decode cX12_init 404 = .ok (.bipush 25, 2) := by decide +kernel
theorem dX12_init_406 : decode cX12_init 406 = .ok (.newarray .int, 2) := by decide +kernel
theorem dX12_init_408 : decode cX12_init 408 = .ok (.putfield 151, 3) := by decide +kernel
theorem dX12_init_411 : decode cX12_init 411 = .ok (.aload_n 0, 1) := by decide +kernel
theorem dX12_init_412 : decode cX12_init 412 = .ok (.bipush 25, 2) := by decide +kernel
theorem dX12_init_414 : decode cX12_init 414 = .ok (.newarray .int, 2) := by decide +kernel
theorem dX12_init_416 : decode cX12_init 416 = .ok (.putfield 154, 3) := by decide +kernel
theorem dX12_init_419 : decode cX12_init 419 = .ok (.aload_n 0, 1) := by decide +kernel
theorem dX12_init_420 : decode cX12_init 420 = .ok (.sipush 6912, 3) := by decide +kernel
theorem dX12_init_423 : decode cX12_init 423 = .ok (.newarray .boolean, 2) := by decide +kernel
theorem dX12_init_425 : decode cX12_init 425 = .ok (.putfield 157, 3) := by decide +kernel
theorem dX12_init_428 : decode cX12_init 428 = .ok (.aload_n 0, 1) := by decide +kernel
theorem dX12_init_429 : decode cX12_init 429 = .ok (.sipush 144, 3) := by decide +kernel
theorem dX12_init_432 : decode cX12_init 432 = .ok (.newarray .int, 2) := by decide +kernel
theorem dX12_init_434 : decode cX12_init 434 = .ok (.putfield 160, 3) := by decide +kernel
theorem dX12_init_437 : decode cX12_init 437 = .ok (.aload_n 0, 1) := by decide +kernel
theorem dX12_init_438 : decode cX12_init 438 = .ok (.iconst (-1), 1) := by decide +kernel
theorem dX12_init_439 : decode cX12_init 439 = .ok (.putfield 163, 3) := by decide +kernel
theorem dX12_init_442 : decode cX12_init 442 = .ok (.aload_n 0, 1) := by decide +kernel
theorem dX12_init_443 : decode cX12_init 443 = .ok (.bipush 64, 2) := by decide +kernel
theorem dX12_init_445 : decode cX12_init 445 = .ok (.newarray .int, 2) := by decide +kernel
theorem dX12_init_447 : decode cX12_init 447 = .ok (.putfield 166, 3) := by decide +kernel
theorem dX12_init_450 : decode cX12_init 450 = .ok (.aload_n 0, 1) := by decide +kernel
theorem dX12_init_451 : decode cX12_init 451 = .ok (.getfield 13, 3) := by decide +kernel
theorem dX12_init_454 : decode cX12_init 454 = .ok (.iconst 5, 1) := by decide +kernel
theorem dX12_init_455 : decode cX12_init 455 = .ok (.iconst (-1), 1) := by decide +kernel
theorem dX12_init_456 : decode cX12_init 456 = .ok (.iastore, 1) := by decide +kernel
theorem dX12_init_457 : decode cX12_init 457 = .ok (.aload_n 0, 1) := by decide +kernel
theorem dX12_init_458 : decode cX12_init 458 = .ok (.getfield 13, 3) := by decide +kernel
theorem dX12_init_461 : decode cX12_init 461 = .ok (.bipush 7, 2) := by decide +kernel
theorem dX12_init_463 : decode cX12_init 463 = .ok (.iconst 2, 1) := by decide +kernel
theorem dX12_init_464 : decode cX12_init 464 = .ok (.iastore, 1) := by decide +kernel
theorem dX12_init_465 : decode cX12_init 465 = .ok (.iconst 0, 1) := by decide +kernel
theorem dX12_init_466 : decode cX12_init 466 = .ok (.istore_n 1, 1) := by decide +kernel
theorem dX12_init_467 : decode cX12_init 467 = .ok (.iload_n 1, 1) := by decide +kernel
theorem dX12_init_468 : decode cX12_init 468 = .ok (.bipush 64, 2) := by decide +kernel
theorem dX12_init_470 : decode cX12_init 470 = .ok (.if_icmp .ge 24, 3) := by decide +kernel
theorem dX12_init_473 : decode cX12_init 473 = .ok (.aload_n 0, 1) := by decide +kernel
theorem dX12_init_474 : decode cX12_init 474 = .ok (.getfield 13, 3) := by decide +kernel
theorem dX12_init_477 : decode cX12_init 477 = .ok (.bipush 40, 2) := by decide +kernel
theorem dX12_init_479 : decode cX12_init 479 = .ok (.iconst 3, 1) := by decide +kernel
theorem dX12_init_480 : decode cX12_init 480 = .ok (.iload_n 1, 1) := by decide +kernel
theorem dX12_init_481 : decode cX12_init 481 = .ok (.imul, 1) := by decide +kernel
theorem dX12_init_482 : decode cX12_init 482 = .ok (.iadd, 1) := by decide +kernel
theorem dX12_init_483 : decode cX12_init 483 = .ok (.iconst 1, 1) := by decide +kernel
theorem dX12_init_484 : decode cX12_init 484 = .ok (.iadd, 1) := by decide +kernel
theorem dX12_init_485 : decode cX12_init 485 = .ok (.bipush 100, 2) := by decide +kernel
theorem dX12_init_487 : decode cX12_init 487 = .ok (.iastore, 1) := by decide +kernel
theorem dX12_init_488 : decode cX12_init 488 = .ok (.iinc 1 1, 3) := by decide +kernel
theorem dX12_init_491 : decode cX12_init 491 = .ok (.goto (-24), 3) := by decide +kernel
theorem dX12_init_494 : decode cX12_init 494 = .ok (.return_, 1) := by decide +kernel
set_option maxRecDepth 20000 in
theorem sp_X12_init_77_loop {h0 : Nat → sE} : ∀ (m : Nat) (i : Int) (h : Nat → sE), 0 ≤ i → i ≤ 64 → (m : Int) = 64 - i → (∀ j, j < 77 → h j = h0 j) → h 77 = .inr (12, [.int (iI 0), .int (iI 0), .ref 78, .ref 79, .ref 80, .ref 81, .int (iI 0), .ref 82, .int (iI 0), .int (iI 0), .int (iI 0), .int (iI 0), .long (jJ 0), .int (iI (-1)), .int (iI 0), .int (iI 0), .int (iI 0), .ref 83, .int (iI 0), .ref 84, .ref 85, .int (iI 0), .ref 86, .ref 87, .int (iI 0), .int (iI 0), .ref 88, .ref 89, .ref 90, .int (iI 0), .ref 91, .ref 92, .ref 93, .int (iI 0), .long (jJ 0), .long (jJ 0), .ref 94, .ref 95, .ref 96, .ref 97, .ref 98, .ref 99, .ref 100, .ref 101, .ref 102, .ref 103, .ref 104, .ref 105, .ref 106, .ref 107, .int (iI 0), .ref 108, .ref 109, .ref 110, .ref 111, .ref 112, .ref 113, .int (iI 0), .int (iI 0), .int (iI (-1)), .int (iI 0), .long (jJ 0), .ref 114, .int (iI 0)]) → h 78 = aI 7 (fun _ => 0) → h 79 = aI 5780 (fun k => if 41 ≤ k ∧ k < 41 + 3 * i ∧ (k - 41) % 3 = 0 then 100 else (uI (uI (fun _ => 0) 5 (-1)) 7 2) k) → h 80 = aI 11560 (fun _ => 0) → h 81 = zI 2 (fun _ => 0) → h 82 = aI 400 (fun _ => 0) → h 83 = aI 96 (fun _ => 0) → h 84 = aI 400 (fun _ => 0) → h 85 = aI 400 (fun _ => 0) → h 86 = aI 400 (fun _ => 0) → h 87 = aI 400 (fun _ => 0) → h 88 = lI 8 (uI (uI (uI (uI (uI (uI (uI (uI (fun _ => 0) 0 24) 1 25) 2 278194) 3 3554980) 4 12641458) 5 20186245) 6 4153) 7 441828) → h 89 = lI 8 (uI (uI (uI (uI (uI (uI (uI (uI (fun _ => 0) 0 113759379) 1 6685939) 2 394868) 3 146885) 4 19118) 5 4153) 6 398548) 7 20976) → h 90 = lI 4 (uI (uI (uI (uI (fun _ => 0) 0 8554131) 1 3653011) 2 24627848) 3 67155) → h 91 = lI 13 (fun _ => 0) → h 92 = lI 13 (fun _ => 0) → h 93 = lI 400 (fun _ => 0) → h 94 = aI 60 (fun _ => 0) → h 95 = aI 13 (fun _ => 0) → h 96 = zI 6912 (fun _ => 0) → h 97 = aI 6912 (fun _ => 0) → h 98 = aI 82944 (fun _ => 0) → h 99 = aI 768 (fun _ => 0) → h 100 = zI 576 (fun _ => 0) → h 101 = zI 576 (fun _ => 0) → h 102 = lI 576 (fun _ => 0) → h 103 = lI 576 (fun _ => 0) → h 104 = lI 6912 (fun _ => 0) → h 105 = aI 12 (fun _ => 0) → h 106 = aI 24 (fun _ => 0) → h 107 = aI 24 (fun _ => 0) → h 108 = aI 24 (fun _ => 0) → h 109 = zI 24 (fun _ => 0) → h 110 = aI 25 (fun _ => 0) → h 111 = aI 25 (fun _ => 0) → h 112 = zI 6912 (fun _ => 0) → h 113 = aI 144 (fun _ => 0) → h 114 = aI 64 (fun _ => 0) → V (m_X12_init, 1, 37, 133994, 78, fun r n' h' => r = none ∧ n' = 115 ∧ (∀ j, j < 77 → h' j = h0 j) ∧ h' 77 = .inr (12, [.int (iI 0), .int (iI 0), .ref 78, .ref 79, .ref 80, .ref 81, .int (iI 0), .ref 82, .int (iI 0), .int (iI 0), .int (iI 0), .int (iI 0), .long (jJ 0), .int (iI (-1)), .int (iI 0), .int (iI 0), .int (iI 0), .ref 83, .int (iI 0), .ref 84, .ref 85, .int (iI 0), .ref 86, .ref 87, .int (iI 0), .int (iI 0), .ref 88, .ref 89, .ref 90, .int (iI 0), .ref 91, .ref 92, .ref 93, .int (iI 0), .long (jJ 0), .long (jJ 0), .ref 94, .ref 95, .ref 96, .ref 97, .ref 98, .ref 99, .ref 100, .ref 101, .ref 102, .ref 103, .ref 104, .ref 105, .ref 106, .ref 107, .int (iI 0), .ref 108, .ref 109, .ref 110, .ref 111, .ref 112, .ref 113, .int (iI 0), .int (iI 0), .int (iI (-1)), .int (iI 0), .long (jJ 0), .ref 114, .int (iI 0)]) ∧ h' 78 = aI 7 (fun _ => 0) ∧ h' 79 = aI 5780 (fun k => if 41 ≤ k ∧ k < 233 ∧ (k - 41) % 3 = 0 then 100 else (uI (uI (fun _ => 0) 5 (-1)) 7 2) k) ∧ h' 80 = aI 11560 (fun _ => 0) ∧ h' 81 = zI 2 (fun _ => 0) ∧ h' 82 = aI 400 (fun _ => 0) ∧ h' 83 = aI 96 (fun _ => 0) ∧ h' 84 = aI 400 (fun _ => 0) ∧ h' 85 = aI 400 (fun _ => 0) ∧ h' 86 = aI 400 (fun _ => 0) ∧ h' 87 = aI 400 (fun _ => 0) ∧ h' 88 = lI 8 (uI (uI (uI (uI (uI (uI (uI (uI (fun _ => 0) 0 24) 1 25) 2 278194) 3 3554980) 4 12641458) 5 20186245) 6 4153) 7 441828) ∧ h' 89 = lI 8 (uI (uI (uI (uI (uI (uI (uI (uI (fun _ => 0) 0 113759379) 1 6685939) 2 394868) 3 146885) 4 19118) 5 4153) 6 398548) 7 20976) ∧ h' 90 = lI 4 (uI (uI (uI (uI (fun _ => 0) 0 8554131) 1 3653011) 2 24627848) 3 67155) ∧ h' 91 = lI 13 (fun _ => 0) ∧ h' 92 = lI 13 (fun _ => 0) ∧ h' 93 = lI 400 (fun _ => 0) ∧ h' 94 = aI 60 (fun _ => 0) ∧ h' 95 = aI 13 (fun _ => 0) ∧ h' 96 = zI 6912 (fun _ => 0) ∧ h' 97 = aI 6912 (fun _ => 0) ∧ h' 98 = aI 82944 (fun _ => 0) ∧ h' 99 = aI 768 (fun _ => 0) ∧ h' 100 = zI 576 (fun _ => 0) ∧ h' 101 = zI 576 (fun _ => 0) ∧ h' 102 = lI 576 (fun _ => 0) ∧ h' 103 = lI 576 (fun _ => 0) ∧ h' 104 = lI 6912 (fun _ => 0) ∧ h' 105 = aI 12 (fun _ => 0) ∧ h' 106 = aI 24 (fun _ => 0) ∧ h' 107 = aI 24 (fun _ => 0) ∧ h' 108 = aI 24 (fun _ => 0) ∧ h' 109 = zI 24 (fun _ => 0) ∧ h' 110 = aI 25 (fun _ => 0) ∧ h' 111 = aI 25 (fun _ => 0) ∧ h' 112 = zI 6912 (fun _ => 0) ∧ h' 113 = aI 144 (fun _ => 0) ∧ h' 114 = aI 64 (fun _ => 0), s_G0) 37 133994 115 h 467 [(1, .int (iI i)), (0, .ref 77)] [] := by
  intro m
  induction m with
  | zero =>
    intro i h i0 i1 hm hF H77 H78 H79 H80 H81 H82 H83 H84 H85 H86 H87 H88 H89 H90 H91 H92 H93 H94 H95 H96 H97 H98 H99 H100 H101 H102 H103 H104 H105 H106 H107 H108 H109 H110 H111 H112 H113 H114
    have hi : i = 64 := by omega
    subst hi
    refine v_iload_n dX12_init_467 rfl ?_
    refine v_bipushI dX12_init_468 rfl ?_
    refine v_icmp_geI (tgt := 494) dX12_init_470 (by decide) (by omega) (by omega) (by omega) (by omega) (fun c_1 => ?_) (fun c_1 => ?_)
    · exact v_vret dX12_init_494 rfl (Nat.le_of_ble_eq_true rfl) (Nat.le_of_ble_eq_true rfl) ⟨rfl, rfl, hF, H77, H78, (H79.trans (congrArg (aI 5780) (funext fun k => rfl))), H80, H81, H82, H83, H84, H85, H86, H87, H88, H89, H90, H91, H92, H93, H94, H95, H96, H97, H98, H99, H100, H101, H102, H103, H104, H105, H106, H107, H108, H109, H110, H111, H112, H113, H114⟩
    · exact absurd (by omega) c_1
  | succ m ih =>
    intro i h i0 i1 hm hF H77 H78 H79 H80 H81 H82 H83 H84 H85 H86 H87 H88 H89 H90 H91 H92 H93 H94 H95 H96 H97 H98 H99 H100 H101 H102 H103 H104 H105 H106 H107 H108 H109 H110 H111 H112 H113 H114
    refine v_iload_n dX12_init_467 rfl ?_
    refine v_bipushI dX12_init_468 rfl ?_
    refine v_icmp_geI (tgt := 494) dX12_init_470 (by decide) (by omega) (by omega) (by omega) (by omega) (fun c_1 => ?_) (fun c_1 => ?_)
    · exact absurd c_1 (by omega)
    · refine v_aload_n dX12_init_473 rfl ?_
      refine v_get dX12_init_474 fl_X12_13 H77 rfl (Nat.le_of_ble_eq_true rfl) ?_
      refine v_bipushI dX12_init_477 rfl ?_
      refine v_iconstI dX12_init_479 ?_
      refine v_iload_n dX12_init_480 rfl ?_
      refine v_imulI dX12_init_481 ?_
      refine v_iaddI dX12_init_482 ?_
      refine v_iconstI dX12_init_483 ?_
      refine v_iaddI dX12_init_484 ?_
      refine v_bipushI dX12_init_485 rfl ?_
      refine v_iastI dX12_init_487 H79 (Nat.le_of_ble_eq_true rfl) (by omega) (by omega) (by omega) (fun h2 E3 F4 => ?_)
      refine v_iincI dX12_init_488 rfl (Nat.le_of_ble_eq_true rfl) ?_
      refine v_goto (tgt := 467) dX12_init_491 (by decide) ?_
      exact ih (i + 1) _ (by omega) (by omega) (by omega) (fun j hj => ((F4 j (by omega)).trans (hF j hj))) ((F4 77 (by decide)).trans H77) ((F4 78 (by decide)).trans H78) (E3.trans (congrArg (aI 5780) (uI_fill (fun k => by omega)))) ((F4 80 (by decide)).trans H80) ((F4 81 (by decide)).trans H81) ((F4 82 (by decide)).trans H82) ((F4 83 (by decide)).trans H83) ((F4 84 (by decide)).trans H84) ((F4 85 (by decide)).trans H85) ((F4 86 (by decide)).trans H86) ((F4 87 (by decide)).trans H87) ((F4 88 (by decide)).trans H88) ((F4 89 (by decide)).trans H89) ((F4 90 (by decide)).trans H90) ((F4 91 (by decide)).trans H91) ((F4 92 (by decide)).trans H92) ((F4 93 (by decide)).trans H93) ((F4 94 (by decide)).trans H94) ((F4 95 (by decide)).trans H95) ((F4 96 (by decide)).trans H96) ((F4 97 (by decide)).trans H97) ((F4 98 (by decide)).trans H98) ((F4 99 (by decide)).trans H99) ((F4 100 (by decide)).trans H100) ((F4 101 (by decide)).trans H101) ((F4 102 (by decide)).trans H102) ((F4 103 (by decide)).trans H103) ((F4 104 (by decide)).trans H104) ((F4 105 (by decide)).trans H105) ((F4 106 (by decide)).trans H106) ((F4 107 (by decide)).trans H107) ((F4 108 (by decide)).trans H108) ((F4 109 (by decide)).trans H109) ((F4 110 (by decide)).trans H110) ((F4 111 (by decide)).trans H111) ((F4 112 (by decide)).trans H112) ((F4 113 (by decide)).trans H113) ((F4 114 (by decide)).trans H114)
set_option maxRecDepth 20000 in
theorem sp_X12_init_77 {h : Nat → sE} (ho : h 77 = .inr (12, [.int (iI 0), .int (iI 0), .null, .null, .null, .null, .int (iI 0), .null, .int (iI 0), .int (iI 0), .int (iI 0), .int (iI 0), .long (jJ 0), .int (iI 0), .int (iI 0), .int (iI 0), .int (iI 0), .null, .int (iI 0), .null, .null, .int (iI 0), .null, .null, .int (iI 0), .int (iI 0), .null, .null, .null, .int (iI 0), .null, .null, .null, .int (iI 0), .long (jJ 0), .long (jJ 0), .null, .null, .null, .null, .null, .null, .null, .null, .null, .null, .null, .null, .null, .null, .int (iI 0), .null, .null, .null, .null, .null, .null, .int (iI 0), .int (iI 0), .int (iI 0), .int (iI 0), .long (jJ 0), .null, .int (iI 0)])) : Sp m_X12_init 1 37 133994 [.ref 77] 78 h (fun r n' h' => r = none ∧ n' = 115 ∧ (∀ j, j < 77 → h' j = h j) ∧ h' 77 = .inr (12, [.int (iI 0), .int (iI 0), .ref 78, .ref 79, .ref 80, .ref 81, .int (iI 0), .ref 82, .int (iI 0), .int (iI 0), .int (iI 0), .int (iI 0), .long (jJ 0), .int (iI (-1)), .int (iI 0), .int (iI 0), .int (iI 0), .ref 83, .int (iI 0), .ref 84, .ref 85, .int (iI 0), .ref 86, .ref 87, .int (iI 0), .int (iI 0), .ref 88, .ref 89, .ref 90, .int (iI 0), .ref 91, .ref 92, .ref 93, .int (iI 0), .long (jJ 0), .long (jJ 0), .ref 94, .ref 95, .ref 96, .ref 97, .ref 98, .ref 99, .ref 100, .ref 101, .ref 102, .ref 103, .ref 104, .ref 105, .ref 106, .ref 107, .int (iI 0), .ref 108, .ref 109, .ref 110, .ref 111, .ref 112, .ref 113, .int (iI 0), .int (iI 0), .int (iI (-1)), .int (iI 0), .long (jJ 0), .ref 114, .int (iI 0)]) ∧ h' 78 = aI 7 (fun _ => 0) ∧ h' 79 = aI 5780 (fun k => if 41 ≤ k ∧ k < 233 ∧ (k - 41) % 3 = 0 then 100 else (uI (uI (fun _ => 0) 5 (-1)) 7 2) k) ∧ h' 80 = aI 11560 (fun _ => 0) ∧ h' 81 = zI 2 (fun _ => 0) ∧ h' 82 = aI 400 (fun _ => 0) ∧ h' 83 = aI 96 (fun _ => 0) ∧ h' 84 = aI 400 (fun _ => 0) ∧ h' 85 = aI 400 (fun _ => 0) ∧ h' 86 = aI 400 (fun _ => 0) ∧ h' 87 = aI 400 (fun _ => 0) ∧ h' 88 = lI 8 (uI (uI (uI (uI (uI (uI (uI (uI (fun _ => 0) 0 24) 1 25) 2 278194) 3 3554980) 4 12641458) 5 20186245) 6 4153) 7 441828) ∧ h' 89 = lI 8 (uI (uI (uI (uI (uI (uI (uI (uI (fun _ => 0) 0 113759379) 1 6685939) 2 394868) 3 146885) 4 19118) 5 4153) 6 398548) 7 20976) ∧ h' 90 = lI 4 (uI (uI (uI (uI (fun _ => 0) 0 8554131) 1 3653011) 2 24627848) 3 67155) ∧ h' 91 = lI 13 (fun _ => 0) ∧ h' 92 = lI 13 (fun _ => 0) ∧ h' 93 = lI 400 (fun _ => 0) ∧ h' 94 = aI 60 (fun _ => 0) ∧ h' 95 = aI 13 (fun _ => 0) ∧ h' 96 = zI 6912 (fun _ => 0) ∧ h' 97 = aI 6912 (fun _ => 0) ∧ h' 98 = aI 82944 (fun _ => 0) ∧ h' 99 = aI 768 (fun _ => 0) ∧ h' 100 = zI 576 (fun _ => 0) ∧ h' 101 = zI 576 (fun _ => 0) ∧ h' 102 = lI 576 (fun _ => 0) ∧ h' 103 = lI 576 (fun _ => 0) ∧ h' 104 = lI 6912 (fun _ => 0) ∧ h' 105 = aI 12 (fun _ => 0) ∧ h' 106 = aI 24 (fun _ => 0) ∧ h' 107 = aI 24 (fun _ => 0) ∧ h' 108 = aI 24 (fun _ => 0) ∧ h' 109 = zI 24 (fun _ => 0) ∧ h' 110 = aI 25 (fun _ => 0) ∧ h' 111 = aI 25 (fun _ => 0) ∧ h' 112 = zI 6912 (fun _ => 0) ∧ h' 113 = aI 144 (fun _ => 0) ∧ h' 114 = aI 64 (fun _ => 0)) := by
  refine Sp.ofV (by decide +kernel) (Nat.le_of_ble_eq_true rfl) ?_
  refine v_aload_n dX12_init_0 rfl ?_
  refine v_objInit dX12_init_1 ml_X12_1 (by decide) (Nat.le_of_ble_eq_true rfl) ?_
  refine v_aload_n dX12_init_4 rfl ?_
  refine v_bipushI dX12_init_5 rfl ?_
  refine v_newa_aI (N := 7) dX12_init_7 ac_int rfl (s_lvok rfl) (s_stok rfl) (Nat.le_of_ble_eq_true rfl) (Nat.le_of_ble_eq_true rfl) (fun h1 E2 F3 => ?_)
  have H4 := ((F3 77 (by decide)).trans ho)
  refine v_putF dX12_init_9 fl_X12_7 rfl rfl H4 (Nat.le_of_ble_eq_true rfl) (Nat.le_of_ble_eq_true rfl) (fun _ => ⟨rfl, rfl⟩) (Nat.le_of_ble_eq_true rfl) (fun h5 E6 F7 => ?_)
  refine v_aload_n dX12_init_12 rfl ?_
  refine v_sipushI dX12_init_13 rfl ?_
  refine v_newa_aI (N := 5780) dX12_init_16 ac_int rfl (s_lvok rfl) (s_stok rfl) (Nat.le_of_ble_eq_true rfl) (Nat.le_of_ble_eq_true rfl) (fun h8 E9 F10 => ?_)
  have H11 := ((F10 77 (by decide)).trans E6)
  refine v_putF dX12_init_18 fl_X12_13 rfl rfl H11 (Nat.le_of_ble_eq_true rfl) (Nat.le_of_ble_eq_true rfl) (fun _ => ⟨rfl, rfl⟩) (Nat.le_of_ble_eq_true rfl) (fun h12 E13 F14 => ?_)
  refine v_aload_n dX12_init_21 rfl ?_
  refine v_sipushI dX12_init_22 rfl ?_
  refine v_newa_aI (N := 11560) dX12_init_25 ac_int rfl (s_lvok rfl) (s_stok rfl) (Nat.le_of_ble_eq_true rfl) (Nat.le_of_ble_eq_true rfl) (fun h15 E16 F17 => ?_)
  have H18 := ((F17 77 (by decide)).trans E13)
  refine v_putF dX12_init_27 fl_X12_16 rfl rfl H18 (Nat.le_of_ble_eq_true rfl) (Nat.le_of_ble_eq_true rfl) (fun _ => ⟨rfl, rfl⟩) (Nat.le_of_ble_eq_true rfl) (fun h19 E20 F21 => ?_)
  refine v_aload_n dX12_init_30 rfl ?_
  refine v_iconstI dX12_init_31 ?_
  refine v_newa_zI (N := 2) dX12_init_32 ac_boolean rfl (s_lvok rfl) (s_stok rfl) (Nat.le_of_ble_eq_true rfl) (Nat.le_of_ble_eq_true rfl) (fun h22 E23 F24 => ?_)
  have H25 := ((F24 77 (by decide)).trans E20)
  refine v_putF dX12_init_34 fl_X12_19 rfl rfl H25 (Nat.le_of_ble_eq_true rfl) (Nat.le_of_ble_eq_true rfl) (fun _ => ⟨rfl, rfl⟩) (Nat.le_of_ble_eq_true rfl) (fun h26 E27 F28 => ?_)
  refine v_aload_n dX12_init_37 rfl ?_
  refine v_sipushI dX12_init_38 rfl ?_
  refine v_newa_aI (N := 400) dX12_init_41 ac_int rfl (s_lvok rfl) (s_stok rfl) (Nat.le_of_ble_eq_true rfl) (Nat.le_of_ble_eq_true rfl) (fun h29 E30 F31 => ?_)
  have H32 := ((F31 77 (by decide)).trans E27)
  refine v_putF dX12_init_43 fl_X12_23 rfl rfl H32 (Nat.le_of_ble_eq_true rfl) (Nat.le_of_ble_eq_true rfl) (fun _ => ⟨rfl, rfl⟩) (Nat.le_of_ble_eq_true rfl) (fun h33 E34 F35 => ?_)
  refine v_aload_n dX12_init_46 rfl ?_
  refine v_iconstI dX12_init_47 ?_
  refine v_put dX12_init_48 fl_X12_26 E34 (Nat.le_of_ble_eq_true rfl) (Nat.le_of_ble_eq_true rfl) (fun _ => ⟨rfl, rfl⟩) trivial (fun h36 E37 F38 => ?_)
  refine v_aload_n dX12_init_51 rfl ?_
  refine v_bipushI dX12_init_52 rfl ?_
  refine v_newa_aI (N := 96) dX12_init_54 ac_int rfl (s_lvok rfl) (s_stok rfl) (Nat.le_of_ble_eq_true rfl) (Nat.le_of_ble_eq_true rfl) (fun h39 E40 F41 => ?_)
  have H42 := ((F41 77 (by decide)).trans E37)
  refine v_putF dX12_init_56 fl_X12_30 rfl rfl H42 (Nat.le_of_ble_eq_true rfl) (Nat.le_of_ble_eq_true rfl) (fun _ => ⟨rfl, rfl⟩) (Nat.le_of_ble_eq_true rfl) (fun h43 E44 F45 => ?_)
  refine v_aload_n dX12_init_59 rfl ?_
  refine v_sipushI dX12_init_60 rfl ?_
  refine v_newa_aI (N := 400) dX12_init_63 ac_int rfl (s_lvok rfl) (s_stok rfl) (Nat.le_of_ble_eq_true rfl) (Nat.le_of_ble_eq_true rfl) (fun h46 E47 F48 => ?_)
  have H49 := ((F48 77 (by decide)).trans E44)
  refine v_putF dX12_init_65 fl_X12_33 rfl rfl H49 (Nat.le_of_ble_eq_true rfl) (Nat.le_of_ble_eq_true rfl) (fun _ => ⟨rfl, rfl⟩) (Nat.le_of_ble_eq_true rfl) (fun h50 E51 F52 => ?_)
  refine v_aload_n dX12_init_68 rfl ?_
  refine v_sipushI dX12_init_69 rfl ?_
  refine v_newa_aI (N := 400) dX12_init_72 ac_int rfl (s_lvok rfl) (s_stok rfl) (Nat.le_of_ble_eq_true rfl) (Nat.le_of_ble_eq_true rfl) (fun h53 E54 F55 => ?_)
  have H56 := ((F55 77 (by decide)).trans E51)
  refine v_putF dX12_init_74 fl_X12_36 rfl rfl H56 (Nat.le_of_ble_eq_true rfl) (Nat.le_of_ble_eq_true rfl) (fun _ => ⟨rfl, rfl⟩) (Nat.le_of_ble_eq_true rfl) (fun h57 E58 F59 => ?_)
  refine v_aload_n dX12_init_77 rfl ?_
  refine v_sipushI dX12_init_78 rfl ?_
  refine v_newa_aI (N := 400) dX12_init_81 ac_int rfl (s_lvok rfl) (s_stok rfl) (Nat.le_of_ble_eq_true rfl) (Nat.le_of_ble_eq_true rfl) (fun h60 E61 F62 => ?_)
  have H63 := ((F62 77 (by decide)).trans E58)
  refine v_putF dX12_init_83 fl_X12_39 rfl rfl H63 (Nat.le_of_ble_eq_true rfl) (Nat.le_of_ble_eq_true rfl) (fun _ => ⟨rfl, rfl⟩) (Nat.le_of_ble_eq_true rfl) (fun h64 E65 F66 => ?_)
  refine v_aload_n dX12_init_86 rfl ?_
  refine v_sipushI dX12_init_87 rfl ?_
  refine v_newa_aI (N := 400) dX12_init_90 ac_int rfl (s_lvok rfl) (s_stok rfl) (Nat.le_of_ble_eq_true rfl) (Nat.le_of_ble_eq_true rfl) (fun h67 E68 F69 => ?_)
  have H70 := ((F69 77 (by decide)).trans E65)
  refine v_putF dX12_init_92 fl_X12_42 rfl rfl H70 (Nat.le_of_ble_eq_true rfl) (Nat.le_of_ble_eq_true rfl) (fun _ => ⟨rfl, rfl⟩) (Nat.le_of_ble_eq_true rfl) (fun h71 E72 F73 => ?_)
  refine v_aload_n dX12_init_95 rfl ?_
  refine v_bipushI dX12_init_96 rfl ?_
  refine v_newa_lI (N := 8) dX12_init_98 ac_long rfl (s_lvok rfl) (s_stok rfl) (Nat.le_of_ble_eq_true rfl) (Nat.le_of_ble_eq_true rfl) (fun h74 E75 F76 => ?_)
  refine v_dup dX12_init_100 rfl ?_
  refine v_iconstI dX12_init_101 ?_
  refine v_ldc2I 24 dX12_init_102 k_X12_45 rfl ?_
  refine v_lastI dX12_init_105 E75 (Nat.le_of_ble_eq_true rfl) (by omega) (by omega) (by omega) (fun h77 E78 F79 => ?_)
  refine v_dup dX12_init_106 rfl ?_
  refine v_iconstI dX12_init_107 ?_
  refine v_ldc2I 25 dX12_init_108 k_X12_47 rfl ?_
  refine v_lastI dX12_init_111 E78 (Nat.le_of_ble_eq_true rfl) (by omega) (by omega) (by omega) (fun h80 E81 F82 => ?_)
  refine v_dup dX12_init_112 rfl ?_
  refine v_iconstI dX12_init_113 ?_
  refine v_ldc2I 278194 dX12_init_114 k_X12_49 rfl ?_
  refine v_lastI dX12_init_117 E81 (Nat.le_of_ble_eq_true rfl) (by omega) (by omega) (by omega) (fun h83 E84 F85 => ?_)
  refine v_dup dX12_init_118 rfl ?_
  refine v_iconstI dX12_init_119 ?_
  refine v_ldc2I 3554980 dX12_init_120 k_X12_51 rfl ?_
  refine v_lastI dX12_init_123 E84 (Nat.le_of_ble_eq_true rfl) (by omega) (by omega) (by omega) (fun h86 E87 F88 => ?_)
  refine v_dup dX12_init_124 rfl ?_
  refine v_iconstI dX12_init_125 ?_
  refine v_ldc2I 12641458 dX12_init_126 k_X12_53 rfl ?_
  refine v_lastI dX12_init_129 E87 (Nat.le_of_ble_eq_true rfl) (by omega) (by omega) (by omega) (fun h89 E90 F91 => ?_)
  refine v_dup dX12_init_130 rfl ?_
  refine v_iconstI dX12_init_131 ?_
  refine v_ldc2I 20186245 dX12_init_132 k_X12_55 rfl ?_
  refine v_lastI dX12_init_135 E90 (Nat.le_of_ble_eq_true rfl) (by omega) (by omega) (by omega) (fun h92 E93 F94 => ?_)
  refine v_dup dX12_init_136 rfl ?_
  refine v_bipushI dX12_init_137 rfl ?_
  refine v_ldc2I 4153 dX12_init_139 k_X12_57 rfl ?_
  refine v_lastI dX12_init_142 E93 (Nat.le_of_ble_eq_true rfl) (by omega) (by omega) (by omega) (fun h95 E96 F97 => ?_)
  refine v_dup dX12_init_143 rfl ?_
  refine v_bipushI dX12_init_144 rfl ?_
  refine v_ldc2I 441828 dX12_init_146 k_X12_59 rfl ?_
  refine v_lastI dX12_init_149 E96 (Nat.le_of_ble_eq_true rfl) (by omega) (by omega) (by omega) (fun h98 E99 F100 => ?_)
  have H101 := ((F100 77 (by decide)).trans ((F97 77 (by decide)).trans ((F94 77 (by decide)).trans ((F91 77 (by decide)).trans ((F88 77 (by decide)).trans ((F85 77 (by decide)).trans ((F82 77 (by decide)).trans ((F79 77 (by decide)).trans ((F76 77 (by decide)).trans E72)))))))))
  refine v_putF dX12_init_150 fl_X12_61 rfl rfl H101 (Nat.le_of_ble_eq_true rfl) (Nat.le_of_ble_eq_true rfl) (fun _ => ⟨rfl, rfl⟩) (Nat.le_of_ble_eq_true rfl) (fun h102 E103 F104 => ?_)
  refine v_aload_n dX12_init_153 rfl ?_
  refine v_bipushI dX12_init_154 rfl ?_
  refine v_newa_lI (N := 8) dX12_init_156 ac_long rfl (s_lvok rfl) (s_stok rfl) (Nat.le_of_ble_eq_true rfl) (Nat.le_of_ble_eq_true rfl) (fun h105 E106 F107 => ?_)
  refine v_dup dX12_init_158 rfl ?_
  refine v_iconstI dX12_init_159 ?_
  refine v_ldc2I 113759379 dX12_init_160 k_X12_65 rfl ?_
  refine v_lastI dX12_init_163 E106 (Nat.le_of_ble_eq_true rfl) (by omega) (by omega) (by omega) (fun h108 E109 F110 => ?_)
  refine v_dup dX12_init_164 rfl ?_
  refine v_iconstI dX12_init_165 ?_
  refine v_ldc2I 6685939 dX12_init_166 k_X12_67 rfl ?_
  refine v_lastI dX12_init_169 E109 (Nat.le_of_ble_eq_true rfl) (by omega) (by omega) (by omega) (fun h111 E112 F113 => ?_)
  refine v_dup dX12_init_170 rfl ?_
  refine v_iconstI dX12_init_171 ?_
  refine v_ldc2I 394868 dX12_init_172 k_X12_69 rfl ?_
  refine v_lastI dX12_init_175 E112 (Nat.le_of_ble_eq_true rfl) (by omega) (by omega) (by omega) (fun h114 E115 F116 => ?_)
  refine v_dup dX12_init_176 rfl ?_
  refine v_iconstI dX12_init_177 ?_
  refine v_ldc2I 146885 dX12_init_178 k_X12_71 rfl ?_
  refine v_lastI dX12_init_181 E115 (Nat.le_of_ble_eq_true rfl) (by omega) (by omega) (by omega) (fun h117 E118 F119 => ?_)
  refine v_dup dX12_init_182 rfl ?_
  refine v_iconstI dX12_init_183 ?_
  refine v_ldc2I 19118 dX12_init_184 k_X12_73 rfl ?_
  refine v_lastI dX12_init_187 E118 (Nat.le_of_ble_eq_true rfl) (by omega) (by omega) (by omega) (fun h120 E121 F122 => ?_)
  refine v_dup dX12_init_188 rfl ?_
  refine v_iconstI dX12_init_189 ?_
  refine v_ldc2I 4153 dX12_init_190 k_X12_57 rfl ?_
  refine v_lastI dX12_init_193 E121 (Nat.le_of_ble_eq_true rfl) (by omega) (by omega) (by omega) (fun h123 E124 F125 => ?_)
  refine v_dup dX12_init_194 rfl ?_
  refine v_bipushI dX12_init_195 rfl ?_
  refine v_ldc2I 398548 dX12_init_197 k_X12_75 rfl ?_
  refine v_lastI dX12_init_200 E124 (Nat.le_of_ble_eq_true rfl) (by omega) (by omega) (by omega) (fun h126 E127 F128 => ?_)
  refine v_dup dX12_init_201 rfl ?_
  refine v_bipushI dX12_init_202 rfl ?_
  refine v_ldc2I 20976 dX12_init_204 k_X12_77 rfl ?_
  refine v_lastI dX12_init_207 E127 (Nat.le_of_ble_eq_true rfl) (by omega) (by omega) (by omega) (fun h129 E130 F131 => ?_)
  have H132 := ((F131 77 (by decide)).trans ((F128 77 (by decide)).trans ((F125 77 (by decide)).trans ((F122 77 (by decide)).trans ((F119 77 (by decide)).trans ((F116 77 (by decide)).trans ((F113 77 (by decide)).trans ((F110 77 (by decide)).trans ((F107 77 (by decide)).trans E103)))))))))
  refine v_putF dX12_init_208 fl_X12_79 rfl rfl H132 (Nat.le_of_ble_eq_true rfl) (Nat.le_of_ble_eq_true rfl) (fun _ => ⟨rfl, rfl⟩) (Nat.le_of_ble_eq_true rfl) (fun h133 E134 F135 => ?_)
  refine v_aload_n dX12_init_211 rfl ?_
  refine v_iconstI dX12_init_212 ?_
  refine v_newa_lI (N := 4) dX12_init_213 ac_long rfl (s_lvok rfl) (s_stok rfl) (Nat.le_of_ble_eq_true rfl) (Nat.le_of_ble_eq_true rfl) (fun h136 E137 F138 => ?_)
  refine v_dup dX12_init_215 rfl ?_
  refine v_iconstI dX12_init_216 ?_
  refine v_ldc2I 8554131 dX12_init_217 k_X12_82 rfl ?_
  refine v_lastI dX12_init_220 E137 (Nat.le_of_ble_eq_true rfl) (by omega) (by omega) (by omega) (fun h139 E140 F141 => ?_)
  refine v_dup dX12_init_221 rfl ?_
  refine v_iconstI dX12_init_222 ?_
  refine v_ldc2I 3653011 dX12_init_223 k_X12_84 rfl ?_
  refine v_lastI dX12_init_226 E140 (Nat.le_of_ble_eq_true rfl) (by omega) (by omega) (by omega) (fun h142 E143 F144 => ?_)
  refine v_dup dX12_init_227 rfl ?_
  refine v_iconstI dX12_init_228 ?_
  refine v_ldc2I 24627848 dX12_init_229 k_X12_86 rfl ?_
  refine v_lastI dX12_init_232 E143 (Nat.le_of_ble_eq_true rfl) (by omega) (by omega) (by omega) (fun h145 E146 F147 => ?_)
  refine v_dup dX12_init_233 rfl ?_
  refine v_iconstI dX12_init_234 ?_
  refine v_ldc2I 67155 dX12_init_235 k_X12_88 rfl ?_
  refine v_lastI dX12_init_238 E146 (Nat.le_of_ble_eq_true rfl) (by omega) (by omega) (by omega) (fun h148 E149 F150 => ?_)
  have H151 := ((F150 77 (by decide)).trans ((F147 77 (by decide)).trans ((F144 77 (by decide)).trans ((F141 77 (by decide)).trans ((F138 77 (by decide)).trans E134)))))
  refine v_putF dX12_init_239 fl_X12_90 rfl rfl H151 (Nat.le_of_ble_eq_true rfl) (Nat.le_of_ble_eq_true rfl) (fun _ => ⟨rfl, rfl⟩) (Nat.le_of_ble_eq_true rfl) (fun h152 E153 F154 => ?_)
  refine v_aload_n dX12_init_242 rfl ?_
  refine v_bipushI dX12_init_243 rfl ?_
  refine v_newa_lI (N := 13) dX12_init_245 ac_long rfl (s_lvok rfl) (s_stok rfl) (Nat.le_of_ble_eq_true rfl) (Nat.le_of_ble_eq_true rfl) (fun h155 E156 F157 => ?_)
  have H158 := ((F157 77 (by decide)).trans E153)
  refine v_putF dX12_init_247 fl_X12_93 rfl rfl H158 (Nat.le_of_ble_eq_true rfl) (Nat.le_of_ble_eq_true rfl) (fun _ => ⟨rfl, rfl⟩) (Nat.le_of_ble_eq_true rfl) (fun h159 E160 F161 => ?_)
  refine v_aload_n dX12_init_250 rfl ?_
  refine v_bipushI dX12_init_251 rfl ?_
  refine v_newa_lI (N := 13) dX12_init_253 ac_long rfl (s_lvok rfl) (s_stok rfl) (Nat.le_of_ble_eq_true rfl) (Nat.le_of_ble_eq_true rfl) (fun h162 E163 F164 => ?_)
  have H165 := ((F164 77 (by decide)).trans E160)
  refine v_putF dX12_init_255 fl_X12_96 rfl rfl H165 (Nat.le_of_ble_eq_true rfl) (Nat.le_of_ble_eq_true rfl) (fun _ => ⟨rfl, rfl⟩) (Nat.le_of_ble_eq_true rfl) (fun h166 E167 F168 => ?_)
  refine v_aload_n dX12_init_258 rfl ?_
  refine v_sipushI dX12_init_259 rfl ?_
  refine v_newa_lI (N := 400) dX12_init_262 ac_long rfl (s_lvok rfl) (s_stok rfl) (Nat.le_of_ble_eq_true rfl) (Nat.le_of_ble_eq_true rfl) (fun h169 E170 F171 => ?_)
  have H172 := ((F171 77 (by decide)).trans E167)
  refine v_putF dX12_init_264 fl_X12_99 rfl rfl H172 (Nat.le_of_ble_eq_true rfl) (Nat.le_of_ble_eq_true rfl) (fun _ => ⟨rfl, rfl⟩) (Nat.le_of_ble_eq_true rfl) (fun h173 E174 F175 => ?_)
  refine v_aload_n dX12_init_267 rfl ?_
  refine v_bipushI dX12_init_268 rfl ?_
  refine v_newa_aI (N := 60) dX12_init_270 ac_int rfl (s_lvok rfl) (s_stok rfl) (Nat.le_of_ble_eq_true rfl) (Nat.le_of_ble_eq_true rfl) (fun h176 E177 F178 => ?_)
  have H179 := ((F178 77 (by decide)).trans E174)
  refine v_putF dX12_init_272 fl_X12_102 rfl rfl H179 (Nat.le_of_ble_eq_true rfl) (Nat.le_of_ble_eq_true rfl) (fun _ => ⟨rfl, rfl⟩) (Nat.le_of_ble_eq_true rfl) (fun h180 E181 F182 => ?_)
  refine v_aload_n dX12_init_275 rfl ?_
  refine v_bipushI dX12_init_276 rfl ?_
  refine v_newa_aI (N := 13) dX12_init_278 ac_int rfl (s_lvok rfl) (s_stok rfl) (Nat.le_of_ble_eq_true rfl) (Nat.le_of_ble_eq_true rfl) (fun h183 E184 F185 => ?_)
  have H186 := ((F185 77 (by decide)).trans E181)
  refine v_putF dX12_init_280 fl_X12_105 rfl rfl H186 (Nat.le_of_ble_eq_true rfl) (Nat.le_of_ble_eq_true rfl) (fun _ => ⟨rfl, rfl⟩) (Nat.le_of_ble_eq_true rfl) (fun h187 E188 F189 => ?_)
  refine v_aload_n dX12_init_283 rfl ?_
  refine v_sipushI dX12_init_284 rfl ?_
  refine v_newa_zI (N := 6912) dX12_init_287 ac_boolean rfl (s_lvok rfl) (s_stok rfl) (Nat.le_of_ble_eq_true rfl) (Nat.le_of_ble_eq_true rfl) (fun h190 E191 F192 => ?_)
  have H193 := ((F192 77 (by decide)).trans E188)
  refine v_putF dX12_init_289 fl_X12_108 rfl rfl H193 (Nat.le_of_ble_eq_true rfl) (Nat.le_of_ble_eq_true rfl) (fun _ => ⟨rfl, rfl⟩) (Nat.le_of_ble_eq_true rfl) (fun h194 E195 F196 => ?_)
  refine v_aload_n dX12_init_292 rfl ?_
  refine v_sipushI dX12_init_293 rfl ?_
  refine v_newa_aI (N := 6912) dX12_init_296 ac_int rfl (s_lvok rfl) (s_stok rfl) (Nat.le_of_ble_eq_true rfl) (Nat.le_of_ble_eq_true rfl) (fun h197 E198 F199 => ?_)
  have H200 := ((F199 77 (by decide)).trans E195)
  refine v_putF dX12_init_298 fl_X12_111 rfl rfl H200 (Nat.le_of_ble_eq_true rfl) (Nat.le_of_ble_eq_true rfl) (fun _ => ⟨rfl, rfl⟩) (Nat.le_of_ble_eq_true rfl) (fun h201 E202 F203 => ?_)
  refine v_aload_n dX12_init_301 rfl ?_
  refine v_ldcI 82944 dX12_init_302 k_X12_114 rfl ?_
  refine v_newa_aI (N := 82944) dX12_init_304 ac_int rfl (s_lvok rfl) (s_stok rfl) (Nat.le_of_ble_eq_true rfl) (Nat.le_of_ble_eq_true rfl) (fun h204 E205 F206 => ?_)
  have H207 := ((F206 77 (by decide)).trans E202)
  refine v_putF dX12_init_306 fl_X12_115 rfl rfl H207 (Nat.le_of_ble_eq_true rfl) (Nat.le_of_ble_eq_true rfl) (fun _ => ⟨rfl, rfl⟩) (Nat.le_of_ble_eq_true rfl) (fun h208 E209 F210 => ?_)
  refine v_aload_n dX12_init_309 rfl ?_
  refine v_sipushI dX12_init_310 rfl ?_
  refine v_newa_aI (N := 768) dX12_init_313 ac_int rfl (s_lvok rfl) (s_stok rfl) (Nat.le_of_ble_eq_true rfl) (Nat.le_of_ble_eq_true rfl) (fun h211 E212 F213 => ?_)
  have H214 := ((F213 77 (by decide)).trans E209)
  refine v_putF dX12_init_315 fl_X12_118 rfl rfl H214 (Nat.le_of_ble_eq_true rfl) (Nat.le_of_ble_eq_true rfl) (fun _ => ⟨rfl, rfl⟩) (Nat.le_of_ble_eq_true rfl) (fun h215 E216 F217 => ?_)
  refine v_aload_n dX12_init_318 rfl ?_
  refine v_sipushI dX12_init_319 rfl ?_
  refine v_newa_zI (N := 576) dX12_init_322 ac_boolean rfl (s_lvok rfl) (s_stok rfl) (Nat.le_of_ble_eq_true rfl) (Nat.le_of_ble_eq_true rfl) (fun h218 E219 F220 => ?_)
  have H221 := ((F220 77 (by decide)).trans E216)
  refine v_putF dX12_init_324 fl_X12_121 rfl rfl H221 (Nat.le_of_ble_eq_true rfl) (Nat.le_of_ble_eq_true rfl) (fun _ => ⟨rfl, rfl⟩) (Nat.le_of_ble_eq_true rfl) (fun h222 E223 F224 => ?_)
  refine v_aload_n dX12_init_327 rfl ?_
  refine v_sipushI dX12_init_328 rfl ?_
  refine v_newa_zI (N := 576) dX12_init_331 ac_boolean rfl (s_lvok rfl) (s_stok rfl) (Nat.le_of_ble_eq_true rfl) (Nat.le_of_ble_eq_true rfl) (fun h225 E226 F227 => ?_)
  have H228 := ((F227 77 (by decide)).trans E223)
  refine v_putF dX12_init_333 fl_X12_124 rfl rfl H228 (Nat.le_of_ble_eq_true rfl) (Nat.le_of_ble_eq_true rfl) (fun _ => ⟨rfl, rfl⟩) (Nat.le_of_ble_eq_true rfl) (fun h229 E230 F231 => ?_)
  refine v_aload_n dX12_init_336 rfl ?_
  refine v_sipushI dX12_init_337 rfl ?_
  refine v_newa_lI (N := 576) dX12_init_340 ac_long rfl (s_lvok rfl) (s_stok rfl) (Nat.le_of_ble_eq_true rfl) (Nat.le_of_ble_eq_true rfl) (fun h232 E233 F234 => ?_)
  have H235 := ((F234 77 (by decide)).trans E230)
  refine v_putF dX12_init_342 fl_X12_127 rfl rfl H235 (Nat.le_of_ble_eq_true rfl) (Nat.le_of_ble_eq_true rfl) (fun _ => ⟨rfl, rfl⟩) (Nat.le_of_ble_eq_true rfl) (fun h236 E237 F238 => ?_)
  refine v_aload_n dX12_init_345 rfl ?_
  refine v_sipushI dX12_init_346 rfl ?_
  refine v_newa_lI (N := 576) dX12_init_349 ac_long rfl (s_lvok rfl) (s_stok rfl) (Nat.le_of_ble_eq_true rfl) (Nat.le_of_ble_eq_true rfl) (fun h239 E240 F241 => ?_)
  have H242 := ((F241 77 (by decide)).trans E237)
  refine v_putF dX12_init_351 fl_X12_130 rfl rfl H242 (Nat.le_of_ble_eq_true rfl) (Nat.le_of_ble_eq_true rfl) (fun _ => ⟨rfl, rfl⟩) (Nat.le_of_ble_eq_true rfl) (fun h243 E244 F245 => ?_)
  refine v_aload_n dX12_init_354 rfl ?_
  refine v_sipushI dX12_init_355 rfl ?_
  refine v_newa_lI (N := 6912) dX12_init_358 ac_long rfl (s_lvok rfl) (s_stok rfl) (Nat.le_of_ble_eq_true rfl) (Nat.le_of_ble_eq_true rfl) (fun h246 E247 F248 => ?_)
  have H249 := ((F248 77 (by decide)).trans E244)
  refine v_putF dX12_init_360 fl_X12_133 rfl rfl H249 (Nat.le_of_ble_eq_true rfl) (Nat.le_of_ble_eq_true rfl) (fun _ => ⟨rfl, rfl⟩) (Nat.le_of_ble_eq_true rfl) (fun h250 E251 F252 => ?_)
  refine v_aload_n dX12_init_363 rfl ?_
  refine v_bipushI dX12_init_364 rfl ?_
  refine v_newa_aI (N := 12) dX12_init_366 ac_int rfl (s_lvok rfl) (s_stok rfl) (Nat.le_of_ble_eq_true rfl) (Nat.le_of_ble_eq_true rfl) (fun h253 E254 F255 => ?_)
  have H256 := ((F255 77 (by decide)).trans E251)
  refine v_putF dX12_init_368 fl_X12_136 rfl rfl H256 (Nat.le_of_ble_eq_true rfl) (Nat.le_of_ble_eq_true rfl) (fun _ => ⟨rfl, rfl⟩) (Nat.le_of_ble_eq_true rfl) (fun h257 E258 F259 => ?_)
  refine v_aload_n dX12_init_371 rfl ?_
  refine v_bipushI dX12_init_372 rfl ?_
  refine v_newa_aI (N := 24) dX12_init_374 ac_int rfl (s_lvok rfl) (s_stok rfl) (Nat.le_of_ble_eq_true rfl) (Nat.le_of_ble_eq_true rfl) (fun h260 E261 F262 => ?_)
  have H263 := ((F262 77 (by decide)).trans E258)
  refine v_putF dX12_init_376 fl_X12_139 rfl rfl H263 (Nat.le_of_ble_eq_true rfl) (Nat.le_of_ble_eq_true rfl) (fun _ => ⟨rfl, rfl⟩) (Nat.le_of_ble_eq_true rfl) (fun h264 E265 F266 => ?_)
  refine v_aload_n dX12_init_379 rfl ?_
  refine v_bipushI dX12_init_380 rfl ?_
  refine v_newa_aI (N := 24) dX12_init_382 ac_int rfl (s_lvok rfl) (s_stok rfl) (Nat.le_of_ble_eq_true rfl) (Nat.le_of_ble_eq_true rfl) (fun h267 E268 F269 => ?_)
  have H270 := ((F269 77 (by decide)).trans E265)
  refine v_putF dX12_init_384 fl_X12_142 rfl rfl H270 (Nat.le_of_ble_eq_true rfl) (Nat.le_of_ble_eq_true rfl) (fun _ => ⟨rfl, rfl⟩) (Nat.le_of_ble_eq_true rfl) (fun h271 E272 F273 => ?_)
  refine v_aload_n dX12_init_387 rfl ?_
  refine v_bipushI dX12_init_388 rfl ?_
  refine v_newa_aI (N := 24) dX12_init_390 ac_int rfl (s_lvok rfl) (s_stok rfl) (Nat.le_of_ble_eq_true rfl) (Nat.le_of_ble_eq_true rfl) (fun h274 E275 F276 => ?_)
  have H277 := ((F276 77 (by decide)).trans E272)
  refine v_putF dX12_init_392 fl_X12_145 rfl rfl H277 (Nat.le_of_ble_eq_true rfl) (Nat.le_of_ble_eq_true rfl) (fun _ => ⟨rfl, rfl⟩) (Nat.le_of_ble_eq_true rfl) (fun h278 E279 F280 => ?_)
  refine v_aload_n dX12_init_395 rfl ?_
  refine v_bipushI dX12_init_396 rfl ?_
  refine v_newa_zI (N := 24) dX12_init_398 ac_boolean rfl (s_lvok rfl) (s_stok rfl) (Nat.le_of_ble_eq_true rfl) (Nat.le_of_ble_eq_true rfl) (fun h281 E282 F283 => ?_)
  have H284 := ((F283 77 (by decide)).trans E279)
  refine v_putF dX12_init_400 fl_X12_148 rfl rfl H284 (Nat.le_of_ble_eq_true rfl) (Nat.le_of_ble_eq_true rfl) (fun _ => ⟨rfl, rfl⟩) (Nat.le_of_ble_eq_true rfl) (fun h285 E286 F287 => ?_)
  refine v_aload_n dX12_init_403 rfl ?_
  refine v_bipushI dX12_init_404 rfl ?_
  refine v_newa_aI (N := 25) dX12_init_406 ac_int rfl (s_lvok rfl) (s_stok rfl) (Nat.le_of_ble_eq_true rfl) (Nat.le_of_ble_eq_true rfl) (fun h288 E289 F290 => ?_)
  have H291 := ((F290 77 (by decide)).trans E286)
  refine v_putF dX12_init_408 fl_X12_151 rfl rfl H291 (Nat.le_of_ble_eq_true rfl) (Nat.le_of_ble_eq_true rfl) (fun _ => ⟨rfl, rfl⟩) (Nat.le_of_ble_eq_true rfl) (fun h292 E293 F294 => ?_)
  refine v_aload_n dX12_init_411 rfl ?_
  refine v_bipushI dX12_init_412 rfl ?_
  refine v_newa_aI (N := 25) dX12_init_414 ac_int rfl (s_lvok rfl) (s_stok rfl) (Nat.le_of_ble_eq_true rfl) (Nat.le_of_ble_eq_true rfl) (fun h295 E296 F297 => ?_)
  have H298 := ((F297 77 (by decide)).trans E293)
  refine v_putF dX12_init_416 fl_X12_154 rfl rfl H298 (Nat.le_of_ble_eq_true rfl) (Nat.le_of_ble_eq_true rfl) (fun _ => ⟨rfl, rfl⟩) (Nat.le_of_ble_eq_true rfl) (fun h299 E300 F301 => ?_)
  refine v_aload_n dX12_init_419 rfl ?_
  refine v_sipushI dX12_init_420 rfl ?_
  refine v_newa_zI (N := 6912) dX12_init_423 ac_boolean rfl (s_lvok rfl) (s_stok rfl) (Nat.le_of_ble_eq_true rfl) (Nat.le_of_ble_eq_true rfl) (fun h302 E303 F304 => ?_)
  have H305 := ((F304 77 (by decide)).trans E300)
  refine v_putF dX12_init_425 fl_X12_157 rfl rfl H305 (Nat.le_of_ble_eq_true rfl) (Nat.le_of_ble_eq_true rfl) (fun _ => ⟨rfl, rfl⟩) (Nat.le_of_ble_eq_true rfl) (fun h306 E307 F308 => ?_)
  refine v_aload_n dX12_init_428 rfl ?_
  refine v_sipushI dX12_init_429 rfl ?_
  refine v_newa_aI (N := 144) dX12_init_432 ac_int rfl (s_lvok rfl) (s_stok rfl) (Nat.le_of_ble_eq_true rfl) (Nat.le_of_ble_eq_true rfl) (fun h309 E310 F311 => ?_)
  have H312 := ((F311 77 (by decide)).trans E307)
  refine v_putF dX12_init_434 fl_X12_160 rfl rfl H312 (Nat.le_of_ble_eq_true rfl) (Nat.le_of_ble_eq_true rfl) (fun _ => ⟨rfl, rfl⟩) (Nat.le_of_ble_eq_true rfl) (fun h313 E314 F315 => ?_)
  refine v_aload_n dX12_init_437 rfl ?_
  refine v_iconstI dX12_init_438 ?_
  refine v_put dX12_init_439 fl_X12_163 E314 (Nat.le_of_ble_eq_true rfl) (Nat.le_of_ble_eq_true rfl) (fun _ => ⟨rfl, rfl⟩) trivial (fun h316 E317 F318 => ?_)
  refine v_aload_n dX12_init_442 rfl ?_
  refine v_bipushI dX12_init_443 rfl ?_
  refine v_newa_aI (N := 64) dX12_init_445 ac_int rfl (s_lvok rfl) (s_stok rfl) (Nat.le_of_ble_eq_true rfl) (Nat.le_of_ble_eq_true rfl) (fun h319 E320 F321 => ?_)
  have H322 := ((F321 77 (by decide)).trans E317)
  refine v_putF dX12_init_447 fl_X12_166 rfl rfl H322 (Nat.le_of_ble_eq_true rfl) (Nat.le_of_ble_eq_true rfl) (fun _ => ⟨rfl, rfl⟩) (Nat.le_of_ble_eq_true rfl) (fun h323 E324 F325 => ?_)
  refine v_aload_n dX12_init_450 rfl ?_
  refine v_get dX12_init_451 fl_X12_13 E324 rfl (Nat.le_of_ble_eq_true rfl) ?_
  refine v_iconstI dX12_init_454 ?_
  refine v_iconstI dX12_init_455 ?_
  have H326 := ((F325 79 (by decide)).trans ((F321 79 (by decide)).trans ((F318 79 (by decide)).trans ((F315 79 (by decide)).trans ((F311 79 (by decide)).trans ((F308 79 (by decide)).trans ((F304 79 (by decide)).trans ((F301 79 (by decide)).trans ((F297 79 (by decide)).trans ((F294 79 (by decide)).trans ((F290 79 (by decide)).trans ((F287 79 (by decide)).trans ((F283 79 (by decide)).trans ((F280 79 (by decide)).trans ((F276 79 (by decide)).trans ((F273 79 (by decide)).trans ((F269 79 (by decide)).trans ((F266 79 (by decide)).trans ((F262 79 (by decide)).trans ((F259 79 (by decide)).trans ((F255 79 (by decide)).trans ((F252 79 (by decide)).trans ((F248 79 (by decide)).trans ((F245 79 (by decide)).trans ((F241 79 (by decide)).trans ((F238 79 (by decide)).trans ((F234 79 (by decide)).trans ((F231 79 (by decide)).trans ((F227 79 (by decide)).trans ((F224 79 (by decide)).trans ((F220 79 (by decide)).trans ((F217 79 (by decide)).trans ((F213 79 (by decide)).trans ((F210 79 (by decide)).trans ((F206 79 (by decide)).trans ((F203 79 (by decide)).trans ((F199 79 (by decide)).trans ((F196 79 (by decide)).trans ((F192 79 (by decide)).trans ((F189 79 (by decide)).trans ((F185 79 (by decide)).trans ((F182 79 (by decide)).trans ((F178 79 (by decide)).trans ((F175 79 (by decide)).trans ((F171 79 (by decide)).trans ((F168 79 (by decide)).trans ((F164 79 (by decide)).trans ((F161 79 (by decide)).trans ((F157 79 (by decide)).trans ((F154 79 (by decide)).trans ((F150 79 (by decide)).trans ((F147 79 (by decide)).trans ((F144 79 (by decide)).trans ((F141 79 (by decide)).trans ((F138 79 (by decide)).trans ((F135 79 (by decide)).trans ((F131 79 (by decide)).trans ((F128 79 (by decide)).trans ((F125 79 (by decide)).trans ((F122 79 (by decide)).trans ((F119 79 (by decide)).trans ((F116 79 (by decide)).trans ((F113 79 (by decide)).trans ((F110 79 (by decide)).trans ((F107 79 (by decide)).trans ((F104 79 (by decide)).trans ((F100 79 (by decide)).trans ((F97 79 (by decide)).trans ((F94 79 (by decide)).trans ((F91 79 (by decide)).trans ((F88 79 (by decide)).trans ((F85 79 (by decide)).trans ((F82 79 (by decide)).trans ((F79 79 (by decide)).trans ((F76 79 (by decide)).trans ((F73 79 (by decide)).trans ((F69 79 (by decide)).trans ((F66 79 (by decide)).trans ((F62 79 (by decide)).trans ((F59 79 (by decide)).trans ((F55 79 (by decide)).trans ((F52 79 (by decide)).trans ((F48 79 (by decide)).trans ((F45 79 (by decide)).trans ((F41 79 (by decide)).trans ((F38 79 (by decide)).trans ((F35 79 (by decide)).trans ((F31 79 (by decide)).trans ((F28 79 (by decide)).trans ((F24 79 (by decide)).trans ((F21 79 (by decide)).trans ((F17 79 (by decide)).trans ((F14 79 (by decide)).trans E9)))))))))))))))))))))))))))))))))))))))))))))))))))))))))))))))))))))))))))))))))))))))))))))
  refine v_iastI dX12_init_456 H326 (Nat.le_of_ble_eq_true rfl) (by omega) (by omega) (by omega) (fun h327 E328 F329 => ?_)
  refine v_aload_n dX12_init_457 rfl ?_
  have H330 := ((F329 77 (by decide)).trans E324)
  refine v_get dX12_init_458 fl_X12_13 H330 rfl (Nat.le_of_ble_eq_true rfl) ?_
  refine v_bipushI dX12_init_461 rfl ?_
  refine v_iconstI dX12_init_463 ?_
  refine v_iastI dX12_init_464 E328 (Nat.le_of_ble_eq_true rfl) (by omega) (by omega) (by omega) (fun h331 E332 F333 => ?_)
  refine v_iconstI dX12_init_465 ?_
  refine v_istore_n dX12_init_466 (Nat.le_of_ble_eq_true rfl) ?_
  exact sp_X12_init_77_loop 64 0 _ (by decide) (by decide) (by decide) (fun j hj => ((F333 j (by omega)).trans ((F329 j (by omega)).trans ((F325 j (by omega)).trans ((F321 j (by omega)).trans ((F318 j (by omega)).trans ((F315 j (by omega)).trans ((F311 j (by omega)).trans ((F308 j (by omega)).trans ((F304 j (by omega)).trans ((F301 j (by omega)).trans ((F297 j (by omega)).trans ((F294 j (by omega)).trans ((F290 j (by omega)).trans ((F287 j (by omega)).trans ((F283 j (by omega)).trans ((F280 j (by omega)).trans ((F276 j (by omega)).trans ((F273 j (by omega)).trans ((F269 j (by omega)).trans ((F266 j (by omega)).trans ((F262 j (by omega)).trans ((F259 j (by omega)).trans ((F255 j (by omega)).trans ((F252 j (by omega)).trans ((F248 j (by omega)).trans ((F245 j (by omega)).trans ((F241 j (by omega)).trans ((F238 j (by omega)).trans ((F234 j (by omega)).trans ((F231 j (by omega)).trans ((F227 j (by omega)).trans ((F224 j (by omega)).trans ((F220 j (by omega)).trans ((F217 j (by omega)).trans ((F213 j (by omega)).trans ((F210 j (by omega)).trans ((F206 j (by omega)).trans ((F203 j (by omega)).trans ((F199 j (by omega)).trans ((F196 j (by omega)).trans ((F192 j (by omega)).trans ((F189 j (by omega)).trans ((F185 j (by omega)).trans ((F182 j (by omega)).trans ((F178 j (by omega)).trans ((F175 j (by omega)).trans ((F171 j (by omega)).trans ((F168 j (by omega)).trans ((F164 j (by omega)).trans ((F161 j (by omega)).trans ((F157 j (by omega)).trans ((F154 j (by omega)).trans ((F150 j (by omega)).trans ((F147 j (by omega)).trans ((F144 j (by omega)).trans ((F141 j (by omega)).trans ((F138 j (by omega)).trans ((F135 j (by omega)).trans ((F131 j (by omega)).trans ((F128 j (by omega)).trans ((F125 j (by omega)).trans ((F122 j (by omega)).trans ((F119 j (by omega)).trans ((F116 j (by omega)).trans ((F113 j (by omega)).trans ((F110 j (by omega)).trans ((F107 j (by omega)).trans ((F104 j (by omega)).trans ((F100 j (by omega)).trans ((F97 j (by omega)).trans ((F94 j (by omega)).trans ((F91 j (by omega)).trans ((F88 j (by omega)).trans ((F85 j (by omega)).trans ((F82 j (by omega)).trans ((F79 j (by omega)).trans ((F76 j (by omega)).trans ((F73 j (by omega)).trans ((F69 j (by omega)).trans ((F66 j (by omega)).trans ((F62 j (by omega)).trans ((F59 j (by omega)).trans ((F55 j (by omega)).trans ((F52 j (by omega)).trans ((F48 j (by omega)).trans ((F45 j (by omega)).trans ((F41 j (by omega)).trans ((F38 j (by omega)).trans ((F35 j (by omega)).trans ((F31 j (by omega)).trans ((F28 j (by omega)).trans ((F24 j (by omega)).trans ((F21 j (by omega)).trans ((F17 j (by omega)).trans ((F14 j (by omega)).trans ((F10 j (by omega)).trans ((F7 j (by omega)).trans (F3 j (by omega)))))))))))))))))))))))))))))))))))))))))))))))))))))))))))))))))))))))))))))))))))))))))))))))))))) ((F333 77 (by decide)).trans H330) ((F333 78 (by decide)).trans ((F329 78 (by decide)).trans ((F325 78 (by decide)).trans ((F321 78 (by decide)).trans ((F318 78 (by decide)).trans ((F315 78 (by decide)).trans ((F311 78 (by decide)).trans ((F308 78 (by decide)).trans ((F304 78 (by decide)).trans ((F301 78 (by decide)).trans ((F297 78 (by decide)).trans ((F294 78 (by decide)).trans ((F290 78 (by decide)).trans ((F287 78 (by decide)).trans ((F283 78 (by decide)).trans ((F280 78 (by decide)).trans ((F276 78 (by decide)).trans ((F273 78 (by decide)).trans ((F269 78 (by decide)).trans ((F266 78 (by decide)).trans ((F262 78 (by decide)).trans ((F259 78 (by decide)).trans ((F255 78 (by decide)).trans ((F252 78 (by decide)).trans ((F248 78 (by decide)).trans ((F245 78 (by decide)).trans ((F241 78 (by decide)).trans ((F238 78 (by decide)).trans ((F234 78 (by decide)).trans ((F231 78 (by decide)).trans ((F227 78 (by decide)).trans ((F224 78 (by decide)).trans ((F220 78 (by decide)).trans ((F217 78 (by decide)).trans ((F213 78 (by decide)).trans ((F210 78 (by decide)).trans ((F206 78 (by decide)).trans ((F203 78 (by decide)).trans ((F199 78 (by decide)).trans ((F196 78 (by decide)).trans ((F192 78 (by decide)).trans ((F189 78 (by decide)).trans ((F185 78 (by decide)).trans ((F182 78 (by decide)).trans ((F178 78 (by decide)).trans ((F175 78 (by decide)).trans ((F171 78 (by decide)).trans ((F168 78 (by decide)).trans ((F164 78 (by decide)).trans ((F161 78 (by decide)).trans ((F157 78 (by decide)).trans ((F154 78 (by decide)).trans ((F150 78 (by decide)).trans ((F147 78 (by decide)).trans ((F144 78 (by decide)).trans ((F141 78 (by decide)).trans ((F138 78 (by decide)).trans ((F135 78 (by decide)).trans ((F131 78 (by decide)).trans ((F128 78 (by decide)).trans ((F125 78 (by decide)).trans ((F122 78 (by decide)).trans ((F119 78 (by decide)).trans ((F116 78 (by decide)).trans ((F113 78 (by decide)).trans ((F110 78 (by decide)).trans ((F107 78 (by decide)).trans ((F104 78 (by decide)).trans ((F100 78 (by decide)).trans ((F97 78 (by decide)).trans ((F94 78 (by decide)).trans ((F91 78 (by decide)).trans ((F88 78 (by decide)).trans ((F85 78 (by decide)).trans ((F82 78 (by decide)).trans ((F79 78 (by decide)).trans ((F76 78 (by decide)).trans ((F73 78 (by decide)).trans ((F69 78 (by decide)).trans ((F66 78 (by decide)).trans ((F62 78 (by decide)).trans ((F59 78 (by decide)).trans ((F55 78 (by decide)).trans ((F52 78 (by decide)).trans ((F48 78 (by decide)).trans ((F45 78 (by decide)).trans ((F41 78 (by decide)).trans ((F38 78 (by decide)).trans ((F35 78 (by decide)).trans ((F31 78 (by decide)).trans ((F28 78 (by decide)).trans ((F24 78 (by decide)).trans ((F21 78 (by decide)).trans ((F17 78 (by decide)).trans ((F14 78 (by decide)).trans ((F10 78 (by decide)).trans ((F7 78 (by decide)).trans E2))))))))))))))))))))))))))))))))))))))))))))))))))))))))))))))))))))))))))))))))))))))))))))))))) (E332.trans (congrArg (aI 5780) (funext fun k => by rw [if_neg (by omega)]))) ((F333 80 (by decide)).trans ((F329 80 (by decide)).trans ((F325 80 (by decide)).trans ((F321 80 (by decide)).trans ((F318 80 (by decide)).trans ((F315 80 (by decide)).trans ((F311 80 (by decide)).trans ((F308 80 (by decide)).trans ((F304 80 (by decide)).trans ((F301 80 (by decide)).trans ((F297 80 (by decide)).trans ((F294 80 (by decide)).trans ((F290 80 (by decide)).trans ((F287 80 (by decide)).trans ((F283 80 (by decide)).trans ((F280 80 (by decide)).trans ((F276 80 (by decide)).trans ((F273 80 (by decide)).trans ((F269 80 (by decide)).trans ((F266 80 (by decide)).trans ((F262 80 (by decide)).trans ((F259 80 (by decide)).trans ((F255 80 (by decide)).trans ((F252 80 (by decide)).trans ((F248 80 (by decide)).trans ((F245 80 (by decide)).trans ((F241 80 (by decide)).trans ((F238 80 (by decide)).trans ((F234 80 (by decide)).trans ((F231 80 (by decide)).trans ((F227 80 (by decide)).trans ((F224 80 (by decide)).trans ((F220 80 (by decide)).trans ((F217 80 (by decide)).trans ((F213 80 (by decide)).trans ((F210 80 (by decide)).trans ((F206 80 (by decide)).trans ((F203 80 (by decide)).trans ((F199 80 (by decide)).trans ((F196 80 (by decide)).trans ((F192 80 (by decide)).trans ((F189 80 (by decide)).trans ((F185 80 (by decide)).trans ((F182 80 (by decide)).trans ((F178 80 (by decide)).trans ((F175 80 (by decide)).trans ((F171 80 (by decide)).trans ((F168 80 (by decide)).trans ((F164 80 (by decide)).trans ((F161 80 (by decide)).trans ((F157 80 (by decide)).trans ((F154 80 (by decide)).trans ((F150 80 (by decide)).trans ((F147 80 (by decide)).trans ((F144 80 (by decide)).trans ((F141 80 (by decide)).trans ((F138 80 (by decide)).trans ((F135 80 (by decide)).trans ((F131 80 (by decide)).trans ((F128 80 (by decide)).trans ((F125 80 (by decide)).trans ((F122 80 (by decide)).trans ((F119 80 (by decide)).trans ((F116 80 (by decide)).trans ((F113 80 (by decide)).trans ((F110 80 (by decide)).trans ((F107 80 (by decide)).trans ((F104 80 (by decide)).trans ((F100 80 (by decide)).trans ((F97 80 (by decide)).trans ((F94 80 (by decide)).trans ((F91 80 (by decide)).trans ((F88 80 (by decide)).trans ((F85 80 (by decide)).trans ((F82 80 (by decide)).trans ((F79 80 (by decide)).trans ((F76 80 (by decide)).trans ((F73 80 (by decide)).trans ((F69 80 (by decide)).trans ((F66 80 (by decide)).trans ((F62 80 (by decide)).trans ((F59 80 (by decide)).trans ((F55 80 (by decide)).trans ((F52 80 (by decide)).trans ((F48 80 (by decide)).trans ((F45 80 (by decide)).trans ((F41 80 (by decide)).trans ((F38 80 (by decide)).trans ((F35 80 (by decide)).trans ((F31 80 (by decide)).trans ((F28 80 (by decide)).trans ((F24 80 (by decide)).trans ((F21 80 (by decide)).trans E16))))))))))))))))))))))))))))))))))))))))))))))))))))))))))))))))))))))))))))))))))))))))))))) ((F333 81 (by decide)).trans ((F329 81 (by decide)).trans ((F325 81 (by decide)).trans ((F321 81 (by decide)).trans ((F318 81 (by decide)).trans ((F315 81 (by decide)).trans ((F311 81 (by decide)).trans ((F308 81 (by decide)).trans ((F304 81 (by decide)).trans ((F301 81 (by decide)).trans ((F297 81 (by decide)).trans ((F294 81 (by decide)).trans ((F290 81 (by decide)).trans ((F287 81 (by decide)).trans ((F283 81 (by decide)).trans ((F280 81 (by decide)).trans ((F276 81 (by decide)).trans ((F273 81 (by decide)).trans ((F269 81 (by decide)).trans ((F266 81 (by decide)).trans ((F262 81 (by decide)).trans ((F259 81 (by decide)).trans ((F255 81 (by decide)).trans ((F252 81 (by decide)).trans ((F248 81 (by decide)).trans ((F245 81 (by decide)).trans ((F241 81 (by decide)).trans ((F238 81 (by decide)).trans ((F234 81 (by decide)).trans ((F231 81 (by decide)).trans ((F227 81 (by decide)).trans ((F224 81 (by decide)).trans ((F220 81 (by decide)).trans ((F217 81 (by decide)).trans ((F213 81 (by decide)).trans ((F210 81 (by decide)).trans ((F206 81 (by decide)).trans ((F203 81 (by decide)).trans ((F199 81 (by decide)).trans ((F196 81 (by decide)).trans ((F192 81 (by decide)).trans ((F189 81 (by decide)).trans ((F185 81 (by decide)).trans ((F182 81 (by decide)).trans ((F178 81 (by decide)).trans ((F175 81 (by decide)).trans ((F171 81 (by decide)).trans ((F168 81 (by decide)).trans ((F164 81 (by decide)).trans ((F161 81 (by decide)).trans ((F157 81 (by decide)).trans ((F154 81 (by decide)).trans ((F150 81 (by decide)).trans ((F147 81 (by decide)).trans ((F144 81 (by decide)).trans ((F141 81 (by decide)).trans ((F138 81 (by decide)).trans ((F135 81 (by decide)).trans ((F131 81 (by decide)).trans ((F128 81 (by decide)).trans ((F125 81 (by decide)).trans ((F122 81 (by decide)).trans ((F119 81 (by decide)).trans ((F116 81 (by decide)).trans ((F113 81 (by decide)).trans ((F110 81 (by decide)).trans ((F107 81 (by decide)).trans ((F104 81 (by decide)).trans ((F100 81 (by decide)).trans ((F97 81 (by decide)).trans ((F94 81 (by decide)).trans ((F91 81 (by decide)).trans ((F88 81 (by decide)).trans ((F85 81 (by decide)).trans ((F82 81 (by decide)).trans ((F79 81 (by decide)).trans ((F76 81 (by decide)).trans ((F73 81 (by decide)).trans ((F69 81 (by decide)).trans ((F66 81 (by decide)).trans ((F62 81 (by decide)).trans ((F59 81 (by decide)).trans ((F55 81 (by decide)).trans ((F52 81 (by decide)).trans ((F48 81 (by decide)).trans ((F45 81 (by decide)).trans ((F41 81 (by decide)).trans ((F38 81 (by decide)).trans ((F35 81 (by decide)).trans ((F31 81 (by decide)).trans ((F28 81 (by decide)).trans E23))))))))))))))))))))))))))))))))))))))))))))))))))))))))))))))))))))))))))))))))))))))))))) ((F333 82 (by decide)).trans ((F329 82 (by decide)).trans ((F325 82 (by decide)).trans ((F321 82 (by decide)).trans ((F318 82 (by decide)).trans ((F315 82 (by decide)).trans ((F311 82 (by decide)).trans ((F308 82 (by decide)).trans ((F304 82 (by decide)).trans ((F301 82 (by decide)).trans ((F297 82 (by decide)).trans ((F294 82 (by decide)).trans ((F290 82 (by decide)).trans ((F287 82 (by decide)).trans ((F283 82 (by decide)).trans ((F280 82 (by decide)).trans ((F276 82 (by decide)).trans ((F273 82 (by decide)).trans ((F269 82 (by decide)).trans ((F266 82 (by decide)).trans ((F262 82 (by decide)).trans ((F259 82 (by decide)).trans ((F255 82 (by decide)).trans ((F252 82 (by decide)).trans ((F248 82 (by decide)).trans ((F245 82 (by decide)).trans ((F241 82 (by decide)).trans ((F238 82 (by decide)).trans ((F234 82 (by decide)).trans ((F231 82 (by decide)).trans ((F227 82 (by decide)).trans ((F224 82 (by decide)).trans ((F220 82 (by decide)).trans ((F217 82 (by decide)).trans ((F213 82 (by decide)).trans ((F210 82 (by decide)).trans ((F206 82 (by decide)).trans ((F203 82 (by decide)).trans ((F199 82 (by decide)).trans ((F196 82 (by decide)).trans ((F192 82 (by decide)).trans ((F189 82 (by decide)).trans ((F185 82 (by decide)).trans ((F182 82 (by decide)).trans ((F178 82 (by decide)).trans ((F175 82 (by decide)).trans ((F171 82 (by decide)).trans ((F168 82 (by decide)).trans ((F164 82 (by decide)).trans ((F161 82 (by decide)).trans ((F157 82 (by decide)).trans ((F154 82 (by decide)).trans ((F150 82 (by decide)).trans ((F147 82 (by decide)).trans ((F144 82 (by decide)).trans ((F141 82 (by decide)).trans ((F138 82 (by decide)).trans ((F135 82 (by decide)).trans ((F131 82 (by decide)).trans ((F128 82 (by decide)).trans ((F125 82 (by decide)).trans ((F122 82 (by decide)).trans ((F119 82 (by decide)).trans ((F116 82 (by decide)).trans ((F113 82 (by decide)).trans ((F110 82 (by decide)).trans ((F107 82 (by decide)).trans ((F104 82 (by decide)).trans ((F100 82 (by decide)).trans ((F97 82 (by decide)).trans ((F94 82 (by decide)).trans ((F91 82 (by decide)).trans ((F88 82 (by decide)).trans ((F85 82 (by decide)).trans ((F82 82 (by decide)).trans ((F79 82 (by decide)).trans ((F76 82 (by decide)).trans ((F73 82 (by decide)).trans ((F69 82 (by decide)).trans ((F66 82 (by decide)).trans ((F62 82 (by decide)).trans ((F59 82 (by decide)).trans ((F55 82 (by decide)).trans ((F52 82 (by decide)).trans ((F48 82 (by decide)).trans ((F45 82 (by decide)).trans ((F41 82 (by decide)).trans ((F38 82 (by decide)).trans ((F35 82 (by decide)).trans E30))))))))))))))))))))))))))))))))))))))))))))))))))))))))))))))))))))))))))))))))))))))))) ((F333 83 (by decide)).trans ((F329 83 (by decide)).trans ((F325 83 (by decide)).trans ((F321 83 (by decide)).trans ((F318 83 (by decide)).trans ((F315 83 (by decide)).trans ((F311 83 (by decide)).trans ((F308 83 (by decide)).trans ((F304 83 (by decide)).trans ((F301 83 (by decide)).trans ((F297 83 (by decide)).trans ((F294 83 (by decide)).trans ((F290 83 (by decide)).trans ((F287 83 (by decide)).trans ((F283 83 (by decide)).trans ((F280 83 (by decide)).trans ((F276 83 (by decide)).trans ((F273 83 (by decide)).trans ((F269 83 (by decide)).trans ((F266 83 (by decide)).trans ((F262 83 (by decide)).trans ((F259 83 (by decide)).trans ((F255 83 (by decide)).trans ((F252 83 (by decide)).trans ((F248 83 (by decide)).trans ((F245 83 (by decide)).trans ((F241 83 (by decide)).trans ((F238 83 (by decide)).trans ((F234 83 (by decide)).trans ((F231 83 (by decide)).trans ((F227 83 (by decide)).trans ((F224 83 (by decide)).trans ((F220 83 (by decide)).trans ((F217 83 (by decide)).trans ((F213 83 (by decide)).trans ((F210 83 (by decide)).trans ((F206 83 (by decide)).trans ((F203 83 (by decide)).trans ((F199 83 (by decide)).trans ((F196 83 (by decide)).trans ((F192 83 (by decide)).trans ((F189 83 (by decide)).trans ((F185 83 (by decide)).trans ((F182 83 (by decide)).trans ((F178 83 (by decide)).trans ((F175 83 (by decide)).trans ((F171 83 (by decide)).trans ((F168 83 (by decide)).trans ((F164 83 (by decide)).trans ((F161 83 (by decide)).trans ((F157 83 (by decide)).trans ((F154 83 (by decide)).trans ((F150 83 (by decide)).trans ((F147 83 (by decide)).trans ((F144 83 (by decide)).trans ((F141 83 (by decide)).trans ((F138 83 (by decide)).trans ((F135 83 (by decide)).trans ((F131 83 (by decide)).trans ((F128 83 (by decide)).trans ((F125 83 (by decide)).trans ((F122 83 (by decide)).trans ((F119 83 (by decide)).trans ((F116 83 (by decide)).trans ((F113 83 (by decide)).trans ((F110 83 (by decide)).trans ((F107 83 (by decide)).trans ((F104 83 (by decide)).trans ((F100 83 (by decide)).trans ((F97 83 (by decide)).trans ((F94 83 (by decide)).trans ((F91 83 (by decide)).trans ((F88 83 (by decide)).trans ((F85 83 (by decide)).trans ((F82 83 (by decide)).trans ((F79 83 (by decide)).trans ((F76 83 (by decide)).trans ((F73 83 (by decide)).trans ((F69 83 (by decide)).trans ((F66 83 (by decide)).trans ((F62 83 (by decide)).trans ((F59 83 (by decide)).trans ((F55 83 (by decide)).trans ((F52 83 (by decide)).trans ((F48 83 (by decide)).trans ((F45 83 (by decide)).trans E40)))))))))))))))))))))))))))))))))))))))))))))))))))))))))))))))))))))))))))))))))))))) ((F333 84 (by decide)).trans ((F329 84 (by decide)).trans ((F325 84 (by decide)).trans ((F321 84 (by decide)).trans ((F318 84 (by decide)).trans ((F315 84 (by decide)).trans ((F311 84 (by decide)).trans ((F308 84 (by decide)).trans ((F304 84 (by decide)).trans ((F301 84 (by decide)).trans ((F297 84 (by decide)).trans ((F294 84 (by decide)).trans ((F290 84 (by decide)).trans ((F287 84 (by decide)).trans ((F283 84 (by decide)).trans ((F280 84 (by decide)).trans ((F276 84 (by decide)).trans ((F273 84 (by decide)).trans ((F269 84 (by decide)).trans ((F266 84 (by decide)).trans ((F262 84 (by decide)).trans ((F259 84 (by decide)).trans ((F255 84 (by decide)).trans ((F252 84 (by decide)).trans ((F248 84 (by decide)).trans ((F245 84 (by decide)).trans ((F241 84 (by decide)).trans ((F238 84 (by decide)).trans ((F234 84 (by decide)).trans ((F231 84 (by decide)).trans ((F227 84 (by decide)).trans ((F224 84 (by decide)).trans ((F220 84 (by decide)).trans ((F217 84 (by decide)).trans ((F213 84 (by decide)).trans ((F210 84 (by decide)).trans ((F206 84 (by decide)).trans ((F203 84 (by decide)).trans ((F199 84 (by decide)).trans ((F196 84 (by decide)).trans ((F192 84 (by decide)).trans ((F189 84 (by decide)).trans ((F185 84 (by decide)).trans ((F182 84 (by decide)).trans ((F178 84 (by decide)).trans ((F175 84 (by decide)).trans ((F171 84 (by decide)).trans ((F168 84 (by decide)).trans ((F164 84 (by decide)).trans ((F161 84 (by decide)).trans ((F157 84 (by decide)).trans ((F154 84 (by decide)).trans ((F150 84 (by decide)).trans ((F147 84 (by decide)).trans ((F144 84 (by decide)).trans ((F141 84 (by decide)).trans ((F138 84 (by decide)).trans ((F135 84 (by decide)).trans ((F131 84 (by decide)).trans ((F128 84 (by decide)).trans ((F125 84 (by decide)).trans ((F122 84 (by decide)).trans ((F119 84 (by decide)).trans ((F116 84 (by decide)).trans ((F113 84 (by decide)).trans ((F110 84 (by decide)).trans ((F107 84 (by decide)).trans ((F104 84 (by decide)).trans ((F100 84 (by decide)).trans ((F97 84 (by decide)).trans ((F94 84 (by decide)).trans ((F91 84 (by decide)).trans ((F88 84 (by decide)).trans ((F85 84 (by decide)).trans ((F82 84 (by decide)).trans ((F79 84 (by decide)).trans ((F76 84 (by decide)).trans ((F73 84 (by decide)).trans ((F69 84 (by decide)).trans ((F66 84 (by decide)).trans ((F62 84 (by decide)).trans ((F59 84 (by decide)).trans ((F55 84 (by decide)).trans ((F52 84 (by decide)).trans E47)))))))))))))))))))))))))))))))))))))))))))))))))))))))))))))))))))))))))))))))))))) ((F333 85 (by decide)).trans ((F329 85 (by decide)).trans ((F325 85 (by decide)).trans ((F321 85 (by decide)).trans ((F318 85 (by decide)).trans ((F315 85 (by decide)).trans ((F311 85 (by decide)).trans ((F308 85 (by decide)).trans ((F304 85 (by decide)).trans ((F301 85 (by decide)).trans ((F297 85 (by decide)).trans ((F294 85 (by decide)).trans ((F290 85 (by decide)).trans ((F287 85 (by decide)).trans ((F283 85 (by decide)).trans ((F280 85 (by decide)).trans ((F276 85 (by decide)).trans ((F273 85 (by decide)).trans ((F269 85 (by decide)).trans ((F266 85 (by decide)).trans ((F262 85 (by decide)).trans ((F259 85 (by decide)).trans ((F255 85 (by decide)).trans ((F252 85 (by decide)).trans ((F248 85 (by decide)).trans ((F245 85 (by decide)).trans ((F241 85 (by decide)).trans ((F238 85 (by decide)).trans ((F234 85 (by decide)).trans ((F231 85 (by decide)).trans ((F227 85 (by decide)).trans ((F224 85 (by decide)).trans ((F220 85 (by decide)).trans ((F217 85 (by decide)).trans ((F213 85 (by decide)).trans ((F210 85 (by decide)).trans ((F206 85 (by decide)).trans ((F203 85 (by decide)).trans ((F199 85 (by decide)).trans ((F196 85 (by decide)).trans ((F192 85 (by decide)).trans ((F189 85 (by decide)).trans ((F185 85 (by decide)).trans ((F182 85 (by decide)).trans ((F178 85 (by decide)).trans ((F175 85 (by decide)).trans ((F171 85 (by decide)).trans ((F168 85 (by decide)).trans ((F164 85 (by decide)).trans ((F161 85 (by decide)).trans ((F157 85 (by decide)).trans ((F154 85 (by decide)).trans ((F150 85 (by decide)).trans ((F147 85 (by decide)).trans ((F144 85 (by decide)).trans ((F141 85 (by decide)).trans ((F138 85 (by decide)).trans ((F135 85 (by decide)).trans ((F131 85 (by decide)).trans ((F128 85 (by decide)).trans ((F125 85 (by decide)).trans ((F122 85 (by decide)).trans ((F119 85 (by decide)).trans ((F116 85 (by decide)).trans ((F113 85 (by decide)).trans ((F110 85 (by decide)).trans ((F107 85 (by decide)).trans ((F104 85 (by decide)).trans ((F100 85 (by decide)).trans ((F97 85 (by decide)).trans ((F94 85 (by decide)).trans ((F91 85 (by decide)).trans ((F88 85 (by decide)).trans ((F85 85 (by decide)).trans ((F82 85 (by decide)).trans ((F79 85 (by decide)).trans ((F76 85 (by decide)).trans ((F73 85 (by decide)).trans ((F69 85 (by decide)).trans ((F66 85 (by decide)).trans ((F62 85 (by decide)).trans ((F59 85 (by decide)).trans E54)))))))))))))))))))))))))))))))))))))))))))))))))))))))))))))))))))))))))))))))))) ((F333 86 (by decide)).trans ((F329 86 (by decide)).trans ((F325 86 (by decide)).trans ((F321 86 (by decide)).trans ((F318 86 (by decide)).trans ((F315 86 (by decide)).trans ((F311 86 (by decide)).trans ((F308 86 (by decide)).trans ((F304 86 (by decide)).trans ((F301 86 (by decide)).trans ((F297 86 (by decide)).trans ((F294 86 (by decide)).trans ((F290 86 (by decide)).trans ((F287 86 (by decide)).trans ((F283 86 (by decide)).trans ((F280 86 (by decide)).trans ((F276 86 (by decide)).trans ((F273 86 (by decide)).trans ((F269 86 (by decide)).trans ((F266 86 (by decide)).trans ((F262 86 (by decide)).trans ((F259 86 (by decide)).trans ((F255 86 (by decide)).trans ((F252 86 (by decide)).trans ((F248 86 (by decide)).trans ((F245 86 (by decide)).trans ((F241 86 (by decide)).trans ((F238 86 (by decide)).trans ((F234 86 (by decide)).trans ((F231 86 (by decide)).trans ((F227 86 (by decide)).trans ((F224 86 (by decide)).trans ((F220 86 (by decide)).trans ((F217 86 (by decide)).trans ((F213 86 (by decide)).trans ((F210 86 (by decide)).trans ((F206 86 (by decide)).trans ((F203 86 (by decide)).trans ((F199 86 (by decide)).trans ((F196 86 (by decide)).trans ((F192 86 (by decide)).trans ((F189 86 (by decide)).trans ((F185 86 (by decide)).trans ((F182 86 (by decide)).trans ((F178 86 (by decide)).trans ((F175 86 (by decide)).trans ((F171 86 (by decide)).trans ((F168 86 (by decide)).trans ((F164 86 (by decide)).trans ((F161 86 (by decide)).trans ((F157 86 (by decide)).trans ((F154 86 (by decide)).trans ((F150 86 (by decide)).trans ((F147 86 (by decide)).trans ((F144 86 (by decide)).trans ((F141 86 (by decide)).trans ((F138 86 (by decide)).trans ((F135 86 (by decide)).trans ((F131 86 (by decide)).trans ((F128 86 (by decide)).trans ((F125 86 (by decide)).trans ((F122 86 (by decide)).trans ((F119 86 (by decide)).trans ((F116 86 (by decide)).trans ((F113 86 (by decide)).trans ((F110 86 (by decide)).trans ((F107 86 (by decide)).trans ((F104 86 (by decide)).trans ((F100 86 (by decide)).trans ((F97 86 (by decide)).trans ((F94 86 (by decide)).trans ((F91 86 (by decide)).trans ((F88 86 (by decide)).trans ((F85 86 (by decide)).trans ((F82 86 (by decide)).trans ((F79 86 (by decide)).trans ((F76 86 (by decide)).trans ((F73 86 (by decide)).trans ((F69 86 (by decide)).trans ((F66 86 (by decide)).trans E61)))))))))))))))))))))))))))))))))))))))))))))))))))))))))))))))))))))))))))))))) ((F333 87 (by decide)).trans ((F329 87 (by decide)).trans ((F325 87 (by decide)).trans ((F321 87 (by decide)).trans ((F318 87 (by decide)).trans ((F315 87 (by decide)).trans ((F311 87 (by decide)).trans ((F308 87 (by decide)).trans ((F304 87 (by decide)).trans ((F301 87 (by decide)).trans ((F297 87 (by decide)).trans ((F294 87 (by decide)).trans ((F290 87 (by decide)).trans ((F287 87 (by decide)).trans ((F283 87 (by decide)).trans ((F280 87 (by decide)).trans ((F276 87 (by decide)).trans ((F273 87 (by decide)).trans ((F269 87 (by decide)).trans ((F266 87 (by decide)).trans ((F262 87 (by decide)).trans ((F259 87 (by decide)).trans ((F255 87 (by decide)).trans ((F252 87 (by decide)).trans ((F248 87 (by decide)).trans ((F245 87 (by decide)).trans ((F241 87 (by decide)).trans ((F238 87 (by decide)).trans ((F234 87 (by decide)).trans ((F231 87 (by decide)).trans ((F227 87 (by decide)).trans ((F224 87 (by decide)).trans ((F220 87 (by decide)).trans ((F217 87 (by decide)).trans ((F213 87 (by decide)).trans ((F210 87 (by decide)).trans ((F206 87 (by decide)).trans ((F203 87 (by decide)).trans ((F199 87 (by decide)).trans ((F196 87 (by decide)).trans ((F192 87 (by decide)).trans ((F189 87 (by decide)).trans ((F185 87 (by decide)).trans ((F182 87 (by decide)).trans ((F178 87 (by decide)).trans ((F175 87 (by decide)).trans ((F171 87 (by decide)).trans ((F168 87 (by decide)).trans ((F164 87 (by decide)).trans ((F161 87 (by decide)).trans ((F157 87 (by decide)).trans ((F154 87 (by decide)).trans ((F150 87 (by decide)).trans ((F147 87 (by decide)).trans ((F144 87 (by decide)).trans ((F141 87 (by decide)).trans ((F138 87 (by decide)).trans ((F135 87 (by decide)).trans ((F131 87 (by decide)).trans ((F128 87 (by decide)).trans ((F125 87 (by decide)).trans ((F122 87 (by decide)).trans ((F119 87 (by decide)).trans ((F116 87 (by decide)).trans ((F113 87 (by decide)).trans ((F110 87 (by decide)).trans ((F107 87 (by decide)).trans ((F104 87 (by decide)).trans ((F100 87 (by decide)).trans ((F97 87 (by decide)).trans ((F94 87 (by decide)).trans ((F91 87 (by decide)).trans ((F88 87 (by decide)).trans ((F85 87 (by decide)).trans ((F82 87 (by decide)).trans ((F79 87 (by decide)).trans ((F76 87 (by decide)).trans ((F73 87 (by decide)).trans E68)))))))))))))))))))))))))))))))))))))))))))))))))))))))))))))))))))))))))))))) ((F333 88 (by decide)).trans ((F329 88 (by decide)).trans ((F325 88 (by decide)).trans ((F321 88 (by decide)).trans ((F318 88 (by decide)).trans ((F315 88 (by decide)).trans ((F311 88 (by decide)).trans ((F308 88 (by decide)).trans ((F304 88 (by decide)).trans ((F301 88 (by decide)).trans ((F297 88 (by decide)).trans ((F294 88 (by decide)).trans ((F290 88 (by decide)).trans ((F287 88 (by decide)).trans ((F283 88 (by decide)).trans ((F280 88 (by decide)).trans ((F276 88 (by decide)).trans ((F273 88 (by decide)).trans ((F269 88 (by decide)).trans ((F266 88 (by decide)).trans ((F262 88 (by decide)).trans ((F259 88 (by decide)).trans ((F255 88 (by decide)).trans ((F252 88 (by decide)).trans ((F248 88 (by decide)).trans ((F245 88 (by decide)).trans ((F241 88 (by decide)).trans ((F238 88 (by decide)).trans ((F234 88 (by decide)).trans ((F231 88 (by decide)).trans ((F227 88 (by decide)).trans ((F224 88 (by decide)).trans ((F220 88 (by decide)).trans ((F217 88 (by decide)).trans ((F213 88 (by decide)).trans ((F210 88 (by decide)).trans ((F206 88 (by decide)).trans ((F203 88 (by decide)).trans ((F199 88 (by decide)).trans ((F196 88 (by decide)).trans ((F192 88 (by decide)).trans ((F189 88 (by decide)).trans ((F185 88 (by decide)).trans ((F182 88 (by decide)).trans ((F178 88 (by decide)).trans ((F175 88 (by decide)).trans ((F171 88 (by decide)).trans ((F168 88 (by decide)).trans ((F164 88 (by decide)).trans ((F161 88 (by decide)).trans ((F157 88 (by decide)).trans ((F154 88 (by decide)).trans ((F150 88 (by decide)).trans ((F147 88 (by decide)).trans ((F144 88 (by decide)).trans ((F141 88 (by decide)).trans ((F138 88 (by decide)).trans ((F135 88 (by decide)).trans ((F131 88 (by decide)).trans ((F128 88 (by decide)).trans ((F125 88 (by decide)).trans ((F122 88 (by decide)).trans ((F119 88 (by decide)).trans ((F116 88 (by decide)).trans ((F113 88 (by decide)).trans ((F110 88 (by decide)).trans ((F107 88 (by decide)).trans ((F104 88 (by decide)).trans E99)))))))))))))))))))))))))))))))))))))))))))))))))))))))))))))))))))) ((F333 89 (by decide)).trans ((F329 89 (by decide)).trans ((F325 89 (by decide)).trans ((F321 89 (by decide)).trans ((F318 89 (by decide)).trans ((F315 89 (by decide)).trans ((F311 89 (by decide)).trans ((F308 89 (by decide)).trans ((F304 89 (by decide)).trans ((F301 89 (by decide)).trans ((F297 89 (by decide)).trans ((F294 89 (by decide)).trans ((F290 89 (by decide)).trans ((F287 89 (by decide)).trans ((F283 89 (by decide)).trans ((F280 89 (by decide)).trans ((F276 89 (by decide)).trans ((F273 89 (by decide)).trans ((F269 89 (by decide)).trans ((F266 89 (by decide)).trans ((F262 89 (by decide)).trans ((F259 89 (by decide)).trans ((F255 89 (by decide)).trans ((F252 89 (by decide)).trans ((F248 89 (by decide)).trans ((F245 89 (by decide)).trans ((F241 89 (by decide)).trans ((F238 89 (by decide)).trans ((F234 89 (by decide)).trans ((F231 89 (by decide)).trans ((F227 89 (by decide)).trans ((F224 89 (by decide)).trans ((F220 89 (by decide)).trans ((F217 89 (by decide)).trans ((F213 89 (by decide)).trans ((F210 89 (by decide)).trans ((F206 89 (by decide)).trans ((F203 89 (by decide)).trans ((F199 89 (by decide)).trans ((F196 89 (by decide)).trans ((F192 89 (by decide)).trans ((F189 89 (by decide)).trans ((F185 89 (by decide)).trans ((F182 89 (by decide)).trans ((F178 89 (by decide)).trans ((F175 89 (by decide)).trans ((F171 89 (by decide)).trans ((F168 89 (by decide)).trans ((F164 89 (by decide)).trans ((F161 89 (by decide)).trans ((F157 89 (by decide)).trans ((F154 89 (by decide)).trans ((F150 89 (by decide)).trans ((F147 89 (by decide)).trans ((F144 89 (by decide)).trans ((F141 89 (by decide)).trans ((F138 89 (by decide)).trans ((F135 89 (by decide)).trans E130)))))))))))))))))))))))))))))))))))))))))))))))))))))))))) ((F333 90 (by decide)).trans ((F329 90 (by decide)).trans ((F325 90 (by decide)).trans ((F321 90 (by decide)).trans ((F318 90 (by decide)).trans ((F315 90 (by decide)).trans ((F311 90 (by decide)).trans ((F308 90 (by decide)).trans ((F304 90 (by decide)).trans ((F301 90 (by decide)).trans ((F297 90 (by decide)).trans ((F294 90 (by decide)).trans ((F290 90 (by decide)).trans ((F287 90 (by decide)).trans ((F283 90 (by decide)).trans ((F280 90 (by decide)).trans ((F276 90 (by decide)).trans ((F273 90 (by decide)).trans ((F269 90 (by decide)).trans ((F266 90 (by decide)).trans ((F262 90 (by decide)).trans ((F259 90 (by decide)).trans ((F255 90 (by decide)).trans ((F252 90 (by decide)).trans ((F248 90 (by decide)).trans ((F245 90 (by decide)).trans ((F241 90 (by decide)).trans ((F238 90 (by decide)).trans ((F234 90 (by decide)).trans ((F231 90 (by decide)).trans ((F227 90 (by decide)).trans ((F224 90 (by decide)).trans ((F220 90 (by decide)).trans ((F217 90 (by decide)).trans ((F213 90 (by decide)).trans ((F210 90 (by decide)).trans ((F206 90 (by decide)).trans ((F203 90 (by decide)).trans ((F199 90 (by decide)).trans ((F196 90 (by decide)).trans ((F192 90 (by decide)).trans ((F189 90 (by decide)).trans ((F185 90 (by decide)).trans ((F182 90 (by decide)).trans ((F178 90 (by decide)).trans ((F175 90 (by decide)).trans ((F171 90 (by decide)).trans ((F168 90 (by decide)).trans ((F164 90 (by decide)).trans ((F161 90 (by decide)).trans ((F157 90 (by decide)).trans ((F154 90 (by decide)).trans E149)))))))))))))))))))))))))))))))))))))))))))))))))))) ((F333 91 (by decide)).trans ((F329 91 (by decide)).trans ((F325 91 (by decide)).trans ((F321 91 (by decide)).trans ((F318 91 (by decide)).trans ((F315 91 (by decide)).trans ((F311 91 (by decide)).trans ((F308 91 (by decide)).trans ((F304 91 (by decide)).trans ((F301 91 (by decide)).trans ((F297 91 (by decide)).trans ((F294 91 (by decide)).trans ((F290 91 (by decide)).trans ((F287 91 (by decide)).trans ((F283 91 (by decide)).trans ((F280 91 (by decide)).trans ((F276 91 (by decide)).trans ((F273 91 (by decide)).trans ((F269 91 (by decide)).trans ((F266 91 (by decide)).trans ((F262 91 (by decide)).trans ((F259 91 (by decide)).trans ((F255 91 (by decide)).trans ((F252 91 (by decide)).trans ((F248 91 (by decide)).trans ((F245 91 (by decide)).trans ((F241 91 (by decide)).trans ((F238 91 (by decide)).trans ((F234 91 (by decide)).trans ((F231 91 (by decide)).trans ((F227 91 (by decide)).trans ((F224 91 (by decide)).trans ((F220 91 (by decide)).trans ((F217 91 (by decide)).trans ((F213 91 (by decide)).trans ((F210 91 (by decide)).trans ((F206 91 (by decide)).trans ((F203 91 (by decide)).trans ((F199 91 (by decide)).trans ((F196 91 (by decide)).trans ((F192 91 (by decide)).trans ((F189 91 (by decide)).trans ((F185 91 (by decide)).trans ((F182 91 (by decide)).trans ((F178 91 (by decide)).trans ((F175 91 (by decide)).trans ((F171 91 (by decide)).trans ((F168 91 (by decide)).trans ((F164 91 (by decide)).trans ((F161 91 (by decide)).trans E156)))))))))))))))))))))))))))))))))))))))))))))))))) ((F333 92 (by decide)).trans ((F329 92 (by decide)).trans ((F325 92 (by decide)).trans ((F321 92 (by decide)).trans ((F318 92 (by decide)).trans ((F315 92 (by decide)).trans ((F311 92 (by decide)).trans ((F308 92 (by decide)).trans ((F304 92 (by decide)).trans ((F301 92 (by decide)).trans ((F297 92 (by decide)).trans ((F294 92 (by decide)).trans ((F290 92 (by decide)).trans ((F287 92 (by decide)).trans ((F283 92 (by decide)).trans ((F280 92 (by decide)).trans ((F276 92 (by decide)).trans ((F273 92 (by decide)).trans ((F269 92 (by decide)).trans ((F266 92 (by decide)).trans ((F262 92 (by decide)).trans ((F259 92 (by decide)).trans ((F255 92 (by decide)).trans ((F252 92 (by decide)).trans ((F248 92 (by decide)).trans ((F245 92 (by decide)).trans ((F241 92 (by decide)).trans ((F238 92 (by decide)).trans ((F234 92 (by decide)).trans ((F231 92 (by decide)).trans ((F227 92 (by decide)).trans ((F224 92 (by decide)).trans ((F220 92 (by decide)).trans ((F217 92 (by decide)).trans ((F213 92 (by decide)).trans ((F210 92 (by decide)).trans ((F206 92 (by decide)).trans ((F203 92 (by decide)).trans ((F199 92 (by decide)).trans ((F196 92 (by decide)).trans ((F192 92 (by decide)).trans ((F189 92 (by decide)).trans ((F185 92 (by decide)).trans ((F182 92 (by decide)).trans ((F178 92 (by decide)).trans ((F175 92 (by decide)).trans ((F171 92 (by decide)).trans ((F168 92 (by decide)).trans E163)))))))))))))))))))))))))))))))))))))))))))))))) ((F333 93 (by decide)).trans ((F329 93 (by decide)).trans ((F325 93 (by decide)).trans ((F321 93 (by decide)).trans ((F318 93 (by decide)).trans ((F315 93 (by decide)).trans ((F311 93 (by decide)).trans ((F308 93 (by decide)).trans ((F304 93 (by decide)).trans ((F301 93 (by decide)).trans ((F297 93 (by decide)).trans ((F294 93 (by decide)).trans ((F290 93 (by decide)).trans ((F287 93 (by decide)).trans ((F283 93 (by decide)).trans ((F280 93 (by decide)).trans ((F276 93 (by decide)).trans ((F273 93 (by decide)).trans ((F269 93 (by decide)).trans ((F266 93 (by decide)).trans ((F262 93 (by decide)).trans ((F259 93 (by decide)).trans ((F255 93 (by decide)).trans ((F252 93 (by decide)).trans ((F248 93 (by decide)).trans ((F245 93 (by decide)).trans ((F241 93 (by decide)).trans ((F238 93 (by decide)).trans ((F234 93 (by decide)).trans ((F231 93 (by decide)).trans ((F227 93 (by decide)).trans ((F224 93 (by decide)).trans ((F220 93 (by decide)).trans ((F217 93 (by decide)).trans ((F213 93 (by decide)).trans ((F210 93 (by decide)).trans ((F206 93 (by decide)).trans ((F203 93 (by decide)).trans ((F199 93 (by decide)).trans ((F196 93 (by decide)).trans ((F192 93 (by decide)).trans ((F189 93 (by decide)).trans ((F185 93 (by decide)).trans ((F182 93 (by decide)).trans ((F178 93 (by decide)).trans ((F175 93 (by decide)).trans E170)))))))))))))))))))))))))))))))))))))))))))))) ((F333 94 (by decide)).trans ((F329 94 (by decide)).trans ((F325 94 (by decide)).trans ((F321 94 (by decide)).trans ((F318 94 (by decide)).trans ((F315 94 (by decide)).trans ((F311 94 (by decide)).trans ((F308 94 (by decide)).trans ((F304 94 (by decide)).trans ((F301 94 (by decide)).trans ((F297 94 (by decide)).trans ((F294 94 (by decide)).trans ((F290 94 (by decide)).trans ((F287 94 (by decide)).trans ((F283 94 (by decide)).trans ((F280 94 (by decide)).trans ((F276 94 (by decide)).trans ((F273 94 (by decide)).trans ((F269 94 (by decide)).trans ((F266 94 (by decide)).trans ((F262 94 (by decide)).trans ((F259 94 (by decide)).trans ((F255 94 (by decide)).trans ((F252 94 (by decide)).trans ((F248 94 (by decide)).trans ((F245 94 (by decide)).trans ((F241 94 (by decide)).trans ((F238 94 (by decide)).trans ((F234 94 (by decide)).trans ((F231 94 (by decide)).trans ((F227 94 (by decide)).trans ((F224 94 (by decide)).trans ((F220 94 (by decide)).trans ((F217 94 (by decide)).trans ((F213 94 (by decide)).trans ((F210 94 (by decide)).trans ((F206 94 (by decide)).trans ((F203 94 (by decide)).trans ((F199 94 (by decide)).trans ((F196 94 (by decide)).trans ((F192 94 (by decide)).trans ((F189 94 (by decide)).trans ((F185 94 (by decide)).trans ((F182 94 (by decide)).trans E177)))))))))))))))))))))))))))))))))))))))))))) ((F333 95 (by decide)).trans ((F329 95 (by decide)).trans ((F325 95 (by decide)).trans ((F321 95 (by decide)).trans ((F318 95 (by decide)).trans ((F315 95 (by decide)).trans ((F311 95 (by decide)).trans ((F308 95 (by decide)).trans ((F304 95 (by decide)).trans ((F301 95 (by decide)).trans ((F297 95 (by decide)).trans ((F294 95 (by decide)).trans ((F290 95 (by decide)).trans ((F287 95 (by decide)).trans ((F283 95 (by decide)).trans ((F280 95 (by decide)).trans ((F276 95 (by decide)).trans ((F273 95 (by decide)).trans ((F269 95 (by decide)).trans ((F266 95 (by decide)).trans ((F262 95 (by decide)).trans ((F259 95 (by decide)).trans ((F255 95 (by decide)).trans ((F252 95 (by decide)).trans ((F248 95 (by decide)).trans ((F245 95 (by decide)).trans ((F241 95 (by decide)).trans ((F238 95 (by decide)).trans ((F234 95 (by decide)).trans ((F231 95 (by decide)).trans ((F227 95 (by decide)).trans ((F224 95 (by decide)).trans ((F220 95 (by decide)).trans ((F217 95 (by decide)).trans ((F213 95 (by decide)).trans ((F210 95 (by decide)).trans ((F206 95 (by decide)).trans ((F203 95 (by decide)).trans ((F199 95 (by decide)).trans ((F196 95 (by decide)).trans ((F192 95 (by decide)).trans ((F189 95 (by decide)).trans E184)))))))))))))))))))))))))))))))))))))))))) ((F333 96 (by decide)).trans ((F329 96 (by decide)).trans ((F325 96 (by decide)).trans ((F321 96 (by decide)).trans ((F318 96 (by decide)).trans ((F315 96 (by decide)).trans ((F311 96 (by decide)).trans ((F308 96 (by decide)).trans ((F304 96 (by decide)).trans ((F301 96 (by decide)).trans ((F297 96 (by decide)).trans ((F294 96 (by decide)).trans ((F290 96 (by decide)).trans ((F287 96 (by decide)).trans ((F283 96 (by decide)).trans ((F280 96 (by decide)).trans ((F276 96 (by decide)).trans ((F273 96 (by decide)).trans ((F269 96 (by decide)).trans ((F266 96 (by decide)).trans ((F262 96 (by decide)).trans ((F259 96 (by decide)).trans ((F255 96 (by decide)).trans ((F252 96 (by decide)).trans ((F248 96 (by decide)).trans ((F245 96 (by decide)).trans ((F241 96 (by decide)).trans ((F238 96 (by decide)).trans ((F234 96 (by decide)).trans ((F231 96 (by decide)).trans ((F227 96 (by decide)).trans ((F224 96 (by decide)).trans ((F220 96 (by decide)).trans ((F217 96 (by decide)).trans ((F213 96 (by decide)).trans ((F210 96 (by decide)).trans ((F206 96 (by decide)).trans ((F203 96 (by decide)).trans ((F199 96 (by decide)).trans ((F196 96 (by decide)).trans E191)))))))))))))))))))))))))))))))))))))))) ((F333 97 (by decide)).trans ((F329 97 (by decide)).trans ((F325 97 (by decide)).trans ((F321 97 (by decide)).trans ((F318 97 (by decide)).trans ((F315 97 (by decide)).trans ((F311 97 (by decide)).trans ((F308 97 (by decide)).trans ((F304 97 (by decide)).trans ((F301 97 (by decide)).trans ((F297 97 (by decide)).trans ((F294 97 (by decide)).trans ((F290 97 (by decide)).trans ((F287 97 (by decide)).trans ((F283 97 (by decide)).trans ((F280 97 (by decide)).trans ((F276 97 (by decide)).trans ((F273 97 (by decide)).trans ((F269 97 (by decide)).trans ((F266 97 (by decide)).trans ((F262 97 (by decide)).trans ((F259 97 (by decide)).trans ((F255 97 (by decide)).trans ((F252 97 (by decide)).trans ((F248 97 (by decide)).trans ((F245 97 (by decide)).trans ((F241 97 (by decide)).trans ((F238 97 (by decide)).trans ((F234 97 (by decide)).trans ((F231 97 (by decide)).trans ((F227 97 (by decide)).trans ((F224 97 (by decide)).trans ((F220 97 (by decide)).trans ((F217 97 (by decide)).trans ((F213 97 (by decide)).trans ((F210 97 (by decide)).trans ((F206 97 (by decide)).trans ((F203 97 (by decide)).trans E198)))))))))))))))))))))))))))))))))))))) ((F333 98 (by decide)).trans ((F329 98 (by decide)).trans ((F325 98 (by decide)).trans ((F321 98 (by decide)).trans ((F318 98 (by decide)).trans ((F315 98 (by decide)).trans ((F311 98 (by decide)).trans ((F308 98 (by decide)).trans ((F304 98 (by decide)).trans ((F301 98 (by decide)).trans ((F297 98 (by decide)).trans ((F294 98 (by decide)).trans ((F290 98 (by decide)).trans ((F287 98 (by decide)).trans ((F283 98 (by decide)).trans ((F280 98 (by decide)).trans ((F276 98 (by decide)).trans ((F273 98 (by decide)).trans ((F269 98 (by decide)).trans ((F266 98 (by decide)).trans ((F262 98 (by decide)).trans ((F259 98 (by decide)).trans ((F255 98 (by decide)).trans ((F252 98 (by decide)).trans ((F248 98 (by decide)).trans ((F245 98 (by decide)).trans ((F241 98 (by decide)).trans ((F238 98 (by decide)).trans ((F234 98 (by decide)).trans ((F231 98 (by decide)).trans ((F227 98 (by decide)).trans ((F224 98 (by decide)).trans ((F220 98 (by decide)).trans ((F217 98 (by decide)).trans ((F213 98 (by decide)).trans ((F210 98 (by decide)).trans E205)))))))))))))))))))))))))))))))))))) ((F333 99 (by decide)).trans ((F329 99 (by decide)).trans ((F325 99 (by decide)).trans ((F321 99 (by decide)).trans ((F318 99 (by decide)).trans ((F315 99 (by decide)).trans ((F311 99 (by decide)).trans ((F308 99 (by decide)).trans ((F304 99 (by decide)).trans ((F301 99 (by decide)).trans ((F297 99 (by decide)).trans ((F294 99 (by decide)).trans ((F290 99 (by decide)).trans ((F287 99 (by decide)).trans ((F283 99 (by decide)).trans ((F280 99 (by decide)).trans ((F276 99 (by decide)).trans ((F273 99 (by decide)).trans ((F269 99 (by decide)).trans ((F266 99 (by decide)).trans ((F262 99 (by decide)).trans ((F259 99 (by decide)).trans ((F255 99 (by decide)).trans ((F252 99 (by decide)).trans ((F248 99 (by decide)).trans ((F245 99 (by decide)).trans ((F241 99 (by decide)).trans ((F238 99 (by decide)).trans ((F234 99 (by decide)).trans ((F231 99 (by decide)).trans ((F227 99 (by decide)).trans ((F224 99 (by decide)).trans ((F220 99 (by decide)).trans ((F217 99 (by decide)).trans E212)))))))))))))))))))))))))))))))))) ((F333 100 (by decide)).trans ((F329 100 (by decide)).trans ((F325 100 (by decide)).trans ((F321 100 (by decide)).trans ((F318 100 (by decide)).trans ((F315 100 (by decide)).trans ((F311 100 (by decide)).trans ((F308 100 (by decide)).trans ((F304 100 (by decide)).trans ((F301 100 (by decide)).trans ((F297 100 (by decide)).trans ((F294 100 (by decide)).trans ((F290 100 (by decide)).trans ((F287 100 (by decide)).trans ((F283 100 (by decide)).trans ((F280 100 (by decide)).trans ((F276 100 (by decide)).trans ((F273 100 (by decide)).trans ((F269 100 (by decide)).trans ((F266 100 (by decide)).trans ((F262 100 (by decide)).trans ((F259 100 (by decide)).trans ((F255 100 (by decide)).trans ((F252 100 (by decide)).trans ((F248 100 (by decide)).trans ((F245 100 (by decide)).trans ((F241 100 (by decide)).trans ((F238 100 (by decide)).trans ((F234 100 (by decide)).trans ((F231 100 (by decide)).trans ((F227 100 (by decide)).trans ((F224 100 (by decide)).trans E219)))))))))))))))))))))))))))))))) ((F333 101 (by decide)).trans ((F329 101 (by decide)).trans ((F325 101 (by decide)).trans ((F321 101 (by decide)).trans ((F318 101 (by decide)).trans ((F315 101 (by decide)).trans ((F311 101 (by decide)).trans ((F308 101 (by decide)).trans ((F304 101 (by decide)).trans ((F301 101 (by decide)).trans ((F297 101 (by decide)).trans ((F294 101 (by decide)).trans ((F290 101 (by decide)).trans ((F287 101 (by decide)).trans ((F283 101 (by decide)).trans ((F280 101 (by decide)).trans ((F276 101 (by decide)).trans ((F273 101 (by decide)).trans ((F269 101 (by decide)).trans ((F266 101 (by decide)).trans ((F262 101 (by decide)).trans ((F259 101 (by decide)).trans ((F255 101 (by decide)).trans ((F252 101 (by decide)).trans ((F248 101 (by decide)).trans ((F245 101 (by decide)).trans ((F241 101 (by decide)).trans ((F238 101 (by decide)).trans ((F234 101 (by decide)).trans ((F231 101 (by decide)).trans E226)))))))))))))))))))))))))))))) ((F333 102 (by decide)).trans ((F329 102 (by decide)).trans ((F325 102 (by decide)).trans ((F321 102 (by decide)).trans ((F318 102 (by decide)).trans ((F315 102 (by decide)).trans ((F311 102 (by decide)).trans ((F308 102 (by decide)).trans ((F304 102 (by decide)).trans ((F301 102 (by decide)).trans ((F297 102 (by decide)).trans ((F294 102 (by decide)).trans ((F290 102 (by decide)).trans ((F287 102 (by decide)).trans ((F283 102 (by decide)).trans ((F280 102 (by decide)).trans ((F276 102 (by decide)).trans ((F273 102 (by decide)).trans ((F269 102 (by decide)).trans ((F266 102 (by decide)).trans ((F262 102 (by decide)).trans ((F259 102 (by decide)).trans ((F255 102 (by decide)).trans ((F252 102 (by decide)).trans ((F248 102 (by decide)).trans ((F245 102 (by decide)).trans ((F241 102 (by decide)).trans ((F238 102 (by decide)).trans E233)))))))))))))))))))))))))))) ((F333 103 (by decide)).trans ((F329 103 (by decide)).trans ((F325 103 (by decide)).trans ((F321 103 (by decide)).trans ((F318 103 (by decide)).trans ((F315 103 (by decide)).trans ((F311 103 (by decide)).trans ((F308 103 (by decide)).trans ((F304 103 (by decide)).trans ((F301 103 (by decide)).trans ((F297 103 (by decide)).trans ((F294 103 (by decide)).trans ((F290 103 (by decide)).trans ((F287 103 (by decide)).trans ((F283 103 (by decide)).trans ((F280 103 (by decide)).trans ((F276 103 (by decide)).trans ((F273 103 (by decide)).trans ((F269 103 (by decide)).trans ((F266 103 (by decide)).trans ((F262 103 (by decide)).trans ((F259 103 (by decide)).trans ((F255 103 (by decide)).trans ((F252 103 (by decide)).trans ((F248 103 (by decide)).trans ((F245 103 (by decide)).trans E240)))))))))))))))))))))))))) ((F333 104 (by decide)).trans ((F329 104 (by decide)).trans ((F325 104 (by decide)).trans ((F321 104 (by decide)).trans ((F318 104 (by decide)).trans ((F315 104 (by decide)).trans ((F311 104 (by decide)).trans ((F308 104 (by decide)).trans ((F304 104 (by decide)).trans ((F301 104 (by decide)).trans ((F297 104 (by decide)).trans ((F294 104 (by decide)).trans ((F290 104 (by decide)).trans ((F287 104 (by decide)).trans ((F283 104 (by decide)).trans ((F280 104 (by decide)).trans ((F276 104 (by decide)).trans ((F273 104 (by decide)).trans ((F269 104 (by decide)).trans ((F266 104 (by decide)).trans ((F262 104 (by decide)).trans ((F259 104 (by decide)).trans ((F255 104 (by decide)).trans ((F252 104 (by decide)).trans E247)))))))))))))))))))))))) ((F333 105 (by decide)).trans ((F329 105 (by decide)).trans ((F325 105 (by decide)).trans ((F321 105 (by decide)).trans ((F318 105 (by decide)).trans ((F315 105 (by decide)).trans ((F311 105 (by decide)).trans ((F308 105 (by decide)).trans ((F304 105 (by decide)).trans ((F301 105 (by decide)).trans ((F297 105 (by decide)).trans ((F294 105 (by decide)).trans ((F290 105 (by decide)).trans ((F287 105 (by decide)).trans ((F283 105 (by decide)).trans ((F280 105 (by decide)).trans ((F276 105 (by decide)).trans ((F273 105 (by decide)).trans ((F269 105 (by decide)).trans ((F266 105 (by decide)).trans ((F262 105 (by decide)).trans ((F259 105 (by decide)).trans E254)))))))))))))))))))))) ((F333 106 (by decide)).trans ((F329 106 (by decide)).trans ((F325 106 (by decide)).trans ((F321 106 (by decide)).trans ((F318 106 (by decide)).trans ((F315 106 (by decide)).trans ((F311 106 (by decide)).trans ((F308 106 (by decide)).trans ((F304 106 (by decide)).trans ((F301 106 (by decide)).trans ((F297 106 (by decide)).trans ((F294 106 (by decide)).trans ((F290 106 (by decide)).trans ((F287 106 (by decide)).trans ((F283 106 (by decide)).trans ((F280 106 (by decide)).trans ((F276 106 (by decide)).trans ((F273 106 (by decide)).trans ((F269 106 (by decide)).trans ((F266 106 (by decide)).trans E261)))))))))))))))))))) ((F333 107 (by decide)).trans ((F329 107 (by decide)).trans ((F325 107 (by decide)).trans ((F321 107 (by decide)).trans ((F318 107 (by decide)).trans ((F315 107 (by decide)).trans ((F311 107 (by decide)).trans ((F308 107 (by decide)).trans ((F304 107 (by decide)).trans ((F301 107 (by decide)).trans ((F297 107 (by decide)).trans ((F294 107 (by decide)).trans ((F290 107 (by decide)).trans ((F287 107 (by decide)).trans ((F283 107 (by decide)).trans ((F280 107 (by decide)).trans ((F276 107 (by decide)).trans ((F273 107 (by decide)).trans E268)))))))))))))))))) ((F333 108 (by decide)).trans ((F329 108 (by decide)).trans ((F325 108 (by decide)).trans ((F321 108 (by decide)).trans ((F318 108 (by decide)).trans ((F315 108 (by decide)).trans ((F311 108 (by decide)).trans ((F308 108 (by decide)).trans ((F304 108 (by decide)).trans ((F301 108 (by decide)).trans ((F297 108 (by decide)).trans ((F294 108 (by decide)).trans ((F290 108 (by decide)).trans ((F287 108 (by decide)).trans ((F283 108 (by decide)).trans ((F280 108 (by decide)).trans E275)))))))))))))))) ((F333 109 (by decide)).trans ((F329 109 (by decide)).trans ((F325 109 (by decide)).trans ((F321 109 (by decide)).trans ((F318 109 (by decide)).trans ((F315 109 (by decide)).trans ((F311 109 (by decide)).trans ((F308 109 (by decide)).trans ((F304 109 (by decide)).trans ((F301 109 (by decide)).trans ((F297 109 (by decide)).trans ((F294 109 (by decide)).trans ((F290 109 (by decide)).trans ((F287 109 (by decide)).trans E282)))))))))))))) ((F333 110 (by decide)).trans ((F329 110 (by decide)).trans ((F325 110 (by decide)).trans ((F321 110 (by decide)).trans ((F318 110 (by decide)).trans ((F315 110 (by decide)).trans ((F311 110 (by decide)).trans ((F308 110 (by decide)).trans ((F304 110 (by decide)).trans ((F301 110 (by decide)).trans ((F297 110 (by decide)).trans ((F294 110 (by decide)).trans E289)))))))))))) ((F333 111 (by decide)).trans ((F329 111 (by decide)).trans ((F325 111 (by decide)).trans ((F321 111 (by decide)).trans ((F318 111 (by decide)).trans ((F315 111 (by decide)).trans ((F311 111 (by decide)).trans ((F308 111 (by decide)).trans ((F304 111 (by decide)).trans ((F301 111 (by decide)).trans E296)))))))))) ((F333 112 (by decide)).trans ((F329 112 (by decide)).trans ((F325 112 (by decide)).trans ((F321 112 (by decide)).trans ((F318 112 (by decide)).trans ((F315 112 (by decide)).trans ((F311 112 (by decide)).trans ((F308 112 (by decide)).trans E303)))))))) ((F333 113 (by decide)).trans ((F329 113 (by decide)).trans ((F325 113 (by decide)).trans ((F321 113 (by decide)).trans ((F318 113 (by decide)).trans ((F315 113 (by decide)).trans E310)))))) ((F333 114 (by decide)).trans ((F329 114 (by decide)).trans ((F325 114 (by decide)).trans E320)))
theorem dX11_init_0 : decode cX11_init 0 = .ok (.aload_n 0, 1) := by decide +kernel
theorem dX11_init_1 : decode cX11_init 1 = .ok (.invokespecial 3, 3) := by decide +kernel
theorem dX11_init_4 : decode cX11_init 4 = .ok (.aload_n 0, 1) := by decide +kernel
theorem dX11_init_5 : decode cX11_init 5 = .ok (.new 9, 3) := by decide +kernel
theorem dX11_init_8 : decode cX11_init 8 = .ok (.dup, 1) := by decide +kernel
theorem dX11_init_9 : decode cX11_init 9 = .ok (.invokespecial 11, 3) := by decide +kernel
theorem dX11_init_12 : decode cX11_init 12 = .ok (.putfield 12, 3) := by decide +kernel
theorem dX11_init_15 : decode cX11_init 15 = .ok (.aload_n 0, 1) := by decide +kernel
theorem dX11_init_16 : decode cX11_init 16 = .ok (.iconst 2, 1) := by decide +kernel
theorem dX11_init_17 : decode cX11_init 17 = .ok (.anewarray 9, 3) := by decide +kernel
theorem dX11_init_20 : decode cX11_init 20 = .ok (.putfield 16, 3) := by decide +kernel
theorem dX11_init_23 : decode cX11_init 23 = .ok (.aload_n 0, 1) := by decide +kernel
theorem dX11_init_24 : decode cX11_init 24 = .ok (.getfield 16, 3) := by decide +kernel
theorem dX11_init_27 : decode cX11_init 27 = .ok (.iconst 0, 1) := by decide +kernel
theorem dX11_init_28 : decode cX11_init 28 = .ok (.new 9, 3) := by decide +kernel
theorem dX11_init_31 : decode cX11_init 31 = .ok (.dup, 1) := by decide +kernel
theorem dX11_init_32 : decode cX11_init 32 = .ok (.invokespecial 11, 3) := by decide +kernel
theorem dX11_init_35 : decode cX11_init 35 = .ok (.aastore, 1) := by decide +kernel
theorem dX11_init_36 : decode cX11_init 36 = .ok (.aload_n 0, 1) := by decide +kernel
theorem dX11_init_37 : decode cX11_init 37 = .ok (.getfield 16, 3) := by decide +kernel
theorem dX11_init_40 : decode cX11_init 40 = .ok (.iconst 1, 1) := by decide +kernel
theorem dX11_init_41 : decode cX11_init 41 = .ok (.new 9, 3) := by decide +kernel
theorem dX11_init_44 : decode cX11_init 44 = .ok (.dup, 1) := by decide +kernel
theorem dX11_init_45 : decode cX11_init 45 = .ok (.invokespecial 11, 3) := by decide +kernel
theorem dX11_init_48 : decode cX11_init 48 = .ok (.aastore, 1) := by decide +kernel
theorem dX11_init_49 : decode cX11_init 49 = .ok (.aload_n 0, 1) := by decide +kernel
theorem dX11_init_50 : decode cX11_init 50 = .ok (.iconst 2, 1) := by decide +kernel
theorem dX11_init_51 : decode cX11_init 51 = .ok (.newarray .boolean, 2) := by decide +kernel
theorem dX11_init_53 : decode cX11_init 53 = .ok (.putfield 20, 3) := by decide +kernel
theorem dX11_init_56 : decode cX11_init 56 = .ok (.aload_n 0, 1) := by decide +kernel
theorem dX11_init_57 : decode cX11_init 57 = .ok (.new 24, 3) := by decide +kernel
theorem dX11_init_60 : decode cX11_init 60 = .ok (.dup, 1) := by decide +kernel
theorem dX11_init_61 : decode cX11_init 61 = .ok (.invokespecial 26, 3) := by decide +kernel
theorem dX11_init_64 : decode cX11_init 64 = .ok (.putfield 27, 3) := by decide +kernel
theorem dX11_init_67 : decode cX11_init 67 = .ok (.aload_n 0, 1) := by decide +kernel
theorem dX11_init_68 : decode cX11_init 68 = .ok (.new 31, 3) := by decide +kernel
theorem dX11_init_71 : decode cX11_init 71 = .ok (.dup, 1) := by decide +kernel
theorem dX11_init_72 : decode cX11_init 72 = .ok (.invokespecial 33, 3) := by decide +kernel
theorem dX11_init_75 : decode cX11_init 75 = .ok (.putfield 34, 3) := by decide +kernel
theorem dX11_init_78 : decode cX11_init 78 = .ok (.aload_n 0, 1) := by decide +kernel
theorem dX11_init_79 : decode cX11_init 79 = .ok (.new 38, 3) := by decide +kernel
theorem dX11_init_82 : decode cX11_init 82 = .ok (.dup, 1) := by decide +kernel
theorem dX11_init_83 : decode cX11_init 83 = .ok (.aload_n 0, 1) := by decide +kernel
theorem dX11_init_84 : decode cX11_init 84 = .ok (.getfield 12, 3) := by decide +kernel
theorem dX11_init_87 : decode cX11_init 87 = .ok (.invokespecial 40, 3) := by decide +kernel
theorem dX11_init_90 : decode cX11_init 90 = .ok (.putfield 43, 3) := by decide +kernel
theorem dX11_init_93 : decode cX11_init 93 = .ok (.aload_n 0, 1) := by decide +kernel
theorem dX11_init_94 : decode cX11_init 94 = .ok (.new 47, 3) := by decide +kernel
theorem dX11_init_97 : decode cX11_init 97 = .ok (.dup, 1) := by decide +kernel
theorem dX11_init_98 : decode cX11_init 98 = .ok (.aload_n 0, 1) := by decide +kernel
theorem dX11_init_99 : decode cX11_init 99 = .ok (.getfield 12, 3) := by decide +kernel
theorem dX11_init_102 : decode cX11_init 102 = .ok (.aload_n 0, 1) := by decide +kernel
theorem dX11_init_103 : decode cX11_init 103 = .ok (.getfield 43, 3) := by decide +kernel
theorem dX11_init_106 : decode cX11_init 106 = .ok (.invokespecial 49, 3) := by decide +kernel
theorem dX11_init_109 : decode cX11_init 109 = .ok (.putfield 52, 3) := by decide +kernel
theorem dX11_init_112 : decode cX11_init 112 = .ok (.aload_n 0, 1) := by decide +kernel
theorem dX11_init_113 : decode cX11_init 113 = .ok (.new 56, 3) := by decide +kernel
theorem dX11_init_116 : decode cX11_init 116 = .ok (.dup, 1) := by decide +kernel
theorem dX11_init_117 : decode cX11_init 117 = .ok (.aload_n 0, 1) := by decide +kernel
theorem dX11_init_118 : decode cX11_init 118 = .ok (.getfield 12, 3) := by decide +kernel
theorem dX11_init_121 : decode cX11_init 121 = .ok (.aload_n 0, 1) := by decide +kernel
theorem dX11_init_122 : decode cX11_init 122 = .ok (.getfield 43, 3) := by decide +kernel
theorem dX11_init_125 : decode cX11_init 125 = .ok (.invokespecial 58, 3) := by decide +kernel
theorem dX11_init_128 : decode cX11_init 128 = .ok (.putfield 59, 3) := by decide +kernel
theorem dX11_init_131 : decode cX11_init 131 = .ok (.aload_n 0, 1) := by decide +kernel
theorem dX11_init_132 : decode cX11_init 132 = .ok (.new 63, 3) := by decide +kernel
theorem dX11_init_135 : decode cX11_init 135 = .ok (.dup, 1) := by decide +kernel
theorem dX11_init_136 : decode cX11_init 136 = .ok (.aload_n 0, 1) := by decide +kernel
theorem dX11_init_137 : decode cX11_init 137 = .ok (.getfield 12, 3) := by decide +kernel
theorem dX11_init_140 : decode cX11_init 140 = .ok (.aload_n 0, 1) := by decide +kernel
theorem dX11_init_141 : decode cX11_init 141 = .ok (.getfield 43, 3) := by decide +kernel
theorem dX11_init_144 : decode cX11_init 144 = .ok (.invokespecial 65, 3) := by decide +kernel
theorem dX11_init_147 : decode cX11_init 147 = .ok (.putfield 66, 3) := by decide +kernel
theorem dX11_init_150 : decode cX11_init 150 = .ok (.aload_n 0, 1) := by decide +kernel
theorem dX11_init_151 : decode cX11_init 151 = .ok (.new 70, 3) := by decide +kernel
theorem dX11_init_154 : decode cX11_init 154 = .ok (.dup, 1) := by decide +kernel
theorem dX11_init_155 : decode cX11_init 155 = .ok (.aload_n 0, 1) := by decide +kernel
theorem dX11_init_156 : decode cX11_init 156 = .ok (.getfield 12, 3) := by decide +kernel
theorem dX11_init_159 : decode cX11_init 159 = .ok (.aload_n 0, 1) := by decide +kernel
theorem dX11_init_160 : decode cX11_init 160 = .ok (.getfield 43, 3) := by decide +kernel
theorem dX11_init_163 : decode cX11_init 163 = .ok (.aload_n 0, 1) := by decide +kernel
theorem dX11_init_164 : decode cX11_init 164 = .ok (.getfield 66, 3) := by decide +kernel
theorem dX11_init_167 : decode cX11_init 167 = .ok (.invokespecial 72, 3) := by decide +kernel
theorem dX11_init_170 : decode cX11_init 170 = .ok (.putfield 75, 3) := by decide +kernel
theorem dX11_init_173 : decode cX11_init 173 = .ok (.aload_n 0, 1) := by decide +kernel
theorem dX11_init_174 : decode cX11_init 174 = .ok (.new 79, 3) := by decide +kernel
theorem dX11_init_177 : decode cX11_init 177 = .ok (.dup, 1) := by decide +kernel
theorem dX11_init_178 : decode cX11_init 178 = .ok (.aload_n 0, 1) := by decide +kernel
theorem dX11_init_179 : decode cX11_init 179 = .ok (.getfield 12, 3) := by decide +kernel
theorem dX11_init_182 : decode cX11_init 182 = .ok (.aload_n 0, 1) := by decide +kernel
theorem dX11_init_183 : decode cX11_init 183 = .ok (.getfield 66, 3) := by decide +kernel
theorem dX11_init_186 : decode cX11_init 186 = .ok (.invokespecial 81, 3) := by decide +kernel
theorem dX11_init_189 : decode cX11_init 189 = .ok (.putfield 84, 3) := by decide +kernel
theorem dX11_init_192 : decode cX11_init 192 = .ok (.aload_n 0, 1) := by decide +kernel
theorem dX11_init_193 : decode cX11_init 193 = .ok (.new 88, 3) := by decide +kernel
theorem dX11_init_196 : decode cX11_init 196 = .ok (.dup, 1) := by decide +kernel
theorem dX11_init_197 : decode cX11_init 197 = .ok (.aload_n 0, 1) := by decide +kernel
theorem dX11_init_198 : decode cX11_init 198 = .ok (.getfield 12, 3) := by decide +kernel
theorem dX11_init_201 : decode cX11_init 201 = .ok (.invokespecial 90, 3) := by decide +kernel
theorem dX11_init_204 : decode cX11_init 204 = .ok (.putfield 91, 3) := by decide +kernel
theorem dX11_init_207 : decode cX11_init 207 = .ok (.aload_n 0, 1) := by decide +kernel
theorem dX11_init_208 : decode cX11_init 208 = .ok (.iconst 5, 1) := by decide +kernel
theorem dX11_init_209 : decode cX11_init 209 = .ok (.newarray .int, 2) := by decide +kernel
theorem dX11_init_211 : decode cX11_init 211 = .ok (.putfield 95, 3) := by decide +kernel
theorem dX11_init_214 : decode cX11_init 214 = .ok (.aload_n 0, 1) := by decide +kernel
theorem dX11_init_215 : decode cX11_init 215 = .ok (.iconst 0, 1) := by decide +kernel
theorem dX11_init_216 : decode cX11_init 216 = .ok (.putfield 99, 3) := by decide +kernel
theorem dX11_init_219 : decode cX11_init 219 = .ok (.aload_n 0, 1) := by decide +kernel
theorem dX11_init_220 : decode cX11_init 220 = .ok (.iconst 0, 1) := by decide +kernel
theorem dX11_init_221 : decode cX11_init 221 = .ok (.putfield 103, 3) := by decide +kernel
theorem dX11_init_224 : decode cX11_init 224 = .ok (.aload_n 0, 1) := by decide +kernel
theorem dX11_init_225 : decode cX11_init 225 = .ok (.iconst (-1), 1) := by decide +kernel
theorem dX11_init_226 : decode cX11_init 226 = .ok (.putfield 106, 3) := by decide +kernel
theorem dX11_init_229 : decode cX11_init 229 = .ok (.aload_n 0, 1) := by decide +kernel
theorem dX11_init_230 : decode cX11_init 230 = .ok (.iconst (-1), 1) := by decide +kernel
theorem dX11_init_231 : decode cX11_init 231 = .ok (.putfield 109, 3) := by decide +kernel
theorem dX11_init_234 : decode cX11_init 234 = .ok (.aload_n 0, 1) := by decide +kernel
theorem dX11_init_235 : decode cX11_init 235 = .ok (.iconst 0, 1) := by decide +kernel
theorem dX11_init_236 : decode cX11_init 236 = .ok (.putfield 112, 3) := by decide +kernel
theorem dX11_init_239 : decode cX11_init 239 = .ok (.return_, 1) := by decide +kernel
set_option maxRecDepth 20000 in
theorem sp_X11_init_0 {h : Nat → sE} (ho : h 0 = .inr (11, [.null, .null, .null, .null, .null, .null, .null, .null, .null, .null, .null, .null, .null, .int (iI 0), .int (iI 0), .int (iI 0), .int (iI 0), .int (iI 0)])) : Sp m_X11_init 4 76 44316 [.ref 0] 1 h (fun r n' h' => r = none ∧ n' = 77 ∧ (∀ j, j < 0 → h' j = h j) ∧ h' 0 = .inr (11, [.ref 1, .ref 11, .ref 32, .ref 33, .ref 40, .ref 44, .ref 49, .ref 52, .ref 58, .ref 60, .ref 68, .ref 70, .ref 76, .int (iI 0), .int (iI 0), .int (iI (-1)), .int (iI (-1)), .int (iI 0)]) ∧ h' 1 = .inr (3, [.ref 2, .ref 3, .ref 4, .ref 5, .ref 6, .ref 7, .ref 8, .ref 9, .ref 10, .int (iI 0), .int (iI 0), .int (iI 0), .int (iI 0), .int (iI 0), .int (iI (-1))]) ∧ h' 2 = aI 192 (fun k => if 64 ≤ k ∧ k < 128 then 100 else 0) ∧ h' 3 = aI 3 (fun _ => 0) ∧ h' 4 = aI 3 (fun _ => 0) ∧ h' 5 = aI 25 (fun _ => 0) ∧ h' 6 = aI 72 (fun _ => 0) ∧ h' 7 = aI 40 (fun _ => 0) ∧ h' 8 = aI 30 (fun _ => 0) ∧ h' 9 = aI 3 (uI (uI (uI (fun _ => 0) 0 0) 1 2) 2 0) ∧ h' 10 = qI 6 "ShadowHerds$Script" (fun _ => -1) ∧ h' 11 = qI 2 "ShadowHerds$Plain" (uI (uI (fun _ => -1) 0 12) 1 22) ∧ h' 12 = .inr (3, [.ref 13, .ref 14, .ref 15, .ref 16, .ref 17, .ref 18, .ref 19, .ref 20, .ref 21, .int (iI 0), .int (iI 0), .int (iI 0), .int (iI 0), .int (iI 0), .int (iI (-1))]) ∧ h' 13 = aI 192 (fun k => if 64 ≤ k ∧ k < 128 then 100 else 0) ∧ h' 14 = aI 3 (fun _ => 0) ∧ h' 15 = aI 3 (fun _ => 0) ∧ h' 16 = aI 25 (fun _ => 0) ∧ h' 17 = aI 72 (fun _ => 0) ∧ h' 18 = aI 40 (fun _ => 0) ∧ h' 19 = aI 30 (fun _ => 0) ∧ h' 20 = aI 3 (uI (uI (uI (fun _ => 0) 0 0) 1 2) 2 0) ∧ h' 21 = qI 6 "ShadowHerds$Script" (fun _ => -1) ∧ h' 22 = .inr (3, [.ref 23, .ref 24, .ref 25, .ref 26, .ref 27, .ref 28, .ref 29, .ref 30, .ref 31, .int (iI 0), .int (iI 0), .int (iI 0), .int (iI 0), .int (iI 0), .int (iI (-1))]) ∧ h' 23 = aI 192 (fun k => if 64 ≤ k ∧ k < 128 then 100 else 0) ∧ h' 24 = aI 3 (fun _ => 0) ∧ h' 25 = aI 3 (fun _ => 0) ∧ h' 26 = aI 25 (fun _ => 0) ∧ h' 27 = aI 72 (fun _ => 0) ∧ h' 28 = aI 40 (fun _ => 0) ∧ h' 29 = aI 30 (fun _ => 0) ∧ h' 30 = aI 3 (uI (uI (uI (fun _ => 0) 0 0) 1 2) 2 0) ∧ h' 31 = qI 6 "ShadowHerds$Script" (fun _ => -1) ∧ h' 32 = zI 2 (fun _ => 0) ∧ h' 33 = .inr (5, [.ref 34, .ref 35, .ref 36, .ref 37, .int (iI 0), .int (iI 0), .int (iI 0), .int (iI 0), .int (iI (-1)), .int (iI 0)]) ∧ h' 34 = aI 400 (fun _ => 0) ∧ h' 35 = aI 401 (fun _ => 0) ∧ h' 36 = aI 401 (fun _ => 0) ∧ h' 37 = .inr (7, [.ref 38, .ref 39, .int (iI 0), .int (iI 0), .int (iI 0)]) ∧ h' 38 = aI 72 (fun _ => 0) ∧ h' 39 = aI 800 (fun _ => 0) ∧ h' 40 = .inr (6, [.ref 41, .ref 42, .ref 43]) ∧ h' 41 = aI 13 (fun _ => 0) ∧ h' 42 = aI 120 (fun _ => 0) ∧ h' 43 = aI 64 (fun _ => 0) ∧ h' 44 = .inr (0, [.ref 1, .ref 45]) ∧ h' 45 = .inr (6, [.ref 46, .ref 47, .ref 48]) ∧ h' 46 = aI 13 (fun _ => 0) ∧ h' 47 = aI 120 (fun _ => 0) ∧ h' 48 = aI 64 (fun _ => 0) ∧ h' 49 = .inr (8, [.ref 1, .ref 44, .ref 50, .ref 51]) ∧ h' 50 = aI 55 (fun _ => 0) ∧ h' 51 = aI 60 (fun _ => 0) ∧ h' 52 = .inr (9, [.ref 1, .ref 44, .ref 55, .ref 53, .ref 54, .int (iI 0), .int (iI 0)]) ∧ h' 53 = aI 4608 (fun _ => 0) ∧ h' 54 = aI 64 (fun _ => 0) ∧ h' 55 = .inr (8, [.ref 1, .ref 44, .ref 56, .ref 57]) ∧ h' 56 = aI 55 (fun _ => 0) ∧ h' 57 = aI 60 (fun _ => 0) ∧ h' 58 = .inr (2, [.ref 1, .ref 44, .ref 59, .int (iI (-1)), .int (iI 0), .int (iI 0)]) ∧ h' 59 = aI 6924 (fun _ => 0) ∧ h' 60 = .inr (4, [.ref 1, .ref 44, .ref 58, .ref 61, .ref 62, .ref 63, .ref 64, .ref 65, .ref 66, .ref 67]) ∧ h' 61 = aI 6924 (fun _ => 0) ∧ h' 62 = aI 13848 (fun _ => 0) ∧ h' 63 = lI 6347 (fun _ => 0) ∧ h' 64 = aI 64 (fun _ => 0) ∧ h' 65 = aI 288 (fun _ => 0) ∧ h' 66 = aI 24 (fun _ => 0) ∧ h' 67 = aI 24 (fun _ => 0) ∧ h' 68 = .inr (1, [.ref 1, .ref 58, .ref 69, .int (iI 0), .int (iI 4)]) ∧ h' 69 = lI 1154 (fun _ => 0) ∧ h' 70 = .inr (10, [.ref 1, .ref 71, .ref 72, .ref 73, .ref 74, .ref 75]) ∧ h' 71 = aI 12 (fun _ => 0) ∧ h' 72 = aI 24 (fun _ => 0) ∧ h' 73 = aI 24 (fun _ => 0) ∧ h' 74 = aI 24 (fun _ => 0) ∧ h' 75 = aI 24 (fun _ => 0) ∧ h' 76 = aI 5 (fun _ => 0)) := by
  refine Sp.ofV (by decide +kernel) (Nat.le_of_ble_eq_true rfl) ?_
  refine v_aload_n dX11_init_0 rfl ?_
  refine v_objInit dX11_init_1 ml_X11_3 (by decide) (Nat.le_of_ble_eq_true rfl) ?_
  refine v_aload_n dX11_init_4 rfl ?_
  refine v_new dX11_init_5 cl_X11_9 rfl (s_lvok rfl) (s_stok rfl) (Nat.le_of_ble_eq_true rfl) (Nat.le_of_ble_eq_true rfl) (fun h1 E2 F3 => ?_)
  refine v_dup dX11_init_8 rfl ?_
  refine v_callI dX11_init_9 ml_X11_11 (sp_X3_init_1 E2) rfl rfl (by decide) (Nat.le_of_ble_eq_true rfl) (Nat.le_of_ble_eq_true rfl) (Nat.le_of_ble_eq_true rfl) ⟨Or.inr ⟨s_lvok rfl, s_stok rfl⟩, fun r n1 h4 q5 => ?_⟩
  obtain ⟨rfl, rfl, F16, q6, q7, q8, q9, q10, q11, q12, q13, q14, q15⟩ := q5
  dsimp only [s_push]
  have H17 := ((F16 0 (by decide)).trans ((F3 0 (by decide)).trans ho))
  refine v_putF dX11_init_12 fl_X11_12 rfl rfl H17 (Nat.le_of_ble_eq_true rfl) (Nat.le_of_ble_eq_true rfl) (fun _ => ⟨rfl, rfl⟩) (Nat.le_of_ble_eq_true rfl) (fun h18 E19 F20 => ?_)
  refine v_aload_n dX11_init_15 rfl ?_
  refine v_iconstI dX11_init_16 ?_
  refine v_newqI (N := 2) dX11_init_17 ck_X11_9 (by first | exact Or.inl rfl | exact Or.inr rfl) rfl (s_lvok rfl) (s_stok rfl) (Nat.le_of_ble_eq_true rfl) (Nat.le_of_ble_eq_true rfl) (fun h21 E22 F23 => ?_)
  have H24 := ((F23 0 (by decide)).trans E19)
  refine v_putF dX11_init_20 fl_X11_16 rfl rfl H24 (Nat.le_of_ble_eq_true rfl) (Nat.le_of_ble_eq_true rfl) (fun _ => ⟨rfl, rfl⟩) (Nat.le_of_ble_eq_true rfl) (fun h25 E26 F27 => ?_)
  refine v_aload_n dX11_init_23 rfl ?_
  refine v_get dX11_init_24 fl_X11_16 E26 rfl (Nat.le_of_ble_eq_true rfl) ?_
  refine v_iconstI dX11_init_27 ?_
  refine v_new dX11_init_28 cl_X11_9 rfl (s_lvok rfl) (s_stok rfl) (Nat.le_of_ble_eq_true rfl) (Nat.le_of_ble_eq_true rfl) (fun h28 E29 F30 => ?_)
  refine v_dup dX11_init_31 rfl ?_
  refine v_callI dX11_init_32 ml_X11_11 (sp_X3_init_12 E29) rfl rfl (by decide) (Nat.le_of_ble_eq_true rfl) (Nat.le_of_ble_eq_true rfl) (Nat.le_of_ble_eq_true rfl) ⟨Or.inr ⟨s_lvok rfl, s_stok rfl⟩, fun r n1 h31 q32 => ?_⟩
  obtain ⟨rfl, rfl, F43, q33, q34, q35, q36, q37, q38, q39, q40, q41, q42⟩ := q32
  dsimp only [s_push]
  have H44 := ((F43 11 (by decide)).trans ((F30 11 (by decide)).trans ((F27 11 (by decide)).trans E22)))
  refine v_aastI dX11_init_35 H44 (Nat.le_of_ble_eq_true rfl) q33 (Nat.le_of_ble_eq_true rfl) rfl (by omega) (by omega) (by omega) (fun h45 E46 F47 => ?_)
  refine v_aload_n dX11_init_36 rfl ?_
  have H48 := ((F47 0 (by decide)).trans ((F43 0 (by decide)).trans ((F30 0 (by decide)).trans E26)))
  refine v_get dX11_init_37 fl_X11_16 H48 rfl (Nat.le_of_ble_eq_true rfl) ?_
  refine v_iconstI dX11_init_40 ?_
  refine v_new dX11_init_41 cl_X11_9 rfl (s_lvok rfl) (s_stok rfl) (Nat.le_of_ble_eq_true rfl) (Nat.le_of_ble_eq_true rfl) (fun h49 E50 F51 => ?_)
  refine v_dup dX11_init_44 rfl ?_
  refine v_callI dX11_init_45 ml_X11_11 (sp_X3_init_22 E50) rfl rfl (by decide) (Nat.le_of_ble_eq_true rfl) (Nat.le_of_ble_eq_true rfl) (Nat.le_of_ble_eq_true rfl) ⟨Or.inr ⟨s_lvok rfl, s_stok rfl⟩, fun r n1 h52 q53 => ?_⟩
  obtain ⟨rfl, rfl, F64, q54, q55, q56, q57, q58, q59, q60, q61, q62, q63⟩ := q53
  dsimp only [s_push]
  have H65 := ((F64 11 (by decide)).trans ((F51 11 (by decide)).trans E46))
  refine v_aastI dX11_init_48 H65 (Nat.le_of_ble_eq_true rfl) q54 (Nat.le_of_ble_eq_true rfl) rfl (by omega) (by omega) (by omega) (fun h66 E67 F68 => ?_)
  refine v_aload_n dX11_init_49 rfl ?_
  refine v_iconstI dX11_init_50 ?_
  refine v_newa_zI (N := 2) dX11_init_51 ac_boolean rfl (s_lvok rfl) (s_stok rfl) (Nat.le_of_ble_eq_true rfl) (Nat.le_of_ble_eq_true rfl) (fun h69 E70 F71 => ?_)
  have H72 := ((F71 0 (by decide)).trans ((F68 0 (by decide)).trans ((F64 0 (by decide)).trans ((F51 0 (by decide)).trans H48))))
  refine v_putF dX11_init_53 fl_X11_20 rfl rfl H72 (Nat.le_of_ble_eq_true rfl) (Nat.le_of_ble_eq_true rfl) (fun _ => ⟨rfl, rfl⟩) (Nat.le_of_ble_eq_true rfl) (fun h73 E74 F75 => ?_)
  refine v_aload_n dX11_init_56 rfl ?_
  refine v_new dX11_init_57 cl_X11_24 rfl (s_lvok rfl) (s_stok rfl) (Nat.le_of_ble_eq_true rfl) (Nat.le_of_ble_eq_true rfl) (fun h76 E77 F78 => ?_)
  refine v_dup dX11_init_60 rfl ?_
  refine v_callI dX11_init_61 ml_X11_26 (sp_X5_init_33 E77) rfl rfl (by decide) (Nat.le_of_ble_eq_true rfl) (Nat.le_of_ble_eq_true rfl) (Nat.le_of_ble_eq_true rfl) ⟨Or.inr ⟨s_lvok rfl, s_stok rfl⟩, fun r n1 h79 q80 => ?_⟩
  obtain ⟨rfl, rfl, F88, q81, q82, q83, q84, q85, q86, q87⟩ := q80
  dsimp only [s_push]
  have H89 := ((F88 0 (by decide)).trans ((F78 0 (by decide)).trans E74))
  refine v_putF dX11_init_64 fl_X11_27 rfl rfl H89 (Nat.le_of_ble_eq_true rfl) (Nat.le_of_ble_eq_true rfl) (fun _ => ⟨rfl, rfl⟩) (Nat.le_of_ble_eq_true rfl) (fun h90 E91 F92 => ?_)
  refine v_aload_n dX11_init_67 rfl ?_
  refine v_new dX11_init_68 cl_X11_31 rfl (s_lvok rfl) (s_stok rfl) (Nat.le_of_ble_eq_true rfl) (Nat.le_of_ble_eq_true rfl) (fun h93 E94 F95 => ?_)
  refine v_dup dX11_init_71 rfl ?_
  refine v_callI dX11_init_72 ml_X11_33 (sp_X6_init_40 E94) rfl rfl (by decide) (Nat.le_of_ble_eq_true rfl) (Nat.le_of_ble_eq_true rfl) (Nat.le_of_ble_eq_true rfl) ⟨Or.inr ⟨s_lvok rfl, s_stok rfl⟩, fun r n1 h96 q97 => ?_⟩
  obtain ⟨rfl, rfl, F102, q98, q99, q100, q101⟩ := q97
  dsimp only [s_push]
  have H103 := ((F102 0 (by decide)).trans ((F95 0 (by decide)).trans E91))
  refine v_putF dX11_init_75 fl_X11_34 rfl rfl H103 (Nat.le_of_ble_eq_true rfl) (Nat.le_of_ble_eq_true rfl) (fun _ => ⟨rfl, rfl⟩) (Nat.le_of_ble_eq_true rfl) (fun h104 E105 F106 => ?_)
  refine v_aload_n dX11_init_78 rfl ?_
  refine v_new dX11_init_79 cl_X11_38 rfl (s_lvok rfl) (s_stok rfl) (Nat.le_of_ble_eq_true rfl) (Nat.le_of_ble_eq_true rfl) (fun h107 E108 F109 => ?_)
  refine v_dup dX11_init_82 rfl ?_
  refine v_aload_n dX11_init_83 rfl ?_
  have H110 := ((F109 0 (by decide)).trans E105)
  refine v_get dX11_init_84 fl_X11_12 H110 rfl (Nat.le_of_ble_eq_true rfl) ?_
  refine v_callI dX11_init_87 ml_X11_40 (sp_X0_init_44 E108) rfl rfl (by decide) (Nat.le_of_ble_eq_true rfl) (Nat.le_of_ble_eq_true rfl) (Nat.le_of_ble_eq_true rfl) ⟨Or.inr ⟨s_lvok rfl, s_stok rfl⟩, fun r n1 h111 q112 => ?_⟩
  obtain ⟨rfl, rfl, F118, q113, q114, q115, q116, q117⟩ := q112
  dsimp only [s_push]
  have H119 := ((F118 0 (by decide)).trans H110)
  refine v_putF dX11_init_90 fl_X11_43 rfl rfl H119 (Nat.le_of_ble_eq_true rfl) (Nat.le_of_ble_eq_true rfl) (fun _ => ⟨rfl, rfl⟩) (Nat.le_of_ble_eq_true rfl) (fun h120 E121 F122 => ?_)
  refine v_aload_n dX11_init_93 rfl ?_
  refine v_new dX11_init_94 cl_X11_47 rfl (s_lvok rfl) (s_stok rfl) (Nat.le_of_ble_eq_true rfl) (Nat.le_of_ble_eq_true rfl) (fun h123 E124 F125 => ?_)
  refine v_dup dX11_init_97 rfl ?_
  refine v_aload_n dX11_init_98 rfl ?_
  have H126 := ((F125 0 (by decide)).trans E121)
  refine v_get dX11_init_99 fl_X11_12 H126 rfl (Nat.le_of_ble_eq_true rfl) ?_
  refine v_aload_n dX11_init_102 rfl ?_
  refine v_get dX11_init_103 fl_X11_43 H126 rfl (Nat.le_of_ble_eq_true rfl) ?_
  refine v_callI dX11_init_106 ml_X11_49 (sp_X8_init_49 E124) rfl rfl (by decide) (Nat.le_of_ble_eq_true rfl) (Nat.le_of_ble_eq_true rfl) (Nat.le_of_ble_eq_true rfl) ⟨Or.inr ⟨s_lvok rfl, s_stok rfl⟩, fun r n1 h127 q128 => ?_⟩
  obtain ⟨rfl, rfl, F132, q129, q130, q131⟩ := q128
  dsimp only [s_push]
  have H133 := ((F132 0 (by decide)).trans H126)
  refine v_putF dX11_init_109 fl_X11_52 rfl rfl H133 (Nat.le_of_ble_eq_true rfl) (Nat.le_of_ble_eq_true rfl) (fun _ => ⟨rfl, rfl⟩) (Nat.le_of_ble_eq_true rfl) (fun h134 E135 F136 => ?_)
  refine v_aload_n dX11_init_112 rfl ?_
  refine v_new dX11_init_113 cl_X11_56 rfl (s_lvok rfl) (s_stok rfl) (Nat.le_of_ble_eq_true rfl) (Nat.le_of_ble_eq_true rfl) (fun h137 E138 F139 => ?_)
  refine v_dup dX11_init_116 rfl ?_
  refine v_aload_n dX11_init_117 rfl ?_
  have H140 := ((F139 0 (by decide)).trans E135)
  refine v_get dX11_init_118 fl_X11_12 H140 rfl (Nat.le_of_ble_eq_true rfl) ?_
  refine v_aload_n dX11_init_121 rfl ?_
  refine v_get dX11_init_122 fl_X11_43 H140 rfl (Nat.le_of_ble_eq_true rfl) ?_
  refine v_callI dX11_init_125 ml_X11_58 (sp_X9_init_52 E138) rfl rfl (by decide) (Nat.le_of_ble_eq_true rfl) (Nat.le_of_ble_eq_true rfl) (Nat.le_of_ble_eq_true rfl) ⟨Or.inr ⟨s_lvok rfl, s_stok rfl⟩, fun r n1 h141 q142 => ?_⟩
  obtain ⟨rfl, rfl, F149, q143, q144, q145, q146, q147, q148⟩ := q142
  dsimp only [s_push]
  have H150 := ((F149 0 (by decide)).trans H140)
  refine v_putF dX11_init_128 fl_X11_59 rfl rfl H150 (Nat.le_of_ble_eq_true rfl) (Nat.le_of_ble_eq_true rfl) (fun _ => ⟨rfl, rfl⟩) (Nat.le_of_ble_eq_true rfl) (fun h151 E152 F153 => ?_)
  refine v_aload_n dX11_init_131 rfl ?_
  refine v_new dX11_init_132 cl_X11_63 rfl (s_lvok rfl) (s_stok rfl) (Nat.le_of_ble_eq_true rfl) (Nat.le_of_ble_eq_true rfl) (fun h154 E155 F156 => ?_)
  refine v_dup dX11_init_135 rfl ?_
  refine v_aload_n dX11_init_136 rfl ?_
  have H157 := ((F156 0 (by decide)).trans E152)
  refine v_get dX11_init_137 fl_X11_12 H157 rfl (Nat.le_of_ble_eq_true rfl) ?_
  refine v_aload_n dX11_init_140 rfl ?_
  refine v_get dX11_init_141 fl_X11_43 H157 rfl (Nat.le_of_ble_eq_true rfl) ?_
  refine v_callI dX11_init_144 ml_X11_65 (sp_X2_init_58 E155) rfl rfl (by decide) (Nat.le_of_ble_eq_true rfl) (Nat.le_of_ble_eq_true rfl) (Nat.le_of_ble_eq_true rfl) ⟨Or.inr ⟨s_lvok rfl, s_stok rfl⟩, fun r n1 h158 q159 => ?_⟩
  obtain ⟨rfl, rfl, F162, q160, q161⟩ := q159
  dsimp only [s_push]
  have H163 := ((F162 0 (by decide)).trans H157)
  refine v_putF dX11_init_147 fl_X11_66 rfl rfl H163 (Nat.le_of_ble_eq_true rfl) (Nat.le_of_ble_eq_true rfl) (fun _ => ⟨rfl, rfl⟩) (Nat.le_of_ble_eq_true rfl) (fun h164 E165 F166 => ?_)
  refine v_aload_n dX11_init_150 rfl ?_
  refine v_new dX11_init_151 cl_X11_70 rfl (s_lvok rfl) (s_stok rfl) (Nat.le_of_ble_eq_true rfl) (Nat.le_of_ble_eq_true rfl) (fun h167 E168 F169 => ?_)
  refine v_dup dX11_init_154 rfl ?_
  refine v_aload_n dX11_init_155 rfl ?_
  have H170 := ((F169 0 (by decide)).trans E165)
  refine v_get dX11_init_156 fl_X11_12 H170 rfl (Nat.le_of_ble_eq_true rfl) ?_
  refine v_aload_n dX11_init_159 rfl ?_
  refine v_get dX11_init_160 fl_X11_43 H170 rfl (Nat.le_of_ble_eq_true rfl) ?_
  refine v_aload_n dX11_init_163 rfl ?_
  refine v_get dX11_init_164 fl_X11_66 H170 rfl (Nat.le_of_ble_eq_true rfl) ?_
  refine v_callI dX11_init_167 ml_X11_72 (sp_X4_init_60 E168) rfl rfl (by decide) (Nat.le_of_ble_eq_true rfl) (Nat.le_of_ble_eq_true rfl) (Nat.le_of_ble_eq_true rfl) ⟨Or.inr ⟨s_lvok rfl, s_stok rfl⟩, fun r n1 h171 q172 => ?_⟩
  obtain ⟨rfl, rfl, F181, q173, q174, q175, q176, q177, q178, q179, q180⟩ := q172
  dsimp only [s_push]
  have H182 := ((F181 0 (by decide)).trans H170)
  refine v_putF dX11_init_170 fl_X11_75 rfl rfl H182 (Nat.le_of_ble_eq_true rfl) (Nat.le_of_ble_eq_true rfl) (fun _ => ⟨rfl, rfl⟩) (Nat.le_of_ble_eq_true rfl) (fun h183 E184 F185 => ?_)
  refine v_aload_n dX11_init_173 rfl ?_
  refine v_new dX11_init_174 cl_X11_79 rfl (s_lvok rfl) (s_stok rfl) (Nat.le_of_ble_eq_true rfl) (Nat.le_of_ble_eq_true rfl) (fun h186 E187 F188 => ?_)
  refine v_dup dX11_init_177 rfl ?_
  refine v_aload_n dX11_init_178 rfl ?_
  have H189 := ((F188 0 (by decide)).trans E184)
  refine v_get dX11_init_179 fl_X11_12 H189 rfl (Nat.le_of_ble_eq_true rfl) ?_
  refine v_aload_n dX11_init_182 rfl ?_
  refine v_get dX11_init_183 fl_X11_66 H189 rfl (Nat.le_of_ble_eq_true rfl) ?_
  refine v_callI dX11_init_186 ml_X11_81 (sp_X1_init_68 E187) rfl rfl (by decide) (Nat.le_of_ble_eq_true rfl) (Nat.le_of_ble_eq_true rfl) (Nat.le_of_ble_eq_true rfl) ⟨Or.inr ⟨s_lvok rfl, s_stok rfl⟩, fun r n1 h190 q191 => ?_⟩
  obtain ⟨rfl, rfl, F194, q192, q193⟩ := q191
  dsimp only [s_push]
  have H195 := ((F194 0 (by decide)).trans H189)
  refine v_putF dX11_init_189 fl_X11_84 rfl rfl H195 (Nat.le_of_ble_eq_true rfl) (Nat.le_of_ble_eq_true rfl) (fun _ => ⟨rfl, rfl⟩) (Nat.le_of_ble_eq_true rfl) (fun h196 E197 F198 => ?_)
  refine v_aload_n dX11_init_192 rfl ?_
  refine v_new dX11_init_193 cl_X11_88 rfl (s_lvok rfl) (s_stok rfl) (Nat.le_of_ble_eq_true rfl) (Nat.le_of_ble_eq_true rfl) (fun h199 E200 F201 => ?_)
  refine v_dup dX11_init_196 rfl ?_
  refine v_aload_n dX11_init_197 rfl ?_
  have H202 := ((F201 0 (by decide)).trans E197)
  refine v_get dX11_init_198 fl_X11_12 H202 rfl (Nat.le_of_ble_eq_true rfl) ?_
  refine v_callI dX11_init_201 ml_X11_90 (sp_X10_init_70 E200) rfl rfl (by decide) (Nat.le_of_ble_eq_true rfl) (Nat.le_of_ble_eq_true rfl) (Nat.le_of_ble_eq_true rfl) ⟨Or.inr ⟨s_lvok rfl, s_stok rfl⟩, fun r n1 h203 q204 => ?_⟩
  obtain ⟨rfl, rfl, F211, q205, q206, q207, q208, q209, q210⟩ := q204
  dsimp only [s_push]
  have H212 := ((F211 0 (by decide)).trans H202)
  refine v_putF dX11_init_204 fl_X11_91 rfl rfl H212 (Nat.le_of_ble_eq_true rfl) (Nat.le_of_ble_eq_true rfl) (fun _ => ⟨rfl, rfl⟩) (Nat.le_of_ble_eq_true rfl) (fun h213 E214 F215 => ?_)
  refine v_aload_n dX11_init_207 rfl ?_
  refine v_iconstI dX11_init_208 ?_
  refine v_newa_aI (N := 5) dX11_init_209 ac_int rfl (s_lvok rfl) (s_stok rfl) (Nat.le_of_ble_eq_true rfl) (Nat.le_of_ble_eq_true rfl) (fun h216 E217 F218 => ?_)
  have H219 := ((F218 0 (by decide)).trans E214)
  refine v_putF dX11_init_211 fl_X11_95 rfl rfl H219 (Nat.le_of_ble_eq_true rfl) (Nat.le_of_ble_eq_true rfl) (fun _ => ⟨rfl, rfl⟩) (Nat.le_of_ble_eq_true rfl) (fun h220 E221 F222 => ?_)
  refine v_aload_n dX11_init_214 rfl ?_
  refine v_iconstI dX11_init_215 ?_
  refine v_put dX11_init_216 fl_X11_99 E221 (Nat.le_of_ble_eq_true rfl) (Nat.le_of_ble_eq_true rfl) (fun _ => ⟨rfl, rfl⟩) trivial (fun h223 E224 F225 => ?_)
  refine v_aload_n dX11_init_219 rfl ?_
  refine v_iconstI dX11_init_220 ?_
  refine v_put dX11_init_221 fl_X11_103 E224 (Nat.le_of_ble_eq_true rfl) (Nat.le_of_ble_eq_true rfl) (fun _ => ⟨rfl, rfl⟩) trivial (fun h226 E227 F228 => ?_)
  refine v_aload_n dX11_init_224 rfl ?_
  refine v_iconstI dX11_init_225 ?_
  refine v_put dX11_init_226 fl_X11_106 E227 (Nat.le_of_ble_eq_true rfl) (Nat.le_of_ble_eq_true rfl) (fun _ => ⟨rfl, rfl⟩) trivial (fun h229 E230 F231 => ?_)
  refine v_aload_n dX11_init_229 rfl ?_
  refine v_iconstI dX11_init_230 ?_
  refine v_put dX11_init_231 fl_X11_109 E230 (Nat.le_of_ble_eq_true rfl) (Nat.le_of_ble_eq_true rfl) (fun _ => ⟨rfl, rfl⟩) trivial (fun h232 E233 F234 => ?_)
  refine v_aload_n dX11_init_234 rfl ?_
  refine v_iconstI dX11_init_235 ?_
  refine v_put dX11_init_236 fl_X11_112 E233 (Nat.le_of_ble_eq_true rfl) (Nat.le_of_ble_eq_true rfl) (fun _ => ⟨rfl, rfl⟩) trivial (fun h235 E236 F237 => ?_)
  exact v_vret dX11_init_239 rfl (Nat.le_of_ble_eq_true rfl) (Nat.le_of_ble_eq_true rfl) ⟨rfl, rfl, (fun j hj => ((F237 j (by omega)).trans ((F234 j (by omega)).trans ((F231 j (by omega)).trans ((F228 j (by omega)).trans ((F225 j (by omega)).trans ((F222 j (by omega)).trans ((F218 j (by omega)).trans ((F215 j (by omega)).trans ((F211 j (by omega)).trans ((F201 j (by omega)).trans ((F198 j (by omega)).trans ((F194 j (by omega)).trans ((F188 j (by omega)).trans ((F185 j (by omega)).trans ((F181 j (by omega)).trans ((F169 j (by omega)).trans ((F166 j (by omega)).trans ((F162 j (by omega)).trans ((F156 j (by omega)).trans ((F153 j (by omega)).trans ((F149 j (by omega)).trans ((F139 j (by omega)).trans ((F136 j (by omega)).trans ((F132 j (by omega)).trans ((F125 j (by omega)).trans ((F122 j (by omega)).trans ((F118 j (by omega)).trans ((F109 j (by omega)).trans ((F106 j (by omega)).trans ((F102 j (by omega)).trans ((F95 j (by omega)).trans ((F92 j (by omega)).trans ((F88 j (by omega)).trans ((F78 j (by omega)).trans ((F75 j (by omega)).trans ((F71 j (by omega)).trans ((F68 j (by omega)).trans ((F64 j (by omega)).trans ((F51 j (by omega)).trans ((F47 j (by omega)).trans ((F43 j (by omega)).trans ((F30 j (by omega)).trans ((F27 j (by omega)).trans ((F23 j (by omega)).trans ((F20 j (by omega)).trans ((F16 j (by omega)).trans (F3 j (by omega))))))))))))))))))))))))))))))))))))))))))))))))), E236, ((F237 1 (by decide)).trans ((F234 1 (by decide)).trans ((F231 1 (by decide)).trans ((F228 1 (by decide)).trans ((F225 1 (by decide)).trans ((F222 1 (by decide)).trans ((F218 1 (by decide)).trans ((F215 1 (by decide)).trans ((F211 1 (by decide)).trans ((F201 1 (by decide)).trans ((F198 1 (by decide)).trans ((F194 1 (by decide)).trans ((F188 1 (by decide)).trans ((F185 1 (by decide)).trans ((F181 1 (by decide)).trans ((F169 1 (by decide)).trans ((F166 1 (by decide)).trans ((F162 1 (by decide)).trans ((F156 1 (by decide)).trans ((F153 1 (by decide)).trans ((F149 1 (by decide)).trans ((F139 1 (by decide)).trans ((F136 1 (by decide)).trans ((F132 1 (by decide)).trans ((F125 1 (by decide)).trans ((F122 1 (by decide)).trans ((F118 1 (by decide)).trans ((F109 1 (by decide)).trans ((F106 1 (by decide)).trans ((F102 1 (by decide)).trans ((F95 1 (by decide)).trans ((F92 1 (by decide)).trans ((F88 1 (by decide)).trans ((F78 1 (by decide)).trans ((F75 1 (by decide)).trans ((F71 1 (by decide)).trans ((F68 1 (by decide)).trans ((F64 1 (by decide)).trans ((F51 1 (by decide)).trans ((F47 1 (by decide)).trans ((F43 1 (by decide)).trans ((F30 1 (by decide)).trans ((F27 1 (by decide)).trans ((F23 1 (by decide)).trans ((F20 1 (by decide)).trans q6))))))))))))))))))))))))))))))))))))))))))))), ((F237 2 (by decide)).trans ((F234 2 (by decide)).trans ((F231 2 (by decide)).trans ((F228 2 (by decide)).trans ((F225 2 (by decide)).trans ((F222 2 (by decide)).trans ((F218 2 (by decide)).trans ((F215 2 (by decide)).trans ((F211 2 (by decide)).trans ((F201 2 (by decide)).trans ((F198 2 (by decide)).trans ((F194 2 (by decide)).trans ((F188 2 (by decide)).trans ((F185 2 (by decide)).trans ((F181 2 (by decide)).trans ((F169 2 (by decide)).trans ((F166 2 (by decide)).trans ((F162 2 (by decide)).trans ((F156 2 (by decide)).trans ((F153 2 (by decide)).trans ((F149 2 (by decide)).trans ((F139 2 (by decide)).trans ((F136 2 (by decide)).trans ((F132 2 (by decide)).trans ((F125 2 (by decide)).trans ((F122 2 (by decide)).trans ((F118 2 (by decide)).trans ((F109 2 (by decide)).trans ((F106 2 (by decide)).trans ((F102 2 (by decide)).trans ((F95 2 (by decide)).trans ((F92 2 (by decide)).trans ((F88 2 (by decide)).trans ((F78 2 (by decide)).trans ((F75 2 (by decide)).trans ((F71 2 (by decide)).trans ((F68 2 (by decide)).trans ((F64 2 (by decide)).trans ((F51 2 (by decide)).trans ((F47 2 (by decide)).trans ((F43 2 (by decide)).trans ((F30 2 (by decide)).trans ((F27 2 (by decide)).trans ((F23 2 (by decide)).trans ((F20 2 (by decide)).trans q7))))))))))))))))))))))))))))))))))))))))))))), ((F237 3 (by decide)).trans ((F234 3 (by decide)).trans ((F231 3 (by decide)).trans ((F228 3 (by decide)).trans ((F225 3 (by decide)).trans ((F222 3 (by decide)).trans ((F218 3 (by decide)).trans ((F215 3 (by decide)).trans ((F211 3 (by decide)).trans ((F201 3 (by decide)).trans ((F198 3 (by decide)).trans ((F194 3 (by decide)).trans ((F188 3 (by decide)).trans ((F185 3 (by decide)).trans ((F181 3 (by decide)).trans ((F169 3 (by decide)).trans ((F166 3 (by decide)).trans ((F162 3 (by decide)).trans ((F156 3 (by decide)).trans ((F153 3 (by decide)).trans ((F149 3 (by decide)).trans ((F139 3 (by decide)).trans ((F136 3 (by decide)).trans ((F132 3 (by decide)).trans ((F125 3 (by decide)).trans ((F122 3 (by decide)).trans ((F118 3 (by decide)).trans ((F109 3 (by decide)).trans ((F106 3 (by decide)).trans ((F102 3 (by decide)).trans ((F95 3 (by decide)).trans ((F92 3 (by decide)).trans ((F88 3 (by decide)).trans ((F78 3 (by decide)).trans ((F75 3 (by decide)).trans ((F71 3 (by decide)).trans ((F68 3 (by decide)).trans ((F64 3 (by decide)).trans ((F51 3 (by decide)).trans ((F47 3 (by decide)).trans ((F43 3 (by decide)).trans ((F30 3 (by decide)).trans ((F27 3 (by decide)).trans ((F23 3 (by decide)).trans ((F20 3 (by decide)).trans q8))))))))))))))))))))))))))))))))))))))))))))), ((F237 4 (by decide)).trans ((F234 4 (by decide)).trans ((F231 4 (by decide)).trans ((F228 4 (by decide)).trans ((F225 4 (by decide)).trans ((F222 4 (by decide)).trans ((F218 4 (by decide)).trans ((F215 4 (by decide)).trans ((F211 4 (by decide)).trans ((F201 4 (by decide)).trans ((F198 4 (by decide)).trans ((F194 4 (by decide)).trans ((F188 4 (by decide)).trans ((F185 4 (by decide)).trans ((F181 4 (by decide)).trans ((F169 4 (by decide)).trans ((F166 4 (by decide)).trans ((F162 4 (by decide)).trans ((F156 4 (by decide)).trans ((F153 4 (by decide)).trans ((F149 4 (by decide)).trans ((F139 4 (by decide)).trans ((F136 4 (by decide)).trans ((F132 4 (by decide)).trans ((F125 4 (by decide)).trans ((F122 4 (by decide)).trans ((F118 4 (by decide)).trans ((F109 4 (by decide)).trans ((F106 4 (by decide)).trans ((F102 4 (by decide)).trans ((F95 4 (by decide)).trans ((F92 4 (by decide)).trans ((F88 4 (by decide)).trans ((F78 4 (by decide)).trans ((F75 4 (by decide)).trans ((F71 4 (by decide)).trans ((F68 4 (by decide)).trans ((F64 4 (by decide)).trans ((F51 4 (by decide)).trans ((F47 4 (by decide)).trans ((F43 4 (by decide)).trans ((F30 4 (by decide)).trans ((F27 4 (by decide)).trans ((F23 4 (by decide)).trans ((F20 4 (by decide)).trans q9))))))))))))))))))))))))))))))))))))))))))))), ((F237 5 (by decide)).trans ((F234 5 (by decide)).trans ((F231 5 (by decide)).trans ((F228 5 (by decide)).trans ((F225 5 (by decide)).trans ((F222 5 (by decide)).trans ((F218 5 (by decide)).trans ((F215 5 (by decide)).trans ((F211 5 (by decide)).trans ((F201 5 (by decide)).trans ((F198 5 (by decide)).trans ((F194 5 (by decide)).trans ((F188 5 (by decide)).trans ((F185 5 (by decide)).trans ((F181 5 (by decide)).trans ((F169 5 (by decide)).trans ((F166 5 (by decide)).trans ((F162 5 (by decide)).trans ((F156 5 (by decide)).trans ((F153 5 (by decide)).trans ((F149 5 (by decide)).trans ((F139 5 (by decide)).trans ((F136 5 (by decide)).trans ((F132 5 (by decide)).trans ((F125 5 (by decide)).trans ((F122 5 (by decide)).trans ((F118 5 (by decide)).trans ((F109 5 (by decide)).trans ((F106 5 (by decide)).trans ((F102 5 (by decide)).trans ((F95 5 (by decide)).trans ((F92 5 (by decide)).trans ((F88 5 (by decide)).trans ((F78 5 (by decide)).trans ((F75 5 (by decide)).trans ((F71 5 (by decide)).trans ((F68 5 (by decide)).trans ((F64 5 (by decide)).trans ((F51 5 (by decide)).trans ((F47 5 (by decide)).trans ((F43 5 (by decide)).trans ((F30 5 (by decide)).trans ((F27 5 (by decide)).trans ((F23 5 (by decide)).trans ((F20 5 (by decide)).trans q10))))))))))))))))))))))))))))))))))))))))))))), ((F237 6 (by decide)).trans ((F234 6 (by decide)).trans ((F231 6 (by decide)).trans ((F228 6 (by decide)).trans ((F225 6 (by decide)).trans ((F222 6 (by decide)).trans ((F218 6 (by decide)).trans ((F215 6 (by decide)).trans ((F211 6 (by decide)).trans ((F201 6 (by decide)).trans ((F198 6 (by decide)).trans ((F194 6 (by decide)).trans ((F188 6 (by decide)).trans ((F185 6 (by decide)).trans ((F181 6 (by decide)).trans ((F169 6 (by decide)).trans ((F166 6 (by decide)).trans ((F162 6 (by decide)).trans ((F156 6 (by decide)).trans ((F153 6 (by decide)).trans ((F149 6 (by decide)).trans ((F139 6 (by decide)).trans ((F136 6 (by decide)).trans ((F132 6 (by decide)).trans ((F125 6 (by decide)).trans ((F122 6 (by decide)).trans ((F118 6 (by decide)).trans ((F109 6 (by decide)).trans ((F106 6 (by decide)).trans ((F102 6 (by decide)).trans ((F95 6 (by decide)).trans ((F92 6 (by decide)).trans ((F88 6 (by decide)).trans ((F78 6 (by decide)).trans ((F75 6 (by decide)).trans ((F71 6 (by decide)).trans ((F68 6 (by decide)).trans ((F64 6 (by decide)).trans ((F51 6 (by decide)).trans ((F47 6 (by decide)).trans ((F43 6 (by decide)).trans ((F30 6 (by decide)).trans ((F27 6 (by decide)).trans ((F23 6 (by decide)).trans ((F20 6 (by decide)).trans q11))))))))))))))))))))))))))))))))))))))))))))), ((F237 7 (by decide)).trans ((F234 7 (by decide)).trans ((F231 7 (by decide)).trans ((F228 7 (by decide)).trans ((F225 7 (by decide)).trans ((F222 7 (by decide)).trans ((F218 7 (by decide)).trans ((F215 7 (by decide)).trans ((F211 7 (by decide)).trans ((F201 7 (by decide)).trans ((F198 7 (by decide)).trans ((F194 7 (by decide)).trans ((F188 7 (by decide)).trans ((F185 7 (by decide)).trans ((F181 7 (by decide)).trans ((F169 7 (by decide)).trans ((F166 7 (by decide)).trans ((F162 7 (by decide)).trans ((F156 7 (by decide)).trans ((F153 7 (by decide)).trans ((F149 7 (by decide)).trans ((F139 7 (by decide)).trans ((F136 7 (by decide)).trans ((F132 7 (by decide)).trans ((F125 7 (by decide)).trans ((F122 7 (by decide)).trans ((F118 7 (by decide)).trans ((F109 7 (by decide)).trans ((F106 7 (by decide)).trans ((F102 7 (by decide)).trans ((F95 7 (by decide)).trans ((F92 7 (by decide)).trans ((F88 7 (by decide)).trans ((F78 7 (by decide)).trans ((F75 7 (by decide)).trans ((F71 7 (by decide)).trans ((F68 7 (by decide)).trans ((F64 7 (by decide)).trans ((F51 7 (by decide)).trans ((F47 7 (by decide)).trans ((F43 7 (by decide)).trans ((F30 7 (by decide)).trans ((F27 7 (by decide)).trans ((F23 7 (by decide)).trans ((F20 7 (by decide)).trans q12))))))))))))))))))))))))))))))))))))))))))))), ((F237 8 (by decide)).trans ((F234 8 (by decide)).trans ((F231 8 (by decide)).trans ((F228 8 (by decide)).trans ((F225 8 (by decide)).trans ((F222 8 (by decide)).trans ((F218 8 (by decide)).trans ((F215 8 (by decide)).trans ((F211 8 (by decide)).trans ((F201 8 (by decide)).trans ((F198 8 (by decide)).trans ((F194 8 (by decide)).trans ((F188 8 (by decide)).trans ((F185 8 (by decide)).trans ((F181 8 (by decide)).trans ((F169 8 (by decide)).trans ((F166 8 (by decide)).trans ((F162 8 (by decide)).trans ((F156 8 (by decide)).trans ((F153 8 (by decide)).trans ((F149 8 (by decide)).trans ((F139 8 (by decide)).trans ((F136 8 (by decide)).trans ((F132 8 (by decide)).trans ((F125 8 (by decide)).trans ((F122 8 (by decide)).trans ((F118 8 (by decide)).trans ((F109 8 (by decide)).trans ((F106 8 (by decide)).trans ((F102 8 (by decide)).trans ((F95 8 (by decide)).trans ((F92 8 (by decide)).trans ((F88 8 (by decide)).trans ((F78 8 (by decide)).trans ((F75 8 (by decide)).trans ((F71 8 (by decide)).trans ((F68 8 (by decide)).trans ((F64 8 (by decide)).trans ((F51 8 (by decide)).trans ((F47 8 (by decide)).trans ((F43 8 (by decide)).trans ((F30 8 (by decide)).trans ((F27 8 (by decide)).trans ((F23 8 (by decide)).trans ((F20 8 (by decide)).trans q13))))))))))))))))))))))))))))))))))))))))))))), ((F237 9 (by decide)).trans ((F234 9 (by decide)).trans ((F231 9 (by decide)).trans ((F228 9 (by decide)).trans ((F225 9 (by decide)).trans ((F222 9 (by decide)).trans ((F218 9 (by decide)).trans ((F215 9 (by decide)).trans ((F211 9 (by decide)).trans ((F201 9 (by decide)).trans ((F198 9 (by decide)).trans ((F194 9 (by decide)).trans ((F188 9 (by decide)).trans ((F185 9 (by decide)).trans ((F181 9 (by decide)).trans ((F169 9 (by decide)).trans ((F166 9 (by decide)).trans ((F162 9 (by decide)).trans ((F156 9 (by decide)).trans ((F153 9 (by decide)).trans ((F149 9 (by decide)).trans ((F139 9 (by decide)).trans ((F136 9 (by decide)).trans ((F132 9 (by decide)).trans ((F125 9 (by decide)).trans ((F122 9 (by decide)).trans ((F118 9 (by decide)).trans ((F109 9 (by decide)).trans ((F106 9 (by decide)).trans ((F102 9 (by decide)).trans ((F95 9 (by decide)).trans ((F92 9 (by decide)).trans ((F88 9 (by decide)).trans ((F78 9 (by decide)).trans ((F75 9 (by decide)).trans ((F71 9 (by decide)).trans ((F68 9 (by decide)).trans ((F64 9 (by decide)).trans ((F51 9 (by decide)).trans ((F47 9 (by decide)).trans ((F43 9 (by decide)).trans ((F30 9 (by decide)).trans ((F27 9 (by decide)).trans ((F23 9 (by decide)).trans ((F20 9 (by decide)).trans q14))))))))))))))))))))))))))))))))))))))))))))), ((F237 10 (by decide)).trans ((F234 10 (by decide)).trans ((F231 10 (by decide)).trans ((F228 10 (by decide)).trans ((F225 10 (by decide)).trans ((F222 10 (by decide)).trans ((F218 10 (by decide)).trans ((F215 10 (by decide)).trans ((F211 10 (by decide)).trans ((F201 10 (by decide)).trans ((F198 10 (by decide)).trans ((F194 10 (by decide)).trans ((F188 10 (by decide)).trans ((F185 10 (by decide)).trans ((F181 10 (by decide)).trans ((F169 10 (by decide)).trans ((F166 10 (by decide)).trans ((F162 10 (by decide)).trans ((F156 10 (by decide)).trans ((F153 10 (by decide)).trans ((F149 10 (by decide)).trans ((F139 10 (by decide)).trans ((F136 10 (by decide)).trans ((F132 10 (by decide)).trans ((F125 10 (by decide)).trans ((F122 10 (by decide)).trans ((F118 10 (by decide)).trans ((F109 10 (by decide)).trans ((F106 10 (by decide)).trans ((F102 10 (by decide)).trans ((F95 10 (by decide)).trans ((F92 10 (by decide)).trans ((F88 10 (by decide)).trans ((F78 10 (by decide)).trans ((F75 10 (by decide)).trans ((F71 10 (by decide)).trans ((F68 10 (by decide)).trans ((F64 10 (by decide)).trans ((F51 10 (by decide)).trans ((F47 10 (by decide)).trans ((F43 10 (by decide)).trans ((F30 10 (by decide)).trans ((F27 10 (by decide)).trans ((F23 10 (by decide)).trans ((F20 10 (by decide)).trans q15))))))))))))))))))))))))))))))))))))))))))))), ((F237 11 (by decide)).trans ((F234 11 (by decide)).trans ((F231 11 (by decide)).trans ((F228 11 (by decide)).trans ((F225 11 (by decide)).trans ((F222 11 (by decide)).trans ((F218 11 (by decide)).trans ((F215 11 (by decide)).trans ((F211 11 (by decide)).trans ((F201 11 (by decide)).trans ((F198 11 (by decide)).trans ((F194 11 (by decide)).trans ((F188 11 (by decide)).trans ((F185 11 (by decide)).trans ((F181 11 (by decide)).trans ((F169 11 (by decide)).trans ((F166 11 (by decide)).trans ((F162 11 (by decide)).trans ((F156 11 (by decide)).trans ((F153 11 (by decide)).trans ((F149 11 (by decide)).trans ((F139 11 (by decide)).trans ((F136 11 (by decide)).trans ((F132 11 (by decide)).trans ((F125 11 (by decide)).trans ((F122 11 (by decide)).trans ((F118 11 (by decide)).trans ((F109 11 (by decide)).trans ((F106 11 (by decide)).trans ((F102 11 (by decide)).trans ((F95 11 (by decide)).trans ((F92 11 (by decide)).trans ((F88 11 (by decide)).trans ((F78 11 (by decide)).trans ((F75 11 (by decide)).trans ((F71 11 (by decide)).trans E67)))))))))))))))))))))))))))))))))))), ((F237 12 (by decide)).trans ((F234 12 (by decide)).trans ((F231 12 (by decide)).trans ((F228 12 (by decide)).trans ((F225 12 (by decide)).trans ((F222 12 (by decide)).trans ((F218 12 (by decide)).trans ((F215 12 (by decide)).trans ((F211 12 (by decide)).trans ((F201 12 (by decide)).trans ((F198 12 (by decide)).trans ((F194 12 (by decide)).trans ((F188 12 (by decide)).trans ((F185 12 (by decide)).trans ((F181 12 (by decide)).trans ((F169 12 (by decide)).trans ((F166 12 (by decide)).trans ((F162 12 (by decide)).trans ((F156 12 (by decide)).trans ((F153 12 (by decide)).trans ((F149 12 (by decide)).trans ((F139 12 (by decide)).trans ((F136 12 (by decide)).trans ((F132 12 (by decide)).trans ((F125 12 (by decide)).trans ((F122 12 (by decide)).trans ((F118 12 (by decide)).trans ((F109 12 (by decide)).trans ((F106 12 (by decide)).trans ((F102 12 (by decide)).trans ((F95 12 (by decide)).trans ((F92 12 (by decide)).trans ((F88 12 (by decide)).trans ((F78 12 (by decide)).trans ((F75 12 (by decide)).trans ((F71 12 (by decide)).trans ((F68 12 (by decide)).trans ((F64 12 (by decide)).trans ((F51 12 (by decide)).trans ((F47 12 (by decide)).trans q33)))))))))))))))))))))))))))))))))))))))), ((F237 13 (by decide)).trans ((F234 13 (by decide)).trans ((F231 13 (by decide)).trans ((F228 13 (by decide)).trans ((F225 13 (by decide)).trans ((F222 13 (by decide)).trans ((F218 13 (by decide)).trans ((F215 13 (by decide)).trans ((F211 13 (by decide)).trans ((F201 13 (by decide)).trans ((F198 13 (by decide)).trans ((F194 13 (by decide)).trans ((F188 13 (by decide)).trans ((F185 13 (by decide)).trans ((F181 13 (by decide)).trans ((F169 13 (by decide)).trans ((F166 13 (by decide)).trans ((F162 13 (by decide)).trans ((F156 13 (by decide)).trans ((F153 13 (by decide)).trans ((F149 13 (by decide)).trans ((F139 13 (by decide)).trans ((F136 13 (by decide)).trans ((F132 13 (by decide)).trans ((F125 13 (by decide)).trans ((F122 13 (by decide)).trans ((F118 13 (by decide)).trans ((F109 13 (by decide)).trans ((F106 13 (by decide)).trans ((F102 13 (by decide)).trans ((F95 13 (by decide)).trans ((F92 13 (by decide)).trans ((F88 13 (by decide)).trans ((F78 13 (by decide)).trans ((F75 13 (by decide)).trans ((F71 13 (by decide)).trans ((F68 13 (by decide)).trans ((F64 13 (by decide)).trans ((F51 13 (by decide)).trans ((F47 13 (by decide)).trans q34)))))))))))))))))))))))))))))))))))))))), ((F237 14 (by decide)).trans ((F234 14 (by decide)).trans ((F231 14 (by decide)).trans ((F228 14 (by decide)).trans ((F225 14 (by decide)).trans ((F222 14 (by decide)).trans ((F218 14 (by decide)).trans ((F215 14 (by decide)).trans ((F211 14 (by decide)).trans ((F201 14 (by decide)).trans ((F198 14 (by decide)).trans ((F194 14 (by decide)).trans ((F188 14 (by decide)).trans ((F185 14 (by decide)).trans ((F181 14 (by decide)).trans ((F169 14 (by decide)).trans ((F166 14 (by decide)).trans ((F162 14 (by decide)).trans ((F156 14 (by decide)).trans ((F153 14 (by decide)).trans ((F149 14 (by decide)).trans ((F139 14 (by decide)).trans ((F136 14 (by decide)).trans ((F132 14 (by decide)).trans ((F125 14 (by decide)).trans ((F122 14 (by decide)).trans ((F118 14 (by decide)).trans ((F109 14 (by decide)).trans ((F106 14 (by decide)).trans ((F102 14 (by decide)).trans ((F95 14 (by decide)).trans ((F92 14 (by decide)).trans ((F88 14 (by decide)).trans ((F78 14 (by decide)).trans ((F75 14 (by decide)).trans ((F71 14 (by decide)).trans ((F68 14 (by decide)).trans ((F64 14 (by decide)).trans ((F51 14 (by decide)).trans ((F47 14 (by decide)).trans q35)))))))))))))))))))))))))))))))))))))))), ((F237 15 (by decide)).trans ((F234 15 (by decide)).trans ((F231 15 (by decide)).trans ((F228 15 (by decide)).trans ((F225 15 (by decide)).trans ((F222 15 (by decide)).trans ((F218 15 (by decide)).trans ((F215 15 (by decide)).trans ((F211 15 (by decide)).trans ((F201 15 (by decide)).trans ((F198 15 (by decide)).trans ((F194 15 (by decide)).trans ((F188 15 (by decide)).trans ((F185 15 (by decide)).trans ((F181 15 (by decide)).trans ((F169 15 (by decide)).trans ((F166 15 (by decide)).trans ((F162 15 (by decide)).trans ((F156 15 (by decide)).trans ((F153 15 (by decide)).trans ((F149 15 (by decide)).trans ((F139 15 (by decide)).trans ((F136 15 (by decide)).trans ((F132 15 (by decide)).trans ((F125 15 (by decide)).trans ((F122 15 (by decide)).trans ((F118 15 (by decide)).trans ((F109 15 (by decide)).trans ((F106 15 (by decide)).trans ((F102 15 (by decide)).trans ((F95 15 (by decide)).trans ((F92 15 (by decide)).trans ((F88 15 (by decide)).trans ((F78 15 (by decide)).trans ((F75 15 (by decide)).trans ((F71 15 (by decide)).trans ((F68 15 (by decide)).trans ((F64 15 (by decide)).trans ((F51 15 (by decide)).trans ((F47 15 (by decide)).trans q36)))))))))))))))))))))))))))))))))))))))), ((F237 16 (by decide)).trans ((F234 16 (by decide)).trans ((F231 16 (by decide)).trans ((F228 16 (by decide)).trans ((F225 16 (by decide)).trans ((F222 16 (by decide)).trans ((F218 16 (by decide)).trans ((F215 16 (by decide)).trans ((F211 16 (by decide)).trans ((F201 16 (by decide)).trans ((F198 16 (by decide)).trans ((F194 16 (by decide)).trans ((F188 16 (by decide)).trans ((F185 16 (by decide)).trans ((F181 16 (by decide)).trans ((F169 16 (by decide)).trans ((F166 16 (by decide)).trans ((F162 16 (by decide)).trans ((F156 16 (by decide)).trans ((F153 16 (by decide)).trans ((F149 16 (by decide)).trans ((F139 16 (by decide)).trans ((F136 16 (by decide)).trans ((F132 16 (by decide)).trans ((F125 16 (by decide)).trans ((F122 16 (by decide)).trans ((F118 16 (by decide)).trans ((F109 16 (by decide)).trans ((F106 16 (by decide)).trans ((F102 16 (by decide)).trans ((F95 16 (by decide)).trans ((F92 16 (by decide)).trans ((F88 16 (by decide)).trans ((F78 16 (by decide)).trans ((F75 16 (by decide)).trans ((F71 16 (by decide)).trans ((F68 16 (by decide)).trans ((F64 16 (by decide)).trans ((F51 16 (by decide)).trans ((F47 16 (by decide)).trans q37)))))))))))))))))))))))))))))))))))))))), ((F237 17 (by decide)).trans ((F234 17 (by decide)).trans ((F231 17 (by decide)).trans ((F228 17 (by decide)).trans ((F225 17 (by decide)).trans ((F222 17 (by decide)).trans ((F218 17 (by decide)).trans ((F215 17 (by decide)).trans ((F211 17 (by decide)).trans ((F201 17 (by decide)).trans ((F198 17 (by decide)).trans ((F194 17 (by decide)).trans ((F188 17 (by decide)).trans ((F185 17 (by decide)).trans ((F181 17 (by decide)).trans ((F169 17 (by decide)).trans ((F166 17 (by decide)).trans ((F162 17 (by decide)).trans ((F156 17 (by decide)).trans ((F153 17 (by decide)).trans ((F149 17 (by decide)).trans ((F139 17 (by decide)).trans ((F136 17 (by decide)).trans ((F132 17 (by decide)).trans ((F125 17 (by decide)).trans ((F122 17 (by decide)).trans ((F118 17 (by decide)).trans ((F109 17 (by decide)).trans ((F106 17 (by decide)).trans ((F102 17 (by decide)).trans ((F95 17 (by decide)).trans ((F92 17 (by decide)).trans ((F88 17 (by decide)).trans ((F78 17 (by decide)).trans ((F75 17 (by decide)).trans ((F71 17 (by decide)).trans ((F68 17 (by decide)).trans ((F64 17 (by decide)).trans ((F51 17 (by decide)).trans ((F47 17 (by decide)).trans q38)))))))))))))))))))))))))))))))))))))))), ((F237 18 (by decide)).trans ((F234 18 (by decide)).trans ((F231 18 (by decide)).trans ((F228 18 (by decide)).trans ((F225 18 (by decide)).trans ((F222 18 (by decide)).trans ((F218 18 (by decide)).trans ((F215 18 (by decide)).trans ((F211 18 (by decide)).trans ((F201 18 (by decide)).trans ((F198 18 (by decide)).trans ((F194 18 (by decide)).trans ((F188 18 (by decide)).trans ((F185 18 (by decide)).trans ((F181 18 (by decide)).trans ((F169 18 (by decide)).trans ((F166 18 (by decide)).trans ((F162 18 (by decide)).trans ((F156 18 (by decide)).trans ((F153 18 (by decide)).trans ((F149 18 (by decide)).trans ((F139 18 (by decide)).trans ((F136 18 (by decide)).trans ((F132 18 (by decide)).trans ((F125 18 (by decide)).trans ((F122 18 (by decide)).trans ((F118 18 (by decide)).trans ((F109 18 (by decide)).trans ((F106 18 (by decide)).trans ((F102 18 (by decide)).trans ((F95 18 (by decide)).trans ((F92 18 (by decide)).trans ((F88 18 (by decide)).trans ((F78 18 (by decide)).trans ((F75 18 (by decide)).trans ((F71 18 (by decide)).trans ((F68 18 (by decide)).trans ((F64 18 (by decide)).trans ((F51 18 (by decide)).trans ((F47 18 (by decide)).trans q39)))))))))))))))))))))))))))))))))))))))), ((F237 19 (by decide)).trans ((F234 19 (by decide)).trans ((F231 19 (by decide)).trans ((F228 19 (by decide)).trans ((F225 19 (by decide)).trans ((F222 19 (by decide)).trans ((F218 19 (by decide)).trans ((F215 19 (by decide)).trans ((F211 19 (by decide)).trans ((F201 19 (by decide)).trans ((F198 19 (by decide)).trans ((F194 19 (by decide)).trans ((F188 19 (by decide)).trans ((F185 19 (by decide)).trans ((F181 19 (by decide)).trans ((F169 19 (by decide)).trans ((F166 19 (by decide)).trans ((F162 19 (by decide)).trans ((F156 19 (by decide)).trans ((F153 19 (by decide)).trans ((F149 19 (by decide)).trans ((F139 19 (by decide)).trans ((F136 19 (by decide)).trans ((F132 19 (by decide)).trans ((F125 19 (by decide)).trans ((F122 19 (by decide)).trans ((F118 19 (by decide)).trans ((F109 19 (by decide)).trans ((F106 19 (by decide)).trans ((F102 19 (by decide)).trans ((F95 19 (by decide)).trans ((F92 19 (by decide)).trans ((F88 19 (by decide)).trans ((F78 19 (by decide)).trans ((F75 19 (by decide)).trans ((F71 19 (by decide)).trans ((F68 19 (by decide)).trans ((F64 19 (by decide)).trans ((F51 19 (by decide)).trans ((F47 19 (by decide)).trans q40)))))))))))))))))))))))))))))))))))))))), ((F237 20 (by decide)).trans ((F234 20 (by decide)).trans ((F231 20 (by decide)).trans ((F228 20 (by decide)).trans ((F225 20 (by decide)).trans ((F222 20 (by decide)).trans ((F218 20 (by decide)).trans ((F215 20 (by decide)).trans ((F211 20 (by decide)).trans ((F201 20 (by decide)).trans ((F198 20 (by decide)).trans ((F194 20 (by decide)).trans ((F188 20 (by decide)).trans ((F185 20 (by decide)).trans ((F181 20 (by decide)).trans ((F169 20 (by decide)).trans ((F166 20 (by decide)).trans ((F162 20 (by decide)).trans ((F156 20 (by decide)).trans ((F153 20 (by decide)).trans ((F149 20 (by decide)).trans ((F139 20 (by decide)).trans ((F136 20 (by decide)).trans ((F132 20 (by decide)).trans ((F125 20 (by decide)).trans ((F122 20 (by decide)).trans ((F118 20 (by decide)).trans ((F109 20 (by decide)).trans ((F106 20 (by decide)).trans ((F102 20 (by decide)).trans ((F95 20 (by decide)).trans ((F92 20 (by decide)).trans ((F88 20 (by decide)).trans ((F78 20 (by decide)).trans ((F75 20 (by decide)).trans ((F71 20 (by decide)).trans ((F68 20 (by decide)).trans ((F64 20 (by decide)).trans ((F51 20 (by decide)).trans ((F47 20 (by decide)).trans q41)))))))))))))))))))))))))))))))))))))))), ((F237 21 (by decide)).trans ((F234 21 (by decide)).trans ((F231 21 (by decide)).trans ((F228 21 (by decide)).trans ((F225 21 (by decide)).trans ((F222 21 (by decide)).trans ((F218 21 (by decide)).trans ((F215 21 (by decide)).trans ((F211 21 (by decide)).trans ((F201 21 (by decide)).trans ((F198 21 (by decide)).trans ((F194 21 (by decide)).trans ((F188 21 (by decide)).trans ((F185 21 (by decide)).trans ((F181 21 (by decide)).trans ((F169 21 (by decide)).trans ((F166 21 (by decide)).trans ((F162 21 (by decide)).trans ((F156 21 (by decide)).trans ((F153 21 (by decide)).trans ((F149 21 (by decide)).trans ((F139 21 (by decide)).trans ((F136 21 (by decide)).trans ((F132 21 (by decide)).trans ((F125 21 (by decide)).trans ((F122 21 (by decide)).trans ((F118 21 (by decide)).trans ((F109 21 (by decide)).trans ((F106 21 (by decide)).trans ((F102 21 (by decide)).trans ((F95 21 (by decide)).trans ((F92 21 (by decide)).trans ((F88 21 (by decide)).trans ((F78 21 (by decide)).trans ((F75 21 (by decide)).trans ((F71 21 (by decide)).trans ((F68 21 (by decide)).trans ((F64 21 (by decide)).trans ((F51 21 (by decide)).trans ((F47 21 (by decide)).trans q42)))))))))))))))))))))))))))))))))))))))), ((F237 22 (by decide)).trans ((F234 22 (by decide)).trans ((F231 22 (by decide)).trans ((F228 22 (by decide)).trans ((F225 22 (by decide)).trans ((F222 22 (by decide)).trans ((F218 22 (by decide)).trans ((F215 22 (by decide)).trans ((F211 22 (by decide)).trans ((F201 22 (by decide)).trans ((F198 22 (by decide)).trans ((F194 22 (by decide)).trans ((F188 22 (by decide)).trans ((F185 22 (by decide)).trans ((F181 22 (by decide)).trans ((F169 22 (by decide)).trans ((F166 22 (by decide)).trans ((F162 22 (by decide)).trans ((F156 22 (by decide)).trans ((F153 22 (by decide)).trans ((F149 22 (by decide)).trans ((F139 22 (by decide)).trans ((F136 22 (by decide)).trans ((F132 22 (by decide)).trans ((F125 22 (by decide)).trans ((F122 22 (by decide)).trans ((F118 22 (by decide)).trans ((F109 22 (by decide)).trans ((F106 22 (by decide)).trans ((F102 22 (by decide)).trans ((F95 22 (by decide)).trans ((F92 22 (by decide)).trans ((F88 22 (by decide)).trans ((F78 22 (by decide)).trans ((F75 22 (by decide)).trans ((F71 22 (by decide)).trans ((F68 22 (by decide)).trans q54))))))))))))))))))))))))))))))))))))), ((F237 23 (by decide)).trans ((F234 23 (by decide)).trans ((F231 23 (by decide)).trans ((F228 23 (by decide)).trans ((F225 23 (by decide)).trans ((F222 23 (by decide)).trans ((F218 23 (by decide)).trans ((F215 23 (by decide)).trans ((F211 23 (by decide)).trans ((F201 23 (by decide)).trans ((F198 23 (by decide)).trans ((F194 23 (by decide)).trans ((F188 23 (by decide)).trans ((F185 23 (by decide)).trans ((F181 23 (by decide)).trans ((F169 23 (by decide)).trans ((F166 23 (by decide)).trans ((F162 23 (by decide)).trans ((F156 23 (by decide)).trans ((F153 23 (by decide)).trans ((F149 23 (by decide)).trans ((F139 23 (by decide)).trans ((F136 23 (by decide)).trans ((F132 23 (by decide)).trans ((F125 23 (by decide)).trans ((F122 23 (by decide)).trans ((F118 23 (by decide)).trans ((F109 23 (by decide)).trans ((F106 23 (by decide)).trans ((F102 23 (by decide)).trans ((F95 23 (by decide)).trans ((F92 23 (by decide)).trans ((F88 23 (by decide)).trans ((F78 23 (by decide)).trans ((F75 23 (by decide)).trans ((F71 23 (by decide)).trans ((F68 23 (by decide)).trans q55))))))))))))))))))))))))))))))))))))), ((F237 24 (by decide)).trans ((F234 24 (by decide)).trans ((F231 24 (by decide)).trans ((F228 24 (by decide)).trans ((F225 24 (by decide)).trans ((F222 24 (by decide)).trans ((F218 24 (by decide)).trans ((F215 24 (by decide)).trans ((F211 24 (by decide)).trans ((F201 24 (by decide)).trans ((F198 24 (by decide)).trans ((F194 24 (by decide)).trans ((F188 24 (by decide)).trans ((F185 24 (by decide)).trans ((F181 24 (by decide)).trans ((F169 24 (by decide)).trans ((F166 24 (by decide)).trans ((F162 24 (by decide)).trans ((F156 24 (by decide)).trans ((F153 24 (by decide)).trans ((F149 24 (by decide)).trans ((F139 24 (by decide)).trans ((F136 24 (by decide)).trans ((F132 24 (by decide)).trans ((F125 24 (by decide)).trans ((F122 24 (by decide)).trans ((F118 24 (by decide)).trans ((F109 24 (by decide)).trans ((F106 24 (by decide)).trans ((F102 24 (by decide)).trans ((F95 24 (by decide)).trans ((F92 24 (by decide)).trans ((F88 24 (by decide)).trans ((F78 24 (by decide)).trans ((F75 24 (by decide)).trans ((F71 24 (by decide)).trans ((F68 24 (by decide)).trans q56))))))))))))))))))))))))))))))))))))), ((F237 25 (by decide)).trans ((F234 25 (by decide)).trans ((F231 25 (by decide)).trans ((F228 25 (by decide)).trans ((F225 25 (by decide)).trans ((F222 25 (by decide)).trans ((F218 25 (by decide)).trans ((F215 25 (by decide)).trans ((F211 25 (by decide)).trans ((F201 25 (by decide)).trans ((F198 25 (by decide)).trans ((F194 25 (by decide)).trans ((F188 25 (by decide)).trans ((F185 25 (by decide)).trans ((F181 25 (by decide)).trans ((F169 25 (by decide)).trans ((F166 25 (by decide)).trans ((F162 25 (by decide)).trans ((F156 25 (by decide)).trans ((F153 25 (by decide)).trans ((F149 25 (by decide)).trans ((F139 25 (by decide)).trans ((F136 25 (by decide)).trans ((F132 25 (by decide)).trans ((F125 25 (by decide)).trans ((F122 25 (by decide)).trans ((F118 25 (by decide)).trans ((F109 25 (by decide)).trans ((F106 25 (by decide)).trans ((F102 25 (by decide)).trans ((F95 25 (by decide)).trans ((F92 25 (by decide)).trans ((F88 25 (by decide)).trans ((F78 25 (by decide)).trans ((F75 25 (by decide)).trans ((F71 25 (by decide)).trans ((F68 25 (by decide)).trans q57))))))))))))))))))))))))))))))))))))), ((F237 26 (by decide)).trans ((F234 26 (by decide)).trans ((F231 26 (by decide)).trans ((F228 26 (by decide)).trans ((F225 26 (by decide)).trans ((F222 26 (by decide)).trans ((F218 26 (by decide)).trans ((F215 26 (by decide)).trans ((F211 26 (by decide)).trans ((F201 26 (by decide)).trans ((F198 26 (by decide)).trans ((F194 26 (by decide)).trans ((F188 26 (by decide)).trans ((F185 26 (by decide)).trans ((F181 26 (by decide)).trans ((F169 26 (by decide)).trans ((F166 26 (by decide)).trans ((F162 26 (by decide)).trans ((F156 26 (by decide)).trans ((F153 26 (by decide)).trans ((F149 26 (by decide)).trans ((F139 26 (by decide)).trans ((F136 26 (by decide)).trans ((F132 26 (by decide)).trans ((F125 26 (by decide)).trans ((F122 26 (by decide)).trans ((F118 26 (by decide)).trans ((F109 26 (by decide)).trans ((F106 26 (by decide)).trans ((F102 26 (by decide)).trans ((F95 26 (by decide)).trans ((F92 26 (by decide)).trans ((F88 26 (by decide)).trans ((F78 26 (by decide)).trans ((F75 26 (by decide)).trans ((F71 26 (by decide)).trans ((F68 26 (by decide)).trans q58))))))))))))))))))))))))))))))))))))), ((F237 27 (by decide)).trans ((F234 27 (by decide)).trans ((F231 27 (by decide)).trans ((F228 27 (by decide)).trans ((F225 27 (by decide)).trans ((F222 27 (by decide)).trans ((F218 27 (by decide)).trans ((F215 27 (by decide)).trans ((F211 27 (by decide)).trans ((F201 27 (by decide)).trans ((F198 27 (by decide)).trans ((F194 27 (by decide)).trans ((F188 27 (by decide)).trans ((F185 27 (by decide)).trans ((F181 27 (by decide)).trans ((F169 27 (by decide)).trans ((F166 27 (by decide)).trans ((F162 27 (by decide)).trans ((F156 27 (by decide)).trans ((F153 27 (by decide)).trans ((F149 27 (by decide)).trans ((F139 27 (by decide)).trans ((F136 27 (by decide)).trans ((F132 27 (by decide)).trans ((F125 27 (by decide)).trans ((F122 27 (by decide)).trans ((F118 27 (by decide)).trans ((F109 27 (by decide)).trans ((F106 27 (by decide)).trans ((F102 27 (by decide)).trans ((F95 27 (by decide)).trans ((F92 27 (by decide)).trans ((F88 27 (by decide)).trans ((F78 27 (by decide)).trans ((F75 27 (by decide)).trans ((F71 27 (by decide)).trans ((F68 27 (by decide)).trans q59))))))))))))))))))))))))))))))))))))), ((F237 28 (by decide)).trans ((F234 28 (by decide)).trans ((F231 28 (by decide)).trans ((F228 28 (by decide)).trans ((F225 28 (by decide)).trans ((F222 28 (by decide)).trans ((F218 28 (by decide)).trans ((F215 28 (by decide)).trans ((F211 28 (by decide)).trans ((F201 28 (by decide)).trans ((F198 28 (by decide)).trans ((F194 28 (by decide)).trans ((F188 28 (by decide)).trans ((F185 28 (by decide)).trans ((F181 28 (by decide)).trans ((F169 28 (by decide)).trans ((F166 28 (by decide)).trans ((F162 28 (by decide)).trans ((F156 28 (by decide)).trans ((F153 28 (by decide)).trans ((F149 28 (by decide)).trans ((F139 28 (by decide)).trans ((F136 28 (by decide)).trans ((F132 28 (by decide)).trans ((F125 28 (by decide)).trans ((F122 28 (by decide)).trans ((F118 28 (by decide)).trans ((F109 28 (by decide)).trans ((F106 28 (by decide)).trans ((F102 28 (by decide)).trans ((F95 28 (by decide)).trans ((F92 28 (by decide)).trans ((F88 28 (by decide)).trans ((F78 28 (by decide)).trans ((F75 28 (by decide)).trans ((F71 28 (by decide)).trans ((F68 28 (by decide)).trans q60))))))))))))))))))))))))))))))))))))), ((F237 29 (by decide)).trans ((F234 29 (by decide)).trans ((F231 29 (by decide)).trans ((F228 29 (by decide)).trans ((F225 29 (by decide)).trans ((F222 29 (by decide)).trans ((F218 29 (by decide)).trans ((F215 29 (by decide)).trans ((F211 29 (by decide)).trans ((F201 29 (by decide)).trans ((F198 29 (by decide)).trans ((F194 29 (by decide)).trans ((F188 29 (by decide)).trans ((F185 29 (by decide)).trans ((F181 29 (by decide)).trans ((F169 29 (by decide)).trans ((F166 29 (by decide)).trans ((F162 29 (by decide)).trans ((F156 29 (by decide)).trans ((F153 29 (by decide)).trans ((F149 29 (by decide)).trans ((F139 29 (by decide)).trans ((F136 29 (by decide)).trans ((F132 29 (by decide)).trans ((F125 29 (by decide)).trans ((F122 29 (by decide)).trans ((F118 29 (by decide)).trans ((F109 29 (by decide)).trans ((F106 29 (by decide)).trans ((F102 29 (by decide)).trans ((F95 29 (by decide)).trans ((F92 29 (by decide)).trans ((F88 29 (by decide)).trans ((F78 29 (by decide)).trans ((F75 29 (by decide)).trans ((F71 29 (by decide)).trans ((F68 29 (by decide)).trans q61))))))))))))))))))))))))))))))))))))), ((F237 30 (by decide)).trans ((F234 30 (by decide)).trans ((F231 30 (by decide)).trans ((F228 30 (by decide)).trans ((F225 30 (by decide)).trans ((F222 30 (by decide)).trans ((F218 30 (by decide)).trans ((F215 30 (by decide)).trans ((F211 30 (by decide)).trans ((F201 30 (by decide)).trans ((F198 30 (by decide)).trans ((F194 30 (by decide)).trans ((F188 30 (by decide)).trans ((F185 30 (by decide)).trans ((F181 30 (by decide)).trans ((F169 30 (by decide)).trans ((F166 30 (by decide)).trans ((F162 30 (by decide)).trans ((F156 30 (by decide)).trans ((F153 30 (by decide)).trans ((F149 30 (by decide)).trans ((F139 30 (by decide)).trans ((F136 30 (by decide)).trans ((F132 30 (by decide)).trans ((F125 30 (by decide)).trans ((F122 30 (by decide)).trans ((F118 30 (by decide)).trans ((F109 30 (by decide)).trans ((F106 30 (by decide)).trans ((F102 30 (by decide)).trans ((F95 30 (by decide)).trans ((F92 30 (by decide)).trans ((F88 30 (by decide)).trans ((F78 30 (by decide)).trans ((F75 30 (by decide)).trans ((F71 30 (by decide)).trans ((F68 30 (by decide)).trans q62))))))))))))))))))))))))))))))))))))), ((F237 31 (by decide)).trans ((F234 31 (by decide)).trans ((F231 31 (by decide)).trans ((F228 31 (by decide)).trans ((F225 31 (by decide)).trans ((F222 31 (by decide)).trans ((F218 31 (by decide)).trans ((F215 31 (by decide)).trans ((F211 31 (by decide)).trans ((F201 31 (by decide)).trans ((F198 31 (by decide)).trans ((F194 31 (by decide)).trans ((F188 31 (by decide)).trans ((F185 31 (by decide)).trans ((F181 31 (by decide)).trans ((F169 31 (by decide)).trans ((F166 31 (by decide)).trans ((F162 31 (by decide)).trans ((F156 31 (by decide)).trans ((F153 31 (by decide)).trans ((F149 31 (by decide)).trans ((F139 31 (by decide)).trans ((F136 31 (by decide)).trans ((F132 31 (by decide)).trans ((F125 31 (by decide)).trans ((F122 31 (by decide)).trans ((F118 31 (by decide)).trans ((F109 31 (by decide)).trans ((F106 31 (by decide)).trans ((F102 31 (by decide)).trans ((F95 31 (by decide)).trans ((F92 31 (by decide)).trans ((F88 31 (by decide)).trans ((F78 31 (by decide)).trans ((F75 31 (by decide)).trans ((F71 31 (by decide)).trans ((F68 31 (by decide)).trans q63))))))))))))))))))))))))))))))))))))), ((F237 32 (by decide)).trans ((F234 32 (by decide)).trans ((F231 32 (by decide)).trans ((F228 32 (by decide)).trans ((F225 32 (by decide)).trans ((F222 32 (by decide)).trans ((F218 32 (by decide)).trans ((F215 32 (by decide)).trans ((F211 32 (by decide)).trans ((F201 32 (by decide)).trans ((F198 32 (by decide)).trans ((F194 32 (by decide)).trans ((F188 32 (by decide)).trans ((F185 32 (by decide)).trans ((F181 32 (by decide)).trans ((F169 32 (by decide)).trans ((F166 32 (by decide)).trans ((F162 32 (by decide)).trans ((F156 32 (by decide)).trans ((F153 32 (by decide)).trans ((F149 32 (by decide)).trans ((F139 32 (by decide)).trans ((F136 32 (by decide)).trans ((F132 32 (by decide)).trans ((F125 32 (by decide)).trans ((F122 32 (by decide)).trans ((F118 32 (by decide)).trans ((F109 32 (by decide)).trans ((F106 32 (by decide)).trans ((F102 32 (by decide)).trans ((F95 32 (by decide)).trans ((F92 32 (by decide)).trans ((F88 32 (by decide)).trans ((F78 32 (by decide)).trans ((F75 32 (by decide)).trans E70))))))))))))))))))))))))))))))))))), ((F237 33 (by decide)).trans ((F234 33 (by decide)).trans ((F231 33 (by decide)).trans ((F228 33 (by decide)).trans ((F225 33 (by decide)).trans ((F222 33 (by decide)).trans ((F218 33 (by decide)).trans ((F215 33 (by decide)).trans ((F211 33 (by decide)).trans ((F201 33 (by decide)).trans ((F198 33 (by decide)).trans ((F194 33 (by decide)).trans ((F188 33 (by decide)).trans ((F185 33 (by decide)).trans ((F181 33 (by decide)).trans ((F169 33 (by decide)).trans ((F166 33 (by decide)).trans ((F162 33 (by decide)).trans ((F156 33 (by decide)).trans ((F153 33 (by decide)).trans ((F149 33 (by decide)).trans ((F139 33 (by decide)).trans ((F136 33 (by decide)).trans ((F132 33 (by decide)).trans ((F125 33 (by decide)).trans ((F122 33 (by decide)).trans ((F118 33 (by decide)).trans ((F109 33 (by decide)).trans ((F106 33 (by decide)).trans ((F102 33 (by decide)).trans ((F95 33 (by decide)).trans ((F92 33 (by decide)).trans q81)))))))))))))))))))))))))))))))), ((F237 34 (by decide)).trans ((F234 34 (by decide)).trans ((F231 34 (by decide)).trans ((F228 34 (by decide)).trans ((F225 34 (by decide)).trans ((F222 34 (by decide)).trans ((F218 34 (by decide)).trans ((F215 34 (by decide)).trans ((F211 34 (by decide)).trans ((F201 34 (by decide)).trans ((F198 34 (by decide)).trans ((F194 34 (by decide)).trans ((F188 34 (by decide)).trans ((F185 34 (by decide)).trans ((F181 34 (by decide)).trans ((F169 34 (by decide)).trans ((F166 34 (by decide)).trans ((F162 34 (by decide)).trans ((F156 34 (by decide)).trans ((F153 34 (by decide)).trans ((F149 34 (by decide)).trans ((F139 34 (by decide)).trans ((F136 34 (by decide)).trans ((F132 34 (by decide)).trans ((F125 34 (by decide)).trans ((F122 34 (by decide)).trans ((F118 34 (by decide)).trans ((F109 34 (by decide)).trans ((F106 34 (by decide)).trans ((F102 34 (by decide)).trans ((F95 34 (by decide)).trans ((F92 34 (by decide)).trans q82)))))))))))))))))))))))))))))))), ((F237 35 (by decide)).trans ((F234 35 (by decide)).trans ((F231 35 (by decide)).trans ((F228 35 (by decide)).trans ((F225 35 (by decide)).trans ((F222 35 (by decide)).trans ((F218 35 (by decide)).trans ((F215 35 (by decide)).trans ((F211 35 (by decide)).trans ((F201 35 (by decide)).trans ((F198 35 (by decide)).trans ((F194 35 (by decide)).trans ((F188 35 (by decide)).trans ((F185 35 (by decide)).trans ((F181 35 (by decide)).trans ((F169 35 (by decide)).trans ((F166 35 (by decide)).trans ((F162 35 (by decide)).trans ((F156 35 (by decide)).trans ((F153 35 (by decide)).trans ((F149 35 (by decide)).trans ((F139 35 (by decide)).trans ((F136 35 (by decide)).trans ((F132 35 (by decide)).trans ((F125 35 (by decide)).trans ((F122 35 (by decide)).trans ((F118 35 (by decide)).trans ((F109 35 (by decide)).trans ((F106 35 (by decide)).trans ((F102 35 (by decide)).trans ((F95 35 (by decide)).trans ((F92 35 (by decide)).trans q83)))))))))))))))))))))))))))))))), ((F237 36 (by decide)).trans ((F234 36 (by decide)).trans ((F231 36 (by decide)).trans ((F228 36 (by decide)).trans ((F225 36 (by decide)).trans ((F222 36 (by decide)).trans ((F218 36 (by decide)).trans ((F215 36 (by decide)).trans ((F211 36 (by decide)).trans ((F201 36 (by decide)).trans ((F198 36 (by decide)).trans ((F194 36 (by decide)).trans ((F188 36 (by decide)).trans ((F185 36 (by decide)).trans ((F181 36 (by decide)).trans ((F169 36 (by decide)).trans ((F166 36 (by decide)).trans ((F162 36 (by decide)).trans ((F156 36 (by decide)).trans ((F153 36 (by decide)).trans ((F149 36 (by decide)).trans ((F139 36 (by decide)).trans ((F136 36 (by decide)).trans ((F132 36 (by decide)).trans ((F125 36 (by decide)).trans ((F122 36 (by decide)).trans ((F118 36 (by decide)).trans ((F109 36 (by decide)).trans ((F106 36 (by decide)).trans ((F102 36 (by decide)).trans ((F95 36 (by decide)).trans ((F92 36 (by decide)).trans q84)))))))))))))))))))))))))))))))), ((F237 37 (by decide)).trans ((F234 37 (by decide)).trans ((F231 37 (by decide)).trans ((F228 37 (by decide)).trans ((F225 37 (by decide)).trans ((F222 37 (by decide)).trans ((F218 37 (by decide)).trans ((F215 37 (by decide)).trans ((F211 37 (by decide)).trans ((F201 37 (by decide)).trans ((F198 37 (by decide)).trans ((F194 37 (by decide)).trans ((F188 37 (by decide)).trans ((F185 37 (by decide)).trans ((F181 37 (by decide)).trans ((F169 37 (by decide)).trans ((F166 37 (by decide)).trans ((F162 37 (by decide)).trans ((F156 37 (by decide)).trans ((F153 37 (by decide)).trans ((F149 37 (by decide)).trans ((F139 37 (by decide)).trans ((F136 37 (by decide)).trans ((F132 37 (by decide)).trans ((F125 37 (by decide)).trans ((F122 37 (by decide)).trans ((F118 37 (by decide)).trans ((F109 37 (by decide)).trans ((F106 37 (by decide)).trans ((F102 37 (by decide)).trans ((F95 37 (by decide)).trans ((F92 37 (by decide)).trans q85)))))))))))))))))))))))))))))))), ((F237 38 (by decide)).trans ((F234 38 (by decide)).trans ((F231 38 (by decide)).trans ((F228 38 (by decide)).trans ((F225 38 (by decide)).trans ((F222 38 (by decide)).trans ((F218 38 (by decide)).trans ((F215 38 (by decide)).trans ((F211 38 (by decide)).trans ((F201 38 (by decide)).trans ((F198 38 (by decide)).trans ((F194 38 (by decide)).trans ((F188 38 (by decide)).trans ((F185 38 (by decide)).trans ((F181 38 (by decide)).trans ((F169 38 (by decide)).trans ((F166 38 (by decide)).trans ((F162 38 (by decide)).trans ((F156 38 (by decide)).trans ((F153 38 (by decide)).trans ((F149 38 (by decide)).trans ((F139 38 (by decide)).trans ((F136 38 (by decide)).trans ((F132 38 (by decide)).trans ((F125 38 (by decide)).trans ((F122 38 (by decide)).trans ((F118 38 (by decide)).trans ((F109 38 (by decide)).trans ((F106 38 (by decide)).trans ((F102 38 (by decide)).trans ((F95 38 (by decide)).trans ((F92 38 (by decide)).trans q86)))))))))))))))))))))))))))))))), ((F237 39 (by decide)).trans ((F234 39 (by decide)).trans ((F231 39 (by decide)).trans ((F228 39 (by decide)).trans ((F225 39 (by decide)).trans ((F222 39 (by decide)).trans ((F218 39 (by decide)).trans ((F215 39 (by decide)).trans ((F211 39 (by decide)).trans ((F201 39 (by decide)).trans ((F198 39 (by decide)).trans ((F194 39 (by decide)).trans ((F188 39 (by decide)).trans ((F185 39 (by decide)).trans ((F181 39 (by decide)).trans ((F169 39 (by decide)).trans ((F166 39 (by decide)).trans ((F162 39 (by decide)).trans ((F156 39 (by decide)).trans ((F153 39 (by decide)).trans ((F149 39 (by decide)).trans ((F139 39 (by decide)).trans ((F136 39 (by decide)).trans ((F132 39 (by decide)).trans ((F125 39 (by decide)).trans ((F122 39 (by decide)).trans ((F118 39 (by decide)).trans ((F109 39 (by decide)).trans ((F106 39 (by decide)).trans ((F102 39 (by decide)).trans ((F95 39 (by decide)).trans ((F92 39 (by decide)).trans q87)))))))))))))))))))))))))))))))), ((F237 40 (by decide)).trans ((F234 40 (by decide)).trans ((F231 40 (by decide)).trans ((F228 40 (by decide)).trans ((F225 40 (by decide)).trans ((F222 40 (by decide)).trans ((F218 40 (by decide)).trans ((F215 40 (by decide)).trans ((F211 40 (by decide)).trans ((F201 40 (by decide)).trans ((F198 40 (by decide)).trans ((F194 40 (by decide)).trans ((F188 40 (by decide)).trans ((F185 40 (by decide)).trans ((F181 40 (by decide)).trans ((F169 40 (by decide)).trans ((F166 40 (by decide)).trans ((F162 40 (by decide)).trans ((F156 40 (by decide)).trans ((F153 40 (by decide)).trans ((F149 40 (by decide)).trans ((F139 40 (by decide)).trans ((F136 40 (by decide)).trans ((F132 40 (by decide)).trans ((F125 40 (by decide)).trans ((F122 40 (by decide)).trans ((F118 40 (by decide)).trans ((F109 40 (by decide)).trans ((F106 40 (by decide)).trans q98))))))))))))))))))))))))))))), ((F237 41 (by decide)).trans ((F234 41 (by decide)).trans ((F231 41 (by decide)).trans ((F228 41 (by decide)).trans ((F225 41 (by decide)).trans ((F222 41 (by decide)).trans ((F218 41 (by decide)).trans ((F215 41 (by decide)).trans ((F211 41 (by decide)).trans ((F201 41 (by decide)).trans ((F198 41 (by decide)).trans ((F194 41 (by decide)).trans ((F188 41 (by decide)).trans ((F185 41 (by decide)).trans ((F181 41 (by decide)).trans ((F169 41 (by decide)).trans ((F166 41 (by decide)).trans ((F162 41 (by decide)).trans ((F156 41 (by decide)).trans ((F153 41 (by decide)).trans ((F149 41 (by decide)).trans ((F139 41 (by decide)).trans ((F136 41 (by decide)).trans ((F132 41 (by decide)).trans ((F125 41 (by decide)).trans ((F122 41 (by decide)).trans ((F118 41 (by decide)).trans ((F109 41 (by decide)).trans ((F106 41 (by decide)).trans q99))))))))))))))))))))))))))))), ((F237 42 (by decide)).trans ((F234 42 (by decide)).trans ((F231 42 (by decide)).trans ((F228 42 (by decide)).trans ((F225 42 (by decide)).trans ((F222 42 (by decide)).trans ((F218 42 (by decide)).trans ((F215 42 (by decide)).trans ((F211 42 (by decide)).trans ((F201 42 (by decide)).trans ((F198 42 (by decide)).trans ((F194 42 (by decide)).trans ((F188 42 (by decide)).trans ((F185 42 (by decide)).trans ((F181 42 (by decide)).trans ((F169 42 (by decide)).trans ((F166 42 (by decide)).trans ((F162 42 (by decide)).trans ((F156 42 (by decide)).trans ((F153 42 (by decide)).trans ((F149 42 (by decide)).trans ((F139 42 (by decide)).trans ((F136 42 (by decide)).trans ((F132 42 (by decide)).trans ((F125 42 (by decide)).trans ((F122 42 (by decide)).trans ((F118 42 (by decide)).trans ((F109 42 (by decide)).trans ((F106 42 (by decide)).trans q100))))))))))))))))))))))))))))), ((F237 43 (by decide)).trans ((F234 43 (by decide)).trans ((F231 43 (by decide)).trans ((F228 43 (by decide)).trans ((F225 43 (by decide)).trans ((F222 43 (by decide)).trans ((F218 43 (by decide)).trans ((F215 43 (by decide)).trans ((F211 43 (by decide)).trans ((F201 43 (by decide)).trans ((F198 43 (by decide)).trans ((F194 43 (by decide)).trans ((F188 43 (by decide)).trans ((F185 43 (by decide)).trans ((F181 43 (by decide)).trans ((F169 43 (by decide)).trans ((F166 43 (by decide)).trans ((F162 43 (by decide)).trans ((F156 43 (by decide)).trans ((F153 43 (by decide)).trans ((F149 43 (by decide)).trans ((F139 43 (by decide)).trans ((F136 43 (by decide)).trans ((F132 43 (by decide)).trans ((F125 43 (by decide)).trans ((F122 43 (by decide)).trans ((F118 43 (by decide)).trans ((F109 43 (by decide)).trans ((F106 43 (by decide)).trans q101))))))))))))))))))))))))))))), ((F237 44 (by decide)).trans ((F234 44 (by decide)).trans ((F231 44 (by decide)).trans ((F228 44 (by decide)).trans ((F225 44 (by decide)).trans ((F222 44 (by decide)).trans ((F218 44 (by decide)).trans ((F215 44 (by decide)).trans ((F211 44 (by decide)).trans ((F201 44 (by decide)).trans ((F198 44 (by decide)).trans ((F194 44 (by decide)).trans ((F188 44 (by decide)).trans ((F185 44 (by decide)).trans ((F181 44 (by decide)).trans ((F169 44 (by decide)).trans ((F166 44 (by decide)).trans ((F162 44 (by decide)).trans ((F156 44 (by decide)).trans ((F153 44 (by decide)).trans ((F149 44 (by decide)).trans ((F139 44 (by decide)).trans ((F136 44 (by decide)).trans ((F132 44 (by decide)).trans ((F125 44 (by decide)).trans ((F122 44 (by decide)).trans q113)))))))))))))))))))))))))), ((F237 45 (by decide)).trans ((F234 45 (by decide)).trans ((F231 45 (by decide)).trans ((F228 45 (by decide)).trans ((F225 45 (by decide)).trans ((F222 45 (by decide)).trans ((F218 45 (by decide)).trans ((F215 45 (by decide)).trans ((F211 45 (by decide)).trans ((F201 45 (by decide)).trans ((F198 45 (by decide)).trans ((F194 45 (by decide)).trans ((F188 45 (by decide)).trans ((F185 45 (by decide)).trans ((F181 45 (by decide)).trans ((F169 45 (by decide)).trans ((F166 45 (by decide)).trans ((F162 45 (by decide)).trans ((F156 45 (by decide)).trans ((F153 45 (by decide)).trans ((F149 45 (by decide)).trans ((F139 45 (by decide)).trans ((F136 45 (by decide)).trans ((F132 45 (by decide)).trans ((F125 45 (by decide)).trans ((F122 45 (by decide)).trans q114)))))))))))))))))))))))))), ((F237 46 (by decide)).trans ((F234 46 (by decide)).trans ((F231 46 (by decide)).trans ((F228 46 (by decide)).trans ((F225 46 (by decide)).trans ((F222 46 (by decide)).trans ((F218 46 (by decide)).trans ((F215 46 (by decide)).trans ((F211 46 (by decide)).trans ((F201 46 (by decide)).trans ((F198 46 (by decide)).trans ((F194 46 (by decide)).trans ((F188 46 (by decide)).trans ((F185 46 (by decide)).trans ((F181 46 (by decide)).trans ((F169 46 (by decide)).trans ((F166 46 (by decide)).trans ((F162 46 (by decide)).trans ((F156 46 (by decide)).trans ((F153 46 (by decide)).trans ((F149 46 (by decide)).trans ((F139 46 (by decide)).trans ((F136 46 (by decide)).trans ((F132 46 (by decide)).trans ((F125 46 (by decide)).trans ((F122 46 (by decide)).trans q115)))))))))))))))))))))))))), ((F237 47 (by decide)).trans ((F234 47 (by decide)).trans ((F231 47 (by decide)).trans ((F228 47 (by decide)).trans ((F225 47 (by decide)).trans ((F222 47 (by decide)).trans ((F218 47 (by decide)).trans ((F215 47 (by decide)).trans ((F211 47 (by decide)).trans ((F201 47 (by decide)).trans ((F198 47 (by decide)).trans ((F194 47 (by decide)).trans ((F188 47 (by decide)).trans ((F185 47 (by decide)).trans ((F181 47 (by decide)).trans ((F169 47 (by decide)).trans ((F166 47 (by decide)).trans ((F162 47 (by decide)).trans ((F156 47 (by decide)).trans ((F153 47 (by decide)).trans ((F149 47 (by decide)).trans ((F139 47 (by decide)).trans ((F136 47 (by decide)).trans ((F132 47 (by decide)).trans ((F125 47 (by decide)).trans ((F122 47 (by decide)).trans q116)))))))))))))))))))))))))), ((F237 48 (by decide)).trans ((F234 48 (by decide)).trans ((F231 48 (by decide)).trans ((F228 48 (by decide)).trans ((F225 48 (by decide)).trans ((F222 48 (by decide)).trans ((F218 48 (by decide)).trans ((F215 48 (by decide)).trans ((F211 48 (by decide)).trans ((F201 48 (by decide)).trans ((F198 48 (by decide)).trans ((F194 48 (by decide)).trans ((F188 48 (by decide)).trans ((F185 48 (by decide)).trans ((F181 48 (by decide)).trans ((F169 48 (by decide)).trans ((F166 48 (by decide)).trans ((F162 48 (by decide)).trans ((F156 48 (by decide)).trans ((F153 48 (by decide)).trans ((F149 48 (by decide)).trans ((F139 48 (by decide)).trans ((F136 48 (by decide)).trans ((F132 48 (by decide)).trans ((F125 48 (by decide)).trans ((F122 48 (by decide)).trans q117)))))))))))))))))))))))))), ((F237 49 (by decide)).trans ((F234 49 (by decide)).trans ((F231 49 (by decide)).trans ((F228 49 (by decide)).trans ((F225 49 (by decide)).trans ((F222 49 (by decide)).trans ((F218 49 (by decide)).trans ((F215 49 (by decide)).trans ((F211 49 (by decide)).trans ((F201 49 (by decide)).trans ((F198 49 (by decide)).trans ((F194 49 (by decide)).trans ((F188 49 (by decide)).trans ((F185 49 (by decide)).trans ((F181 49 (by decide)).trans ((F169 49 (by decide)).trans ((F166 49 (by decide)).trans ((F162 49 (by decide)).trans ((F156 49 (by decide)).trans ((F153 49 (by decide)).trans ((F149 49 (by decide)).trans ((F139 49 (by decide)).trans ((F136 49 (by decide)).trans q129))))))))))))))))))))))), ((F237 50 (by decide)).trans ((F234 50 (by decide)).trans ((F231 50 (by decide)).trans ((F228 50 (by decide)).trans ((F225 50 (by decide)).trans ((F222 50 (by decide)).trans ((F218 50 (by decide)).trans ((F215 50 (by decide)).trans ((F211 50 (by decide)).trans ((F201 50 (by decide)).trans ((F198 50 (by decide)).trans ((F194 50 (by decide)).trans ((F188 50 (by decide)).trans ((F185 50 (by decide)).trans ((F181 50 (by decide)).trans ((F169 50 (by decide)).trans ((F166 50 (by decide)).trans ((F162 50 (by decide)).trans ((F156 50 (by decide)).trans ((F153 50 (by decide)).trans ((F149 50 (by decide)).trans ((F139 50 (by decide)).trans ((F136 50 (by decide)).trans q130))))))))))))))))))))))), ((F237 51 (by decide)).trans ((F234 51 (by decide)).trans ((F231 51 (by decide)).trans ((F228 51 (by decide)).trans ((F225 51 (by decide)).trans ((F222 51 (by decide)).trans ((F218 51 (by decide)).trans ((F215 51 (by decide)).trans ((F211 51 (by decide)).trans ((F201 51 (by decide)).trans ((F198 51 (by decide)).trans ((F194 51 (by decide)).trans ((F188 51 (by decide)).trans ((F185 51 (by decide)).trans ((F181 51 (by decide)).trans ((F169 51 (by decide)).trans ((F166 51 (by decide)).trans ((F162 51 (by decide)).trans ((F156 51 (by decide)).trans ((F153 51 (by decide)).trans ((F149 51 (by decide)).trans ((F139 51 (by decide)).trans ((F136 51 (by decide)).trans q131))))))))))))))))))))))), ((F237 52 (by decide)).trans ((F234 52 (by decide)).trans ((F231 52 (by decide)).trans ((F228 52 (by decide)).trans ((F225 52 (by decide)).trans ((F222 52 (by decide)).trans ((F218 52 (by decide)).trans ((F215 52 (by decide)).trans ((F211 52 (by decide)).trans ((F201 52 (by decide)).trans ((F198 52 (by decide)).trans ((F194 52 (by decide)).trans ((F188 52 (by decide)).trans ((F185 52 (by decide)).trans ((F181 52 (by decide)).trans ((F169 52 (by decide)).trans ((F166 52 (by decide)).trans ((F162 52 (by decide)).trans ((F156 52 (by decide)).trans ((F153 52 (by decide)).trans q143)))))))))))))))))))), ((F237 53 (by decide)).trans ((F234 53 (by decide)).trans ((F231 53 (by decide)).trans ((F228 53 (by decide)).trans ((F225 53 (by decide)).trans ((F222 53 (by decide)).trans ((F218 53 (by decide)).trans ((F215 53 (by decide)).trans ((F211 53 (by decide)).trans ((F201 53 (by decide)).trans ((F198 53 (by decide)).trans ((F194 53 (by decide)).trans ((F188 53 (by decide)).trans ((F185 53 (by decide)).trans ((F181 53 (by decide)).trans ((F169 53 (by decide)).trans ((F166 53 (by decide)).trans ((F162 53 (by decide)).trans ((F156 53 (by decide)).trans ((F153 53 (by decide)).trans q144)))))))))))))))))))), ((F237 54 (by decide)).trans ((F234 54 (by decide)).trans ((F231 54 (by decide)).trans ((F228 54 (by decide)).trans ((F225 54 (by decide)).trans ((F222 54 (by decide)).trans ((F218 54 (by decide)).trans ((F215 54 (by decide)).trans ((F211 54 (by decide)).trans ((F201 54 (by decide)).trans ((F198 54 (by decide)).trans ((F194 54 (by decide)).trans ((F188 54 (by decide)).trans ((F185 54 (by decide)).trans ((F181 54 (by decide)).trans ((F169 54 (by decide)).trans ((F166 54 (by decide)).trans ((F162 54 (by decide)).trans ((F156 54 (by decide)).trans ((F153 54 (by decide)).trans q145)))))))))))))))))))), ((F237 55 (by decide)).trans ((F234 55 (by decide)).trans ((F231 55 (by decide)).trans ((F228 55 (by decide)).trans ((F225 55 (by decide)).trans ((F222 55 (by decide)).trans ((F218 55 (by decide)).trans ((F215 55 (by decide)).trans ((F211 55 (by decide)).trans ((F201 55 (by decide)).trans ((F198 55 (by decide)).trans ((F194 55 (by decide)).trans ((F188 55 (by decide)).trans ((F185 55 (by decide)).trans ((F181 55 (by decide)).trans ((F169 55 (by decide)).trans ((F166 55 (by decide)).trans ((F162 55 (by decide)).trans ((F156 55 (by decide)).trans ((F153 55 (by decide)).trans q146)))))))))))))))))))), ((F237 56 (by decide)).trans ((F234 56 (by decide)).trans ((F231 56 (by decide)).trans ((F228 56 (by decide)).trans ((F225 56 (by decide)).trans ((F222 56 (by decide)).trans ((F218 56 (by decide)).trans ((F215 56 (by decide)).trans ((F211 56 (by decide)).trans ((F201 56 (by decide)).trans ((F198 56 (by decide)).trans ((F194 56 (by decide)).trans ((F188 56 (by decide)).trans ((F185 56 (by decide)).trans ((F181 56 (by decide)).trans ((F169 56 (by decide)).trans ((F166 56 (by decide)).trans ((F162 56 (by decide)).trans ((F156 56 (by decide)).trans ((F153 56 (by decide)).trans q147)))))))))))))))))))), ((F237 57 (by decide)).trans ((F234 57 (by decide)).trans ((F231 57 (by decide)).trans ((F228 57 (by decide)).trans ((F225 57 (by decide)).trans ((F222 57 (by decide)).trans ((F218 57 (by decide)).trans ((F215 57 (by decide)).trans ((F211 57 (by decide)).trans ((F201 57 (by decide)).trans ((F198 57 (by decide)).trans ((F194 57 (by decide)).trans ((F188 57 (by decide)).trans ((F185 57 (by decide)).trans ((F181 57 (by decide)).trans ((F169 57 (by decide)).trans ((F166 57 (by decide)).trans ((F162 57 (by decide)).trans ((F156 57 (by decide)).trans ((F153 57 (by decide)).trans q148)))))))))))))))))))), ((F237 58 (by decide)).trans ((F234 58 (by decide)).trans ((F231 58 (by decide)).trans ((F228 58 (by decide)).trans ((F225 58 (by decide)).trans ((F222 58 (by decide)).trans ((F218 58 (by decide)).trans ((F215 58 (by decide)).trans ((F211 58 (by decide)).trans ((F201 58 (by decide)).trans ((F198 58 (by decide)).trans ((F194 58 (by decide)).trans ((F188 58 (by decide)).trans ((F185 58 (by decide)).trans ((F181 58 (by decide)).trans ((F169 58 (by decide)).trans ((F166 58 (by decide)).trans q160))))))))))))))))), ((F237 59 (by decide)).trans ((F234 59 (by decide)).trans ((F231 59 (by decide)).trans ((F228 59 (by decide)).trans ((F225 59 (by decide)).trans ((F222 59 (by decide)).trans ((F218 59 (by decide)).trans ((F215 59 (by decide)).trans ((F211 59 (by decide)).trans ((F201 59 (by decide)).trans ((F198 59 (by decide)).trans ((F194 59 (by decide)).trans ((F188 59 (by decide)).trans ((F185 59 (by decide)).trans ((F181 59 (by decide)).trans ((F169 59 (by decide)).trans ((F166 59 (by decide)).trans q161))))))))))))))))), ((F237 60 (by decide)).trans ((F234 60 (by decide)).trans ((F231 60 (by decide)).trans ((F228 60 (by decide)).trans ((F225 60 (by decide)).trans ((F222 60 (by decide)).trans ((F218 60 (by decide)).trans ((F215 60 (by decide)).trans ((F211 60 (by decide)).trans ((F201 60 (by decide)).trans ((F198 60 (by decide)).trans ((F194 60 (by decide)).trans ((F188 60 (by decide)).trans ((F185 60 (by decide)).trans q173)))))))))))))), ((F237 61 (by decide)).trans ((F234 61 (by decide)).trans ((F231 61 (by decide)).trans ((F228 61 (by decide)).trans ((F225 61 (by decide)).trans ((F222 61 (by decide)).trans ((F218 61 (by decide)).trans ((F215 61 (by decide)).trans ((F211 61 (by decide)).trans ((F201 61 (by decide)).trans ((F198 61 (by decide)).trans ((F194 61 (by decide)).trans ((F188 61 (by decide)).trans ((F185 61 (by decide)).trans q174)))))))))))))), ((F237 62 (by decide)).trans ((F234 62 (by decide)).trans ((F231 62 (by decide)).trans ((F228 62 (by decide)).trans ((F225 62 (by decide)).trans ((F222 62 (by decide)).trans ((F218 62 (by decide)).trans ((F215 62 (by decide)).trans ((F211 62 (by decide)).trans ((F201 62 (by decide)).trans ((F198 62 (by decide)).trans ((F194 62 (by decide)).trans ((F188 62 (by decide)).trans ((F185 62 (by decide)).trans q175)))))))))))))), ((F237 63 (by decide)).trans ((F234 63 (by decide)).trans ((F231 63 (by decide)).trans ((F228 63 (by decide)).trans ((F225 63 (by decide)).trans ((F222 63 (by decide)).trans ((F218 63 (by decide)).trans ((F215 63 (by decide)).trans ((F211 63 (by decide)).trans ((F201 63 (by decide)).trans ((F198 63 (by decide)).trans ((F194 63 (by decide)).trans ((F188 63 (by decide)).trans ((F185 63 (by decide)).trans q176)))))))))))))), ((F237 64 (by decide)).trans ((F234 64 (by decide)).trans ((F231 64 (by decide)).trans ((F228 64 (by decide)).trans ((F225 64 (by decide)).trans ((F222 64 (by decide)).trans ((F218 64 (by decide)).trans ((F215 64 (by decide)).trans ((F211 64 (by decide)).trans ((F201 64 (by decide)).trans ((F198 64 (by decide)).trans ((F194 64 (by decide)).trans ((F188 64 (by decide)).trans ((F185 64 (by decide)).trans q177)))))))))))))), ((F237 65 (by decide)).trans ((F234 65 (by decide)).trans ((F231 65 (by decide)).trans ((F228 65 (by decide)).trans ((F225 65 (by decide)).trans ((F222 65 (by decide)).trans ((F218 65 (by decide)).trans ((F215 65 (by decide)).trans ((F211 65 (by decide)).trans ((F201 65 (by decide)).trans ((F198 65 (by decide)).trans ((F194 65 (by decide)).trans ((F188 65 (by decide)).trans ((F185 65 (by decide)).trans q178)))))))))))))), ((F237 66 (by decide)).trans ((F234 66 (by decide)).trans ((F231 66 (by decide)).trans ((F228 66 (by decide)).trans ((F225 66 (by decide)).trans ((F222 66 (by decide)).trans ((F218 66 (by decide)).trans ((F215 66 (by decide)).trans ((F211 66 (by decide)).trans ((F201 66 (by decide)).trans ((F198 66 (by decide)).trans ((F194 66 (by decide)).trans ((F188 66 (by decide)).trans ((F185 66 (by decide)).trans q179)))))))))))))), ((F237 67 (by decide)).trans ((F234 67 (by decide)).trans ((F231 67 (by decide)).trans ((F228 67 (by decide)).trans ((F225 67 (by decide)).trans ((F222 67 (by decide)).trans ((F218 67 (by decide)).trans ((F215 67 (by decide)).trans ((F211 67 (by decide)).trans ((F201 67 (by decide)).trans ((F198 67 (by decide)).trans ((F194 67 (by decide)).trans ((F188 67 (by decide)).trans ((F185 67 (by decide)).trans q180)))))))))))))), ((F237 68 (by decide)).trans ((F234 68 (by decide)).trans ((F231 68 (by decide)).trans ((F228 68 (by decide)).trans ((F225 68 (by decide)).trans ((F222 68 (by decide)).trans ((F218 68 (by decide)).trans ((F215 68 (by decide)).trans ((F211 68 (by decide)).trans ((F201 68 (by decide)).trans ((F198 68 (by decide)).trans q192))))))))))), ((F237 69 (by decide)).trans ((F234 69 (by decide)).trans ((F231 69 (by decide)).trans ((F228 69 (by decide)).trans ((F225 69 (by decide)).trans ((F222 69 (by decide)).trans ((F218 69 (by decide)).trans ((F215 69 (by decide)).trans ((F211 69 (by decide)).trans ((F201 69 (by decide)).trans ((F198 69 (by decide)).trans q193))))))))))), ((F237 70 (by decide)).trans ((F234 70 (by decide)).trans ((F231 70 (by decide)).trans ((F228 70 (by decide)).trans ((F225 70 (by decide)).trans ((F222 70 (by decide)).trans ((F218 70 (by decide)).trans ((F215 70 (by decide)).trans q205)))))))), ((F237 71 (by decide)).trans ((F234 71 (by decide)).trans ((F231 71 (by decide)).trans ((F228 71 (by decide)).trans ((F225 71 (by decide)).trans ((F222 71 (by decide)).trans ((F218 71 (by decide)).trans ((F215 71 (by decide)).trans q206)))))))), ((F237 72 (by decide)).trans ((F234 72 (by decide)).trans ((F231 72 (by decide)).trans ((F228 72 (by decide)).trans ((F225 72 (by decide)).trans ((F222 72 (by decide)).trans ((F218 72 (by decide)).trans ((F215 72 (by decide)).trans q207)))))))), ((F237 73 (by decide)).trans ((F234 73 (by decide)).trans ((F231 73 (by decide)).trans ((F228 73 (by decide)).trans ((F225 73 (by decide)).trans ((F222 73 (by decide)).trans ((F218 73 (by decide)).trans ((F215 73 (by decide)).trans q208)))))))), ((F237 74 (by decide)).trans ((F234 74 (by decide)).trans ((F231 74 (by decide)).trans ((F228 74 (by decide)).trans ((F225 74 (by decide)).trans ((F222 74 (by decide)).trans ((F218 74 (by decide)).trans ((F215 74 (by decide)).trans q209)))))))), ((F237 75 (by decide)).trans ((F234 75 (by decide)).trans ((F231 75 (by decide)).trans ((F228 75 (by decide)).trans ((F225 75 (by decide)).trans ((F222 75 (by decide)).trans ((F218 75 (by decide)).trans ((F215 75 (by decide)).trans q210)))))))), ((F237 76 (by decide)).trans ((F234 76 (by decide)).trans ((F231 76 (by decide)).trans ((F228 76 (by decide)).trans ((F225 76 (by decide)).trans ((F222 76 (by decide)).trans E217))))))⟩

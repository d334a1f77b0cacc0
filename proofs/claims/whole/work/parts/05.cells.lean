/-! ROWS OF THE SIMPLE MACHINE: fields, arrays, new cells -/
def s_CF (C : String) (T : u_T) (N : Nat) : Prop := (∀ w ∈ u_ws C T N, w ∈ s_tb) ∧ (∃ ty0 : Nat → FieldType, ∀ k, k < N → parseFieldDescriptor (T k).2.2.1 = some (ty0 k)) ∧ (∀ a, a < N → ∀ b, b < N → a ≠ b → (T a).2.1 ≠ (T b).2.1)
theorem s_cf_0 : s_CF RX0 TX0 2 := by
  refine ⟨fun w hw => ?_, ⟨tyX0, tyX0_ok⟩, nmX0⟩
  obtain ⟨j, hj, rfl⟩ := List.mem_map.mp hw
  have hj := List.mem_range.mp hj
  exact match j, hj with
  | 0, _ => s_tb_mem 350 (by decide +kernel) rfl
  | 1, _ => s_tb_mem 352 (by decide +kernel) rfl
  | j + 2, hj => absurd hj (by omega)
theorem s_cf_1 : s_CF RX1 TX1 5 := by
  refine ⟨fun w hw => ?_, ⟨tyX1, tyX1_ok⟩, nmX1⟩
  obtain ⟨j, hj, rfl⟩ := List.mem_map.mp hw
  have hj := List.mem_range.mp hj
  exact match j, hj with
  | 0, _ => s_tb_mem 481 (by decide +kernel) rfl
  | 1, _ => s_tb_mem 483 (by decide +kernel) rfl
  | 2, _ => s_tb_mem 485 (by decide +kernel) rfl
  | 3, _ => s_tb_mem 487 (by decide +kernel) rfl
  | 4, _ => s_tb_mem 489 (by decide +kernel) rfl
  | j + 5, hj => absurd hj (by omega)
theorem s_cf_2 : s_CF RX2 TX2 6 := by
  refine ⟨fun w hw => ?_, ⟨tyX2, tyX2_ok⟩, nmX2⟩
  obtain ⟨j, hj, rfl⟩ := List.mem_map.mp hw
  have hj := List.mem_range.mp hj
  exact match j, hj with
  | 0, _ => s_tb_mem 419 (by decide +kernel) rfl
  | 1, _ => s_tb_mem 421 (by decide +kernel) rfl
  | 2, _ => s_tb_mem 423 (by decide +kernel) rfl
  | 3, _ => s_tb_mem 425 (by decide +kernel) rfl
  | 4, _ => s_tb_mem 427 (by decide +kernel) rfl
  | 5, _ => s_tb_mem 429 (by decide +kernel) rfl
  | j + 6, hj => absurd hj (by omega)
theorem s_cf_3 : s_CF RX3 TX3 15 := by
  refine ⟨fun w hw => ?_, ⟨tyX3, tyX3_ok⟩, nmX3⟩
  obtain ⟨j, hj, rfl⟩ := List.mem_map.mp hw
  have hj := List.mem_range.mp hj
  exact match j, hj with
  | 0, _ => s_tb_mem 216 (by decide +kernel) rfl
  | 1, _ => s_tb_mem 218 (by decide +kernel) rfl
  | 2, _ => s_tb_mem 220 (by decide +kernel) rfl
  | 3, _ => s_tb_mem 222 (by decide +kernel) rfl
  | 4, _ => s_tb_mem 224 (by decide +kernel) rfl
  | 5, _ => s_tb_mem 226 (by decide +kernel) rfl
  | 6, _ => s_tb_mem 228 (by decide +kernel) rfl
  | 7, _ => s_tb_mem 230 (by decide +kernel) rfl
  | 8, _ => s_tb_mem 232 (by decide +kernel) rfl
  | 9, _ => s_tb_mem 234 (by decide +kernel) rfl
  | 10, _ => s_tb_mem 236 (by decide +kernel) rfl
  | 11, _ => s_tb_mem 238 (by decide +kernel) rfl
  | 12, _ => s_tb_mem 240 (by decide +kernel) rfl
  | 13, _ => s_tb_mem 242 (by decide +kernel) rfl
  | 14, _ => s_tb_mem 244 (by decide +kernel) rfl
  | j + 15, hj => absurd hj (by omega)
theorem s_cf_4 : s_CF RX4 TX4 10 := by
  refine ⟨fun w hw => ?_, ⟨tyX4, tyX4_ok⟩, nmX4⟩
  obtain ⟨j, hj, rfl⟩ := List.mem_map.mp hw
  have hj := List.mem_range.mp hj
  exact match j, hj with
  | 0, _ => s_tb_mem 448 (by decide +kernel) rfl
  | 1, _ => s_tb_mem 450 (by decide +kernel) rfl
  | 2, _ => s_tb_mem 452 (by decide +kernel) rfl
  | 3, _ => s_tb_mem 454 (by decide +kernel) rfl
  | 4, _ => s_tb_mem 456 (by decide +kernel) rfl
  | 5, _ => s_tb_mem 458 (by decide +kernel) rfl
  | 6, _ => s_tb_mem 460 (by decide +kernel) rfl
  | 7, _ => s_tb_mem 462 (by decide +kernel) rfl
  | 8, _ => s_tb_mem 464 (by decide +kernel) rfl
  | 9, _ => s_tb_mem 466 (by decide +kernel) rfl
  | j + 10, hj => absurd hj (by omega)
theorem s_cf_5 : s_CF RX5 TX5 10 := by
  refine ⟨fun w hw => ?_, ⟨tyX5, tyX5_ok⟩, nmX5⟩
  obtain ⟨j, hj, rfl⟩ := List.mem_map.mp hw
  have hj := List.mem_range.mp hj
  exact match j, hj with
  | 0, _ => s_tb_mem 300 (by decide +kernel) rfl
  | 1, _ => s_tb_mem 302 (by decide +kernel) rfl
  | 2, _ => s_tb_mem 304 (by decide +kernel) rfl
  | 3, _ => s_tb_mem 306 (by decide +kernel) rfl
  | 4, _ => s_tb_mem 308 (by decide +kernel) rfl
  | 5, _ => s_tb_mem 310 (by decide +kernel) rfl
  | 6, _ => s_tb_mem 312 (by decide +kernel) rfl
  | 7, _ => s_tb_mem 314 (by decide +kernel) rfl
  | 8, _ => s_tb_mem 316 (by decide +kernel) rfl
  | 9, _ => s_tb_mem 318 (by decide +kernel) rfl
  | j + 10, hj => absurd hj (by omega)
theorem s_cf_6 : s_CF RX6 TX6 3 := by
  refine ⟨fun w hw => ?_, ⟨tyX6, tyX6_ok⟩, nmX6⟩
  obtain ⟨j, hj, rfl⟩ := List.mem_map.mp hw
  have hj := List.mem_range.mp hj
  exact match j, hj with
  | 0, _ => s_tb_mem 333 (by decide +kernel) rfl
  | 1, _ => s_tb_mem 335 (by decide +kernel) rfl
  | 2, _ => s_tb_mem 337 (by decide +kernel) rfl
  | j + 3, hj => absurd hj (by omega)
theorem s_cf_7 : s_CF RX7 TX7 5 := by
  refine ⟨fun w hw => ?_, ⟨tyX7, tyX7_ok⟩, nmX7⟩
  obtain ⟨j, hj, rfl⟩ := List.mem_map.mp hw
  have hj := List.mem_range.mp hj
  exact match j, hj with
  | 0, _ => s_tb_mem 275 (by decide +kernel) rfl
  | 1, _ => s_tb_mem 277 (by decide +kernel) rfl
  | 2, _ => s_tb_mem 279 (by decide +kernel) rfl
  | 3, _ => s_tb_mem 281 (by decide +kernel) rfl
  | 4, _ => s_tb_mem 283 (by decide +kernel) rfl
  | j + 5, hj => absurd hj (by omega)
theorem s_cf_8 : s_CF RX8 TX8 4 := by
  refine ⟨fun w hw => ?_, ⟨tyX8, tyX8_ok⟩, nmX8⟩
  obtain ⟨j, hj, rfl⟩ := List.mem_map.mp hw
  have hj := List.mem_range.mp hj
  exact match j, hj with
  | 0, _ => s_tb_mem 365 (by decide +kernel) rfl
  | 1, _ => s_tb_mem 367 (by decide +kernel) rfl
  | 2, _ => s_tb_mem 369 (by decide +kernel) rfl
  | 3, _ => s_tb_mem 371 (by decide +kernel) rfl
  | j + 4, hj => absurd hj (by omega)
theorem s_cf_9 : s_CF RX9 TX9 7 := by
  refine ⟨fun w hw => ?_, ⟨tyX9, tyX9_ok⟩, nmX9⟩
  obtain ⟨j, hj, rfl⟩ := List.mem_map.mp hw
  have hj := List.mem_range.mp hj
  exact match j, hj with
  | 0, _ => s_tb_mem 389 (by decide +kernel) rfl
  | 1, _ => s_tb_mem 391 (by decide +kernel) rfl
  | 2, _ => s_tb_mem 393 (by decide +kernel) rfl
  | 3, _ => s_tb_mem 395 (by decide +kernel) rfl
  | 4, _ => s_tb_mem 397 (by decide +kernel) rfl
  | 5, _ => s_tb_mem 399 (by decide +kernel) rfl
  | 6, _ => s_tb_mem 401 (by decide +kernel) rfl
  | j + 7, hj => absurd hj (by omega)
theorem s_cf_10 : s_CF RX10 TX10 6 := by
  refine ⟨fun w hw => ?_, ⟨tyX10, tyX10_ok⟩, nmX10⟩
  obtain ⟨j, hj, rfl⟩ := List.mem_map.mp hw
  have hj := List.mem_range.mp hj
  exact match j, hj with
  | 0, _ => s_tb_mem 504 (by decide +kernel) rfl
  | 1, _ => s_tb_mem 506 (by decide +kernel) rfl
  | 2, _ => s_tb_mem 508 (by decide +kernel) rfl
  | 3, _ => s_tb_mem 510 (by decide +kernel) rfl
  | 4, _ => s_tb_mem 512 (by decide +kernel) rfl
  | 5, _ => s_tb_mem 514 (by decide +kernel) rfl
  | j + 6, hj => absurd hj (by omega)
theorem s_cf_11 : s_CF RX11 TX11 18 := by
  refine ⟨fun w hw => ?_, ⟨tyX11, tyX11_ok⟩, nmX11⟩
  obtain ⟨j, hj, rfl⟩ := List.mem_map.mp hw
  have hj := List.mem_range.mp hj
  exact match j, hj with
  | 0, _ => s_tb_mem 535 (by decide +kernel) rfl
  | 1, _ => s_tb_mem 537 (by decide +kernel) rfl
  | 2, _ => s_tb_mem 539 (by decide +kernel) rfl
  | 3, _ => s_tb_mem 541 (by decide +kernel) rfl
  | 4, _ => s_tb_mem 543 (by decide +kernel) rfl
  | 5, _ => s_tb_mem 545 (by decide +kernel) rfl
  | 6, _ => s_tb_mem 547 (by decide +kernel) rfl
  | 7, _ => s_tb_mem 549 (by decide +kernel) rfl
  | 8, _ => s_tb_mem 551 (by decide +kernel) rfl
  | 9, _ => s_tb_mem 553 (by decide +kernel) rfl
  | 10, _ => s_tb_mem 555 (by decide +kernel) rfl
  | 11, _ => s_tb_mem 557 (by decide +kernel) rfl
  | 12, _ => s_tb_mem 559 (by decide +kernel) rfl
  | 13, _ => s_tb_mem 561 (by decide +kernel) rfl
  | 14, _ => s_tb_mem 563 (by decide +kernel) rfl
  | 15, _ => s_tb_mem 565 (by decide +kernel) rfl
  | 16, _ => s_tb_mem 567 (by decide +kernel) rfl
  | 17, _ => s_tb_mem 569 (by decide +kernel) rfl
  | j + 18, hj => absurd hj (by omega)
theorem s_cf_12 : s_CF RX12 TX12 64 := by
  refine ⟨fun w hw => ?_, ⟨tyX12, tyX12_ok⟩, nmX12⟩
  obtain ⟨j, hj, rfl⟩ := List.mem_map.mp hw
  have hj := List.mem_range.mp hj
  exact match j, hj with
  | 0, _ => s_tb_mem 1640 (by decide +kernel) rfl
  | 1, _ => s_tb_mem 1642 (by decide +kernel) rfl
  | 2, _ => s_tb_mem 1644 (by decide +kernel) rfl
  | 3, _ => s_tb_mem 1646 (by decide +kernel) rfl
  | 4, _ => s_tb_mem 1648 (by decide +kernel) rfl
  | 5, _ => s_tb_mem 1650 (by decide +kernel) rfl
  | 6, _ => s_tb_mem 1652 (by decide +kernel) rfl
  | 7, _ => s_tb_mem 1654 (by decide +kernel) rfl
  | 8, _ => s_tb_mem 1656 (by decide +kernel) rfl
  | 9, _ => s_tb_mem 1658 (by decide +kernel) rfl
  | 10, _ => s_tb_mem 1660 (by decide +kernel) rfl
  | 11, _ => s_tb_mem 1662 (by decide +kernel) rfl
  | 12, _ => s_tb_mem 1664 (by decide +kernel) rfl
  | 13, _ => s_tb_mem 1666 (by decide +kernel) rfl
  | 14, _ => s_tb_mem 1668 (by decide +kernel) rfl
  | 15, _ => s_tb_mem 1670 (by decide +kernel) rfl
  | 16, _ => s_tb_mem 1672 (by decide +kernel) rfl
  | 17, _ => s_tb_mem 1674 (by decide +kernel) rfl
  | 18, _ => s_tb_mem 1676 (by decide +kernel) rfl
  | 19, _ => s_tb_mem 1678 (by decide +kernel) rfl
  | 20, _ => s_tb_mem 1680 (by decide +kernel) rfl
  | 21, _ => s_tb_mem 1682 (by decide +kernel) rfl
  | 22, _ => s_tb_mem 1684 (by decide +kernel) rfl
  | 23, _ => s_tb_mem 1686 (by decide +kernel) rfl
  | 24, _ => s_tb_mem 1688 (by decide +kernel) rfl
  | 25, _ => s_tb_mem 1690 (by decide +kernel) rfl
  | 26, _ => s_tb_mem 1692 (by decide +kernel) rfl
  | 27, _ => s_tb_mem 1694 (by decide +kernel) rfl
  | 28, _ => s_tb_mem 1696 (by decide +kernel) rfl
  | 29, _ => s_tb_mem 1698 (by decide +kernel) rfl
  | 30, _ => s_tb_mem 1700 (by decide +kernel) rfl
  | 31, _ => s_tb_mem 1702 (by decide +kernel) rfl
  | 32, _ => s_tb_mem 1704 (by decide +kernel) rfl
  | 33, _ => s_tb_mem 1706 (by decide +kernel) rfl
  | 34, _ => s_tb_mem 1708 (by decide +kernel) rfl
  | 35, _ => s_tb_mem 1710 (by decide +kernel) rfl
  | 36, _ => s_tb_mem 1712 (by decide +kernel) rfl
  | 37, _ => s_tb_mem 1714 (by decide +kernel) rfl
  | 38, _ => s_tb_mem 1716 (by decide +kernel) rfl
  | 39, _ => s_tb_mem 1718 (by decide +kernel) rfl
  | 40, _ => s_tb_mem 1720 (by decide +kernel) rfl
  | 41, _ => s_tb_mem 1722 (by decide +kernel) rfl
  | 42, _ => s_tb_mem 1724 (by decide +kernel) rfl
  | 43, _ => s_tb_mem 1726 (by decide +kernel) rfl
  | 44, _ => s_tb_mem 1728 (by decide +kernel) rfl
  | 45, _ => s_tb_mem 1730 (by decide +kernel) rfl
  | 46, _ => s_tb_mem 1732 (by decide +kernel) rfl
  | 47, _ => s_tb_mem 1734 (by decide +kernel) rfl
  | 48, _ => s_tb_mem 1736 (by decide +kernel) rfl
  | 49, _ => s_tb_mem 1738 (by decide +kernel) rfl
  | 50, _ => s_tb_mem 1740 (by decide +kernel) rfl
  | 51, _ => s_tb_mem 1742 (by decide +kernel) rfl
  | 52, _ => s_tb_mem 1744 (by decide +kernel) rfl
  | 53, _ => s_tb_mem 1746 (by decide +kernel) rfl
  | 54, _ => s_tb_mem 1748 (by decide +kernel) rfl
  | 55, _ => s_tb_mem 1750 (by decide +kernel) rfl
  | 56, _ => s_tb_mem 1752 (by decide +kernel) rfl
  | 57, _ => s_tb_mem 1754 (by decide +kernel) rfl
  | 58, _ => s_tb_mem 1756 (by decide +kernel) rfl
  | 59, _ => s_tb_mem 1758 (by decide +kernel) rfl
  | 60, _ => s_tb_mem 1760 (by decide +kernel) rfl
  | 61, _ => s_tb_mem 1762 (by decide +kernel) rfl
  | 62, _ => s_tb_mem 1764 (by decide +kernel) rfl
  | 63, _ => s_tb_mem 1766 (by decide +kernel) rfl
  | j + 64, hj => absurd hj (by omega)
theorem s_cf (ci : Nat) {C : String} {T : u_T} {N : Nat} (hc : s_cl[ci]? = some (C, T, N)) : s_CF C T N := by
  match ci, hc with
  | 0, hc => cases hc; exact s_cf_0
  | 1, hc => cases hc; exact s_cf_1
  | 2, hc => cases hc; exact s_cf_2
  | 3, hc => cases hc; exact s_cf_3
  | 4, hc => cases hc; exact s_cf_4
  | 5, hc => cases hc; exact s_cf_5
  | 6, hc => cases hc; exact s_cf_6
  | 7, hc => cases hc; exact s_cf_7
  | 8, hc => cases hc; exact s_cf_8
  | 9, hc => cases hc; exact s_cf_9
  | 10, hc => cases hc; exact s_cf_10
  | 11, hc => cases hc; exact s_cf_11
  | 12, hc => cases hc; exact s_cf_12
  | k + 13, hc => simp [s_cl] at hc
/-- a field's link: of class ci its field fk, of type ty, final or not -/
def s_Fl (own : String) (index ci fk : Nat) (ty : FieldType) (fin : Bool) : Prop := ∃ (C : String) (T : u_T) (N : Nat), s_cl[ci]? = some (C, T, N) ∧ fk < N ∧ parseFieldDescriptor (T fk).2.2.1 = some ty ∧ (T fk).2.2.2 = fin ∧ Cond.fieldLink own index (T fk).1 (T fk).2.1 (T fk).2.2.1 ∈ s_tb ∧ (T fk).1 = C
theorem v_get {P : s_C} {k u n pc : Nat} {h : Nat → sE} {lv : List (Nat × Value)} {st : List Value} {ci fk index i : Nat} {ty : FieldType} {fin : Bool} {fs : List Value} {v : Value} (hdg : decode P.1.2.1 pc = .ok (.getfield index, 3)) (hf : s_Fl P.1.1.cls index ci fk ty fin) (he : h i = .inr (ci, fs)) (hv : fs[fk]? = some v) (hi : i < n) (kk : V P k u n h (pc + 3) lv (v :: st)) : V P k u n h pc lv (.ref i :: st) := by
  intro l D A al0 p e s m args below meth c E al be H locs ls ha hW hS hl
  obtain ⟨C, T, N, hc, hk, hty, hfin, hw, hC⟩ := hf
  exact va_get E.1 E.2.1 E.2.2.2.2.2.1 (s_cf ci hc).1 E.2.2.2.2.1 E.2.2.2.2.2.2.2.2.1 hW.1 i (hW.at hi he) hc fk hk (E.2.2.2.2.2.1 _ hw) (fun _ h => h) (by rw [List.getElem?_map, hv]; rfl) hdg (kk l D A al0 p e s m args below meth c E al be H locs ls ha hW hS hl)
theorem v_put {P : s_C} {k u n pc : Nat} {h : Nat → sE} {lv : List (Nat × Value)} {st : List Value} {ci fk index i : Nat} {ty : FieldType} {fs : List Value} {v : Value} (hdg : decode P.1.2.1 pc = .ok (.putfield index, 3)) (hf : s_Fl P.1.1.cls index ci fk ty false) (he : h i = .inr (ci, fs)) (hi : i < n) (hlen : fk < fs.length) (hn : ∀ al, narrow ty (s_tr al v) = s_tr al v ∧ fits ty (s_tr al v) = true) (hok : s_ok n v) (kk : ∀ h' : Nat → sE, h' i = .inr (ci, fs.set fk v) → (∀ j, j ≠ i → h' j = h j) → V P k u n h' (pc + 3) lv st) : V P k u n h pc lv (v :: .ref i :: st) := by
  intro l D A al0 p e s m args below meth c E al be H locs ls ha hW hS hl
  obtain ⟨C, T, N, hc, hk, hty, hfin, hw, hC⟩ := hf
  obtain ⟨hcf, ⟨ty0, hty0⟩, hnm⟩ := s_cf ci hc
  refine va_put E.1 E.2.1 E.2.2.2.2.2.1 hcf ty0 hty0 hnm E.2.2.2.2.1 E.2.2.2.2.2.2.2.2.1 hW.1 hW.2.1 hS i (hW.at hi he) hc fk hk (E.2.2.2.2.2.1 _ hw) (fun _ h => h) hfin hty (hn al).1 (hn al).2 (by rw [List.length_map]; exact hlen) hdg (fun H1 locs1 hP1 hD1 hS1 => ?_)
  rw [← List.map_set] at hP1 hD1
  refine kk (fun j => if j = i then .inr (ci, fs.set fk v) else h j) (if_pos rfl) (fun j hj => if_neg hj) l D A al0 p e s m args below meth c E al be H1 locs1 ls ha (hW.set (e := .inr (ci, fs.set fk v)) (if_pos rfl) (fun j hj => if_neg hj) (fun w hw => ?_) (fun _ _ h => by cases h) hP1 hD1) hS1 hl
  have h0 := hW.2.2.2 i hi
  rw [he] at h0
  rcases List.mem_or_eq_of_mem_set hw with h1 | h1
  · exact h0 w h1
  · rw [h1]; exact hok
theorem v_putF {P : s_C} {k u n pc : Nat} {h : Nat → sE} {lv : List (Nat × Value)} {st : List Value} {ci fk index i : Nat} {ty : FieldType} {fs : List Value} {v : Value} (hdg : decode P.1.2.1 pc = .ok (.putfield index, 3)) (hf : s_Fl P.1.1.cls index ci fk ty true) (hname : P.1.1.name = "<init>") (hown : s_cl[ci]?.map (fun q => q.1) = some P.1.1.cls) (he : h i = .inr (ci, fs)) (hi : i < n) (hlen : fk < fs.length) (hn : ∀ al, narrow ty (s_tr al v) = s_tr al v ∧ fits ty (s_tr al v) = true) (hok : s_ok n v) (kk : ∀ h' : Nat → sE, h' i = .inr (ci, fs.set fk v) → (∀ j, j ≠ i → h' j = h j) → V P k u n h' (pc + 3) lv st) : V P k u n h pc lv (v :: .ref i :: st) := by
  intro l D A al0 p e s m args below meth c E al be H locs ls ha hW hS hl
  obtain ⟨C, T, N, hc, hk, hty, hfin, hw, hC⟩ := hf
  obtain ⟨hcf, ⟨ty0, hty0⟩, hnm⟩ := s_cf ci hc
  rw [hc] at hown
  refine va_putF E.1 E.2.1 E.2.2.2.2.2.1 hcf ty0 hty0 hnm E.2.2.2.2.1 E.2.2.2.2.2.2.2.2.1 hW.1 hW.2.1 hS i (hW.at hi he) hc fk hk (E.2.2.2.2.2.1 _ hw) (fun _ h => h) hfin (E.2.2.2.2.2.2.2.1.1.trans hname) (hC.trans (Option.some.inj hown)) hty (hn al).1 (hn al).2 (by rw [List.length_map]; exact hlen) hdg (fun H1 locs1 hP1 hD1 hS1 => ?_)
  rw [← List.map_set] at hP1 hD1
  refine kk (fun j => if j = i then .inr (ci, fs.set fk v) else h j) (if_pos rfl) (fun j hj => if_neg hj) l D A al0 p e s m args below meth c E al be H1 locs1 ls ha (hW.set (e := .inr (ci, fs.set fk v)) (if_pos rfl) (fun j hj => if_neg hj) (fun w hw => ?_) (fun _ _ h => by cases h) hP1 hD1) hS1 hl
  have h0 := hW.2.2.2 i hi
  rw [he] at h0
  rcases List.mem_or_eq_of_mem_set hw with h1 | h1
  · exact h0 w h1
  · rw [h1]; exact hok
theorem v_iaload {P : s_C} {k u n pc : Nat} {h : Nat → sE} {lv : List (Nat × Value)} {st : List Value} {i N : Nat} {f : Nat → Int32} {x : Int32} (hdg : decode P.1.2.1 pc = .ok (.iaload, 1)) (he : h i = .inl (.int, N, .inl f)) (hi : i < n) (hin : vp_in x N) (kk : V P k u n h (pc + 1) lv (.int (f x.toNatClampNeg) :: st)) : V P k u n h pc lv (.int x :: .ref i :: st) := by
  intro l D A al0 p e s m args below meth c E al be H locs ls ha hW hS hl
  exact va_iald E.1 E.2.1 (hW.K E.2.2.2.2.2.2.2.2.1 hi he) hW.1 i 0 (hW.at hi he) rfl hin hdg (kk l D A al0 p e s m args below meth c E al be H locs ls ha hW hS hl)
theorem v_baload {P : s_C} {k u n pc : Nat} {h : Nat → sE} {lv : List (Nat × Value)} {st : List Value} {i N : Nat} {f : Nat → Int32} {x : Int32} (hdg : decode P.1.2.1 pc = .ok (.baload, 1)) (he : h i = .inl (.boolean, N, .inl f)) (hi : i < n) (hin : vp_in x N) (kk : V P k u n h (pc + 1) lv (.int (f x.toNatClampNeg) :: st)) : V P k u n h pc lv (.int x :: .ref i :: st) := by
  intro l D A al0 p e s m args below meth c E al be H locs ls ha hW hS hl
  exact va_zald E.1 E.2.1 (hW.K E.2.2.2.2.2.2.2.2.1 hi he) hW.1 i 0 (hW.at hi he) rfl hin hdg (kk l D A al0 p e s m args below meth c E al be H locs ls ha hW hS hl)
theorem v_laload {P : s_C} {k u n pc : Nat} {h : Nat → sE} {lv : List (Nat × Value)} {st : List Value} {i N : Nat} {f : Nat → Int64} {x : Int32} (hdg : decode P.1.2.1 pc = .ok (.laload, 1)) (he : h i = .inl (.long, N, .inr (.inl f))) (hi : i < n) (hin : vp_in x N) (kk : V P k u n h (pc + 1) lv (.long (f x.toNatClampNeg) :: st)) : V P k u n h pc lv (.int x :: .ref i :: st) := by
  intro l D A al0 p e s m args below meth c E al be H locs ls ha hW hS hl
  exact va_lald E.1 E.2.1 (hW.K E.2.2.2.2.2.2.2.2.1 hi he) hW.1 i 0 (hW.at hi he) rfl hin hdg (kk l D A al0 p e s m args below meth c E al be H locs ls ha hW hS hl)
theorem v_iastore {P : s_C} {k u n pc : Nat} {h : Nat → sE} {lv : List (Nat × Value)} {st : List Value} {i N : Nat} {f : Nat → Int32} {x : Int32} {y : Int32} (hdg : decode P.1.2.1 pc = .ok (.iastore, 1)) (he : h i = .inl (.int, N, .inl f)) (hi : i < n) (hin : vp_in x N) (kk : ∀ h' : Nat → sE, h' i = .inl (.int, N, .inl (upd f x.toNatClampNeg y)) → (∀ j, j ≠ i → h' j = h j) → V P k u n h' (pc + 1) lv st) : V P k u n h pc lv (.int y :: .int x :: .ref i :: st) := by
  intro l D A al0 p e s m args below meth c E al be H locs ls ha hW hS hl
  refine va_iast E.1 E.2.1 (hW.K E.2.2.2.2.2.2.2.2.1 hi he) hW.1 hW.2.1 hS i 0 (hW.at hi he) rfl hin hdg (fun H1 locs1 hP1 hD1 hS1 => ?_)
  exact kk (fun j => if j = i then .inl (.int, N, .inl (upd f x.toNatClampNeg y)) else h j) (if_pos rfl) (fun j hj => if_neg hj) l D A al0 p e s m args below meth c E al be H1 locs1 ls ha (hW.set (e := .inl (.int, N, .inl (upd f x.toNatClampNeg y))) (if_pos rfl) (fun j hj => if_neg hj) trivial (fun ty a hq => by cases hq; exact ⟨_, he⟩) hP1 hD1) hS1 hl
theorem v_bastore {P : s_C} {k u n pc : Nat} {h : Nat → sE} {lv : List (Nat × Value)} {st : List Value} {i N : Nat} {f : Nat → Int32} {x : Int32} {y : Int32} (hdg : decode P.1.2.1 pc = .ok (.bastore, 1)) (he : h i = .inl (.boolean, N, .inl f)) (hi : i < n) (hin : vp_in x N) (kk : ∀ h' : Nat → sE, h' i = .inl (.boolean, N, .inl (upd f x.toNatClampNeg (vp_nar .boolean y))) → (∀ j, j ≠ i → h' j = h j) → V P k u n h' (pc + 1) lv st) : V P k u n h pc lv (.int y :: .int x :: .ref i :: st) := by
  intro l D A al0 p e s m args below meth c E al be H locs ls ha hW hS hl
  refine va_zast E.1 E.2.1 (hW.K E.2.2.2.2.2.2.2.2.1 hi he) hW.1 hW.2.1 hS i 0 (hW.at hi he) rfl hin hdg (fun H1 locs1 hP1 hD1 hS1 => ?_)
  exact kk (fun j => if j = i then .inl (.boolean, N, .inl (upd f x.toNatClampNeg (vp_nar .boolean y))) else h j) (if_pos rfl) (fun j hj => if_neg hj) l D A al0 p e s m args below meth c E al be H1 locs1 ls ha (hW.set (e := .inl (.boolean, N, .inl (upd f x.toNatClampNeg (vp_nar .boolean y)))) (if_pos rfl) (fun j hj => if_neg hj) trivial (fun ty a hq => by cases hq; exact ⟨_, he⟩) hP1 hD1) hS1 hl
theorem v_lastore {P : s_C} {k u n pc : Nat} {h : Nat → sE} {lv : List (Nat × Value)} {st : List Value} {i N : Nat} {f : Nat → Int64} {x : Int32} {y : Int64} (hdg : decode P.1.2.1 pc = .ok (.lastore, 1)) (he : h i = .inl (.long, N, .inr (.inl f))) (hi : i < n) (hin : vp_in x N) (kk : ∀ h' : Nat → sE, h' i = .inl (.long, N, .inr (.inl (vp_updL f x.toNatClampNeg y))) → (∀ j, j ≠ i → h' j = h j) → V P k u n h' (pc + 1) lv st) : V P k u n h pc lv (.long y :: .int x :: .ref i :: st) := by
  intro l D A al0 p e s m args below meth c E al be H locs ls ha hW hS hl
  refine va_last E.1 E.2.1 (hW.K E.2.2.2.2.2.2.2.2.1 hi he) hW.1 hW.2.1 hS i 0 (hW.at hi he) rfl hin hdg (fun H1 locs1 hP1 hD1 hS1 => ?_)
  exact kk (fun j => if j = i then .inl (.long, N, .inr (.inl (vp_updL f x.toNatClampNeg y))) else h j) (if_pos rfl) (fun j hj => if_neg hj) l D A al0 p e s m args below meth c E al be H1 locs1 ls ha (hW.set (e := .inl (.long, N, .inr (.inl (vp_updL f x.toNatClampNeg y)))) (if_pos rfl) (fun j hj => if_neg hj) trivial (fun ty a hq => by cases hq; exact ⟨_, he⟩) hP1 hD1) hS1 hl
theorem s_rf_tr (al : Nat → Nat) (o : Option Nat) : va_rf (o.map al) = s_tr al (va_rf o) := by cases o <;> rfl
theorem v_aaload {P : s_C} {k u n pc : Nat} {h : Nat → sE} {lv : List (Nat × Value)} {st : List Value} {i N : Nat} {C : String} {f : Nat → Option Nat} {x : Int32} (hdg : decode P.1.2.1 pc = .ok (.aaload, 1)) (he : h i = .inl (.object C, N, .inr (.inr (.inr (.inr f))))) (hi : i < n) (hin : vp_in x N) (kk : V P k u n h (pc + 1) lv (va_rf (f x.toNatClampNeg) :: st)) : V P k u n h pc lv (.int x :: .ref i :: st) := by
  intro l D A al0 p e s m args below meth c E al be H locs ls ha hW hS hl
  refine va_aldq E.1 E.2.1 (hW.K E.2.2.2.2.2.2.2.2.1 hi he) hW.1 i 0 (hW.at hi he) rfl hin hdg ?_
  rw [s_rf_tr]
  exact kk l D A al0 p e s m args below meth c E al be H locs ls ha hW hS hl
theorem v_aastore {P : s_C} {k u n pc : Nat} {h : Nat → sE} {lv : List (Nat × Value)} {st : List Value} {i N v ci : Nat} {r : vw_C} {vs : List Value} {f : Nat → Option Nat} {x : Int32} (hdg : decode P.1.2.1 pc = .ok (.aastore, 1)) (he : h i = .inl (.object r.1, N, .inr (.inr (.inr (.inr f))))) (hi : i < n) (hv : h v = .inr (ci, vs)) (hvn : v < n) (hc : s_cl[ci]? = some r) (hin : vp_in x N) (kk : ∀ h' : Nat → sE, h' i = .inl (.object r.1, N, .inr (.inr (.inr (.inr (va_up f x.toNatClampNeg (some v)))))) → (∀ j, j ≠ i → h' j = h j) → V P k u n h' (pc + 1) lv st) : V P k u n h pc lv (.ref v :: .int x :: .ref i :: st) := by
  intro l D A al0 p e s m args below meth c E al be H locs ls ha hW hS hl
  refine va_astq E.1 E.2.1 (hW.K E.2.2.2.2.2.2.2.2.1 hi he) hW.1 hW.2.1 hS i 0 v ci (hW.at hi he) rfl (hW.at hvn hv) hc hin hdg (fun H1 locs1 hP1 hD1 hS1 => ?_)
  have hq : (.inl (be i, N, .inr (.inr (.inr (.inr (va_up (fun j => (f j).map al) x.toNatClampNeg (some (al v))))))) : va_E) = s_trE al (be i) (.inl (.object r.1, N, .inr (.inr (.inr (.inr (va_up f x.toNatClampNeg (some v))))))) := by
    show (Sum.inl (be i, N, Sum.inr (Sum.inr (Sum.inr (Sum.inr _)))) : va_E) = Sum.inl (be i, N, Sum.inr (Sum.inr (Sum.inr (Sum.inr _))))
    refine congrArg (fun g : Nat → Option Nat => (Sum.inl (be i, N, Sum.inr (Sum.inr (Sum.inr (Sum.inr g)))) : va_E)) (funext fun j => ?_)
    unfold va_up
    split <;> rfl
  rw [hq] at hP1 hD1
  refine kk (fun j => if j = i then .inl (.object r.1, N, .inr (.inr (.inr (.inr (va_up f x.toNatClampNeg (some v)))))) else h j) (if_pos rfl) (fun j hj => if_neg hj) l D A al0 p e s m args below meth c E al be H1 locs1 ls ha (hW.set (if_pos rfl) (fun j hj => if_neg hj) (fun k2 i2 hk2 => ?_) (fun ty a hq => by cases hq; exact ⟨_, he⟩) hP1 hD1) hS1 hl
  unfold va_up at hk2
  split at hk2
  · cases hk2; exact hvn
  · have h0 := hW.2.2.2 i hi
    rw [he] at h0
    exact h0 k2 i2 hk2
theorem v_aastoreN {P : s_C} {k u n pc : Nat} {h : Nat → sE} {lv : List (Nat × Value)} {st : List Value} {i N : Nat} {C : String} {f : Nat → Option Nat} {x : Int32} (hdg : decode P.1.2.1 pc = .ok (.aastore, 1)) (he : h i = .inl (.object C, N, .inr (.inr (.inr (.inr f))))) (hi : i < n) (hin : vp_in x N) (kk : ∀ h' : Nat → sE, h' i = .inl (.object C, N, .inr (.inr (.inr (.inr (va_up f x.toNatClampNeg none))))) → (∀ j, j ≠ i → h' j = h j) → V P k u n h' (pc + 1) lv st) : V P k u n h pc lv (.null :: .int x :: .ref i :: st) := by
  intro l D A al0 p e s m args below meth c E al be H locs ls ha hW hS hl
  refine va_astqN E.1 E.2.1 (hW.K E.2.2.2.2.2.2.2.2.1 hi he) hW.1 hW.2.1 hS i 0 (hW.at hi he) rfl hin hdg (fun H1 locs1 hP1 hD1 hS1 => ?_)
  have hq : (.inl (be i, N, .inr (.inr (.inr (.inr (va_up (fun j => (f j).map al) x.toNatClampNeg none))))) : va_E) = s_trE al (be i) (.inl (.object C, N, .inr (.inr (.inr (.inr (va_up f x.toNatClampNeg none)))))) := by
    show (Sum.inl (be i, N, Sum.inr (Sum.inr (Sum.inr (Sum.inr _)))) : va_E) = Sum.inl (be i, N, Sum.inr (Sum.inr (Sum.inr (Sum.inr _))))
    refine congrArg (fun g : Nat → Option Nat => (Sum.inl (be i, N, Sum.inr (Sum.inr (Sum.inr (Sum.inr g)))) : va_E)) (funext fun j => ?_)
    unfold va_up
    split <;> rfl
  rw [hq] at hP1 hD1
  refine kk (fun j => if j = i then .inl (.object C, N, .inr (.inr (.inr (.inr (va_up f x.toNatClampNeg none))))) else h j) (if_pos rfl) (fun j hj => if_neg hj) l D A al0 p e s m args below meth c E al be H1 locs1 ls ha (hW.set (if_pos rfl) (fun j hj => if_neg hj) (fun k2 i2 hk2 => ?_) (fun ty a hq => by cases hq; exact ⟨_, he⟩) hP1 hD1) hS1 hl
  unfold va_up at hk2
  split at hk2
  · cases hk2
  · have h0 := hW.2.2.2 i hi
    rw [he] at h0
    exact h0 k2 i2 hk2
theorem v_alen {P : s_C} {k u n pc : Nat} {h : Nat → sE} {lv : List (Nat × Value)} {st : List Value} {i : Nat} {ty : FieldType} {a : vp_A} {v : Int32} (hdg : decode P.1.2.1 pc = .ok (.arraylength, 1)) (he : h i = .inl (ty, a)) (hv : Int32.ofNat a.1 = v) (hi : i < n) (kk : V P k u n h (pc + 1) lv (.int v :: st)) : V P k u n h pc lv (.ref i :: st) := by
  intro l D A al0 p e s m args below meth c E al be H locs ls ha hW hS hl
  exact va_alen E.1 E.2.1 (hW.K E.2.2.2.2.2.2.2.2.1 hi he) hW.1 i 0 (hW.at hi he) rfl hv hdg (kk l D A al0 p e s m args below meth c E al be H locs ls ha hW hS hl)
/-- a world with one cell more -/
theorem s_wl_new {al : Nat → Nat} {be : Nat → ClassId} {n q : Nat} {b : ClassId} {h h' : Nat → sE} {e : sE} (hcl : ∀ i, i < n → s_okE n (h i)) (he : h' n = e) (hne : ∀ j, j ≠ n → h' j = h j) (hok : s_okE n e) : s_wl (fun i => if i = n then q else al i) (fun i => if i = n then b else be i) (n + 1) h' = s_wl al be n h ++ [(q, s_trE al b e)] := by
  have tr : ∀ v, s_ok n v → s_tr (fun i => if i = n then q else al i) v = s_tr al v := by
    intro v hv
    cases v <;> try rfl
    rename_i a
    have hv : a < n := hv
    show Value.ref (if a = n then q else al a) = Value.ref (al a)
    rw [if_neg (Nat.ne_of_lt hv)]
  have trE : ∀ (b : ClassId) (e : sE), s_okE n e → s_trE (fun i => if i = n then q else al i) b e = s_trE al b e := by
    intro b e hv
    rcases e with ⟨ty, N, f | f | f | f | f⟩ | ⟨ci, fs⟩
    · rfl
    · rfl
    · rfl
    · rfl
    · show (Sum.inl (b, (N, Sum.inr (Sum.inr (Sum.inr (Sum.inr _))))) : va_E) = Sum.inl (b, (N, Sum.inr (Sum.inr (Sum.inr (Sum.inr _)))))
      refine congrArg (fun g : Nat → Option Nat => (Sum.inl (b, N, Sum.inr (Sum.inr (Sum.inr (Sum.inr g)))) : va_E)) (funext fun j => ?_)
      cases hj : f j with
      | none => rfl
      | some i =>
        have := hv j i hj
        show some (if i = n then q else al i) = some (al i)
        rw [if_neg (Nat.ne_of_lt this)]
    · show (Sum.inr (ci, fs.map _) : va_E) = Sum.inr (ci, fs.map _)
      congr 2
      exact List.map_congr_left (fun v hw => tr v (hv v hw))
  unfold s_wl
  rw [List.range_succ, List.map_append]
  congr 1
  · refine List.map_congr_left (fun i hi => ?_)
    have hi := List.mem_range.mp hi
    dsimp only
    rw [if_neg (Nat.ne_of_lt hi), if_neg (Nat.ne_of_lt hi), hne i (Nat.ne_of_lt hi), trE _ _ (hcl i hi)]
  · show [(_, _)] = [(q, s_trE al b e)]
    dsimp only
    rw [if_pos rfl, if_pos rfl, he, trE _ _ hok]
theorem s_ok.up {n m : Nat} (hnm : n ≤ m) {v : Value} (h : s_ok n v) : s_ok m v := by
  cases v <;> first | trivial | exact Nat.lt_of_lt_of_le h hnm
theorem s_okE.up {n m : Nat} (hnm : n ≤ m) {e : sE} (h : s_okE n e) : s_okE m e := by
  rcases e with ⟨ty, N, f | f | f | f | f⟩ | ⟨ci, fs⟩
  · trivial
  · trivial
  · trivial
  · trivial
  · exact fun k i hk => Nat.lt_of_lt_of_le (h k i hk) hnm
  · exact fun v hv => (h v hv).up hnm
theorem s_tr_up {al al' : Nat → Nat} {n : Nat} (ha : ∀ i, i < n → al' i = al i) {v : Value} (h : s_ok n v) : s_tr al' v = s_tr al v := by
  cases v <;> try rfl
  rename_i a
  exact congrArg Value.ref (ha a h)
theorem s_lv_up {al al' : Nat → Nat} {n : Nat} (ha : ∀ i, i < n → al' i = al i) {lv : List (Nat × Value)} (h : ∀ q ∈ lv, s_ok n q.2) : lv.map (fun q => (q.1, s_tr al' q.2)) = lv.map (fun q => (q.1, s_tr al q.2)) :=
  List.map_congr_left (fun q hq => by rw [s_tr_up ha (h q hq)])
theorem s_st_up {al al' : Nat → Nat} {n : Nat} (ha : ∀ i, i < n → al' i = al i) {st : List Value} (h : ∀ v ∈ st, s_ok n v) : st.map (s_tr al') = st.map (s_tr al) :=
  List.map_congr_left (fun v hv => s_tr_up ha (h v hv))
/-- what 'new' needs -/
def s_Nw (own : String) (index ci N : Nat) (fs : List Value) : Prop := ∃ (C : String) (T : u_T) (ty0 : Nat → FieldType), s_cl[ci]? = some (C, T, N) ∧ (∀ k, k < N → parseFieldDescriptor (T k).2.2.1 = some (ty0 k)) ∧ (∀ j, j < N → defaultValue (ty0 j) = vp_V fs j) ∧ Cond.classLink own index C ∈ s_tb ∧ Cond.instantiable C N ∈ s_tb ∧ Cond.initialized C ∈ s_tb
def s_dfl (v : Value) : Bool := match v with
  | .ref _ => false
  | .retAddr _ => false
  | _ => true
theorem s_dfl_map {al : Nat → Nat} {fs : List Value} (h : fs.all s_dfl = true) : fs.map (s_tr al) = fs := by
  induction fs with
  | nil => rfl
  | cons v t ih =>
    rw [List.all_cons, Bool.and_eq_true] at h
    rw [List.map_cons, ih h.2]
    congr 1
    have h1 := h.1
    cases v <;> first | rfl | cases h1
theorem s_dfl_ok {n : Nat} {fs : List Value} (h : fs.all s_dfl = true) : ∀ v ∈ fs, s_ok n v := by
  intro v hv
  have h1 := List.all_eq_true.mp h v hv
  cases v <;> first | trivial | cases h1
theorem v_new {P : s_C} {k u n pc : Nat} {h : Nat → sE} {lv : List (Nat × Value)} {st : List Value} {ci index N : Nat} {fs : List Value} (hdg : decode P.1.2.1 pc = .ok (.new index, 3)) (hf : s_Nw P.1.1.cls index ci N fs) (hd : fs.all s_dfl = true) (hlv : ∀ q ∈ lv, s_ok n q.2) (hst : ∀ v ∈ st, s_ok n v) (hk : k + 1 ≤ P.2.2.1) (hu : u + N ≤ P.2.2.2.1) (kk : ∀ h' : Nat → sE, h' n = .inr (ci, fs) → (∀ j, j ≠ n → h' j = h j) → V P (k + 1) (u + N) (n + 1) h' (pc + 3) lv (.ref n :: st)) : V P k u n h pc lv st := by
  intro l D A al0 p e s m args below meth c E al be H locs ls ha hW hS hl
  obtain ⟨C, T, ty0, hc, hty, hdf, hw1, hw2, hw3⟩ := hf
  refine va_new E.1 E.2.1 E.2.2.2.2.2.1 (s_cf ci hc).1 ty0 hty E.2.2.2.2.1 (E.2.2.2.2.2.1 _ hw1) (E.2.2.2.2.2.1 _ hw2) (E.2.2.2.2.2.1 _ hw3) E.2.2.2.2.2.2.2.2.1 hW.1 hW.2.1 hS E.2.2.2.2.2.2.2.2.2.1 hc hdf hk hu hdg (fun q H1 hP1 hD1 hS1 => ?_)
  have hwl := s_wl_new (q := q) (b := 0) (al := al) (be := be) (n := n) (h := h) (h' := fun j => if j = n then .inr (ci, fs) else h j) (e := .inr (ci, fs)) hW.2.2.2 (if_pos rfl) (fun j hj => if_neg hj) (s_dfl_ok hd)
  have hE : s_trE al 0 (.inr (ci, fs)) = .inr (ci, fs) := by show (Sum.inr (ci, fs.map _) : va_E) = _; rw [s_dfl_map hd]
  rw [hE] at hwl
  rw [← hwl] at hP1 hD1
  have hup : ∀ i, i < n → (fun i => if i = n then q else al i) i = al i := fun i hi => if_neg (Nat.ne_of_lt hi)
  have hgo := kk (fun j => if j = n then .inr (ci, fs) else h j) (if_pos rfl) (fun j hj => if_neg hj) l D A al0 p e s m args below meth c E (fun i => if i = n then q else al i) (fun i => if i = n then (0 : ClassId) else be i) H1 locs ls
    ⟨fun i hi => (hup i (Nat.lt_of_lt_of_le hi ha.2.1)).trans (ha.1 i hi), Nat.le_succ_of_le ha.2.1, fun hq => absurd ha.2.1 (by omega)⟩ ⟨hP1, hD1, fun i ty a hi hia => ?_, fun i hi => ?_⟩ hS1 (by rw [s_lv_up hup hlv]; exact hl)
  · rw [List.map_cons, s_st_up hup hst, show s_tr (fun i => if i = n then q else al i) (.ref n) = .ref q from congrArg Value.ref (if_pos rfl)] at hgo
    exact hgo
  · by_cases hin : i = n
    · subst hin
      dsimp only at hia; rw [if_pos rfl] at hia; cases hia
    · have hi' : i < n := by omega
      dsimp only at hia ⊢; rw [if_neg hin] at hia ⊢; exact hW.2.2.1 i ty a hi' hia
  · by_cases hin : i = n
    · subst hin
      dsimp only; rw [if_pos rfl]; exact s_dfl_ok hd
    · have hi' : i < n := by omega
      dsimp only; rw [if_neg hin]; exact (hW.2.2.2 i hi').up (Nat.le_succ n)

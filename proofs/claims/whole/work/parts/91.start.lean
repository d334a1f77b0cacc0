/-! THE LAW'S START -/
theorem st_known {s : State} {args : Array Value} (hts : ∀ w ∈ s_tb, w.before args s = true) : ∃ D : va_G, va_K D s_cl [] s := by
  have key : ∀ k : Nat, ∃ p : ClassId × (Nat → Nat), ∀ q, s_cl[k]? = some q → u_Kn s q.1 q.2.1 q.2.2 p.1 p.2 := by
    intro k
    match k with
    | 0 =>
      obtain ⟨c, iS, h⟩ := u_known (C := RX0) (T := TX0) (N := 2) (n := 2) hts s_cf_0.1 (hts _ wd_341)
      exact ⟨(c, iS), fun q hq => by cases hq; exact h⟩
    | 1 =>
      obtain ⟨c, iS, h⟩ := u_known (C := RX1) (T := TX1) (N := 5) (n := 5) hts s_cf_1.1 (hts _ wd_471)
      exact ⟨(c, iS), fun q hq => by cases hq; exact h⟩
    | 2 =>
      obtain ⟨c, iS, h⟩ := u_known (C := RX2) (T := TX2) (N := 6) (n := 6) hts s_cf_2.1 (hts _ wd_405)
      exact ⟨(c, iS), fun q hq => by cases hq; exact h⟩
    | 3 =>
      obtain ⟨c, iS, h⟩ := u_known (C := RX3) (T := TX3) (N := 15) (n := 15) hts s_cf_3.1 (hts _ wd_173)
      exact ⟨(c, iS), fun q hq => by cases hq; exact h⟩
    | 4 =>
      obtain ⟨c, iS, h⟩ := u_known (C := RX4) (T := TX4) (N := 10) (n := 10) hts s_cf_4.1 (hts _ wd_433)
      exact ⟨(c, iS), fun q hq => by cases hq; exact h⟩
    | 5 =>
      obtain ⟨c, iS, h⟩ := u_known (C := RX5) (T := TX5) (N := 10) (n := 10) hts s_cf_5.1 (hts _ wd_250)
      exact ⟨(c, iS), fun q hq => by cases hq; exact h⟩
    | 6 =>
      obtain ⟨c, iS, h⟩ := u_known (C := RX6) (T := TX6) (N := 3) (n := 3) hts s_cf_6.1 (hts _ wd_322)
      exact ⟨(c, iS), fun q hq => by cases hq; exact h⟩
    | 7 =>
      obtain ⟨c, iS, h⟩ := u_known (C := RX7) (T := TX7) (N := 5) (n := 5) hts s_cf_7.1 (hts _ wd_256)
      exact ⟨(c, iS), fun q hq => by cases hq; exact h⟩
    | 8 =>
      obtain ⟨c, iS, h⟩ := u_known (C := RX8) (T := TX8) (N := 4) (n := 4) hts s_cf_8.1 (hts _ wd_356)
      exact ⟨(c, iS), fun q hq => by cases hq; exact h⟩
    | 9 =>
      obtain ⟨c, iS, h⟩ := u_known (C := RX9) (T := TX9) (N := 7) (n := 7) hts s_cf_9.1 (hts _ wd_375)
      exact ⟨(c, iS), fun q hq => by cases hq; exact h⟩
    | 10 =>
      obtain ⟨c, iS, h⟩ := u_known (C := RX10) (T := TX10) (N := 6) (n := 6) hts s_cf_10.1 (hts _ wd_493)
      exact ⟨(c, iS), fun q hq => by cases hq; exact h⟩
    | 11 =>
      obtain ⟨c, iS, h⟩ := u_known (C := RX11) (T := TX11) (N := 18) (n := 18) hts s_cf_11.1 (hts _ wd_165)
      exact ⟨(c, iS), fun q hq => by cases hq; exact h⟩
    | 12 =>
      obtain ⟨c, iS, h⟩ := u_known (C := RX12) (T := TX12) (N := 64) (n := 64) hts s_cf_12.1 (hts _ wd_1551)
      exact ⟨(c, iS), fun q hq => by cases hq; exact h⟩
    | k + 13 => exact ⟨(0, fun _ => 0), fun q hq => by simp [s_cl] at hq⟩
  exact ⟨(fun k => (Classical.choose (key k)).1, fun k => (Classical.choose (key k)).2), fun k q hq => Classical.choose_spec (key k) q hq, fun k q hq => by simp at hq⟩
theorem st_ns {s : State} {args : Array Value} (hts : ∀ w ∈ lw_tbl, w.before args s = true) : s_Ns s := by
  refine ⟨fun w hw => ?_, va_AO.of (hts _ (wt_1 _ (List.mem_of_getElem? (i := 104) (by decide +kernel)))), va_AO.of (hts _ (wt_1 _ (List.mem_of_getElem? (i := 35) (by decide +kernel))))⟩
  have h1 := List.mem_filter.mp hw
  have h2 := h1.2
  have h3 := hts w h1.1
  cases w <;> first | exact va_Nw.of rfl h3 | cases h2
theorem st_X {s : State} {args : Array Value} {A : Nat → Prop} (hts : ∀ w ∈ lw_tbl, w.before args s = true) (hgv : (Jvm.Cond.and given_1 narrow_1).before args s = true) (hA : ∀ a : Nat, a < s.heap.size → ¬ A a) : ∃ t : Nat, va_Z "ShadowHerds" "STEP_X" "[I" (.ref t) A s s.heap ∧ va_T .int t 5 (fun j => .int (s_stX j)) A s s.heap := by
  have hs := flat_of_before _ hgv
  have e0 := va_eqt (hs (Cond.eq (.elem (.static "ShadowHerds" "STEP_X" "[I") (.int 0)) (.int 0)) (by decide +kernel))
  have e1 := va_eqt (hs (Cond.eq (.elem (.static "ShadowHerds" "STEP_X" "[I") (.int 1)) (.int 1)) (by decide +kernel))
  have e2 := va_eqt (hs (Cond.eq (.elem (.static "ShadowHerds" "STEP_X" "[I") (.int 2)) (.int 0)) (by decide +kernel))
  have e3 := va_eqt (hs (Cond.eq (.elem (.static "ShadowHerds" "STEP_X" "[I") (.int 3)) (.int (-1))) (by decide +kernel))
  have e4 := va_eqt (hs (Cond.eq (.elem (.static "ShadowHerds" "STEP_X" "[I") (.int 4)) (.int 0)) (by decide +kernel))
  obtain ⟨t, ht, hT⟩ := va_Tof (f := fun j => .int (s_stX j)) (N := 5) (A := A) (by decide) (hs (Cond.arrayOf (.static "ShadowHerds" "STEP_X" "[I") .int) (by decide +kernel)) (va_eqt (hs (Cond.eq (.length (.static "ShadowHerds" "STEP_X" "[I")) (.int 5)) (by decide +kernel))) (fun j hj => by
    match j, hj with
    | 0, _ => exact e0
    | 1, _ => exact e1
    | 2, _ => exact e2
    | 3, _ => exact e3
    | 4, _ => exact e4
    | j + 5, hj => exact absurd hj (by omega)) hA
  exact ⟨t, va_Zref (hts _ (wt_4 _ (List.mem_of_getElem? (i := 181) (by decide +kernel)))) (hts _ (wt_1 _ (List.mem_of_getElem? (i := 1) (by decide +kernel)))) ht hA, hT⟩
theorem st_Y {s : State} {args : Array Value} {A : Nat → Prop} (hts : ∀ w ∈ lw_tbl, w.before args s = true) (hgv : (Jvm.Cond.and given_1 narrow_1).before args s = true) (hA : ∀ a : Nat, a < s.heap.size → ¬ A a) : ∃ t : Nat, va_Z "ShadowHerds" "STEP_Y" "[I" (.ref t) A s s.heap ∧ va_T .int t 5 (fun j => .int (s_stY j)) A s s.heap := by
  have hs := flat_of_before _ hgv
  have e0 := va_eqt (hs (Cond.eq (.elem (.static "ShadowHerds" "STEP_Y" "[I") (.int 0)) (.int (-1))) (by decide +kernel))
  have e1 := va_eqt (hs (Cond.eq (.elem (.static "ShadowHerds" "STEP_Y" "[I") (.int 1)) (.int 0)) (by decide +kernel))
  have e2 := va_eqt (hs (Cond.eq (.elem (.static "ShadowHerds" "STEP_Y" "[I") (.int 2)) (.int 1)) (by decide +kernel))
  have e3 := va_eqt (hs (Cond.eq (.elem (.static "ShadowHerds" "STEP_Y" "[I") (.int 3)) (.int 0)) (by decide +kernel))
  have e4 := va_eqt (hs (Cond.eq (.elem (.static "ShadowHerds" "STEP_Y" "[I") (.int 4)) (.int 0)) (by decide +kernel))
  obtain ⟨t, ht, hT⟩ := va_Tof (f := fun j => .int (s_stY j)) (N := 5) (A := A) (by decide) (hs (Cond.arrayOf (.static "ShadowHerds" "STEP_Y" "[I") .int) (by decide +kernel)) (va_eqt (hs (Cond.eq (.length (.static "ShadowHerds" "STEP_Y" "[I")) (.int 5)) (by decide +kernel))) (fun j hj => by
    match j, hj with
    | 0, _ => exact e0
    | 1, _ => exact e1
    | 2, _ => exact e2
    | 3, _ => exact e3
    | 4, _ => exact e4
    | j + 5, hj => exact absurd hj (by omega)) hA
  exact ⟨t, va_Zref (hts _ (wt_4 _ (List.mem_of_getElem? (i := 186) (by decide +kernel)))) (hts _ (wt_1 _ (List.mem_of_getElem? (i := 1) (by decide +kernel)))) ht hA, hT⟩
/-- the class's text at the start -/
theorem st_S {s : State} {args : Array Value} {A : Nat → Prop} (hts : ∀ w ∈ lw_tbl, w.before args s = true) (hgv : (Jvm.Cond.and given_1 narrow_1).before args s = true) (hA : ∀ a : Nat, a < s.heap.size → ¬ A a) : ∃ q v : Nat, vk_R "ShadowHerds$Reader" 122 s_txt q s ∧ s_Sq q v A s s.heap := by
  have hs := flat_of_before _ hgv
  have hall : ∀ j : Nat, j < 131 → (Cond.eq (.elem (.field (.string "ShadowHerds$Reader" 122) "java/lang/String" "value" "[B") (.int (Int32.ofNat j))) (.int (s_byt.getD j 0))) ∈ flatC (Jvm.Cond.and given_1 narrow_1) := by decide +kernel
  have lay : ∀ i : Nat, ∀ w : Cond, tables_1_3[i]? = some w → w.before args s = true := fun i w h => hts _ (wt_3 _ (List.mem_of_getElem? h))
  obtain ⟨adK, adV, hS, hT⟩ := vk_Sof (args := args) (s := s) (N := 1) (tm := fun _ => .string "ShadowHerds$Reader" 122) (len := [131]) (byt := [s_byt]) (A := A) (fun i hi => by
      obtain rfl : i = 0 := by omega
      decide) (fun _ _ => hs _ (by decide +kernel)) (fun _ _ => hs _ (by decide +kernel)) (fun _ _ => hs _ (by decide +kernel)) (fun i hi => by
      obtain rfl : i = 0 := by omega
      exact hs (Cond.eq (.length (.field (.string "ShadowHerds$Reader" 122) "java/lang/String" "value" "[B")) (.int 131)) (by decide +kernel)) (fun i hi j hj => by
      obtain rfl : i = 0 := by omega
      exact hs _ (hall j hj)) (fun i j hi hj hne => absurd (show i = j by omega) hne) hA
  have hq : ∃ w : Option Nat, va_Z "jdk/internal/util/Preconditions" "SIOOBE_FORMATTER" "Ljava/util/function/BiFunction;" (s_fv w) A s s.heap := by
    rcases va_Zqof (C := "jdk/internal/util/Preconditions") (n := "SIOOBE_FORMATTER") (d := "Ljava/util/function/BiFunction;") (lay 165 _ (by decide +kernel)) (hts _ (wt_1 _ (List.mem_of_getElem? (i := 17) (by decide +kernel)))) (hs _ (by decide +kernel)) hA with h | ⟨t, h⟩
    · exact ⟨none, h⟩
    · exact ⟨some t, h⟩
  refine ⟨adK 0, adV 0, vk_R.of (A := args) (lay 139 _ (by decide +kernel)) (hT 0 (by decide)), ⟨fun i hi => ?_, fun i j hi hj _ => by omega⟩, va_Zof (lay 149 _ (by decide +kernel)) (hts _ (wt_1 _ (List.mem_of_getElem? (i := 15) (by decide +kernel)))) (va_eqi (hs _ (by decide +kernel))) hA, hq⟩
  obtain rfl : i = 0 := by omega
  exact hS.1 0 (by decide)
theorem st_forget {s t : State} {L : List Loc} {k n : Nat} (h : s.sameButNew t L k n) (hL : ∀ q ∈ L, s.heap.size ≤ q.base) : s.sameButNew t [] k n := by
  obtain ⟨h1, h2, h3, h4, h5, h6⟩ := h
  refine ⟨h1, h2, h3, h4, h5, fun a c hc => ?_⟩
  obtain ⟨c', e1, e2, e3, e4⟩ := h6 a c hc
  refine ⟨c', e1, e2, e3, fun i _ => e4 i (fun hm => ?_)⟩
  have h7 : s.heap.size ≤ a := hL _ hm
  have h8 := (Array.getElem?_eq_some_iff.mp hc).1
  omega
/-- only new cells were written: to the law's own end -/
theorem st_end {below : List Frame} {D : va_G} {al : Nat → Nat} {Q : s_P} {args : Array Value} {s t : State} (hQ : ∀ r n h, Q r n h → r = some (.int (iI 1))) (h : MQ below (s_Qc D (fun q => s.heap.size ≤ q) al 0 Q) args s 600000 7302250 (fun q => s.heap.size ≤ q) t) : lw_Z below args s t := by
  obtain ⟨o, h1, h2, ⟨⟨r, n', h', al', be', ho, hq, -, -, -, -⟩, -⟩, L, hF, hL⟩ := h
  have hr := hQ r n' h' hq
  subst hr
  refine ⟨o, h1, h2, ho, hF.1, hF.2.1, ?_⟩
  exact st_forget hF.2.2 hL

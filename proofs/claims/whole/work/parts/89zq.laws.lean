/-! LAWS: the relation of the laws' texts, between two calls -/
def zLW : s_LW := fun n h lt o r => (0 ≤ o 13 ∧ o 13 ≤ 6) ∧ (∀ j : Int, 0 ≤ j → j < 6 → lt j < 0 ∨ ((115 ≤ (lt j).toNat ∧ (lt j).toNat < n) ∧ ∃ vs : List Value, h (lt j).toNat = .inr (7, vs))) ∧ ∀ j : Int, 0 ≤ j → j < o 13 → 0 ≤ lt j ∧ ∃ (Z : zLM) (m zh zb zM zN : Nat) (zk zg zf : Int → Int), m ≤ 12 ∧ zSL n h (lt j).toNat zh zb zM zN zk zg zf ∧ zf 2 = (m : Int) ∧ (zM : Int) = 6 * (m : Int) ∧ zKl Z m zk zg (zN : Int) ∧ zRl Z m r (380 + 900 * j)
theorem zLW_st : LWst zLW := by
  rintro n h h' lt o o' r r' ⟨a, b, c⟩ hh ho hr
  refine ⟨by rw [ho]; exact a, fun j j0 j1 => ?_, fun j j0 j1 => ?_⟩
  · rcases b j j0 j1 with e | ⟨e1, vs, e2⟩
    · exact Or.inl e
    · exact Or.inr ⟨e1, vs, (hh _ e1.1).trans e2⟩
  · rw [ho] at j1
    obtain ⟨l0, Z, m, zh, zb, zM, zN, zk, zg, zf, m12, sl, f2, eM, kl, rl⟩ := c j j0 j1
    exact ⟨l0, Z, m, zh, zb, zM, zN, zk, zg, zf, m12, sl.go hh, f2, eM, kl, rl.cg m12 (fun x x0 x1 => hr x (by omega) (by omega))⟩
theorem zLW_cp : LWcp zLW := by
  refine ⟨fun n h lt lt' o r H e => ⟨H.1, fun j j0 j1 => by rw [e j j0 j1]; exact H.2.1 j j0 j1, fun j j0 j1 => ?_⟩, fun n h lt o r H j j0 j1 => H.2.1 j j0 j1⟩
  have := H.1
  rw [e j j0 (by omega)]
  exact H.2.2 j j0 j1
theorem zLW_0 : ∀ h, zLW 115 h (X0 10) (X0 1) (X0 79) := fun h => ⟨⟨(show (0 : Int) ≤ 0 by decide), (show (0 : Int) ≤ 6 by decide)⟩, fun j _ _ => Or.inl (show (-1 : Int) < 0 by decide), fun j a b => absurd (show j < (0 : Int) from b) (by omega)⟩
theorem zLW_up {n n' : Nat} {h h' : Nat → sE} {lt o r : Int → Int} (H : zLW n h lt o r) (hn : n ≤ n') (hh : ∀ i, 115 ≤ i → i < n → h' i = h i) : zLW n' h' lt o r := by
  obtain ⟨a, b, c⟩ := H
  refine ⟨a, fun j j0 j1 => ?_, fun j j0 j1 => ?_⟩
  · rcases b j j0 j1 with e | ⟨e1, vs, e2⟩
    · exact Or.inl e
    · exact Or.inr ⟨by omega, vs, (hh _ e1.1 e1.2).trans e2⟩
  · obtain ⟨l0, Z, m, zh, zb, zM, zN, zk, zg, zf, m12, sl, f2, eM, kl, rl⟩ := c j j0 j1
    obtain ⟨⟨s1, s2, s3⟩, s4, s5, s6⟩ := sl
    exact ⟨l0, Z, m, zh, zb, zM, zN, zk, zg, zf, m12, ⟨⟨(hh _ s5.1 s4.1).trans s1, (hh _ s5.2.1 s4.2.1).trans s2, (hh _ s5.2.2 s4.2.2).trans s3⟩, by omega, s5, s6⟩, f2, eM, kl, rl⟩
theorem lawc_r {X : XT} {z : Int} (h : lawc X = z) (hz : -1 ≤ z) : R32 (X 1 14) := by
  unfold lawc at h
  split at h
  · omega
  · split at h <;> omega
theorem v_astore_nN {P : s_C} {k u n pc : Nat} {h : Nat → sE} {lv : List (Nat × Value)} {st : List Value} {f : Fin 4} (hdg : decode P.1.2.1 pc = .ok (.astore_n f, 1)) (hi : (f : Nat) < P.1.2.2.1) (kk : V P k u n h (pc + 1) (s_set lv f .null) st) : V P k u n h pc lv (.null :: st) := by
  intro l D A al0 p e s m args below meth c E al be H locs ls ha hW hS hl
  exact lv_astore_nN E.1 E.2.1 hdg rfl hl hi (s_set_tr lv f .null) (fun ls1 hl1 => kk l D A al0 p e s m args below meth c E al be H locs ls1 ha hW hS hl1)
theorem v_aload_nN {P : s_C} {k u n pc : Nat} {h : Nat → sE} {lv : List (Nat × Value)} {st : List Value} {f : Fin 4} (hdg : decode P.1.2.1 pc = .ok (.aload_n f, 1)) (hx : s_lk lv (f : Nat) = some .null) (kk : V P k u n h (pc + 1) lv (.null :: st)) : V P k u n h pc lv st := by
  intro l D A al0 p e s m args below meth c E al be H locs ls ha hW hS hl
  exact lv_aload_nN E.1 E.2.1 hdg rfl (s_lk_at hl hx) (kk l D A al0 p e s m args below meth c E al be H locs ls ha hW hS hl)
theorem so_toldA {n : Nat} {h : Nat → sE} {X : XT} {kd wo : Int} {Q : Int → XT → Prop} (hn : 115 ≤ n) (hp : Pic X h) (hl : lawc X = -1) (q : Q wo X) : Sp m_X0_toldBy 2 0 0 [.ref 44, .int (iI kd), .int (iI wo)] n h (pIw n h Q) := by
  refine Sp.ofV (by decide +kernel) (Nat.le_of_ble_eq_true rfl) ?_
  refine v_aload_n dX0_toldBy_0 rfl ?_
  refine v_get dX0_toldBy_1 fl_X0_18 ((hp 44 (by decide)).trans (ent_44 _)) rfl (s_lt hn rfl) ?_
  refine v_callVp dX0_toldBy_4 ml_X0_68 (sv_X3_lawInForce hn hp (lawc_r hl (by decide))) ((hp 1 (by decide)).trans (ent_1 _)) rfl (s_lt hn rfl) rfl rfl (Nat.le_of_ble_eq_true rfl) (Nat.le_of_ble_eq_true rfl) (Nat.zero_le _) (Nat.zero_le _) ?_
  have ez : vQ (-1) = .null := if_pos (by decide)
  rw [hl, ez]
  refine v_astore_nN dX0_toldBy_7 (Nat.le_of_ble_eq_true rfl) ?_
  refine v_aload_nN dX0_toldBy_8 rfl ?_
  refine v_ifnonnullN dX0_toldBy_9 ?_
  refine v_iload_n dX0_toldBy_12 rfl ?_
  exact v_iret dX0_toldBy_13 rfl (Nat.zero_le _) (Nat.zero_le _) ⟨rfl, fun _ _ => rfl, _, _, rfl, hp, q⟩
theorem so_toldB {n : Nat} {h : Nat → sE} {X : XT} {kd wo z : Int} {zh zb zM zN : Nat} {zk zg zf : Int → Int} {Q : Int → XT → Prop} (hn : 115 ≤ n) (hp : Pic X h) (hl : lawc X = z) (z0 : 0 ≤ z) (hz : zSL n h z.toNat zh zb zM zN zk zg zf) (w : w_told zM zN zk zg zf kd wo X Q) : Sp m_X0_toldBy 2 0 0 [.ref 44, .int (iI kd), .int (iI wo)] n h (pIw n h Q) := by
  have ez : vQ z = .ref z.toNat := if_neg (by omega)
  refine Sp.ofV (by decide +kernel) (Nat.le_of_ble_eq_true rfl) ?_
  refine v_aload_n dX0_toldBy_0 rfl ?_
  refine v_get dX0_toldBy_1 fl_X0_18 ((hp 44 (by decide)).trans (ent_44 _)) rfl (s_lt hn rfl) ?_
  refine v_callVp dX0_toldBy_4 ml_X0_68 (sv_X3_lawInForce hn hp (lawc_r hl (by omega))) ((hp 1 (by decide)).trans (ent_1 _)) rfl (s_lt hn rfl) rfl rfl (Nat.le_of_ble_eq_true rfl) (Nat.le_of_ble_eq_true rfl) (Nat.zero_le _) (Nat.zero_le _) ?_
  rw [hl, ez]
  refine v_astore_n dX0_toldBy_7 (Nat.le_of_ble_eq_true rfl) ?_
  refine v_aload_n dX0_toldBy_8 rfl ?_
  refine v_ifnonnull (tgt := 14) dX0_toldBy_9 (by decide) ?_
  refine v_pick [1, 2, 3, 0] rfl ?_
  exact vt_told hz hn hp w
theorem zLW_x {n : Nat} {h : Nat → sE} {X : XT} (hn : 115 ≤ n) (hR : RR X) (hL : zLW n h (X 10) (X 1) (X 79)) : ∃ (K : LK) (T : TT), LKok K n h ∧ CE K X (X 79) T ∧ ∀ r' : Int → Int, (∀ j : Int, ((5 ≤ j ∧ j < 9) ∨ (380 ≤ j ∧ j < 5780)) → r' j = X 79 j) → (0 ≤ r' 0 ∧ r' 0 ≤ 5) → HRt r' T := by
  have pl := hR.1
  have p8 := pl.2.2.2.2.2.2.2
  have rw0 := pl.rw
  have ht := rw0.2.2.2.2.2.2
  obtain ⟨q1, q2, q3, q4⟩ := p8
  have h6 := hL.1
  by_cases c : X 1 14 = -1
  · have el : lawc X = -1 := by unfold lawc; rw [if_neg (by omega), if_pos c]
    refine ⟨(fun z => z = -1, fun _ _ _ wo => clF wo), fun _ _ _ _ _ _ _ wo => clF wo, ?_, ⟨pl, el, fun _ _ _ _ _ _ _ _ _ _ => rfl, fun _ _ _ _ _ _ _ wo _ _ => clF_r wo⟩, fun r' e r0 => m_tells0 (by rw [e 5 (by omega), ← q2]; exact c)⟩
    intro h' X' kd wo hp' hf' hk hw rk rwo
    exact so_toldA hn hp' hk ⟨(clF_id rwo).symm, fun _ _ => rfl⟩
  · obtain ⟨l0, Z, m, zh, zb, zM, zN, zk, zg, zf, m12, sl, f2, eM, kl, rl⟩ := hL.2.2 (X 1 14) (by omega) (by omega)
    have el : lawc X = X 10 (X 1 14) := by unfold lawc; rw [if_pos (by omega)]
    generalize hj : X 1 14 = j at *
    refine ⟨(fun z => z = X 10 j, fun _ kd w wo => clF (zTl Z (lfF w) kd wo m)), fun hd x y h c l s wo => clF (zTl Z (lfF (wdF x y h c l s (X 79 8) (X 79 6))) (15 + hd) wo m), ?_, ⟨pl, el, fun hd w wo d0 d3 hw w0 w1 e6 e7 => ?_, fun _ _ _ _ _ _ _ wo _ _ => clF_r _⟩, fun r' e r0 => ?_⟩
    · intro h' X' kd wo hp' hf' hk hw rk rwo
      exact so_toldB hn hp' hk l0 (sl.go hf') (e_toldW kl m12 f2 eM sl.2.2.2.2 rk rwo rfl hw (fun Y hY => ⟨rfl, hY⟩))
    · show clF (zTl Z (lfF w) (15 + hd) wo m) = clF (zTl Z (lfF (wdF (w 0) (w 1) (w 2) (w 3) (w 4) (w 5) (X 79 8) (X 79 6))) (15 + hd) wo m)
      congr 1
      refine zTl_cg kl (fun o a hz => ?_) (15 + hd) wo m (Nat.le_refl _)
      refine ftF_cg (fun b b0 b1 => ?_) hz
      rcases (show b = 0 ∨ b = 1 ∨ b = 2 ∨ b = 3 ∨ b = 4 ∨ b = 5 ∨ b = 6 ∨ b = 7 by omega) with rfl | rfl | rfl | rfl | rfl | rfl | rfl | rfl
      · rfl
      · rfl
      · rfl
      · rfl
      · rfl
      · rfl
      · exact e6
      · exact e7
    · have htl := m_tellsL (r := r') (rl.cg m12 (fun x x0 x1 => e x (by omega))) m12 (fun k hk => (kl k hk).1) (show r' 5 = j by rw [e 5 (by omega), ← q2]) (by omega) rfl r0 (by unfold W_trm at ht ⊢; rw [e 6 (by omega), e 7 (by omega), e 8 (by omega)]; exact ht)
      rw [e 6 (by omega), e 8 (by omega)] at htl
      exact htl
theorem zLW_q : LWq zLW := fun n h X hp hn hR hL => by
  obtain ⟨K, T, a, b, c⟩ := zLW_x hn hR hL
  exact ⟨K, T, a, b, c _ (fun _ _ => rfl) b.rw.2.2.1.1⟩

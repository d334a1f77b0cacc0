/-! TEXTS: the reference reads a drive -/
theorem zmy_f {lw : Bool} {tk : Int → Int} {fu : Nat} {w : Int} {sel : Nat} {r : zRT} (h : r.1 = false) : zmy lw tk fu w sel r = (false, r.2.1, r.2.2.1, dNo) := if_neg (by rw [h]; decide)
theorem zmy_y {lw : Bool} {tk : Int → Int} {fu : Nat} {w : Int} {sel : Nat} {r : zRT} (h : r.1 = true) (e : tk r.2.1 = w) : zmy lw tk fu w sel r = zrd lw tk fu sel 0 (r.2.1 + 1) r.2.2.1 := (if_pos h).trans (if_pos e)
theorem zmy_n {lw : Bool} {tk : Int → Int} {fu : Nat} {w : Int} {sel : Nat} {r : zRT} (h : r.1 = true) (e : ¬ tk r.2.1 = w) : zmy lw tk fu w sel r = (true, r.2.1, r.2.2.1, dNo) := (if_pos h).trans (if_neg e)
theorem ztm_f {tk : Int → Int} {r : zRT} (h : r.1 = false) : ztm tk r = (false, r.2.1, r.2.2.1, dNo) := if_neg (by rw [h]; decide)
theorem ztm_y {tk : Int → Int} {r : zRT} (h : r.1 = true) (e : tk r.2.1 = 23) : ztm tk r = if 1 ≤ tk (r.2.1 + 1) - 2000 ∧ tk (r.2.1 + 1) - 2000 ≤ 20 then (true, r.2.1 + 2, r.2.2.1, dNo) else (false, r.2.1 + 1, r.2.2.1, dNo) := (if_pos h).trans (if_pos e)
theorem ztm_n {tk : Int → Int} {r : zRT} (h : r.1 = true) (e : ¬ tk r.2.1 = 23) : ztm tk r = (true, r.2.1, r.2.2.1, dNo) := (if_pos h).trans (if_neg e)
theorem zSm.kp {lw : Bool} {X X1 : XT} {k k' e' L : Int} {c c1 : zCD} {D : zDT} (h : zSm lw X k c c1 D L) (a : zKp k' e' X X1) (hk : k + 1 < k') : zSm lw X1 k c c1 D L := ⟨(a.2.2.2 k (by omega)).trans h.1, (a.2.2.2 (k + 1) (by omega)).trans h.2.1, h.2.2⟩
theorem zKp.rf {k e : Int} {X : XT} : zKp k e X X := ⟨LFr.rf, rfl, rfl, fun _ _ => rfl⟩
/-- each -/
theorem m_each {f : Int → Int} {n M : Int} {tk pl bh : Int → Int} {lw : Bool} {X : XT} {k : Int} {w : Nat} {r : zRT} {c : zCD} {J : XT → Prop} (s : zRS f n M tk pl bh) (ho : X 77 15 = if lw = true then 0 else 1) (h88 : X 88 = X0 88) (h89 : X 89 = X0 89) (hk : 0 ≤ k ∧ k + 1 < 144) (hw : w < 28) (z : zG f n M pl X r c) {fu : Nat} (hfu : 28 ≤ fu) (q : ∀ X1, zKp k (k + 2) X X1 → (∃ c1, zG f n M pl X1 (zmy lw tk fu w 2 r) c1 ∧ ((zmy lw tk fu w 2 r).1 = true → r.1 = true ∧ (tk r.2.1 = w → zSm lw X1 k c c1 (zmy lw tk fu w 2 r).2.2.2 ((zmy lw tk fu w 2 r).2.2.1 - r.2.2.1)) ∧ (¬ tk r.2.1 = w → c1 = c ∧ X1 113 = X 113))) → J X1) : R32 (X 77 14) ∧ (¬ (X 77 14) = 0 → J X) ∧ ((X 77 14) = 0 → w_X12_isWord (zwc w) X (fun (v140 : Int) => R32 v140 ∧ (v140 = 0 → J X) ∧ (¬ v140 = 0 → w_X12_next X (fun (X149 : XT) => w_X12_readSum k X149 (fun (X155 : XT) => J X155))))) := by
  cases hr : r.1
  · have bd := z.2 hr
    refine ⟨by rw [bd.1]; decide, fun _ => q X zKp.rf ⟨c, ?_⟩, fun y => absurd y (by rw [bd.1]; decide)⟩
    rw [zmy_f hr]
    exact ⟨⟨fun y => (by cases y), fun _ => bd⟩, fun y => by cases y⟩
  · have zq := z.1 hr
    have o := (at_obs s zq.1).1
    have i0 := zq.1.2.2.2.2.1
    refine ⟨by rw [zq.2.1]; decide, fun y => absurd zq.2.1 y, fun _ => m_isWord o hw (fun e => ⟨by decide, fun y => absurd y (by decide), fun _ => ?_⟩) (fun e => ⟨by decide, fun _ => q X zKp.rf ⟨c, ?_⟩, fun y => absurd rfl y⟩)⟩
    · refine at_next s zq.1 (by omega) (fun X1 f1 a1 => ?_)
      have l1 : LFr X X1 := LFr.ofM (MFr.ofN f1)
      refine m_sumG s ((l1.2 15 (by decide)).trans ho) ((l1.1 88 rfl).trans h88) ((l1.1 89 rfl).trans h89) hk (zq.nx f1 a1) (by omega) hfu (zmy_y hr e).symm (fun X2 k2 y => q X2 ((zKp.of (k := k) (e := k + 2) (MFr.ofN f1)).tr k2 (by omega)) ?_)
      obtain ⟨c1, y1, y2⟩ := y
      exact ⟨c1, y1, fun hh => ⟨hr, fun _ => y2 hh, fun u => absurd e u⟩⟩
    · rw [zmy_n hr e]
      exact ⟨⟨fun _ => zq, fun y => by cases y⟩, fun _ => ⟨hr, fun u => absurd u e, fun _ => ⟨rfl, rfl⟩⟩⟩
/-- how often -/
theorem m_times {f : Int → Int} {n M : Int} {tk pl bh : Int → Int} {X : XT} {k : Int} {r : zRT} {c : zCD} {J : XT → Prop} (s : zRS f n M tk pl bh) (z : zG f n M pl X r c) (q : ∀ X1, zKp k (k + 1) X X1 → zG f n M pl X1 (ztm tk r) c → ((ztm tk r).1 = true → r.1 = true ∧ X1 113 k = if tk r.2.1 = 23 then tk (r.2.1 + 1) - 2000 else 1) → J X1) : R32 ((x_st X 113 k 1) 77 14) ∧ (¬ ((x_st X 113 k 1) 77 14) = 0 → J (x_st X 113 k 1)) ∧ (((x_st X 113 k 1) 77 14) = 0 → w_X12_isWord 21279923 (x_st X 113 k 1) (fun (v113 : Int) => R32 v113 ∧ (v113 = 0 → J (x_st X 113 k 1)) ∧ (¬ v113 = 0 → w_X12_next (x_st X 113 k 1) (fun (X122 : XT) => w_X12_number 1 20 X122 (fun (v127 : Int) (X128 : XT) => J (x_st X128 113 k v127)))))) := by
  have k0 : zKp k (k + 1) X (x_st X 113 k 1) := zKp.one (by omega)
  have w23 : zwc 23 = 21279923 := by decide +kernel
  rw [← w23]
  cases hr : r.1
  · have bd := (z.2 hr).ar (k := 113) (j := k) (w := 1) (by decide)
    refine ⟨by rw [bd.1]; decide, fun _ => q _ k0 ?_ ?_, fun y => absurd y (by rw [bd.1]; decide)⟩
    · rw [ztm_f hr]; exact ⟨fun y => (by cases y), fun _ => bd⟩
    · rw [ztm_f hr]; intro y; cases y
  · have zq := (z.1 hr).ar (k := 113) (j := k) (w := 1) (Or.inr rfl)
    have o := (at_obs s zq.1).1
    refine ⟨by rw [zq.2.1]; decide, fun y => absurd zq.2.1 y, fun _ => m_isWord o (by decide) (fun e => ⟨by decide, fun y => absurd y (by decide), fun _ => ?_⟩) (fun e => ⟨by decide, fun _ => q _ k0 ?_ ?_, fun y => absurd rfl y⟩)⟩
    · refine at_next s zq.1 (by omega) (fun X1 f1 a1 => ?_)
      have z1 := zq.nx f1 a1
      have k1 : zKp k (k + 1) X X1 := k0.tr (zKp.of (k := k) (e := k + 1) (MFr.ofN f1)) (by omega)
      have i2 : r.2.1 + 1 + 1 = r.2.1 + 2 := by omega
      have et := ztm_y hr (e : tk r.2.1 = 23)
      refine m_numC s z1.1 z1.2.1 (by decide) (fun r1 X2 f2 a2 => ?_) (fun r1 w => ?_)
      · rw [if_pos r1] at et
        have z2 := z1.nx f2 a2
        rw [i2] at z2
        rw [et] at q
        exact q _ ((k1.tr (zKp.of (k := k) (e := k + 1) (MFr.ofN f2)) (k2 := k) (e2 := k + 1) (by omega)).tr (zKp.one (k := k) (e := k + 1) (by omega)) (by omega)) ⟨fun _ => z2.ar (Or.inr rfl), fun y => by cases y⟩ (fun _ => ⟨hr, by rw [x_st_at, if_pos (show tk r.2.1 = 23 from e)]⟩)
      · rw [if_neg r1] at et
        rw [et] at q
        have bd : zBd M pl (x_st (x_st X1 77 14 1) 77 13 (X1 77 9)) (r.2.1 + 1) := ⟨by rw [x_st_ne (by decide), x_st_at], by rw [x_st_at]; exact z1.1.2.2.1, z1.1.2.2.2.2.2⟩
        exact q _ ((k1.tr (zKp.of (k := k) (e := k + 1) ((MFr.rf.f7 (by decide)).f7 (by decide))) (k2 := k) (e2 := k + 1) (by omega)).tr (zKp.one (k := k) (e := k + 1) (by omega)) (by omega)) ⟨fun y => (by cases y), fun _ => bd.ar (by decide)⟩ (fun y => by cases y)
    · rw [ztm_n hr e]; exact ⟨fun _ => zq, fun y => by cases y⟩
    · rw [ztm_n hr e]; intro _; exact ⟨hr, by rw [x_st_at, if_neg (show ¬ tk r.2.1 = 23 from e)]⟩
/-- the test -/
theorem m_whenT {f : Int → Int} {n M : Int} {tk pl bh : Int → Int} {lw : Bool} {X : XT} {r : zRT} {c : zCD} {J : XT → Prop} (s : zRS f n M tk pl bh) (ho : X 77 15 = if lw = true then 0 else 1) (h88 : X 88 = X0 88) (h89 : X 89 = X0 89) (z : zG f n M pl X r c) {fu : Nat} (hfu : 28 ≤ fu) (q : ∀ X1, MFr X X1 → (∃ c1, zG f n M pl X1 (zmy lw tk fu 24 0 r) c1 ∧ ((zmy lw tk fu 24 0 r).1 = true → r.1 = true ∧ (tk r.2.1 = 24 → zEX c c1 ∧ zRP lw c1 c.2.2 c1.2.2 (zmy lw tk fu 24 0 r).2.2.2 ((zmy lw tk fu 24 0 r).2.2.1 - r.2.2.1) ∧ zTB (zmy lw tk fu 24 0 r).2.2.2) ∧ (¬ tk r.2.1 = 24 → c1 = c))) → J X1) : R32 (X 77 14) ∧ (¬ (X 77 14) = 0 → J X) ∧ ((X 77 14) = 0 → w_X12_isWord 294 X (fun (v91 : Int) => R32 v91 ∧ (v91 = 0 → J X) ∧ (¬ v91 = 0 → w_X12_next X (fun (X100 : XT) => w_X12_readExpression 1 X100 (fun (X106 : XT) => J X106))))) := by
  have w24 : zwc 24 = 294 := by decide +kernel
  rw [← w24]
  cases hr : r.1
  · have bd := z.2 hr
    refine ⟨by rw [bd.1]; decide, fun _ => q X MFr.rf ⟨c, ?_⟩, fun y => absurd y (by rw [bd.1]; decide)⟩
    rw [zmy_f hr]
    exact ⟨⟨fun y => (by cases y), fun _ => bd⟩, fun y => by cases y⟩
  · have zq := z.1 hr
    have o := (at_obs s zq.1).1
    have i0 := zq.1.2.2.2.2.1
    refine ⟨by rw [zq.2.1]; decide, fun y => absurd zq.2.1 y, fun _ => m_isWord o (by decide) (fun e => ⟨by decide, fun y => absurd y (by decide), fun _ => ?_⟩) (fun e => ⟨by decide, fun _ => q X MFr.rf ⟨c, ?_⟩, fun y => absurd rfl y⟩)⟩
    · refine at_next s zq.1 (by omega) (fun X1 f1 a1 => ?_)
      have l1 : LFr X X1 := LFr.ofM (MFr.ofN f1)
      have ee := zmy_y (lw := lw) (fu := fu) (sel := 0) hr (e : tk r.2.1 = 24)
      refine m_readE (test := true) (lw := lw) (r := zmy lw tk fu 24 0 r) s ((l1.2 15 (by decide)).trans ho) ((l1.1 88 rfl).trans h88) ((l1.1 89 rfl).trans h89) (by decide) (by decide) (zq.nx f1 a1) (by omega) hfu ee.symm (fun X2 f2 y1 y2 => q X2 ((MFr.ofN f1).tr f2) ?_)
      cases hh : (zmy lw tk fu 24 0 r).1
      · exact ⟨c, ⟨fun w => (by rw [hh] at w; cases w), fun _ => y2 hh⟩, fun w => by cases w⟩
      · obtain ⟨c1, zz, ex, rp, tb⟩ := y1 hh
        exact ⟨c1, ⟨fun _ => zz, fun w => (by rw [hh] at w; cases w)⟩, fun _ => ⟨hr, fun _ => ⟨ex, rp, tb rfl⟩, fun u => absurd e u⟩⟩
    · have e24 : ¬ tk r.2.1 = 24 := e
      rw [zmy_n hr e24]
      exact ⟨⟨fun _ => zq, fun y => by cases y⟩, fun _ => ⟨hr, fun u => absurd u e24, fun _ => rfl⟩⟩

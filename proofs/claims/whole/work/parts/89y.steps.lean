/-! TEXTS: the reference's drives, step by step -/
/-- a sum behind a word, and what may stand behind a word -/
def zbh (lw : Bool) (tk : Int → Int) (fu : Nat) (w : Int) (r : zRT) : zRT := if r.1 = true ∧ tk r.2.1 = w then zrd lw tk fu 2 0 (r.2.1 + 1) r.2.2.1 else (false, r.2.1, r.2.2.1, dNo)
def zmy (lw : Bool) (tk : Int → Int) (fu : Nat) (w : Int) (sel : Nat) (r : zRT) : zRT := if r.1 = true then (if tk r.2.1 = w then zrd lw tk fu sel 0 (r.2.1 + 1) r.2.2.1 else (true, r.2.1, r.2.2.1, dNo)) else (false, r.2.1, r.2.2.1, dNo)
/-- how often -/
def ztm (tk : Int → Int) (r : zRT) : zRT := if r.1 = true then (if tk r.2.1 = 23 then (if 1 ≤ tk (r.2.1 + 1) - 2000 ∧ tk (r.2.1 + 1) - 2000 ≤ 20 then (true, r.2.1 + 2, r.2.2.1, dNo) else (false, r.2.1 + 1, r.2.2.1, dNo)) else (true, r.2.1, r.2.2.1, dNo)) else (false, r.2.1, r.2.2.1, dNo)
def zG (f : Int → Int) (n M : Int) (pl : Int → Int) (X : XT) (r : zRT) (c : zCD) : Prop := (r.1 = true → zQS f n M pl X r.2.1 r.2.2.1 c) ∧ (r.1 = false → zBd M pl X r.2.1)
def zSm (lw : Bool) (X : XT) (k : Int) (c c1 : zCD) (D : zDT) (L : Int) : Prop := X 113 k = c.2.2 ∧ X 113 (k + 1) = c1.2.2 ∧ zEX c c1 ∧ zRP lw c1 c.2.2 c1.2.2 D L
/-- only the row's places from k up to e are new -/
def zKp (k e : Int) (X X1 : XT) : Prop := LFr X X1 ∧ X1 77 16 = X 77 16 ∧ X1 83 = X 83 ∧ ∀ j : Int, (j < k ∨ e ≤ j) → X1 113 j = X 113 j
theorem zKp.tr {k e k' e' : Int} {X X1 X2 : XT} (a : zKp k e X X1) (b : zKp k' e' X1 X2) {k2 e2 : Int} (h : k2 ≤ k ∧ k2 ≤ k' ∧ e ≤ e2 ∧ e' ≤ e2) : zKp k2 e2 X X2 := ⟨a.1.tr b.1, b.2.1.trans a.2.1, b.2.2.1.trans a.2.2.1, fun j hj => (b.2.2.2 j (by omega)).trans (a.2.2.2 j (by omega))⟩
theorem zKp.of {k e : Int} {X X1 : XT} (a : MFr X X1) : zKp k e X X1 := ⟨LFr.ofM a, a.2 16 (by decide), a.1 83 rfl, fun j _ => by rw [a.1 113 rfl]⟩
theorem zKp.one {k e j w : Int} {X : XT} (h : k ≤ j ∧ j < e) : zKp k e X (x_st X 113 j w) := ⟨LFr.rf.ar (Or.inr rfl), by rw [x_st_c (by decide)], x_st_c (by decide), fun j' hj => x_st_ne (by omega)⟩
theorem zBd.ar {M : Int} {pl : Int → Int} {X : XT} {i : Int} (h : zBd M pl X i) {k : Nat} {j w : Int} (hk : ¬ (77 : Nat) = k) : zBd M pl (x_st X k j w) i := ⟨by rw [x_st_c hk]; exact h.1, by rw [x_st_c hk]; exact h.2.1, h.2.2⟩
theorem m_sumB {M : Int} {pl : Int → Int} {X : XT} {i k : Int} {Q : XT → Prop} (hk : 0 ≤ k ∧ k + 1 < 144) (h : zBd M pl X i) (q : ∀ X1, zKp k (k + 2) X X1 → zBd M pl X1 i → Q X1) : w_X12_readSum k X Q := by
  refine ⟨by omega, ?_⟩
  intro J hJ
  have h1 := h.ar (k := 113) (j := k) (w := X 77 18) (by decide)
  refine ⟨by rw [h1.1]; decide, fun _ => hJ _ ⟨by omega, q _ ?_ (h1.ar (by decide))⟩, fun w => absurd w (by rw [h1.1]; decide)⟩
  exact (zKp.one (k := k) (e := k + 2) (by omega)).tr (zKp.one (k := k) (e := k + 2) (by omega)) (by omega)
theorem m_sumG {f : Int → Int} {n M : Int} {tk pl bh : Int → Int} {lw : Bool} {X : XT} {i v k : Int} {c : zCD} {Q : XT → Prop} (s : zRS f n M tk pl bh) (ho : X 77 15 = if lw = true then 0 else 1) (h88 : X 88 = X0 88) (h89 : X 89 = X0 89) (hk : 0 ≤ k ∧ k + 1 < 144) (z : zQS f n M pl X i v c) (i1 : 1 ≤ i) {fu : Nat} (hfu : 28 ≤ fu) {r : zRT} (er : zrd lw tk fu 2 0 i v = r) (q : ∀ X1, zKp k (k + 2) X X1 → (∃ c1, zG f n M pl X1 r c1 ∧ (r.1 = true → zSm lw X1 k c c1 r.2.2.2 (r.2.2.1 - v))) → Q X1) : w_X12_readSum k X Q := by
  refine ⟨by omega, ?_⟩
  intro J hJ
  have z1 := z.ar (k := 113) (j := k) (w := X 77 18) (Or.inr rfl)
  have en : X 77 18 = c.2.2 := z.2.2.2.1.2.2
  refine ⟨by rw [z1.2.1]; decide, fun w => absurd z1.2.1 w, fun _ => ?_⟩
  have e77 : x_st X 113 k (X 77 18) 77 = X 77 := x_st_c (by decide)
  refine m_readE (test := false) (lw := lw) (r := r) s (by rw [e77]; exact ho) ((x_st_c (by decide)).trans h88) ((x_st_c (by decide)).trans h89) (by decide) (by decide) z1 i1 hfu er (fun X2 f2 y1 y2 => hJ X2 ⟨by omega, q _ ?_ ?_⟩)
  · exact ((zKp.one (k := k) (e := k + 2) (by omega)).tr (zKp.of (k := k) (e := k + 2) f2) (k2 := k) (e2 := k + 2) (by omega)).tr (zKp.one (k := k) (e := k + 2) (by omega)) (by omega)
  · cases hr : r.1
    · exact ⟨c, ⟨fun w => (by rw [hr] at w; cases w), fun _ => (y2 hr).ar (by decide)⟩, fun w => by cases w⟩
    · obtain ⟨c1, zz, ex, rp, _⟩ := y1 hr
      refine ⟨c1, ⟨fun _ => zz.ar (Or.inr rfl), fun w => by rw [hr] at w; cases w⟩, fun _ => ⟨?_, ?_, ex, rp⟩⟩
      · rw [x_st_ne (by omega), f2.1 113 rfl, x_st_at]; exact en
      · rw [x_st_at]; exact zz.2.2.2.1.2.2
theorem m_behind {f : Int → Int} {n M : Int} {tk pl bh : Int → Int} {lw : Bool} {X : XT} {k : Int} {w : Nat} {r : zRT} {c : zCD} {Q : XT → Prop} (s : zRS f n M tk pl bh) (ho : X 77 15 = if lw = true then 0 else 1) (h88 : X 88 = X0 88) (h89 : X 89 = X0 89) (hk : 0 ≤ k ∧ k + 1 < 144) (hw : w < 28) (z : zG f n M pl X r c) {fu : Nat} (hfu : 28 ≤ fu) (q : ∀ X1, zKp k (k + 2) X X1 → (∃ c1, zG f n M pl X1 (zbh lw tk fu w r) c1 ∧ ((zbh lw tk fu w r).1 = true → zSm lw X1 k c c1 (zbh lw tk fu w r).2.2.2 ((zbh lw tk fu w r).2.2.1 - r.2.2.1))) → Q X1) : w_X12_readBehind k (zwc w) X Q := by
  cases hr : r.1
  · have bd := z.2 hr
    have e : zbh lw tk fu w r = (false, r.2.1, r.2.2.1, dNo) := if_neg (by rw [hr]; intro y; cases y.1)
    refine ⟨by rw [bd.1]; decide, fun _ => m_sumB hk bd (fun X1 k1 b1 => q X1 k1 ⟨c, ?_⟩), fun y => absurd y (by rw [bd.1]; decide)⟩
    rw [e]
    exact ⟨⟨fun y => (by cases y), fun _ => b1⟩, fun y => by cases y⟩
  · have zq := z.1 hr
    have o := (at_obs s zq.1).1
    have i0 := zq.1.2.2.2.2.1
    refine ⟨by rw [zq.2.1]; decide, fun y => absurd zq.2.1 y, fun _ => m_isWord o hw (fun e1 => ?_) (fun e1 => ?_)⟩
    · have e : zbh lw tk fu w r = zrd lw tk fu 2 0 (r.2.1 + 1) r.2.2.1 := if_pos ⟨hr, e1⟩
      refine m_mustT s zq.1 zq.2.1 (by decide) (by omega) (fun X1 f1 a1 => ?_)
      have l1 : LFr X X1 := LFr.ofM (MFr.ofN f1)
      refine m_sumG s ((l1.2 15 (by decide)).trans ho) ((l1.1 88 rfl).trans h88) ((l1.1 89 rfl).trans h89) hk (zq.nx f1 a1) (by omega) hfu e.symm (fun X2 k2 y => q X2 ((zKp.of (k := k) (e := k + 2) (MFr.ofN f1)).tr k2 (by omega)) y)
    · have e : zbh lw tk fu w r = (false, r.2.1, r.2.2.1, dNo) := if_neg (by intro y; exact e1 y.2)
      have bd : zBd M pl (x_st (x_st X 77 14 1) 77 13 (X 77 9)) r.2.1 := ⟨by rw [x_st_ne (by decide), x_st_at], by rw [x_st_at]; exact zq.1.2.2.1, zq.1.2.2.2.2.2⟩
      refine m_mustF zq.2.1 (m_sumB hk bd (fun X1 k1 b1 => q X1 ((zKp.of (k := k) (e := k + 2) ((MFr.rf.f7 (by decide)).f7 (by decide))).tr k1 (by omega)) ⟨c, ?_⟩))
      rw [e]
      exact ⟨⟨fun y => (by cases y), fun _ => b1⟩, fun y => by cases y⟩

/-! PAIRS OF CALLS THAT ONLY ASK: how the two texts give a pair; dark, at, asks -/
def kpL : List Nat := scC ++ scM
theorem RR_kp {X X2 : XT} (hR : RR X) (g : Gx kpL X X2) : RR X2 := by
  obtain ⟨p, s, t, rf, sm, kp, i0, i1, cs⟩ := hR
  have c : ∀ d, kpL.elem d = false → ¬ d = 77 → X2 d = X d := g.1
  have f : ∀ k, kpf k → X2 77 k = X 77 k := g.2
  unfold RR
  rw [c 0 rfl (by decide), c 1 rfl (by decide), c 2 rfl (by decide), c 3 rfl (by decide), c 4 rfl (by decide), c 5 rfl (by decide), c 6 rfl (by decide), c 7 rfl (by decide), c 8 rfl (by decide), c 9 rfl (by decide), c 79 rfl (by decide), c 33 rfl (by decide), c 34 rfl (by decide), c 82 rfl (by decide), c 76 rfl (by decide), c 78 rfl (by decide), c 52 rfl (by decide), c 54 rfl (by decide), c 114 rfl (by decide), c 32 rfl (by decide), c 81 rfl (by decide), c 12 rfl (by decide), c 13 rfl (by decide), c 14 rfl (by decide), c 15 rfl (by decide), c 16 rfl (by decide), c 17 rfl (by decide), c 18 rfl (by decide), c 19 rfl (by decide), c 20 rfl (by decide), c 80 rfl (by decide), c 22 rfl (by decide), c 23 rfl (by decide), c 24 rfl (by decide), c 25 rfl (by decide), c 26 rfl (by decide), c 27 rfl (by decide), c 28 rfl (by decide), c 29 rfl (by decide), c 30 rfl (by decide), c 11 rfl (by decide), c 88 rfl (by decide), c 89 rfl (by decide), c 90 rfl (by decide)]
  refine ⟨p, ?_, t.cg (f 13 (by decide)) (f 8 (by decide)), rf, sm.cg (f 63 (by decide)), kp, i0, i1, cs.cg (f 15 (by decide))⟩
  unfold R_sts
  rw [f 1 (by decide), f 6 (by decide), f 59 (by decide)]; exact s
/-- what a relation of the laws' texts must give to a call that asks -/
def LWq (LW : s_LW) : Prop := ∀ n h X, Pic X h → 115 ≤ n → RR X → LW n h (X 10) (X 1) (X 79) → ∃ (K : LK) (T : TT), LKok K n h ∧ CE K X (X 79) T ∧ HRt (X 79) T
theorem INV_kp {LW : s_LW} (hst : LWst LW) {n : Nat} {h h2 : Nat → sE} {X X2 : XT} (hn : 115 ≤ n) (hR : RR X) (l0 : LW n h (X 10) (X 1) (X 79)) (l1 : X 32 0 = 1 → LW n h (X 21) (X 12) (X 80)) (l2 : X 32 1 = 1 → LW n h (X 31) (X 22) (fun j => X 80 (5780 + j))) (g : Gx kpL X X2) (hf : Fr h h2) (hp : Pic X2 h2) : INV LW n h2 := by
  have c : ∀ d, kpL.elem d = false → ¬ d = 77 → X2 d = X d := g.1
  refine ⟨X2, hp, hn, RR_kp hR g, ?_, ?_, ?_⟩
  · rw [c 10 rfl (by decide), c 1 rfl (by decide), c 79 rfl (by decide)]; exact hst n h h2 _ _ _ _ _ l0 hf rfl (fun _ _ _ => rfl)
  · rw [c 32 rfl (by decide), c 21 rfl (by decide), c 12 rfl (by decide), c 80 rfl (by decide)]; exact fun q => hst n h h2 _ _ _ _ _ (l1 q) hf rfl (fun _ _ _ => rfl)
  · rw [c 32 rfl (by decide), c 31 rfl (by decide), c 22 rfl (by decide), c 80 rfl (by decide)]; exact fun q => hst n h h2 _ _ _ _ _ (l2 q) hf rfl (fun _ _ _ => rfl)
theorem pair_q {LW : s_LW} (hW : LWq LW) (hst : LWst LW) {mx mm : s_M} {dx dm : Nat} {as : List Value} (wx : LK → XT → (Int → XT → Prop) → Prop) (wm : XT → (Int → XT → Prop) → Prop) (hdx : dx + 1 ≤ 2048) (hdm : dm + 1 ≤ 2048)
    (sx : ∀ {n : Nat} {h hk : Nat → sE} {X : XT} {K : LK} {Q : Int → XT → Prop}, LKok K n hk → 115 ≤ n → Pic X h → Fr hk h → wx K X Q → Sp mx dx 0 0 (.ref 0 :: as) n h (pIw n h Q))
    (sm : ∀ {n : Nat} {h : Nat → sE} {X : XT} {Q : Int → XT → Prop}, 115 ≤ n → Pic X h → wm X Q → Sp mm dm 0 0 (.ref 77 :: as) n h (pIw n h Q))
    (main : ∀ (K : LK) (X : XT) (T : TT), CE K X (X 79) T → HRt (X 79) T → ME (X 79) X → wx K X (fun v X1 => wm X1 (fun v2 X2 => v2 = v ∧ Gx kpL X X2))) : Pair mx mm 0 0 (INV LW) as := by
  rintro n h ⟨X, hp, hn, hR, l0, l1, l2⟩
  obtain ⟨K, T, k1, k2, k3⟩ := hW n h X hp hn hR l0
  have hm : ME (X 79) X := ⟨rfl, hR.2.2.2.2.2.2.2.2.2.1⟩
  refine ⟨dx, dm, hdx, hdm, (sx k1 hn hp (fun _ _ => rfl) (main K X T k2 k3 hm)).mono ?_⟩
  rintro r n1 h1 ⟨rfl, f1, v, X1, rfl, p1, w1⟩
  refine ⟨iI v, rfl, ⟨hn, _, (p1 77 (by decide)).trans (ent_77 _)⟩, (sm hn p1 w1).mono ?_⟩
  rintro r n2 h2 ⟨rfl, f2, v2, X2, rfl, p2, rfl, g⟩
  exact ⟨rfl, rfl, INV_kp hst hn hR l0 l1 l2 g (Fr.trans f1 f2) p2⟩
theorem pair_qL {LW : s_LW} (hW : LWq LW) (hst : LWst LW) {mx mm : s_M} {dx dm : Nat} {as : List Value} (wx : LK → XT → (Int → XT → Prop) → Prop) (wm : XT → (Int → XT → Prop) → Prop) (hdx : dx + 1 ≤ 2048) (hdm : dm + 1 ≤ 2048)
    (sx : ∀ {n : Nat} {h hk : Nat → sE} {X : XT} {K : LK} {Q : Int → XT → Prop}, LKok K n hk → 115 ≤ n → Pic X h → Fr hk h → wx K X Q → Sp mx dx 0 0 (.ref 0 :: as) n h (pLw n h Q))
    (sm : ∀ {n : Nat} {h : Nat → sE} {X : XT} {Q : Int → XT → Prop}, 115 ≤ n → Pic X h → wm X Q → Sp mm dm 0 0 (.ref 77 :: as) n h (pLw n h Q))
    (main : ∀ (K : LK) (X : XT) (T : TT), CE K X (X 79) T → HRt (X 79) T → ME (X 79) X → wx K X (fun v X1 => wm X1 (fun v2 X2 => v2 = v ∧ Gx kpL X X2))) : PairL mx mm 0 0 (INV LW) as := by
  rintro n h ⟨X, hp, hn, hR, l0, l1, l2⟩
  obtain ⟨K, T, k1, k2, k3⟩ := hW n h X hp hn hR l0
  have hm : ME (X 79) X := ⟨rfl, hR.2.2.2.2.2.2.2.2.2.1⟩
  refine ⟨dx, dm, hdx, hdm, (sx k1 hn hp (fun _ _ => rfl) (main K X T k2 k3 hm)).mono ?_⟩
  rintro r n1 h1 ⟨rfl, f1, v, X1, rfl, p1, w1⟩
  refine ⟨jJ v, rfl, ⟨hn, _, (p1 77 (by decide)).trans (ent_77 _)⟩, (sm hn p1 w1).mono ?_⟩
  rintro r n2 h2 ⟨rfl, f2, v2, X2, rfl, p2, rfl, g⟩
  exact ⟨rfl, rfl, INV_kp hst hn hR l0 l1 l2 g (Fr.trans f1 f2) p2⟩
/-- the class's cells are changed, then the reference's -/
theorem Gx_of {X X1 X2 : XT} (f : Fx scC X X1) (g : Gx scM X1 X2) : Gx kpL X X2 := by
  refine ⟨fun c hc k => ?_, fun j hj => (g.2 j hj).trans (by rw [f 77 rfl])⟩
  have h1 : scC.elem c = false := el_sub (l := scC) (l2 := kpL) (by decide) hc
  have h2 : scM.elem c = false := el_sub (l := scM) (l2 := kpL) (by decide) hc
  exact (g.1 c h2 k).trans (f c h1)
theorem ME.fx {r : Int → Int} {X X1 : XT} (m : ME r X) (f : Fx scC X X1) : ME r X1 := ⟨(f 79 rfl).trans m.1, by rw [f 77 rfl]; exact m.2⟩
/-- where the reference begins: nothing was thrown -/
theorem ME.th {r : Int → Int} {X : XT} (m : ME r X) {v : Int} : ME r (x_st X 77 0 v) := ⟨by rw [x_st_c (by decide)]; exact m.1, by rw [x_st_ne (by decide)]; exact m.2⟩
theorem Gx_th {X : XT} {v : Int} : Gx scM X (x_st X 77 0 v) := Gx.rf.st7 (by decide)
-- how many fields are in shade
def shF (r : Int → Int) (T : TT) (f h : Int) : Int := sdF r (fun c => spF r T c h.toNat) f (r 0).toNat
theorem sdF_r {r s : Int → Int} {f : Int} : ∀ m : Nat, 0 ≤ sdF r s f m ∧ sdF r s f m ≤ m := by
  intro m
  induction m with
  | zero => exact ⟨Int.le_refl _, Int.le_refl _⟩
  | succ m ih => rw [sdF_s]; split <;> omega
theorem shF_r {r : Int → Int} {T : TT} {f h : Int} (w : RW r) : 0 ≤ shF r T f h ∧ shF r T f h ≤ 5 := by
  have h1 := sdF_r (r := r) (s := fun c => spF r T c h.toNat) (f := f) (r 0).toNat
  have := w.2.2.1.1
  unfold shF; omega
theorem e_sh {K : LK} {B X : XT} {r : Int → Int} {T : TT} {f h : Int} {Q : Int → Prop} (b : CE K B r T) (hx : Fx scC B X) (hl : LOOK r T 51 X) (f0 : 0 ≤ f) (f1 : f ≤ 63) (h0 : 0 ≤ h) (h1 : h ≤ 11) (q : Q (shF r T f h)) : w_X8_shadeOf 50 51 f h X Q := by
  refine e_shade b hx (s := fun c => spF r T c h.toNat) (fun c c0 c1 => ?_) f0 f1 h0 h1 q
  have e := hl c c0 c1 h.toNat (by omega)
  rw [show ((h.toNat : Nat) : Int) = h by omega] at e
  exact ⟨e, spF_r b.rw.2.2.1 c0 c1 _⟩
theorem m_sh {r : Int → Int} {T : TT} {X : XT} {f h : Int} {Q : Int → Prop} (w : RW r) (e : X 79 = r) (hl : LAID r T X) (f0 : 0 ≤ f) (f1 : f ≤ 63) (h0 : 0 ≤ h) (h1 : h ≤ 11) (q : Q (shF r T f h)) : w_X12_shadeOf f h X Q := by
  refine m_shade w e (s := fun c => spF r T c h.toNat) (fun c c0 c1 => ?_) f0 f1 h0 h1 q
  have e := hl c c0 c1 h.toNat (by omega)
  rw [show ((h.toNat : Nat) : Int) = h by omega] at e
  exact ⟨e, spF_r w.2.2.1 c0 c1 _⟩
theorem e_look0 {K : LK} {B : XT} {r : Int → Int} {T : TT} {Q : XT → Prop} (b : CE K B r T) (q : ∀ X1, Fx scC B X1 → HEAR r 50 X1 → LOOK r T 51 X1 → Q X1) : w_X8_look K 50 51 B Q :=
  e_look (Or.inl ⟨rfl, rfl⟩) b Fx.rf (fun X1 f h l => q X1 (f.sub (by decide)) h l)
theorem m_lay0 {r : Int → Int} {T : TT} {X : XT} {Q : XT → Prop} (w : RW r) (hT : HRt r T) (tr : TR T) (e : ME r X) (q : ∀ X1, ME r X1 → Gx scM X X1 → LAID r T X1 → Q X1) : w_X12_layCorners (x_st X 77 0 0) Q :=
  m_lay w hT tr e.th (fun X1 g l => q X1 (e.th.go g rfl) (Gx_th.trans (g.sub (by decide))) l)
def cnF (p : Int → Prop) [DecidablePred p] : Nat → Int → Int → Int
  | 0, _, n => n
  | m + 1, f, n => cnF p m (f + 1) (n + if p f then 1 else 0)
theorem cnF_s {p : Int → Prop} [DecidablePred p] {m : Nat} {f n : Int} : cnF p (m + 1) f n = cnF p m (f + 1) (n + if p f then 1 else 0) := rfl
theorem q_dark {LW : s_LW} (hW : LWq LW) (hst : LWst LW) (a1 : Int32) : Pair m_X11_dark m_X12_dark 0 0 (INV LW) [.int a1] := by
  obtain ⟨a, rfl, ra⟩ := iI_of a1
  refine pair_q hW hst (fun K X Q => w_X11_dark K a X Q) (fun X Q => w_X12_dark a X Q) (by decide) (by decide) (fun hK hn hp hf w => so_X11_dark hK hn hp hf w) (fun hn hp w => so_X12_dark hn hp w) (fun K X T b hT e => ?_)
  have w := b.rw
  refine ⟨ra, fun c => ?_, fun c => ?_⟩
  · refine e_look0 b (fun X1 f1 _ l1 => ?_)
    generalize hV : cnF (fun f => 0 < shF (X 79) T f a) 64 0 0 = V
    refine ⟨fun n f => 0 ≤ f ∧ f ≤ 64 ∧ cnF (fun f => 0 < shF (X 79) T f a) (64 - f).toNat f n = V, fun _ f => (64 - f).toNat, ⟨by decide, by decide, hV⟩, ?_⟩
    rintro n f ⟨f0, f2, hv⟩
    refine ⟨by omega, fun k => ?_, fun k => ?_⟩
    · have ef : f = 64 := by omega
      subst ef
      have hv : n = V := hv
      subst hv
      refine ⟨ra, fun _ => ?_, fun k => absurd c k⟩
      refine m_lay0 w hT b.2.2.2 (e.fx f1) (fun X2 e2 g2 l2 => ?_)
      refine ⟨fun n2 f => 0 ≤ f ∧ f ≤ 64 ∧ cnF (fun f => 0 < shF (X 79) T f a) (64 - f).toNat f n2 = n, fun _ f => (64 - f).toNat, ⟨by decide, by decide, hV⟩, ?_⟩
      rintro n2 f ⟨f0, f2, hv⟩
      refine ⟨by omega, fun k => ?_, fun k => ?_⟩
      · have ef : f = 64 := by omega
        subst ef
        exact ⟨hv, Gx_of f1 g2⟩
      · refine m_sh w e2.1 l2 f0 (by omega) c.1 c.2 ?_
        have sr := shF_r (T := T) (f := f) (h := a) w
        rw [show (64 - f).toNat = (64 - (f + 1)).toNat + 1 by omega] at hv
        intro J hJ
        refine ⟨by omega, fun k1 => hJ _ ⟨⟨by omega, by omega, ?_⟩, by dsimp only; omega⟩, fun k1 => hJ _ ⟨⟨by omega, by omega, ?_⟩, by dsimp only; omega⟩⟩
        · rw [cnF_s, if_neg (by omega)] at hv; exact hv
        · rw [cnF_s, if_pos (by omega)] at hv; exact hv
    · refine e_sh b f1 l1 f0 (by omega) c.1 c.2 ?_
      have sr := shF_r (T := T) (f := f) (h := a) w
      rw [show (64 - f).toNat = (64 - (f + 1)).toNat + 1 by omega] at hv
      refine ⟨by omega, fun k1 => ⟨⟨by omega, by omega, ?_⟩, by dsimp only; omega⟩, fun k1 => ⟨⟨by omega, by omega, ?_⟩, by dsimp only; omega⟩⟩
      · rw [cnF_s, if_neg (by omega), Int.add_zero] at hv; exact hv
      · rw [cnF_s, if_pos (by omega)] at hv; exact hv
  · exact ⟨ra, fun k => absurd k c, fun _ => ⟨rfl, Gx_of Fx.rf Gx_th⟩⟩
-- what is told of fields
theorem e_field {a0 a1 a2 : Int} {X : XT} {Q : XT → Prop} (r0 : 0 ≤ a0) (r1 : a0 ≤ 63) (q : ∀ X1, Fx [46] X X1 → X1 46 0 = a0 % 8 → X1 46 1 = a0 / 8 → X1 46 2 = a1 → X1 46 3 = -1 → X1 46 4 = -1 → X1 46 5 = a2 → X1 46 6 = X 9 2 → X1 46 7 = X 9 0 → Q X1) : w_X0_askField a0 a1 a2 X Q := by
  refine ⟨by omega, r0, e_words (fun X1 f e0 e1 e2 e5 e6 e7 _ _ => q _ ((f.st rfl).st rfl) ?_ ?_ ?_ ?_ ?_ ?_ ?_ ?_)⟩
  · rw [x_st_ne (by decide), x_st_ne (by decide)]; exact e0
  · rw [x_st_ne (by decide), x_st_ne (by decide)]; exact e1
  · rw [x_st_ne (by decide), x_st_ne (by decide)]; exact e2
  · rw [x_st_ne (by decide), x_st_at]
  · rw [x_st_at]
  · rw [x_st_ne (by decide), x_st_ne (by decide)]; exact e5
  · rw [x_st_ne (by decide), x_st_ne (by decide)]; exact e6
  · rw [x_st_ne (by decide), x_st_ne (by decide)]; exact e7
theorem e_ftold {K : LK} {B X : XT} {r : Int → Int} {T : TT} {f h s hd wo kd : Int} {Q : Int → XT → Prop} (b : CE K B r T) (hx : Fx scC B X) (f0 : 0 ≤ f) (f1 : f ≤ 63) (h0 : 0 ≤ h) (h1 : h ≤ 11) (s0 : -1 ≤ s) (s1 : s ≤ 5) (d0 : 0 ≤ hd) (d1 : hd ≤ 3) (w0 : 0 ≤ wo) (w1 : wo ≤ 99) (ek : kd = 15 + hd) (q : ∀ X1, Fx [46, 48] X X1 → Q (T hd (f % 8) (f / 8) h (-1) (-1) s wo) X1) : w_X0_askField f h s X (fun X1 => w_X0_toldBy K kd wo X1 (fun v X2 => Q v X2)) := by
  have w := b.rw
  have ht := w.2.2.2.2.2.2
  unfold W_trm at ht
  refine e_field f0 f1 (fun X1 f2 e0 e1 e2 e3 e4 e5 e6 e7 => ?_)
  rw [hx 9 rfl, b.trm (by omega) (by omega)] at e6 e7
  have e6 : X1 46 6 = r 8 := e6
  have e7 : X1 46 7 = r 6 := e7
  refine e_told (hd := hd) b (hx.trans (f2.sub (by decide))) d0 d1 w0 w1 (wok_of (by omega) (by omega) (by omega) (by omega) (by omega) (by omega) (by omega) (by omega)) e6 e7 (fun X3 f3 => ?_) ek
  rw [e0, e1, e2, e3, e4, e5]
  exact q X3 ((f2.sub (by decide)).trans (f3.sub (by decide)))
theorem m_ftold {r : Int → Int} {T : TT} {X : XT} {f h s hd wo : Int} {Q : Int → XT → Prop} (hT : HRt r T) (tr : TR T) (e : ME r X) (f0 : 0 ≤ f) (f1 : f ≤ 63) (h0 : 0 ≤ h) (h1 : h ≤ 11) (s0 : -1 ≤ s) (s1 : s ≤ 5) (d0 : 0 ≤ hd) (d1 : hd ≤ 3) (w0 : 0 ≤ wo) (w1 : wo ≤ 99) (q : ∀ X1, Gx [91, 93] X X1 → Q (T hd (f % 8) (f / 8) h (-1) (-1) s wo) X1) : w_X12_fieldTells hd f h s wo X Q := by
  refine ⟨by omega, f0, hT X hd _ _ h _ _ s wo _ e d0 d1 (by omega) (by omega) (by omega) (by decide) (by decide) (by omega) w0 w1 (fun v X1 g rv ev _ => ⟨rv, ?_⟩)⟩
  have q1 := q X1 g
  rw [← ev] at q1; exact q1
theorem q_asks {LW : s_LW} (hW : LWq LW) (hst : LWst LW) (a1 a2 a3 : Int32) : Pair m_X11_asks m_X12_asks 0 0 (INV LW) [.int a1, .int a2, .int a3] := by
  obtain ⟨a, rfl, ra⟩ := iI_of a1
  obtain ⟨h, rfl, rh⟩ := iI_of a2
  obtain ⟨k, rfl, rk⟩ := iI_of a3
  refine pair_q hW hst (fun K X Q => w_X11_asks K a h k X Q) (fun X Q => w_X12_asks a h k X Q) (by decide) (by decide) (fun hK hn hp hf w => so_X11_asks hK hn hp hf w) (fun hn hp w => so_X12_asks hn hp w) (fun K X T b hT e => ?_)
  have w := b.rw
  have tr := b.2.2.2
  have bad : ¬ (0 ≤ a ∧ a ≤ 63) ∨ ¬ (0 ≤ h ∧ h ≤ 11) ∨ ¬ (0 ≤ k ∧ k ≤ 3) → w_X12_asks a h k X (fun v2 X2 => v2 = -1 ∧ Gx kpL X X2) := fun hb => by
    refine ⟨ra, fun _ => ⟨rfl, Gx_of Fx.rf Gx_th⟩, fun c1 => ⟨rh, fun _ => ⟨rfl, Gx_of Fx.rf Gx_th⟩, fun c2 => ⟨rk, fun c3 => absurd hb (by omega), fun _ => ⟨rfl, Gx_of Fx.rf Gx_th⟩⟩⟩⟩
  refine ⟨ra, fun c => bad (Or.inl c), fun c1 => ⟨rh, fun c => bad (Or.inr (Or.inl c)), fun c2 => ⟨rk, fun c3 => ?_, fun c => bad (Or.inr (Or.inr c))⟩⟩⟩
  have sr := shF_r (T := T) (f := a) (h := h) w
  have mm : ∀ (X1 : XT) (V : Int), Fx scC X X1 → (k = 0 → V = shF (X 79) T a h) → (k = 1 → V = T 0 (a % 8) (a / 8) h (-1) (-1) (shF (X 79) T a h) 5) → (k = 2 → V = T 1 (a % 8) (a / 8) h (-1) (-1) (shF (X 79) T a h) 3) → (k = 3 → V = T 2 (a % 8) (a / 8) h (-1) (-1) (-1) 1) → w_X12_asks a h k X1 (fun v2 X2 => v2 = V ∧ Gx kpL X X2) := by
    intro X1 V f1 h0 h1 h2 h3
    refine ⟨ra, fun c => absurd c1 c, fun _ => ⟨rh, fun c => absurd c2 c, fun _ => ⟨rk, fun _ => ?_, fun c => absurd c3 c⟩⟩⟩
    refine m_lay0 w hT tr (e.fx f1) (fun X2 e2 g2 l2 => m_sh w e2.1 l2 c1.1 c1.2 c2.1 c2.2 ⟨fun q => ?_, fun q => ?_, fun q => ?_, fun q => ?_⟩)
    · exact ⟨(h0 q).symm, Gx_of f1 g2⟩
    · exact m_ftold hT tr e2 c1.1 c1.2 c2.1 c2.2 (by omega) (by omega) (by decide) (by decide) (by decide) (by decide) (fun X3 g3 => ⟨(h1 q).symm, Gx_of f1 (g2.trans (g3.sub (by decide)))⟩)
    · exact m_ftold hT tr e2 c1.1 c1.2 c2.1 c2.2 (by omega) (by omega) (by decide) (by decide) (by decide) (by decide) (fun X3 g3 => ⟨(h2 q).symm, Gx_of f1 (g2.trans (g3.sub (by decide)))⟩)
    · exact m_ftold hT tr e2 c1.1 c1.2 c2.1 c2.2 (by omega) (by omega) (by decide) (by decide) (by decide) (by decide) (fun X3 g3 => ⟨(h3 (by omega)).symm, Gx_of f1 (g2.trans (g3.sub (by decide)))⟩)
  refine ⟨fun q => ?_, fun q => ?_⟩
  · refine e_look0 b (fun X1 f1 _ l1 => e_sh b f1 l1 c1.1 c1.2 c2.1 c2.2 ⟨fun q0 => ⟨fun q1 => ?_, fun q1 => ?_⟩, fun q0 => ?_⟩)
    · exact e_ftold (hd := 1) b f1 c1.1 c1.2 c2.1 c2.2 (by omega) (by omega) (by decide) (by decide) (by decide) (by decide) rfl (fun X2 f2 => mm X2 _ (f1.trans (f2.sub (by decide))) (fun q => absurd q q0) (fun q => absurd q q1) (fun _ => rfl) (fun z => absurd z q))
    · exact e_ftold (hd := 0) b f1 c1.1 c1.2 c2.1 c2.2 (by omega) (by omega) (by decide) (by decide) (by decide) (by decide) rfl (fun X2 f2 => mm X2 _ (f1.trans (f2.sub (by decide))) (fun q => absurd q q0) (fun _ => rfl) (fun z => by omega) (fun z => absurd z q))
    · exact mm X1 _ f1 (fun _ => rfl) (fun z => by omega) (fun z => by omega) (fun z => absurd z q)
  · exact e_ftold (hd := 2) b Fx.rf c1.1 c1.2 c2.1 c2.2 (by omega) (by omega) (by decide) (by decide) (by decide) (by decide) rfl (fun X2 f2 => mm X2 _ (f2.sub (by decide)) (fun z => by omega) (fun z => by omega) (fun z => by omega) (fun _ => rfl))

/-! THE SKY, the class's: flags are heard, clouds go on, all of it -/
theorem fOf_ex {g : Int → Int} {a b : Int} : ∀ m : Nat, ¬ fOf g a b m = -1 → ∃ j : Nat, j < m ∧ g ((j : Int) * 3) = a ∧ g ((j : Int) * 3 + 1) = b ∧ fOf g a b m = g ((j : Int) * 3 + 2) := by
  intro m
  induction m with
  | zero => intro h; exact absurd rfl h
  | succ m ih =>
    intro h
    by_cases h1 : fOf g a b m = -1
    · by_cases h2 : g ((m : Int) * 3) = a ∧ g ((m : Int) * 3 + 1) = b
      · exact ⟨m, Nat.lt_succ_self m, h2.1, h2.2, fOf_yes h1 h2⟩
      · exact absurd (fOf_no h1 h2) h
    · obtain ⟨j, j0, j1, j2, j3⟩ := ih h1
      exact ⟨j, Nat.lt_succ_of_lt j0, j1, j2, (fOf_stay h1 1).trans j3⟩
def tlF (v : Int) : Int := if v = -1 then 4 else v
theorem fRw_r {r : Int → Int} (w : W_flg r) (c h : Int) : -1 ≤ fRw r c h ∧ fRw r c h ≤ 3 := by
  have h0 := w.1.1
  exact fOf_r (g := fun j => r (232 + j)) (m := (r 1).toNat) (fun k k0 k1 => by have := w.1.2 k k0 (by omega); exact this.2.2.2.2)
theorem e_hear {K : LK} {B X : XT} {r : Int → Int} {T : TT} {ta sb : Nat} {Q : XT → Prop} (hi : (ta = 50 ∧ sb = 51) ∨ (ta = 56 ∧ sb = 57)) (b : CE K B r T) (hx : Fx scC B X) (q : ∀ X1, Fx [ta] X X1 → (∀ c h : Int, 0 ≤ c → c ≤ 4 → 0 ≤ h → h ≤ 10 → X1 ta (c * 11 + h) = tlF (fRw r c h)) → Q X1) : w_X8_hearFlags ta sb X Q := by
  have w := b.rw.2.2.2.1
  have wc := b.rw.2.2.1
  have w0 := w.1.1
  have sc : scC.elem ta = true := by rcases hi with ⟨rfl, _⟩ | ⟨rfl, _⟩ <;> rfl
  have t1 : ¬ (1 : Nat) = ta := by rcases hi with ⟨rfl, _⟩ | ⟨rfl, _⟩ <;> decide
  have t6 : ¬ (6 : Nat) = ta := by rcases hi with ⟨rfl, _⟩ | ⟨rfl, _⟩ <;> decide
  have el : ∀ d : Nat, ¬ d = ta → [ta].elem d = false := fun d hd => by simp [hd]
  have et : [ta].elem ta = true := by simp
  refine ⟨fun x X1 => 0 ≤ x ∧ x ≤ 55 ∧ Fx [ta] X X1 ∧ ∀ j : Int, 0 ≤ j → j < x → X1 ta j = 4, fun x _ => (55 - x).toNat, ⟨by decide, by decide, Fx.rf, fun j j0 j1 => by omega⟩, ?_⟩
  rintro x X1 ⟨x0, x1, f1, hj⟩
  refine ⟨by omega, fun c1 => ?_, fun c1 => ⟨by omega, ⟨by omega, by omega, f1.st et, fun j j0 j1 => ?_⟩, by dsimp only; omega⟩⟩
  · refine ⟨fun k X2 => 0 ≤ k ∧ k ≤ r 1 ∧ Fx [ta] X X2 ∧ ∀ c h : Int, 0 ≤ c → c ≤ 4 → 0 ≤ h → h ≤ 10 → X2 ta (c * 11 + h) = tlF (fOf (fun j => r (232 + j)) h c k.toNat), fun k _ => (r 1 - k).toNat, ⟨by decide, by omega, f1, fun c h _ _ _ _ => ?_⟩, ?_⟩
    · rw [hj _ (by omega) (by omega)]; rfl
    rintro k X2 ⟨k0, k1, f2, hk⟩
    have n1 : X2 1 10 = r 1 := by rw [f2 1 (el 1 t1), hx 1 rfl, b.nf]
    have n6 : ∀ j : Int, 0 ≤ j → j < 72 → X2 6 j = r (232 + j) := fun j j0 j1 => by rw [f2 6 (el 6 t6), hx 6 rfl, b.flg j0 j1]
    refine ⟨by omega, by omega, fun c2 => ?_, fun c2 => ?_⟩
    · have e : k = r 1 := by omega
      subst e
      exact q X2 f2 hk
    · have kr : k < r 1 := by omega
      have fk := w.1.2 k k0 kr
      have fc := w.2.1 k k0 kr
      refine ⟨by omega, ?_⟩
      rw [n6 (k * 3 + 1) (by omega) (by omega), n6 (k * 3 + 0) (by omega) (by omega), n6 (k * 3 + 2) (by omega) (by omega), Int.add_zero (k * 3)]
      refine ⟨by omega, fun c3 => absurd (by omega) c3, fun _ => ⟨by omega, fun c3 => absurd (by omega) c3, fun _ => ⟨by omega, ⟨by omega, by omega, f2.st et, fun c h c0 c1 h0 h1 => ?_⟩, by dsimp only; omega⟩⟩⟩
      have ek : (k + 1).toNat = k.toNat + 1 := by omega
      have ekk : ((k.toNat : Nat) : Int) = k := by omega
      rw [x_st_s, ek]
      by_cases m : r (232 + k * 3) = h ∧ r (232 + (k * 3 + 1)) = c
      · have e1 : fOf (fun j => r (232 + j)) h c k.toNat = -1 := by
          by_cases hq : fOf (fun j => r (232 + j)) h c k.toNat = -1
          · exact hq
          · obtain ⟨j, j0, j1, j2, -⟩ := fOf_ex _ hq
            have := w.2.2 (j : Int) k (by omega) (by omega) kr
            exact absurd ⟨j1.trans m.1.symm, j2.trans m.2.symm⟩ this
        rw [fOf_yes e1 (by rw [ekk]; exact m), ekk, ← m.1, ← m.2, uI_same]
        unfold tlF
        rw [if_neg (by omega)]
      · rw [uI_ne (by omega), hk c h c0 c1 h0 h1]
        congr 1
        by_cases hq : fOf (fun j => r (232 + j)) h c k.toNat = -1
        · rw [fOf_no hq (by rw [ekk]; exact m), hq]
        · exact (fOf_stay hq 1).symm
  · rw [x_st_s]
    by_cases hq : j = x
    · rw [hq, uI_same]
    · rw [uI_ne hq]; exact hj j j0 (by omega)
theorem e_windX {K : LK} {B X : XT} {r : Int → Int} {T : TT} {c : Int} {Q : Int → Prop} (b : CE K B r T) (hx : Fx scC B X) (c0 : 0 ≤ c) (c1 : c < r 0) (q : Q (r (9 + 2 * r (15 + 5 * c + 2)))) : w_X3_windXOf c X Q := by
  have wc := b.rw.2.2.1.1
  have hc := b.rw.2.2.1.2 c c0 c1
  unfold w_X3_windXOf
  rw [hx 1 rfl, hx 5 rfl, hx 3 rfl, b.nc, b.cld c0 (by omega) (by omega) (by omega)]
  refine ⟨by omega, by omega, fun k => absurd (by omega) k, fun _ => ⟨by omega, ?_⟩⟩
  rw [b.wx (by omega) (by omega)]; exact q
theorem e_windY {K : LK} {B X : XT} {r : Int → Int} {T : TT} {c : Int} {Q : Int → Prop} (b : CE K B r T) (hx : Fx scC B X) (c0 : 0 ≤ c) (c1 : c < r 0) (q : Q (r (9 + 2 * r (15 + 5 * c + 2) + 1))) : w_X3_windYOf c X Q := by
  have wc := b.rw.2.2.1.1
  have hc := b.rw.2.2.1.2 c c0 c1
  unfold w_X3_windYOf
  rw [hx 1 rfl, hx 5 rfl, hx 4 rfl, b.nc, b.cld c0 (by omega) (by omega) (by omega)]
  refine ⟨by omega, by omega, fun k => absurd (by omega) k, fun _ => ⟨by omega, ?_⟩⟩
  rw [b.wy (by omega) (by omega)]; exact q
theorem e_start {K : LK} {B X : XT} {r : Int → Int} {T : TT} {c : Int} {Q : Int → Prop} (b : CE K B r T) (hx : Fx scC B X) (c0 : 0 ≤ c) (c1 : c < r 0) (q : Q (bgF r c)) : w_X3_startOf c X Q := by
  have wc := b.rw.2.2.1.1
  have hc := b.rw.2.2.1.2 c c0 c1
  unfold w_X3_startOf
  rw [hx 1 rfl, hx 5 rfl, b.nc, b.cld c0 (by omega) (by omega) (by omega), b.cld c0 (by omega) (by omega) (by omega)]
  exact ⟨by omega, by omega, fun k => absurd (by omega) k, fun _ => ⟨by omega, by omega, q⟩⟩
/-- a flag that was heard (4: none) -/
theorem hinF_0 {r : Int → Int} {T : TT} {c s h : Int} : hinF r T c s h = 0 ↔ freP r T c s h := by
  unfold hinF freP
  by_cases h1 : barP r T c s h
  · rw [if_pos h1]; exact ⟨fun h => absurd h (by decide), fun h => absurd h1 h.2⟩
  · rw [if_neg h1]
    by_cases h2 : wetP r s
    · rw [if_pos h2]; exact ⟨fun h => absurd h (by decide), fun h => absurd h2 h.1⟩
    · rw [if_neg h2]; exact ⟨fun _ => ⟨h2, h1⟩, fun _ => rfl⟩
theorem hinF_r {r : Int → Int} {T : TT} {c s h : Int} : 0 ≤ hinF r T c s h ∧ hinF r T c s h ≤ 2 := by
  unfold hinF; split <;> (try split) <;> omega
theorem nxF_no {r : Int → Int} {T : TT} {c s h d tu : Int} (e : ¬ s = 576 → d = 4 ∨ d = -1 ∨ ¬ freP r T c s h) (s0 : 0 ≤ s ∧ s ≤ 576) : nxF r T c s h d tu = mvF s (wxF r (r (15 + 5 * c + 2)) tu) (wyF r (r (15 + 5 * c + 2)) tu) := by
  unfold nxF
  by_cases hs : s = 576
  · rw [if_pos hs, hs]; rfl
  · rw [if_neg hs]
    have e := e hs
    by_cases hf : freP r T c s h
    · rw [if_pos hf, if_pos hf]
      have e1 : sxF d = 0 := by rcases e with rfl | rfl | e; rfl; rfl; exact absurd hf e
      have e2 : syF d = 0 := by rcases e with rfl | rfl | e; rfl; rfl; exact absurd hf e
      rw [e1, e2, Int.add_zero, Int.add_zero]
    · rw [if_neg hf, if_neg hf, Int.add_zero, Int.add_zero]
theorem nxF_go {r : Int → Int} {T : TT} {c s h d tu : Int} (hs : ¬ s = 576) (hf : freP r T c s h) : nxF r T c s h d tu = mvF s (wxF r (r (15 + 5 * c + 2)) tu + sxF d) (wyF r (r (15 + 5 * c + 2)) tu + syF d) := by
  unfold nxF
  rw [if_neg hs, if_pos hf, if_pos hf]
theorem e_goOn {K : LK} {B X : XT} {r : Int → Int} {T : TT} {ta sb : Nat} {c h tu s d : Int} {Q : XT → Prop} (hi : (ta = 50 ∧ sb = 51) ∨ (ta = 56 ∧ sb = 57)) (b : CE K B r T) (hx : Fx scC B X) (c0 : 0 ≤ c) (c1 : c < r 0) (h0 : 0 ≤ h) (h1 : h ≤ 10) (rt : tu = 0 ∨ tu = 1) (es : X sb (c * 12 + h) = s) (ed : X ta (c * 11 + h) = d) (s0 : 0 ≤ s) (s1 : s ≤ 576) (d0 : 0 ≤ d) (d1 : d ≤ 4) (q : ∀ X1, Fx [46, 48, sb] X X1 → X1 sb (c * 12 + (h + 1)) = nxF r T c s h d tu → (∀ j : Int, ¬ j = c * 12 + (h + 1) → X1 sb j = X sb j) → Q X1) : w_X8_goOn K ta sb c h tu X Q := by
  have wc := b.rw.2.2.1.1
  have hc := b.rw.2.2.1.2 c c0 c1
  have ww := b.rw.2.1 (r (15 + 5 * c + 2)) (by omega) (by omega)
  have sc1 : scC.elem sb = true := by rcases hi with ⟨_, rfl⟩ | ⟨_, rfl⟩ <;> rfl
  have sb4 : [46, 48].elem sb = false := by rcases hi with ⟨_, rfl⟩ | ⟨_, rfl⟩ <;> rfl
  have sbm : [46, 48, sb].elem sb = true := by rcases hi with ⟨_, rfl⟩ | ⟨_, rfl⟩ <;> rfl
  have sub4 : [46, 48].all (fun c => [46, 48, sb].elem c) = true := by rcases hi with ⟨_, rfl⟩ | ⟨_, rfl⟩ <;> rfl
  unfold w_X8_goOn w_X8_spotOf w_X8_flagOf
  rw [es, ed]
  refine ⟨by omega, fun k => absurd (by omega) k, fun _ => ⟨by omega, fun _ => ⟨by omega, ?_⟩, fun k => absurd (by omega) k⟩⟩
  refine ⟨by omega, fun k => absurd (by omega) k, fun _ => ⟨by omega, fun _ => ⟨by omega, ?_⟩, fun k => absurd (by omega) k⟩⟩
  intro J hJ
  have key : ∀ (e : Int) (X1 : XT), Fx [46, 48] X X1 → 0 ≤ e → e ≤ 4 → mvF s (wxF r (r (15 + 5 * c + 2)) tu + sxF e) (wyF r (r (15 + 5 * c + 2)) tu + syF e) = nxF r T c s h d tu → J e X1 := by
    intro e X1 f1 e0 e1 en
    have hx1 : Fx scC B X1 := hx.trans (f1.sub (by decide))
    refine hJ e X1 (e_windX b hx1 c0 c1 (e_windY b hx1 c0 c1 ?_))
    have k2 : ∀ gx gy : Int, gx = wxF r (r (15 + 5 * c + 2)) tu → gy = wyF r (r (15 + 5 * c + 2)) tu → (R32 e ∧ (0 ≤ s ∧ s ≤ 576) ∧ (-3 ≤ (gx + (sxF e)) ∧ (gx + (sxF e)) ≤ 3) ∧ (-3 ≤ (gy + (syF e)) ∧ (gy + (syF e)) ≤ 3) ∧ w_X8_place ta sb c (h + 1) (mvF s (gx + (sxF e)) (gy + (syF e))) X1 (fun (X40 : XT) => Q X40)) := by
      rintro gx gy rfl rfl
      have r1 := wx_r b.rw.2.1 (l := r (15 + 5 * c + 2)) (tu := tu) (by omega) (by omega)
      have r2 := wy_r b.rw.2.1 (l := r (15 + 5 * c + 2)) (tu := tu) (by omega) (by omega)
      have r3 := sx_r e
      have r4 := sy_r e
      refine ⟨by omega, by omega, by omega, by omega, by omega, fun k => absurd (by omega) k, fun _ => ⟨by omega, fun k => absurd (by omega) k, fun _ => ⟨by omega, ?_⟩⟩⟩
      rw [en]
      refine q _ ((f1.sub sub4).st sbm) (by rw [x_st_at]) (fun j hj => by rw [x_st_ne hj, f1 sb sb4])
    intro J1 hJ1
    have k3 : ∀ gx : Int, gx = wxF r (r (15 + 5 * c + 2)) tu → J1 gx := by
      intro gx hg
      refine hJ1 gx ?_
      intro J2 hJ2
      rcases rt with rfl | rfl
      · exact ⟨by decide, fun _ => hJ2 _ (k2 _ _ hg rfl), fun k => absurd rfl k⟩
      · exact ⟨by decide, fun k => absurd k (by decide), fun _ => hJ2 _ (k2 _ _ hg rfl)⟩
    rcases rt with rfl | rfl
    · exact ⟨by decide, fun _ => k3 _ rfl, fun k => absurd rfl k⟩
    · exact ⟨by decide, fun k => absurd k (by decide), fun _ => k3 _ rfl⟩
  have kno : ∀ (X1 : XT), Fx [46, 48] X X1 → (¬ s = 576 → d = 4 ∨ d = -1 ∨ ¬ freP r T c s h) → J 4 X1 := fun X1 f1 hn => by
    refine key 4 X1 f1 (by decide) (by decide) ?_
    rw [nxF_no hn ⟨s0, s1⟩, show sxF 4 = 0 from rfl, show syF 4 = 0 from rfl, Int.add_zero, Int.add_zero]
  refine ⟨by omega, fun k => ?_, fun k => ⟨by omega, fun k1 => ?_, fun k1 => ?_⟩⟩
  · refine key d X Fx.rf d0 d1 ?_
    rw [k]; rfl
  · rw [k1]; exact kno X Fx.rf (fun _ => Or.inl k1)
  · refine e_hind b hx c0 c1 h0 (by omega) s0 (by omega) (fun X1 f1 => ?_)
    have hr := hinF_r (r := r) (T := T) (c := c) (s := s) (h := h)
    refine ⟨by omega, fun k2 => ?_, fun k2 => ?_⟩
    · exact key d X1 f1 d0 d1 (nxF_go k (hinF_0.mp k2)).symm
    · exact kno X1 f1 (fun _ => Or.inr (Or.inr (fun h => k2 (hinF_0.mpr h))))
/-- where all clouds are -/
theorem tlF_r {r : Int → Int} (w : W_flg r) (c h : Int) : 0 ≤ tlF (fRw r c h) ∧ tlF (fRw r c h) ≤ 4 := by
  have := fRw_r w c h
  unfold tlF; split <;> omega
theorem nxF_tl {r : Int → Int} {T : TT} {c s h v tu : Int} (hs : 0 ≤ s ∧ s ≤ 576) : nxF r T c s h (tlF v) tu = nxF r T c s h v tu := by
  unfold tlF
  by_cases hv : v = -1
  · rw [if_pos hv, nxF_no (fun _ => Or.inl rfl) hs, nxF_no (fun _ => Or.inr (Or.inl hv)) hs]
  · rw [if_neg hv]
/-- what look() makes -/
def LOOK (r : Int → Int) (T : TT) (sb : Nat) (X : XT) : Prop := ∀ c : Int, 0 ≤ c → c < r 0 → ∀ h : Nat, h ≤ 11 → X sb (c * 12 + (h : Int)) = spF r T c h
def HEAR (r : Int → Int) (ta : Nat) (X : XT) : Prop := ∀ c h : Int, 0 ≤ c → c ≤ 4 → 0 ≤ h → h ≤ 10 → X ta (c * 11 + h) = tlF (fRw r c h)
theorem e_look {K : LK} {B X : XT} {r : Int → Int} {T : TT} {ta sb : Nat} {Q : XT → Prop} (hi : (ta = 50 ∧ sb = 51) ∨ (ta = 56 ∧ sb = 57)) (b : CE K B r T) (hx : Fx scC B X) (q : ∀ X1, Fx [46, 48, ta, sb] X X1 → HEAR r ta X1 → LOOK r T sb X1 → Q X1) : w_X8_look K ta sb X Q := by
  have wc := b.rw.2.2.1
  have wc1 := wc.1
  have sub1 : [ta].all (fun c => [46, 48, ta, sb].elem c) = true := by rcases hi with ⟨rfl, rfl⟩ | ⟨rfl, rfl⟩ <;> rfl
  have sub2 : [46, 48, sb].all (fun c => [46, 48, ta, sb].elem c) = true := by rcases hi with ⟨rfl, rfl⟩ | ⟨rfl, rfl⟩ <;> rfl
  have subS : [46, 48, ta, sb].all (fun c => scC.elem c) = true := by rcases hi with ⟨rfl, rfl⟩ | ⟨rfl, rfl⟩ <;> rfl
  have elt : [46, 48, sb].elem ta = false := by rcases hi with ⟨rfl, rfl⟩ | ⟨rfl, rfl⟩ <;> rfl
  have els : [46, 48, ta, sb].elem sb = true := by rcases hi with ⟨rfl, rfl⟩ | ⟨rfl, rfl⟩ <;> rfl
  have nts : ¬ ta = sb := by rcases hi with ⟨rfl, rfl⟩ | ⟨rfl, rfl⟩ <;> decide
  refine e_hear hi b hx (fun X1 f1 hh => ?_)
  refine ⟨fun x X2 => 0 ≤ x ∧ x ≤ r 0 ∧ Fx [46, 48, ta, sb] X X2 ∧ HEAR r ta X2 ∧ ∀ c : Int, 0 ≤ c → c < x → ∀ h : Nat, h ≤ 11 → X2 sb (c * 12 + (h : Int)) = spF r T c h, fun x _ => (r 0 - x).toNat, ⟨by decide, wc1.1, f1.sub sub1, hh, fun c c0 c1 => absurd (show c < (0 : Int) from c1) (by omega)⟩, ?_⟩
  rintro x X2 ⟨x0, x1, f2, h2, l2⟩
  have hx2 : Fx scC B X2 := hx.trans (f2.sub subS)
  have n9 : X2 1 9 = r 0 := by rw [hx2 1 rfl, b.nc]
  refine ⟨by omega, by omega, fun c1 => q X2 f2 h2 (fun c c0 c2 => l2 c c0 (by omega)), fun c1 => ?_⟩
  have xr : x < r 0 := by omega
  refine e_start b hx2 x0 xr ⟨by omega, fun k => absurd (by omega) k, fun _ => ⟨by decide, fun k => absurd (by decide) k, fun _ => ⟨by omega, ?_⟩⟩⟩
  refine ⟨fun y X3 => 0 ≤ y ∧ y ≤ 11 ∧ Fx [46, 48, ta, sb] X X3 ∧ HEAR r ta X3 ∧ (∀ c : Int, 0 ≤ c → c < x → ∀ h : Nat, h ≤ 11 → X3 sb (c * 12 + (h : Int)) = spF r T c h) ∧ ∀ h : Nat, (h : Int) ≤ y → X3 sb (x * 12 + (h : Int)) = spF r T x h, fun y _ => (11 - y).toNat, ⟨by decide, by decide, f2.st els, fun c h c0 c2 h0 h3 => by rw [x_st_c nts]; exact h2 c h c0 c2 h0 h3, fun c c0 c2 h h3 => ?_, fun h h3 => ?_⟩, ?_⟩
  · rw [x_st_ne (by omega)]; exact l2 c c0 c2 h h3
  · have : h = 0 := by omega
    subst this
    exact x_st_at
  rintro y X3 ⟨y0, y1, f3, h3, l3, m3⟩
  refine ⟨by omega, fun k => ⟨⟨by omega, by omega, f3, h3, fun c c0 c2 h h4 => ?_⟩, by dsimp only; omega⟩, fun k => ?_⟩
  · by_cases hc : c = x
    · rw [hc]; exact m3 h (by omega)
    · exact l3 c c0 (by omega) h h4
  · have hx3 : Fx scC B X3 := hx.trans (f3.sub subS)
    have ey : ((y.toNat : Nat) : Int) = y := by omega
    have m4 := m3 y.toNat (by omega)
    rw [ey] at m4
    have sr := spF_r (T := T) wc x0 xr y.toNat
    have dr := tlF_r b.rw.2.2.2.1 x y
    refine e_goOn hi b hx3 x0 xr y0 (by omega) (Or.inl rfl) m4 (h3 x y x0 (by omega) y0 (by omega)) sr.1 sr.2 dr.1 dr.2 (fun X4 f4 e4 g4 => ?_)
    refine ⟨⟨by omega, by omega, f3.trans (f4.sub sub2), fun c h c0 c2 h0 h5 => by rw [f4 ta elt]; exact h3 c h c0 c2 h0 h5, fun c c0 c2 h h5 => by rw [g4 _ (by omega)]; exact l3 c c0 c2 h h5, fun h h5 => ?_⟩, by dsimp only; omega⟩
    by_cases hq : (h : Int) = y + 1
    · rw [hq, e4]
      have eh : h = y.toNat + 1 := by omega
      rw [eh, nxF_tl sr]
      show _ = nxF r T x (spF r T x y.toNat) ((y.toNat : Nat) : Int) (fRw r x ((y.toNat : Nat) : Int)) 0
      rw [ey]
    · rw [g4 _ (by omega)]; exact m3 h (by omega)
theorem e_covers {K : LK} {B X : XT} {r : Int → Int} {T : TT} {c s f : Int} {Q : Int → Prop} (b : CE K B r T) (hx : Fx scC B X) (c0 : 0 ≤ c) (c1 : c < r 0) (s0 : 0 ≤ s) (s1 : s ≤ 576) (f0 : 0 ≤ f) (f1 : f ≤ 63) (q1 : shP r c s f → Q 1) (q0 : ¬ shP r c s f → Q 0) : w_X3_shadowCovers c s f X Q := by
  have wc := b.rw.2.2.1.1
  have hc := b.rw.2.2.1.2 c c0 c1
  unfold w_X3_shadowCovers
  rw [hx 1 rfl, hx 5 rfl, b.nc, b.cld c0 (by omega) (by omega) (by omega), b.cld c0 (by omega) (by omega) (by omega)]
  refine ⟨by omega, by omega, by omega, by omega, by omega, ?_⟩
  by_cases h : shP r c s f
  · rw [if_pos h]; exact q1 h
  · rw [if_neg h]; exact q0 h
theorem sdF_s {r s : Int → Int} {f : Int} {m : Nat} : sdF r s f (m + 1) = sdF r s f m + (if shP r (m : Int) (s (m : Int)) f then 1 else 0) := rfl
theorem e_shade {K : LK} {B X : XT} {r : Int → Int} {T : TT} {ta sb : Nat} {f h : Int} {s : Int → Int} {Q : Int → Prop} (b : CE K B r T) (hx : Fx scC B X) (hs : ∀ c : Int, 0 ≤ c → c < r 0 → X sb (c * 12 + h) = s c ∧ 0 ≤ s c ∧ s c ≤ 576) (f0 : 0 ≤ f) (f1 : f ≤ 63) (h0 : 0 ≤ h) (h1 : h ≤ 11) (q : Q (sdF r s f (r 0).toNat)) : w_X8_shadeOf ta sb f h X Q := by
  have wc := b.rw.2.2.1.1
  refine ⟨fun n x => 0 ≤ x ∧ x ≤ r 0 ∧ n = sdF r s f x.toNat, fun _ x => (r 0 - x).toNat, ⟨by decide, wc.1, rfl⟩, ?_⟩
  rintro n x ⟨x0, x1, rfl⟩
  have n9 : X 1 9 = r 0 := by rw [hx 1 rfl, b.nc]
  refine ⟨by omega, by omega, fun k => ?_, fun k => ⟨by omega, fun k1 => absurd (by omega) k1, fun _ => ⟨by omega, fun _ => ⟨by omega, ?_⟩, fun k1 => absurd (by omega) k1⟩⟩⟩
  · have e : x = r 0 := by omega
    rw [e]; exact q
  · have xr : x < r 0 := by omega
    obtain ⟨e1, e2, e3⟩ := hs x x0 xr
    have ex : (x + 1).toNat = x.toNat + 1 := by omega
    have exx : ((x.toNat : Nat) : Int) = x := by omega
    rw [e1]
    refine e_covers b hx x0 xr e2 e3 f0 f1 (fun g => ⟨by decide, fun k2 => absurd k2 (by decide), fun _ => ⟨⟨by omega, by omega, ?_⟩, by dsimp only; omega⟩⟩) (fun g => ⟨by decide, fun _ => ⟨⟨by omega, by omega, ?_⟩, by dsimp only; omega⟩, fun k2 => absurd rfl k2⟩)
    · rw [ex, sdF_s, exx, if_pos g]
    · rw [ex, sdF_s, exx, if_neg g, Int.add_zero]

/-! MEN: the class lists the flags whose cloud is not gone -/
def mH (r : Int → Int) (k : Int) : Int := r (232 + k * 3)
def mS (r : Int → Int) (T : TT) (k : Int) : Int := spF r T (r (232 + (k * 3 + 1))) (r (232 + k * 3)).toNat
def mK (r : Int → Int) (T : TT) (k : Int) : Prop := ¬ mS r T k = 576
def mD (a b : Int) : Int := max (a % 24 - b % 24) (b % 24 - a % 24) + max (a / 24 - b / 24) (b / 24 - a / 24)
abbrev mEP (r : Int → Int) (T : TT) (k l : Int) : Prop := (¬ mS r T k = 576 ∧ ¬ mS r T l = 576) ∧ mD (mS r T k) (mS r T l) ≤ mH r l - mH r k ∧ (mH r l = mH r k → k < l)
def mEf (r : Int → Int) (T : TT) (k l : Int) : Bool := decide (mEP r T k l)
theorem mEf_t {r : Int → Int} {T : TT} {k l : Int} : mEf r T k l = true ↔ mEP r T k l := decide_eq_true_iff
theorem mS_r {r : Int → Int} {T : TT} (w : RW r) {k : Int} (k0 : 0 ≤ k) (k1 : k < r 1) : (0 ≤ mS r T k ∧ mS r T k ≤ 576) ∧ (0 ≤ mH r k ∧ mH r k ≤ 10) ∧ (0 ≤ r (232 + (k * 3 + 1)) ∧ r (232 + (k * 3 + 1)) < r 0) := by
  have a := w.2.2.2.1.1.2 k k0 k1
  have c := w.2.2.2.1.2.1 k k0 k1
  exact ⟨spF_r w.2.2.1 a.2.2.1 c _, ⟨a.1, a.2.1⟩, a.2.2.1, c⟩
theorem absI_m (x : Int) : absI x = max x (-x) := by unfold absI; split <;> omega
def mLST (r : Int → Int) (T : TT) (n k : Int) (e : Int → Int) (X : XT) : Prop := (0 ≤ n ∧ n ≤ k) ∧ (∀ i : Int, 0 ≤ i → i < n → (0 ≤ e i ∧ e i < k) ∧ mK r T (e i)) ∧ (∀ i j : Int, 0 ≤ i → i < j → j < n → e i < e j) ∧ (∀ l : Int, 0 ≤ l → l < k → mK r T l → ∃ i : Int, (0 ≤ i ∧ i < n) ∧ e i = l) ∧ ∀ i : Int, 0 ≤ i → i < n → X 72 i = mS r T (e i) ∧ X 73 i = mH r (e i) ∧ X 74 i = -1
theorem mLST_s {r : Int → Int} {T : TT} {n k : Int} {e : Int → Int} {X : XT} (h : mLST r T n k e X) (k0 : 0 ≤ k) (g : mS r T k = 576) : mLST r T n (k + 1) e X := by
  obtain ⟨h1, h2, h3, h4, h5⟩ := h
  refine ⟨by omega, fun i i0 i1 => ⟨by have := (h2 i i0 i1).1; omega, (h2 i i0 i1).2⟩, h3, fun l l0 l1 kl => ?_, h5⟩
  by_cases q : l = k
  · rw [q] at kl; exact absurd g kl
  · exact h4 l l0 (by omega) kl
theorem mLST_t {r : Int → Int} {T : TT} {n k : Int} {e : Int → Int} {X : XT} (h : mLST r T n k e X) (k0 : 0 ≤ k) (g : mK r T k) : mLST r T (n + 1) (k + 1) (fun i => if i = n then k else e i) (x_st (x_st (x_st X 73 n (mH r k)) 72 n (mS r T k)) 74 n (-1)) := by
  obtain ⟨h1, h2, h3, h4, h5⟩ := h
  refine ⟨by omega, fun i i0 i1 => ?_, fun i j i0 ij j1 => ?_, fun l l0 l1 kl => ?_, fun i i0 i1 => ?_⟩
  · dsimp only
    by_cases q : i = n
    · rw [if_pos q]; exact ⟨by omega, g⟩
    · rw [if_neg q]
      have := h2 i i0 (by omega)
      exact ⟨by omega, this.2⟩
  · dsimp only
    rw [if_neg (show ¬ i = n by omega)]
    have a := (h2 i i0 (by omega)).1
    by_cases q : j = n
    · rw [if_pos q]; omega
    · rw [if_neg q]; exact h3 i j i0 ij (by omega)
  · by_cases q : l = k
    · exact ⟨n, by omega, by dsimp only; rw [if_pos rfl]; exact q.symm⟩
    · obtain ⟨i, ir, ei⟩ := h4 l l0 (by omega) kl
      exact ⟨i, by omega, by dsimp only; rw [if_neg (show ¬ i = n by omega)]; exact ei⟩
  · dsimp only
    by_cases q : i = n
    · rw [if_pos q, q]
      refine ⟨?_, ?_, ?_⟩
      · rw [x_st_c (by decide), x_st_at]
      · rw [x_st_c (by decide), x_st_c (by decide), x_st_at]
      · rw [x_st_at]
    · rw [if_neg q]
      obtain ⟨a, b, c⟩ := h5 i i0 (by omega)
      refine ⟨?_, ?_, ?_⟩
      · rw [x_st_c (by decide), x_st_ne q, x_st_c (by decide)]; exact a
      · rw [x_st_c (by decide), x_st_c (by decide), x_st_ne q]; exact b
      · rw [x_st_ne q, x_st_c (by decide), x_st_c (by decide)]; exact c
theorem mLST_e {r : Int → Int} {T : TT} {n : Int} {e : Int → Int} {X : XT} (h : mLST r T n (r 1) e X) : ENM n (r 1) e (mK r T) :=
  ⟨h.2.1, fun i j i0 ij j1 q => by have := h.2.2.1 i j i0 ij j1; omega, h.2.2.2.1⟩
theorem e_can {r : Int → Int} {T : TT} {n : Int} {e : Int → Int} {X : XT} (w : RW r) (h : mLST r T n (r 1) e X) : mCAN n (fun i j => mEf r T (e i) (e j)) X := by
  intro X1 l j Q q72 q73 l0 l1 j0 j1 y no
  have wf := w.2.2.2.1.1.1
  have al := h.2.1 l l0 l1
  have aj := h.2.1 j j0 j1
  have bl := mS_r (T := T) w al.1.1 al.1.2
  have bj := mS_r (T := T) w aj.1.1 aj.1.2
  have cl := h.2.2.2.2 l l0 l1
  have cj := h.2.2.2.2 j j0 j1
  have mono : e l < e j ↔ l < j := by
    constructor
    · intro q
      by_cases z : l < j
      · exact z
      · by_cases z2 : j < l
        · have := h.2.2.1 j l j0 z2 l1; omega
        · rw [show l = j by omega] at q; omega
    · intro z; exact h.2.2.1 l j l0 z j1
  have n1 := h.1
  have kl := al.2
  have kj := aj.2
  unfold mK at kl kj
  have ye : mD (mS r T (e l)) (mS r T (e j)) ≤ mH r (e j) - mH r (e l) → (mH r (e j) = mH r (e l) → l < j) → Q 1 := fun a c => y (mEf_t.mpr ⟨⟨kl, kj⟩, a, fun z => mono.mpr (c z)⟩)
  have ne : ¬ (mD (mS r T (e l)) (mS r T (e j)) ≤ mH r (e j) - mH r (e l) ∧ (mH r (e j) = mH r (e l) → l < j)) → Q 0 := fun a => no (fun z => a (by have := mEf_t.mp z; exact ⟨this.2.1, fun z2 => mono.mp (this.2.2 z2)⟩))
  unfold w_X10_canFollow
  rw [q72, q73, cl.1, cl.2.1, cj.1, cj.2.1]
  generalize mS r T (e l) = sl at *
  generalize mS r T (e j) = sj at *
  generalize mH r (e l) = hl at *
  generalize mH r (e j) = hj at *
  rw [absI_m, absI_m]
  have d0 : mD sl sj = max ((sj % 24 - 8) - (sl % 24 - 8)) (-((sj % 24 - 8) - (sl % 24 - 8))) + max ((sj / 24 - 8) - (sl / 24 - 8)) (-((sj / 24 - 8) - (sl / 24 - 8))) := by unfold mD; omega
  rw [← d0]
  have dp : 0 ≤ mD sl sj ∧ mD sl sj ≤ 100 := by unfold mD; omega
  refine ⟨by omega, by omega, by omega, fun k => ne (by omega), fun k J hJ => ?_⟩
  have key : (hj = hl → l < j) → J := fun lt => hJ ⟨by omega, by omega, by omega, by omega, by omega, fun k1 => ne (by omega), fun k1 => ye (by omega) lt⟩
  refine ⟨fun k1 => key (fun z => by omega), fun k1 => ⟨by omega, by omega, fun k2 => key (fun _ => k2), fun k2 => ne (fun z => k2 (z.2 (by omega)))⟩⟩
theorem e_men {K : LK} {B X : XT} {r : Int → Int} {T : TT} {Q : Int → XT → Prop} (b : CE K B r T) (hx : Fx scC B X) (hl : LOOK r T 51 X) (q : ∀ (n s : Int) (e : Int → Int) (X1 : XT), Fx [72, 73, 74, 75] X X1 → 0 ≤ n → ENM n (r 1) e (mK r T) → HUN (r 1) (mEf r T) s → Q (n - s) X1) : w_X10_fewestMen 50 51 X Q := by
  have w := b.rw
  have wf := w.2.2.2.1.1.1
  refine ⟨fun n k X3 => 0 ≤ k ∧ k ≤ r 1 ∧ Fx [72, 73, 74] X X3 ∧ ∃ e : Int → Int, mLST r T n k e X3, fun _ k _ => (r 1 - k).toNat, ⟨by decide, wf.1, Fx.rf, fun i => i, ⟨by decide, by decide⟩, fun i a c => absurd (show i < (0 : Int) from c) (by omega), fun i j a c d => absurd (show j < (0 : Int) from d) (by omega), fun i a c => absurd (show i < (0 : Int) from c) (by omega), fun i a c => absurd (show i < (0 : Int) from c) (by omega)⟩, ?_⟩
  rintro n k X3 ⟨k0, k1, f3, e, l3⟩
  intro J hJ
  have nf : X3 1 10 = r 1 := by rw [f3 1 rfl, hx 1 rfl, b.nf]
  have fin : k = r 1 → J := fun z => hJ (by
    rw [z] at l3
    have n0 := l3.1
    exact e_tries n0.1 (by omega) (e_can w l3) (fun j j0 j1 => (l3.2.2.2.2 j j0 j1).2.2) (fun s X1 f1 hu => q n s e X1 ((f3.sub (by decide)).trans (f1.sub (by decide))) n0.1 (mLST_e l3) (HUN_map n0.1 wf.1 (mLST_e l3) (fun _ _ _ _ _ _ => rfl) (fun k l _ _ _ _ z => (mEf_t.mp z).1) hu)))
  rw [nf]
  refine ⟨by omega, by omega, fun z => fin (by omega), fun z => ⟨fun z2 => absurd z2 (by omega), fun z2 => ⟨by omega, ?_⟩⟩⟩
  have bk := mS_r (T := T) w k0 (show k < r 1 by omega)
  have e1 : X3 6 (k * 3 + 1) = r (232 + (k * 3 + 1)) := by rw [f3 6 rfl, hx 6 rfl, b.flg (by omega) (by omega)]
  have e0 : X3 6 (k * 3 + 0) = mH r k := by rw [f3 6 rfl, hx 6 rfl, b.flg (by omega) (by omega), Int.add_zero]; rfl
  rw [e1, e0]
  refine e_spot b (fun c c0 c1 h h1 => by rw [f3 51 rfl]; exact hl c c0 c1 h h1) bk.2.2.1 bk.2.2.2 bk.2.1.1 (by omega) ?_
  show R32 (mS r T k) ∧ (mS r T k = 576 → _) ∧ (¬ mS r T k = 576 → _)
  have n0 := l3.1
  refine ⟨by omega, fun g => ⟨⟨by omega, by omega, f3, e, mLST_s l3 k0 g⟩, by dsimp only; omega⟩, fun g => ⟨by omega, ⟨by omega, by omega, ((f3.st rfl).st rfl).st rfl, _, mLST_t l3 k0 g⟩, by dsimp only; omega⟩⟩

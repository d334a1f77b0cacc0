/-! ROWS OF THE SIMPLE MACHINE: calls -/
def s_push (r : Option Value) (st : List Value) : List Value := match r with
  | some v => v :: st
  | none => st
theorem s_push_tr (al : Nat → Nat) (r : Option Value) (st : List Value) : (r.map (s_tr al)).toList ++ st.map (s_tr al) = (s_push r st).map (s_tr al) := by cases r <;> rfl
section SCALL
variable {p : Program} {l : Launch} {e : Env} {R : Room} {s : State} {m : MethodId} {args : Array Value} {below : List Frame} {meth : Method} {c : Code} {H : Heap} {locs : List Loc} {cells slots : Nat} {Q : State → Prop}
variable {pc : Nat} {ls : Array Slot} {rest st0 : List Value} {a : Array Value} {A : Nat → Prop} {mc ms : Nat}
theorem s_call {D : va_G} {al : Nat → Nat} {n : Nat} {Q2 : s_P} (hr : va_Run p l e R s m args below meth c H locs cells slots mc ms (F0 m pc ls st0) rest (s_Qc D A al n Q2 a) A) (hS : va_S A s.heap H locs)
    (kk : ∀ (r : Option Value) (n' : Nat) (h' : Nat → sE) (al' : Nat → Nat) (be' : Nat → ClassId) (H1 : Heap) (locs1 : List Loc), Q2 r n' h' → (∀ i, i < n → al' i = al i) → n ≤ n' → (n' = n → al' = al) → s_Wd D A s al' be' n' h' H1 → va_S A s.heap H1 locs1 → W p l e R s m args below meth c H1 locs1 (cells + mc) (slots + ms) Q (F0 m (pc + 3) ls ((r.map (s_tr al')).toList ++ rest))) : W p l e R s m args below meth c H locs cells slots Q (F0 m pc ls st0) := by
  intro T hT X
  obtain ⟨v, st₀, t, T', L, h0, X', hL, e1, e2, ⟨⟨r, n', h', al', be', hv, hq, ha, hn, hna, hw⟩, hz, hk⟩, st⟩ := hr T hT X
  cases hv
  rw [h0] at hz hk
  obtain ⟨t2, a1, b1⟩ := kk r n' h' al' be' T'.heap (locs ++ L) hq ha hn hna (by rw [e1]; exact hw.moved (by rw [← e2]; exact X'.warmed.alike.symm))
    ⟨Nat.le_trans hS.1 (by rw [e1]; exact hz), fun q h1 h2 => by rw [e1, hk q (Nat.lt_of_lt_of_le h1 hS.1) h2]; exact hS.2.1 q h1 h2, fun q hq => by
      rcases List.mem_append.mp hq with h | h
      · exact hS.2.2 q h
      · exact hL q h⟩ T' rfl X'
  exact ⟨t2, st t2 a1, b1⟩
end SCALL
/-- what a call of a virtual, static, special method needs of the tables -/
def s_MV (own : String) (index : Nat) (M : s_M) (np : Nat) : Prop := Cond.methodLink own index M.1 ∈ s_tb ∧ Cond.instanceMethod M.1 ∈ s_tb ∧ Cond.selects M.1.cls M.1 M.1 ∈ s_tb ∧ Cond.initialized M.1.cls ∈ s_tb ∧ Cond.code M.1 M.2.1 M.2.2.1 M.2.2.2 ∈ s_tb ∧ (M.1.cls ≠ "java/lang/invoke/MethodHandle" ∧ M.1.cls ≠ "java/lang/invoke/VarHandle" ∧ (parseMethodDescriptor M.1.desc).map (fun d => d.parameters.length) = some np) ∧ M.2.2.1 ≤ 22
def s_MS (own : String) (index : Nat) (M : s_M) (np : Nat) : Prop := (Cond.methodLink own index M.1 ∈ s_tb ∨ ∃ host, Cond.methodLinkNest own index M.1 host ∈ s_nw) ∧ Cond.static M.1 ∈ s_tb ∧ Cond.initialized M.1.cls ∈ s_tb ∧ Cond.code M.1 M.2.1 M.2.2.1 M.2.2.2 ∈ s_tb ∧ (M.1.cls ≠ "java/lang/invoke/MethodHandle" ∧ M.1.cls ≠ "java/lang/invoke/VarHandle" ∧ (parseMethodDescriptor M.1.desc).map (fun d => d.parameters.length) = some np) ∧ M.2.2.1 ≤ 22
def s_MI (own : String) (index : Nat) (M : s_M) (np : Nat) : Prop := (Cond.methodLink own index M.1 ∈ s_tb ∨ ∃ host, Cond.methodLinkNest own index M.1 host ∈ s_nw) ∧ Cond.instanceMethod M.1 ∈ s_tb ∧ Cond.initialized M.1.cls ∈ s_tb ∧ Cond.code M.1 M.2.1 M.2.2.1 none ∈ s_tb ∧ M.2.2.2 = none ∧ M.1.name = "<init>" ∧ (M.1.cls ≠ "java/lang/invoke/MethodHandle" ∧ M.1.cls ≠ "java/lang/invoke/VarHandle" ∧ (parseMethodDescriptor M.1.desc).map (fun d => d.parameters.length) = some np) ∧ M.2.2.1 ≤ 22
/-- the callee's words and room -/
theorem s_good {M : s_M} (h : Cond.code M.1 M.2.1 M.2.2.1 M.2.2.2 ∈ s_tb) : GoodIn s_tb (.code M.1 M.2.1 M.2.2.1 M.2.2.2 :: s_tb) := s_tb_good (fun w hw => by
  rcases List.mem_cons.mp hw with h1 | h1
  · rw [h1]; exact h
  · exact h1)
theorem s_room {d2 d nL mc2 ms2 mc ms : Nat} (hd : d2 + 1 ≤ d) (hn : nL ≤ 22) : (s_rm d2 mc2 ms2).frames + 1 ≤ (s_rm d mc ms).frames ∧ 8 + (nL + 11) + (s_rm d2 mc2 ms2).locals ≤ (s_rm d mc ms).locals := by
  unfold s_rm
  exact ⟨hd, by dsimp only; omega⟩
theorem s_pre {D : va_G} {A : Nat → Prop} {al : Nat → Nat} {be : Nat → ClassId} {n : Nat} {h : Nat → sE} {s : State} {H : Heap} {locs : List Loc} {as : List Value} (hF : s_Fx D A s) (hW : s_Wd D A s al be n h H) (hS : va_S A s.heap H locs) : ∀ U : State, U.heap = H → s.WarmedH U.vm → s_Pc D A al be n h as (as.map (s_tr al)).toArray U := by
  intro U hU hw
  have ha := hw.alike
  refine ⟨rfl, ⟨va_K.moved ha hF.1, fun q hq => hF.2.1 q (Nat.le_trans hS.1 (by rw [← hU]; exact hq)), ?_, hF.2.2.2.warm hw⟩, by rw [hU]; exact hW.moved ha⟩
  rw [hU]
  exact (hF.2.2.1.kept hS.2.1).warm hw
theorem s_revmap (al : Nat → Nat) (as : List Value) (t : List Value) : (as.reverse ++ t).map (s_tr al) = (as.map (s_tr al)).reverse ++ t.map (s_tr al) := by
  rw [List.map_append, List.map_reverse]
theorem s_cats (al : Nat → Nat) (st : List Value) : ((st.map (s_tr al)).map fun v => v.category) = st.map fun v => v.category := by
  rw [List.map_map]; exact List.map_congr_left (fun v _ => s_tr_cat al v)
section CALLS
variable {P : s_C} {k u n pc : Nat} {h : Nat → sE} {lv : List (Nat × Value)} {st stk as : List Value} {index d2 mc2 ms2 : Nat} {M : s_M} {Q2 : s_P}
/-- what comes behind a call, in the two ways: the number of cells stays; or locals and stack are of the cells that were -/
def s_Bk (P : s_C) (k u n : Nat) (pc : Nat) (lv : List (Nat × Value)) (st : List Value) (mc2 ms2 : Nat) (Q2 : s_P) : Prop :=
  ((∀ r n' h', Q2 r n' h' → n' = n) ∨ ((∀ q ∈ lv, s_ok n q.2) ∧ ∀ v ∈ st, s_ok n v)) ∧ ∀ r n' h', Q2 r n' h' → V P (k + mc2) (u + ms2) n' h' (pc + 3) lv (s_push r st)
theorem s_behind {l : Launch} {D : va_G} {A : Nat → Prop} {al0 : Nat → Nat} {p : Program} {e : Env} {s : State} {m : MethodId} {args : Array Value} {below : List Frame} {meth : Method} {c : Code} (E : s_Ev P D A p s m args meth c) {al : Nat → Nat} {ls : Array Slot} (ha : (∀ i, i < P.2.2.2.2.1 → al i = al0 i) ∧ P.2.2.2.2.1 ≤ n ∧ (n = P.2.2.2.2.1 → al = al0)) (hl : lv_has ls P.1.2.2.1 (lv.map (fun q => (q.1, s_tr al q.2)))) (hb : s_Bk P k u n pc lv st mc2 ms2 Q2)
    (r : Option Value) (n' : Nat) (h' : Nat → sE) (al' : Nat → Nat) (be' : Nat → ClassId) (H1 : Heap) (locs1 : List Loc) (hq : Q2 r n' h') (hal : ∀ i, i < n → al' i = al i) (hn : n ≤ n') (hna : n' = n → al' = al) (hw : s_Wd D A s al' be' n' h' H1) (hS : va_S A s.heap H1 locs1) :
    W p l e (s_rm P.2.1 P.2.2.1 P.2.2.2.1) s m args below meth c H1 locs1 (k + mc2) (u + ms2) (MQ below (s_Qc D A al0 P.2.2.2.2.1 P.2.2.2.2.2.1) args s P.2.2.1 P.2.2.2.1 A) (F0 m (pc + 3) ls ((r.map (s_tr al')).toList ++ st.map (s_tr al))) := by
  obtain ⟨hb, kk⟩ := hb
  have hst : st.map (s_tr al) = st.map (s_tr al') ∧ lv.map (fun q => (q.1, s_tr al q.2)) = lv.map (fun q => (q.1, s_tr al' q.2)) := by
    rcases hb with hb | hb
    · rw [hna (hb r n' h' hq)]; exact ⟨rfl, rfl⟩
    · exact ⟨(s_st_up hal hb.2).symm, (s_lv_up hal hb.1).symm⟩
  rw [hst.1, s_push_tr]
  refine kk r n' h' hq l D A al0 p e s m args below meth c E al' be' H1 locs1 ls ⟨fun i hi => (hal i (Nat.lt_of_lt_of_le hi ha.2.1)).trans (ha.1 i hi), Nat.le_trans ha.2.1 hn, fun q => ?_⟩ hw hS (by rw [← hst.2]; exact hl)
  have h1 : n = P.2.2.2.2.1 := Nat.le_antisymm (by omega) ha.2.1
  rw [hna (by omega), ha.2.2 h1]
theorem v_callV (hdg : decode P.1.2.1 pc = .ok (.invokevirtual index, 3)) {i ci : Nat} {fs : List Value} {np : Nat} (hm : s_MV P.1.1.cls index M np) (hsp : Sp M d2 mc2 ms2 (.ref i :: as) n h Q2) (he : h i = .inr (ci, fs)) (hci : s_cl[ci]?.map (fun q => q.1) = some M.1.cls) (hi : i < n) (hstk : stk = as.reverse ++ .ref i :: st) (hnp : as.length = np) (hcat : (st.map fun v => v.category).sum ≤ 8) (hd : d2 + 1 ≤ P.2.1) (hk : k + mc2 ≤ P.2.2.1) (hu : u + ms2 ≤ P.2.2.2.1) (hb : s_Bk P k u n pc lv st mc2 ms2 Q2) : V P k u n h pc lv stk := by
  intro l D A al0 p e s m args below meth c E al be H locs ls ha hW hS hl
  obtain ⟨hx, hbt, hr, hml, hown, hts, hlk, hnm, hF⟩ := id E
  obtain ⟨m1, m2, m3, m4, m5, m6, m7⟩ := hm
  obtain ⟨q, hq, hqc⟩ := Option.map_eq_some_iff.mp hci
  have hrec := va_recv hF.1 hW.1 hq (hW.at hi he)
  rw [hqc] at hrec
  subst hstk
  subst hnp
  rw [s_revmap]
  refine s_call (mc := mc2) (ms := ms2) (a := (Value.ref (al i) :: as.map (s_tr al)).toArray) (rest := st.map (s_tr al)) (va_runV ⟨hx, hbt, hml, hown, hts⟩ (hsp l D A al be) (n := as.length) ⟨callB_of as.length hts (s_good m5) rfl rfl rfl (hts _ m4) (hts _ m1) m6 (s_room hd m7), hts _ m2, hts _ m3⟩ ⟨s_blind, hrec, s_pre (as := .ref i :: as) hF hW hS⟩ rfl (by rw [List.length_map]) hl.1 rfl (lv_room (by rw [s_cats]; exact hcat)) hdg ⟨hk, hu⟩) hS ?_
  exact s_behind E ha hl hb
theorem v_callS (hdg : decode P.1.2.1 pc = .ok (.invokestatic index, 3)) {np : Nat} (hm : s_MS P.1.1.cls index M np) (hsp : Sp M d2 mc2 ms2 as n h Q2) (hstk : stk = as.reverse ++ st) (hnp : as.length = np) (hcat : (st.map fun v => v.category).sum ≤ 8) (hd : d2 + 1 ≤ P.2.1) (hk : k + mc2 ≤ P.2.2.1) (hu : u + ms2 ≤ P.2.2.2.1) (hb : s_Bk P k u n pc lv st mc2 ms2 Q2) : V P k u n h pc lv stk := by
  intro l D A al0 p e s m args below meth c E al be H locs ls ha hW hS hl
  obtain ⟨hx, hbt, hr, hml, hown, hts, hlk, hnm, hF⟩ := id E
  obtain ⟨m1, m2, m4, m5, m6, m7⟩ := hm
  subst hstk
  subst hnp
  rw [s_revmap]
  rcases m1 with m1 | ⟨host, m1⟩
  · refine s_call (mc := mc2) (ms := ms2) (a := (as.map (s_tr al)).toArray) (rest := st.map (s_tr al)) (va_runS ⟨hx, hbt, hml, hown, hts⟩ (hsp l D A al be) (n := as.length) ⟨callB_of as.length hts (s_good m5) rfl rfl rfl (hts _ m4) (hts _ m1) m6 (s_room hd m7), hts _ m2⟩ ⟨s_blind, s_pre (as := as) hF hW hS⟩ rfl (by rw [List.length_map]) hl.1 rfl (lv_room (by rw [s_cats]; exact hcat)) hdg ⟨hk, hu⟩) hS ?_
    exact s_behind E ha hl hb
  · refine s_call (mc := mc2) (ms := ms2) (a := (as.map (s_tr al)).toArray) (rest := st.map (s_tr al)) (va_runSN ⟨hx, hbt, hml, hown, hts⟩ (hsp l D A al be) (n := as.length) ⟨va_cnB as.length hts (s_good m5) rfl rfl rfl (hF.2.2.2.1 _ m1) (hts _ m4) m6 (s_room hd m7), hts _ m2, trivial⟩ ⟨s_blind, s_pre (as := as) hF hW hS⟩ rfl (by rw [List.length_map]) hl.1 rfl (lv_room (by rw [s_cats]; exact hcat)) hdg ⟨hk, hu⟩) hS ?_
    exact s_behind E ha hl hb
theorem v_callI (hdg : decode P.1.2.1 pc = .ok (.invokespecial index, 3)) {i : Nat} {np : Nat} (hm : s_MI P.1.1.cls index M np) (hsp : Sp M d2 mc2 ms2 (.ref i :: as) n h Q2) (hstk : stk = as.reverse ++ .ref i :: st) (hnp : as.length = np) (hcat : (st.map fun v => v.category).sum ≤ 8) (hd : d2 + 1 ≤ P.2.1) (hk : k + mc2 ≤ P.2.2.1) (hu : u + ms2 ≤ P.2.2.2.1) (hb : s_Bk P k u n pc lv st mc2 ms2 Q2) : V P k u n h pc lv stk := by
  intro l D A al0 p e s m args below meth c E al be H locs ls ha hW hS hl
  obtain ⟨hx, hbt, hr, hml, hown, hts, hlk, hnm, hF⟩ := id E
  obtain ⟨m1, m2, m4, m5, m8, m9, m6, m7⟩ := hm
  obtain ⟨y2, cc2, nL2, ret2⟩ := M
  dsimp only at m8
  subst m8
  subst hstk
  subst hnp
  rw [s_revmap]
  rcases m1 with m1 | ⟨host, m1⟩
  · refine s_call (mc := mc2) (ms := ms2) (a := (Value.ref (al i) :: as.map (s_tr al)).toArray) (rest := st.map (s_tr al)) (va_runI ⟨hx, hbt, hml, hown, hts⟩ (hsp l D A al be) (n := as.length) (cwI as.length hts (s_good (M := (y2, cc2, nL2, none)) m5) rfl rfl rfl (hts _ m4) (hts _ m1) (hts _ m2) m9 m6 (s_room hd m7)) ⟨s_blind, s_pre (as := .ref i :: as) hF hW hS⟩ rfl (by rw [List.length_map]) hl.1 rfl (lv_room (by rw [s_cats]; exact hcat)) hdg ⟨hk, hu⟩) hS ?_
    exact s_behind E ha hl hb
  · refine s_call (mc := mc2) (ms := ms2) (a := (Value.ref (al i) :: as.map (s_tr al)).toArray) (rest := st.map (s_tr al)) (va_runIN ⟨hx, hbt, hml, hown, hts⟩ (hsp l D A al be) (n := as.length) ⟨va_cnB as.length hts (s_good (M := (y2, cc2, nL2, none)) m5) rfl rfl rfl (hF.2.2.2.1 _ m1) (hts _ m4) m6 (s_room hd m7), m9, hts _ m2⟩ ⟨s_blind, s_pre (as := .ref i :: as) hF hW hS⟩ rfl (by rw [List.length_map]) hl.1 rfl (lv_room (by rw [s_cats]; exact hcat)) hdg ⟨hk, hu⟩) hS ?_
    exact s_behind E ha hl hb
end CALLS

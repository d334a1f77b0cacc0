/-! THE SIMPLE MACHINE: a world of cells numbered 0 .. n - 1, their addresses behind a map, and what the kit's rows say of it -/
abbrev s_cl : List vw_C := [(RX0, TX0, 2), (RX1, TX1, 5), (RX2, TX2, 6), (RX3, TX3, 15), (RX4, TX4, 10), (RX5, TX5, 10), (RX6, TX6, 3), (RX7, TX7, 5), (RX8, TX8, 4), (RX9, TX9, 7), (RX10, TX10, 6), (RX11, TX11, 18), (RX12, TX12, 64)]
/-- a value of the simple machine as the machine has it: cells by their numbers; what lies outside stands as a retAddr -/
def s_tr (al : Nat → Nat) (v : Value) : Value := match v with
  | .int x => .int x
  | .long x => .long x
  | .float x => .float x
  | .double x => .double x
  | .null => .null
  | .ref i => .ref (al i)
  | .retAddr a => .ref a
theorem s_tr_cat (al : Nat → Nat) (v : Value) : (s_tr al v).category = v.category := by cases v <;> rfl
abbrev sE : Type := (FieldType × vp_A) ⊕ (Nat × List Value)
def s_trA (al : Nat → Nat) (a : vp_A) : vp_A := (a.1, match a.2 with
  | .inl f => .inl f
  | .inr (.inl f) => .inr (.inl f)
  | .inr (.inr (.inl f)) => .inr (.inr (.inl f))
  | .inr (.inr (.inr (.inl f))) => .inr (.inr (.inr (.inl f)))
  | .inr (.inr (.inr (.inr f))) => .inr (.inr (.inr (.inr (fun j => (f j).map al)))))
def s_trE (al : Nat → Nat) (b : ClassId) (e : sE) : va_E := match e with
  | .inl (_, a) => .inl (b, s_trA al a)
  | .inr (ci, fs) => .inr (ci, fs.map (s_tr al))
def s_wl (al : Nat → Nat) (be : Nat → ClassId) (n : Nat) (h : Nat → sE) : va_W := (List.range n).map (fun i => (al i, s_trE al (be i) (h i)))
theorem s_wl_get {al : Nat → Nat} {be : Nat → ClassId} {n : Nat} {h : Nat → sE} {i : Nat} (hi : i < n) : (s_wl al be n h)[i]? = some (al i, s_trE al (be i) (h i)) := by
  simp [s_wl, hi]
theorem s_wl_set {al : Nat → Nat} {be : Nat → ClassId} {n : Nat} {h h' : Nat → sE} {i : Nat} {e : sE} (he : h' i = e) (hne : ∀ j, j ≠ i → h' j = h j) : (s_wl al be n h).set i (al i, s_trE al (be i) e) = s_wl al be n h' := by
  apply List.ext_getElem?
  intro j
  rw [List.getElem?_set]
  by_cases hij : i = j
  · subst hij
    by_cases hi : i < n
    · simp [s_wl, hi, he]
    · simp [s_wl, hi]
  · rw [if_neg hij]
    by_cases hj : j < n
    · rw [s_wl_get hj, s_wl_get hj, hne j (fun h => hij h.symm)]
    · simp [s_wl, hj]
def s_ok (n : Nat) (v : Value) : Prop := match v with
  | .ref i => i < n
  | _ => True
def s_okE (n : Nat) (e : sE) : Prop := match e with
  | .inl (_, (_, .inr (.inr (.inr (.inr f))))) => ∀ k i, f k = some i → i < n
  | .inl _ => True
  | .inr (_, fs) => ∀ v ∈ fs, s_ok n v
/-- the world: the cells stand, apart and in A; what arrays are of is known; what they refer to is in the world -/
def s_Wd (D : va_G) (A : Nat → Prop) (s : State) (al : Nat → Nat) (be : Nat → ClassId) (n : Nat) (h : Nat → sE) (H : Heap) : Prop :=
  va_P D s_cl (s_wl al be n h) H ∧ va_D A (s_wl al be n h) ∧ (∀ i ty a, i < n → h i = .inl (ty, a) → ArrOfT s (be i) ty ∧ va_RA s (be i) ty) ∧ ∀ i, i < n → s_okE n (h i)
def s_stX (j : Nat) : Int32 := if j = 1 then 1 else if j = 3 then -1 else 0
def s_stY (j : Nat) : Int32 := if j = 0 then -1 else if j = 2 then 1 else 0
/-- the class's one text: where it lies (q; its bytes at v), and what JDK's members ask of it -/
def s_txt : String := "x y hour cloud layer shade mood day clouds flags last done run left top heats cools worth bars flag to at each times if or and not "
def s_byt : List Int32 := [120, 32, 121, 32, 104, 111, 117, 114, 32, 99, 108, 111, 117, 100, 32, 108, 97, 121, 101, 114, 32, 115, 104, 97, 100, 101, 32, 109, 111, 111, 100, 32, 100, 97, 121, 32, 99, 108, 111, 117, 100, 115, 32, 102, 108, 97, 103, 115, 32, 108, 97, 115, 116, 32, 100, 111, 110, 101, 32, 114, 117, 110, 32, 108, 101, 102, 116, 32, 116, 111, 112, 32, 104, 101, 97, 116, 115, 32, 99, 111, 111, 108, 115, 32, 119, 111, 114, 116, 104, 32, 98, 97, 114, 115, 32, 102, 108, 97, 103, 32, 116, 111, 32, 97, 116, 32, 101, 97, 99, 104, 32, 116, 105, 109, 101, 115, 32, 105, 102, 32, 111, 114, 32, 97, 110, 100, 32, 110, 111, 116, 32]
/-- what the JDK's form for a wrong index holds: nobody asks which -/
def s_fv : Option Nat → Value
  | none => .null
  | some a => .ref a
def s_Sq (q v : Nat) (A : Nat → Prop) (U : State) (H : Heap) : Prop := vk_S 1 [131] [s_byt] (fun _ => q) (fun _ => v) A U H ∧ va_Z "java/lang/String" "COMPACT_STRINGS" "Z" (.int 1) A U H ∧ ∃ w : Option Nat, va_Z "jdk/internal/util/Preconditions" "SIOOBE_FORMATTER" "Ljava/util/function/BiFunction;" (s_fv w) A U H
theorem s_Sq.moved {q v : Nat} {A : Nat → Prop} {u U : State} {H : Heap} (hvm : u.vm.Alike U.vm) (h : s_Sq q v A u H) : s_Sq q v A U H := by
  obtain ⟨a, b, w, c⟩ := h
  exact ⟨vk_S.moved hvm a, b.moved hvm, w, c.moved hvm⟩
theorem s_Sq.kept {q v : Nat} {A : Nat → Prop} {U : State} {H H1 : Heap} (h : s_Sq q v A U H) (hq : ∀ a : Nat, a < H.size → ¬ A a → H1[a]? = H[a]?) : s_Sq q v A U H1 := by
  obtain ⟨a, b, w, c⟩ := h
  exact ⟨a.kept hq, b.kept hq, w, c.kept hq⟩
/-- the class's static rows, which nothing writes -/
def s_St (A : Nat → Prop) (U : State) (H : Heap) : Prop := (∃ t : Nat, va_Z "ShadowHerds" "STEP_X" "[I" (.ref t) A U H ∧ va_T .int t 5 (fun j => .int (s_stX j)) A U H) ∧ (∃ t : Nat, va_Z "ShadowHerds" "STEP_Y" "[I" (.ref t) A U H ∧ va_T .int t 5 (fun j => .int (s_stY j)) A U H) ∧ ∃ q v : Nat, vk_R "ShadowHerds$Reader" 122 s_txt q U ∧ s_Sq q v A U H
theorem s_St.same {A : Nat → Prop} {u U : State} {H : Heap} (hvm : U.vm = u.vm) (h : s_St A u H) : s_St A U H := by
  have ha : u.vm.Alike U.vm := by rw [hvm]; exact Vm.Alike.refl _
  obtain ⟨⟨t, a, b⟩, ⟨t2, a2, b2⟩, q, v, r, g⟩ := h
  exact ⟨⟨t, a.moved ha, b.moved ha⟩, ⟨t2, a2.moved ha, b2.moved ha⟩, q, v, r.same hvm, g.moved ha⟩
theorem s_St.warm {A : Nat → Prop} {s U : State} {H : Heap} (hW : s.WarmedH U.vm) (h : s_St A s H) : s_St A U H := by
  have ha := hW.alike
  obtain ⟨⟨t, a, b⟩, ⟨t2, a2, b2⟩, q, v, r, g⟩ := h
  exact ⟨⟨t, a.moved ha, b.moved ha⟩, ⟨t2, a2.moved ha, b2.moved ha⟩, q, v, vk_R.warm hW r, g.moved ha⟩
theorem s_St.kept {A : Nat → Prop} {U : State} {H H1 : Heap} (h : s_St A U H) (hq : ∀ a : Nat, a < H.size → ¬ A a → H1[a]? = H[a]?) : s_St A U H1 := by
  obtain ⟨⟨t, a, b⟩, ⟨t2, a2, b2⟩, q, v, r, g⟩ := h
  exact ⟨⟨t, a.kept hq, b.kept hq⟩, ⟨t2, a2.kept hq, b2.kept hq⟩, q, v, r, g.kept hq⟩
def s_Ns (U : State) : Prop := (∀ w ∈ s_nw, va_Nw w U) ∧ va_AO "ShadowHerds$Plain" U ∧ va_AO "ShadowHerds$Script" U
theorem s_Ns.warm {s U : State} (hW : s.WarmedH U.vm) (h : s_Ns s) : s_Ns U := by
  refine ⟨fun w hw => ?_, h.2.1.moved hW.alike, h.2.2.moved hW.alike⟩
  have h1 := h.1 w hw
  have h2 := (List.mem_filter.mp hw).2
  cases w <;> first | exact va_Nw.warmM hW h1 | exact va_Nw.warmF hW h1 | cases h2
theorem s_Ns.same {u U : State} (hvm : u.vm = U.vm) (h : s_Ns u) : s_Ns U := by
  have ha : u.vm.Alike U.vm := by rw [hvm]; exact Vm.Alike.refl _
  refine ⟨fun w hw => ?_, h.2.1.moved ha, h.2.2.moved ha⟩
  have h1 := h.1 w hw
  have h2 := (List.mem_filter.mp hw).2
  cases w <;> first | exact va_Nw.same rfl hvm h1 | cases h2
def s_Fx (D : va_G) (A : Nat → Prop) (U : State) : Prop := va_K D s_cl [] U ∧ (∀ q : Nat, U.heap.size ≤ q → A q) ∧ s_St A U U.heap ∧ s_Ns U
theorem s_Wd.moved {D : va_G} {A : Nat → Prop} {u U : State} {al : Nat → Nat} {be : Nat → ClassId} {n : Nat} {h : Nat → sE} {H : Heap} (hvm : u.vm.Alike U.vm) (hw : s_Wd D A u al be n h H) : s_Wd D A U al be n h H :=
  ⟨hw.1, hw.2.1, fun i ty a hi he => ⟨arrOfT_moved hvm (hw.2.2.1 i ty a hi he).1, (hw.2.2.1 i ty a hi he).2.moved hvm⟩, hw.2.2.2⟩
theorem s_Wd.at {D : va_G} {A : Nat → Prop} {s : State} {al : Nat → Nat} {be : Nat → ClassId} {n : Nat} {h : Nat → sE} {H : Heap} (_ : s_Wd D A s al be n h H) {i : Nat} {e : sE} (hi : i < n) (he : h i = e) : (s_wl al be n h)[i]? = some (al i, s_trE al (be i) e) := by
  rw [← he]; exact s_wl_get hi
theorem s_Wd.K {D : va_G} {A : Nat → Prop} {s : State} {al : Nat → Nat} {be : Nat → ClassId} {n : Nat} {h : Nat → sE} {H : Heap} (hw : s_Wd D A s al be n h H) (hK : va_K D s_cl [] s) {i : Nat} {ty : FieldType} {a : vp_A} (hi : i < n) (he : h i = .inl (ty, a)) : va_K D s_cl [(be i, ty)] s :=
  ⟨hK.1, fun k q hq => by
    cases k with
    | zero => cases hq; exact hw.2.2.1 i ty a hi he
    | succ k => simp at hq⟩
theorem s_Wd.set {D : va_G} {A : Nat → Prop} {s : State} {al : Nat → Nat} {be : Nat → ClassId} {n : Nat} {h h' : Nat → sE} {H H1 : Heap} (hw : s_Wd D A s al be n h H) {i : Nat} {e : sE} (he : h' i = e) (hne : ∀ j, j ≠ i → h' j = h j) (hok : s_okE n e) (hty : ∀ ty a, e = .inl (ty, a) → ∃ a0, h i = .inl (ty, a0))
    (hP : va_P D s_cl ((s_wl al be n h).set i (al i, s_trE al (be i) e)) H1) (hD : va_D A ((s_wl al be n h).set i (al i, s_trE al (be i) e))) : s_Wd D A s al be n h' H1 := by
  rw [s_wl_set he hne] at hP hD
  refine ⟨hP, hD, fun j ty a hj hja => ?_, fun j hj => ?_⟩
  · by_cases hji : j = i
    · subst hji
      rw [he] at hja
      obtain ⟨a0, h0⟩ := hty ty a hja
      exact hw.2.2.1 j ty a0 hj h0
    · rw [hne j hji] at hja
      exact hw.2.2.1 j ty a hj hja
  · by_cases hji : j = i
    · subst hji; rw [he]; exact hok
    · rw [hne j hji]; exact hw.2.2.2 j hj
abbrev s_M : Type := MethodName × ByteArray × Nat × Option FieldType
abbrev s_P : Type := Option Value → Nat → (Nat → sE) → Prop
/-- what a method may lean on of its start beside the rest (the law: its script) -/
abbrev s_X : Type := State → (Nat → Prop) → Prop
abbrev s_C : Type := s_M × Nat × Nat × Nat × Nat × s_P × s_X
def s_G0 : s_X := fun _ _ => True
def s_rm (d mc ms : Nat) : Room := { frames := d, cells := mc, slots := ms, locals := 41 * d + 32 }
def s_Pc (D : va_G) (A : Nat → Prop) (al : Nat → Nat) (be : Nat → ClassId) (n : Nat) (h : Nat → sE) (as : List Value) : Array Value → State → Prop := va_Pc (as.map (s_tr al)) (fun U => s_Fx D A U ∧ s_Wd D A U al be n h U.heap)
def s_Qc (D : va_G) (A : Nat → Prop) (al : Nat → Nat) (n : Nat) (Q : s_P) : Array Value → State → Outcome → State → Prop := fun _ st oc t =>
  (∃ (r : Option Value) (n' : Nat) (h' : Nat → sE) (al' : Nat → Nat) (be' : Nat → ClassId), oc = .returned (r.map (s_tr al')) ∧ Q r n' h' ∧ (∀ i, i < n → al' i = al i) ∧ n ≤ n' ∧ (n' = n → al' = al) ∧ s_Wd D A t al' be' n' h' t.heap) ∧ va_F A st t
/-- A CONTRACT: with these arguments, in this world, the method returns, with an answer and a world of Q -/
def Sp (M : s_M) (d mc ms : Nat) (as : List Value) (n : Nat) (h : Nat → sE) (Q : s_P) : Prop :=
  ∀ (l : Launch) (D : va_G) (A : Nat → Prop) (al : Nat → Nat) (be : Nat → ClassId), Met l M.1 (.code M.1 M.2.1 M.2.2.1 M.2.2.2 :: s_tb) (s_rm d mc ms) (s_Pc D A al be n h as) (s_Qc D A al n Q) mc ms A
def s_Ev (P : s_C) (D : va_G) (A : Nat → Prop) (p : Program) (s : State) (m : MethodId) (args : Array Value) (meth : Method) (c : Code) : Prop :=
  p.tables.exec = Jvm.exec ∧ c.code = P.1.2.1 ∧ meth.sig.returnType = P.1.2.2.2 ∧ c.maxLocals = P.1.2.2.1 ∧ s.vm.findClass P.1.1.cls = some m.cls ∧ (∀ w ∈ s_tb, w.before args s = true) ∧ meth.locks = false ∧ (meth.name = P.1.1.name ∧ P.2.2.2.2.2.2 s A) ∧ s_Fx D A s
/-- the walk of a method: k cells, u slots made so far, n cells, world h, at pc, with locals and stack -/
def V (P : s_C) (k u n : Nat) (h : Nat → sE) (pc : Nat) (lv : List (Nat × Value)) (st : List Value) : Prop :=
  ∀ (l : Launch) (D : va_G) (A : Nat → Prop) (al0 : Nat → Nat) (p : Program) (e : Env) (s : State) (m : MethodId) (args : Array Value) (below : List Frame) (meth : Method) (c : Code), s_Ev P D A p s m args meth c →
  ∀ (al : Nat → Nat) (be : Nat → ClassId) (H : Heap) (locs : List Loc) (ls : Array Slot), ((∀ i, i < P.2.2.2.2.1 → al i = al0 i) ∧ P.2.2.2.2.1 ≤ n ∧ (n = P.2.2.2.2.1 → al = al0)) → s_Wd D A s al be n h H → va_S A s.heap H locs → lv_has ls P.1.2.2.1 (lv.map (fun q => (q.1, s_tr al q.2))) →
  W p l e (s_rm P.2.1 P.2.2.1 P.2.2.2.1) s m args below meth c H locs k u (MQ below (s_Qc D A al0 P.2.2.2.2.1 P.2.2.2.2.2.1) args s P.2.2.1 P.2.2.2.1 A) (F0 m pc ls (st.map (s_tr al)))
theorem s_blind {D : va_G} {A : Nat → Prop} {al : Nat → Nat} {be : Nat → ClassId} {n : Nat} {h : Nat → sE} {as : List Value} : FrameBlind (s_Pc D A al be n h as) := by
  intro a U g mk q
  obtain ⟨q1, ⟨q2, q3, q4, q6⟩, q5⟩ := q
  exact ⟨q1, ⟨va_K.moved (u := U) (U := U.calling g mk a) (Vm.Alike.refl U.vm) q2, q3, s_St.same (u := U) (U := U.calling g mk a) rfl q4, s_Ns.same (u := U) (U := U.calling g mk a) rfl q6⟩, s_Wd.moved (u := U) (U := U.calling g mk a) (Vm.Alike.refl U.vm) q5⟩
theorem s_lvargs (al : Nat → Nat) : ∀ (as : List Value) (k : Nat), lv_args k (as.map (s_tr al)) = (lv_args k as).map (fun q => (q.1, s_tr al q.2)) := by
  intro as
  induction as with
  | nil => intro k; rfl
  | cons a as ih => intro k; simp [lv_args, s_tr_cat, ih]
theorem s_sl (al : Nat → Nat) : ∀ (as : List Value), (lg_sl (as.map (s_tr al))).length = (lg_sl as).length := by
  intro as
  induction as with
  | nil => rfl
  | cons a as ih =>
    have e : ∀ (v : Value) (t : List Value), (lg_sl (v :: t)).length = (if v.category = 2 then 2 else 1) + (lg_sl t).length := by
      intro v t
      simp only [lg_sl, List.flatMap_cons, List.length_append]
      split <;> rfl
    rw [List.map_cons, e, e, s_tr_cat, ih]
theorem Sp.ofV {M : s_M} {d mc ms : Nat} {as : List Value} {n : Nat} {h : Nat → sE} {Q : s_P} (hp : plainName M.1.cls = true) (hlen : (lg_sl as).length ≤ M.2.2.1) (hV : V (M, d, mc, ms, n, Q, s_G0) 0 0 n h 0 (lv_args 0 as) []) : Sp M d mc ms as n h Q := by
  intro l D A al be
  refine Met.ofW (cc := M.2.1) (maxL := M.2.2.1) (ret := M.2.2.2) hp rfl ?_
  intro p e s m args below meth c s₁ B hml hv
  obtain ⟨rfl, hF, hW⟩ := hv
  have hts := atoms_spec (ws := .code M.1 M.2.1 M.2.2.1 M.2.2.2 :: s_tb) B.pre
  have hl := lv_entry (as.map (s_tr al)) (n := M.2.2.1) (by rw [s_sl]; exact hlen)
  rw [s_lvargs] at hl
  rw [lg_entry_eq]
  exact hV l D A al p e s m _ below meth c ⟨B.exec, B.bytes, B.returns, hml, findClass_of_methodNamed B.named, fun w hw => hts w (List.mem_cons_of_mem _ hw), B.notSynchronized, ⟨(name_of_methodNamed B.named B.method).1, trivial⟩, hF⟩ al be s.heap [] _ ⟨fun _ _ => rfl, Nat.le_refl _, fun _ => rfl⟩ hW va_S.rf hl

/-! STRINGS: the JDK's members that the class asks of its text; by words of the tables -/
theorem ws_0 : (Jvm.Cond.initialized "java/lang/String") ∈ s_tb := s_tb_in (wt_1 _ (List.mem_of_getElem? (i := 15) (by decide +kernel))) rfl
theorem ws_1 : (Jvm.Cond.initialized "java/lang/StringLatin1") ∈ s_tb := s_tb_in (wt_1 _ (List.mem_of_getElem? (i := 16) (by decide +kernel))) rfl
theorem ws_2 : (Jvm.Cond.initialized "jdk/internal/util/Preconditions") ∈ s_tb := s_tb_in (wt_1 _ (List.mem_of_getElem? (i := 17) (by decide +kernel))) rfl
theorem ws_3 : (Jvm.Cond.methodLink "ShadowHerds$Reader" (124 : Nat) ({ cls := "java/lang/String", name := "length", desc := "()I" } : Jvm.MethodName)) ∈ s_tb := s_tb_in (wt_3 _ (List.mem_of_getElem? (i := 140) (by decide +kernel))) rfl
theorem ws_4 : (Jvm.Cond.instanceMethod ({ cls := "java/lang/String", name := "length", desc := "()I" } : Jvm.MethodName)) ∈ s_tb := s_tb_in (wt_3 _ (List.mem_of_getElem? (i := 141) (by decide +kernel))) rfl
theorem ws_5 : (Jvm.Cond.selects "java/lang/String" ({ cls := "java/lang/String", name := "length", desc := "()I" } : Jvm.MethodName) ({ cls := "java/lang/String", name := "length", desc := "()I" } : Jvm.MethodName)) ∈ s_tb := s_tb_in (wt_3 _ (List.mem_of_getElem? (i := 142) (by decide +kernel))) rfl
theorem ws_6 : (Jvm.Cond.code ({ cls := "java/lang/String", name := "length", desc := "()I" } : Jvm.MethodName) prog_16_method_54_code (1 : Nat) (Option.some Jvm.ClassFile.FieldType.int)) ∈ s_tb := s_tb_in (wt_3 _ (List.mem_of_getElem? (i := 143) (by decide +kernel))) rfl
theorem ws_7 : (Jvm.Cond.methodLink "java/lang/String" (335 : Nat) ({ cls := "java/lang/String", name := "coder", desc := "()B" } : Jvm.MethodName)) ∈ s_tb := s_tb_in (wt_3 _ (List.mem_of_getElem? (i := 144) (by decide +kernel))) rfl
theorem ws_8 : (Jvm.Cond.instanceMethod ({ cls := "java/lang/String", name := "coder", desc := "()B" } : Jvm.MethodName)) ∈ s_tb := s_tb_in (wt_3 _ (List.mem_of_getElem? (i := 145) (by decide +kernel))) rfl
theorem ws_9 : (Jvm.Cond.selects "java/lang/String" ({ cls := "java/lang/String", name := "coder", desc := "()B" } : Jvm.MethodName) ({ cls := "java/lang/String", name := "coder", desc := "()B" } : Jvm.MethodName)) ∈ s_tb := s_tb_in (wt_3 _ (List.mem_of_getElem? (i := 146) (by decide +kernel))) rfl
theorem ws_10 : (Jvm.Cond.code ({ cls := "java/lang/String", name := "coder", desc := "()B" } : Jvm.MethodName) prog_16_method_152_code (1 : Nat) (Option.some Jvm.ClassFile.FieldType.byte)) ∈ s_tb := s_tb_in (wt_3 _ (List.mem_of_getElem? (i := 147) (by decide +kernel))) rfl
theorem ws_11 : (Jvm.Cond.fieldLink "java/lang/String" (38 : Nat) "java/lang/String" "COMPACT_STRINGS" "Z") ∈ s_tb := s_tb_in (wt_3 _ (List.mem_of_getElem? (i := 148) (by decide +kernel))) rfl
theorem ws_12 : (Jvm.Cond.methodLink "ShadowHerds$Reader" (128 : Nat) ({ cls := "java/lang/String", name := "charAt", desc := "(I)C" } : Jvm.MethodName)) ∈ s_tb := s_tb_in (wt_3 _ (List.mem_of_getElem? (i := 150) (by decide +kernel))) rfl
theorem ws_13 : (Jvm.Cond.instanceMethod ({ cls := "java/lang/String", name := "charAt", desc := "(I)C" } : Jvm.MethodName)) ∈ s_tb := s_tb_in (wt_3 _ (List.mem_of_getElem? (i := 151) (by decide +kernel))) rfl
theorem ws_14 : (Jvm.Cond.selects "java/lang/String" ({ cls := "java/lang/String", name := "charAt", desc := "(I)C" } : Jvm.MethodName) ({ cls := "java/lang/String", name := "charAt", desc := "(I)C" } : Jvm.MethodName)) ∈ s_tb := s_tb_in (wt_3 _ (List.mem_of_getElem? (i := 152) (by decide +kernel))) rfl
theorem ws_15 : (Jvm.Cond.code ({ cls := "java/lang/String", name := "charAt", desc := "(I)C" } : Jvm.MethodName) prog_16_method_56_code (2 : Nat) (Option.some Jvm.ClassFile.FieldType.char)) ∈ s_tb := s_tb_in (wt_3 _ (List.mem_of_getElem? (i := 153) (by decide +kernel))) rfl
theorem ws_16 : (Jvm.Cond.methodLink "java/lang/String" (492 : Nat) ({ cls := "java/lang/String", name := "isLatin1", desc := "()Z" } : Jvm.MethodName)) ∈ s_tb := s_tb_in (wt_3 _ (List.mem_of_getElem? (i := 154) (by decide +kernel))) rfl
theorem ws_17 : (Jvm.Cond.instanceMethod ({ cls := "java/lang/String", name := "isLatin1", desc := "()Z" } : Jvm.MethodName)) ∈ s_tb := s_tb_in (wt_3 _ (List.mem_of_getElem? (i := 155) (by decide +kernel))) rfl
theorem ws_18 : (Jvm.Cond.selects "java/lang/String" ({ cls := "java/lang/String", name := "isLatin1", desc := "()Z" } : Jvm.MethodName) ({ cls := "java/lang/String", name := "isLatin1", desc := "()Z" } : Jvm.MethodName)) ∈ s_tb := s_tb_in (wt_3 _ (List.mem_of_getElem? (i := 156) (by decide +kernel))) rfl
theorem ws_19 : (Jvm.Cond.code ({ cls := "java/lang/String", name := "isLatin1", desc := "()Z" } : Jvm.MethodName) prog_16_method_154_code (1 : Nat) (Option.some Jvm.ClassFile.FieldType.boolean)) ∈ s_tb := s_tb_in (wt_3 _ (List.mem_of_getElem? (i := 157) (by decide +kernel))) rfl
theorem ws_20 : (Jvm.Cond.methodLink "java/lang/String" (495 : Nat) ({ cls := "java/lang/StringLatin1", name := "charAt", desc := "([BI)C" } : Jvm.MethodName)) ∈ s_tb := s_tb_in (wt_3 _ (List.mem_of_getElem? (i := 158) (by decide +kernel))) rfl
theorem ws_21 : (Jvm.Cond.static ({ cls := "java/lang/StringLatin1", name := "charAt", desc := "([BI)C" } : Jvm.MethodName)) ∈ s_tb := s_tb_in (wt_3 _ (List.mem_of_getElem? (i := 159) (by decide +kernel))) rfl
theorem ws_22 : (Jvm.Cond.code ({ cls := "java/lang/StringLatin1", name := "charAt", desc := "([BI)C" } : Jvm.MethodName) prog_17_method_2_code (2 : Nat) (Option.some Jvm.ClassFile.FieldType.char)) ∈ s_tb := s_tb_in (wt_3 _ (List.mem_of_getElem? (i := 160) (by decide +kernel))) rfl
theorem ws_23 : (Jvm.Cond.methodLink "java/lang/StringLatin1" (9 : Nat) ({ cls := "java/lang/String", name := "checkIndex", desc := "(II)V" } : Jvm.MethodName)) ∈ s_tb := s_tb_in (wt_3 _ (List.mem_of_getElem? (i := 161) (by decide +kernel))) rfl
theorem ws_24 : (Jvm.Cond.static ({ cls := "java/lang/String", name := "checkIndex", desc := "(II)V" } : Jvm.MethodName)) ∈ s_tb := s_tb_in (wt_3 _ (List.mem_of_getElem? (i := 162) (by decide +kernel))) rfl
theorem ws_25 : (Jvm.Cond.code ({ cls := "java/lang/String", name := "checkIndex", desc := "(II)V" } : Jvm.MethodName) prog_16_method_155_code (2 : Nat) (Option.none : Option Jvm.ClassFile.FieldType)) ∈ s_tb := s_tb_in (wt_3 _ (List.mem_of_getElem? (i := 163) (by decide +kernel))) rfl
theorem ws_26 : (Jvm.Cond.fieldLink "java/lang/String" (1053 : Nat) "jdk/internal/util/Preconditions" "SIOOBE_FORMATTER" "Ljava/util/function/BiFunction;") ∈ s_tb := s_tb_in (wt_3 _ (List.mem_of_getElem? (i := 164) (by decide +kernel))) rfl
theorem ws_27 : (Jvm.Cond.methodLink "java/lang/String" (1059 : Nat) ({ cls := "jdk/internal/util/Preconditions", name := "checkIndex", desc := "(IILjava/util/function/BiFunction;)I" } : Jvm.MethodName)) ∈ s_tb := s_tb_in (wt_3 _ (List.mem_of_getElem? (i := 166) (by decide +kernel))) rfl
theorem ws_28 : (Jvm.Cond.static ({ cls := "jdk/internal/util/Preconditions", name := "checkIndex", desc := "(IILjava/util/function/BiFunction;)I" } : Jvm.MethodName)) ∈ s_tb := s_tb_in (wt_3 _ (List.mem_of_getElem? (i := 167) (by decide +kernel))) rfl
theorem ws_29 : (Jvm.Cond.code ({ cls := "jdk/internal/util/Preconditions", name := "checkIndex", desc := "(IILjava/util/function/BiFunction;)I" } : Jvm.MethodName) prog_20_method_11_code (3 : Nat) (Option.some Jvm.ClassFile.FieldType.int)) ∈ s_tb := s_tb_in (wt_3 _ (List.mem_of_getElem? (i := 168) (by decide +kernel))) rfl
theorem ws_30 : (Jvm.Cond.fieldLink "java/lang/String" (9 : Nat) "java/lang/String" "value" "[B") ∈ s_tb := s_tb_in (wt_10 _ (List.mem_of_getElem? (i := 49) (by decide +kernel))) rfl
theorem ws_31 : (Jvm.Cond.fieldLink "java/lang/String" (15 : Nat) "java/lang/String" "coder" "B") ∈ s_tb := s_tb_in (wt_10 _ (List.mem_of_getElem? (i := 50) (by decide +kernel))) rfl
theorem q_ch {x : Int32} (h : ¬ x < 0) (h2 : x < 131) : x.toNatClampNeg < 131 := by
  rw [Int32.lt_iff_toInt_lt] at h h2
  have e : (0 : Int32).toInt = 0 := rfl
  have e2 : (131 : Int32).toInt = 131 := rfl
  unfold Int32.toNatClampNeg
  omega
/-- the char of the class's text at a place -/
def s_chr (x : Int32) : Int32 := s_byt.getD x.toNatClampNeg 0
theorem s_chr_all : ∀ k, k < 131 → ((((s_byt.getD k 0) &&& 255).toUInt32 % 65536).toInt32 = s_byt.getD k 0 ∧ narrow .char (.int (s_byt.getD k 0)) = .int (s_byt.getD k 0)) := by decide +kernel
abbrev s_GS (q v : Nat) : s_X := fun s A => s_Sq q v A s s.heap
/-- a contract of a member of the JDK that is asked about the class's text, which lies at q, its bytes at v -/
def SpG (q v : Nat) (M : s_M) (d : Nat) (as : List Value) (n : Nat) (h : Nat → sE) (Q : s_P) : Prop :=
  ∀ (l : Launch) (D : va_G) (A : Nat → Prop) (al : Nat → Nat) (be : Nat → ClassId), Met l M.1 (.code M.1 M.2.1 M.2.2.1 M.2.2.2 :: s_tb) (s_rm d 0 0) (fun a U => s_Pc D A al be n h as a U ∧ s_GS q v U A) (s_Qc D A al n Q) 0 0 A
theorem SpG.ofV {q v : Nat} {M : s_M} {d : Nat} {as : List Value} {n : Nat} {h : Nat → sE} {Q : s_P} (hp : plainName M.1.cls = true) (hlen : (lg_sl as).length ≤ M.2.2.1) (hV : V (M, d, 0, 0, n, Q, s_GS q v) 0 0 n h 0 (lv_args 0 as) []) : SpG q v M d as n h Q := by
  intro l D A al be
  refine Met.ofW (cc := M.2.1) (maxL := M.2.2.1) (ret := M.2.2.2) hp rfl ?_
  intro p e s m args below meth c s₁ B hml hv
  obtain ⟨⟨rfl, hF, hW⟩, hG⟩ := hv
  have hts := atoms_spec (ws := .code M.1 M.2.1 M.2.2.1 M.2.2.2 :: s_tb) B.pre
  have hl := lv_entry (as.map (s_tr al)) (n := M.2.2.1) (by rw [s_sl]; exact hlen)
  rw [s_lvargs] at hl
  rw [lg_entry_eq]
  exact hV l D A al p e s m _ below meth c ⟨B.exec, B.bytes, B.returns, hml, findClass_of_methodNamed B.named, fun w hw => hts w (List.mem_cons_of_mem _ hw), B.notSynchronized, ⟨(name_of_methodNamed B.named B.method).1, hG⟩, hF⟩ al be s.heap [] _ ⟨fun _ _ => rfl, Nat.le_refl _, fun _ => rfl⟩ hW va_S.rf hl
theorem s_blindG {q v : Nat} {D : va_G} {A : Nat → Prop} {al : Nat → Nat} {be : Nat → ClassId} {n : Nat} {h : Nat → sE} {as : List Value} : FrameBlind (fun a U => s_Pc D A al be n h as a U ∧ s_GS q v U A) := by
  intro a U g mk hq
  exact ⟨s_blind a U g mk hq.1, s_Sq.moved (u := U) (U := U.calling g mk a) (Vm.Alike.refl U.vm) hq.2⟩
theorem s_preG {q v : Nat} {D : va_G} {A : Nat → Prop} {al : Nat → Nat} {be : Nat → ClassId} {n : Nat} {h : Nat → sE} {s : State} {H : Heap} {locs : List Loc} {as : List Value} (hF : s_Fx D A s) (hW : s_Wd D A s al be n h H) (hS : va_S A s.heap H locs) (hG : s_Sq q v A s s.heap) : ∀ U : State, U.heap = H → s.WarmedH U.vm → (s_Pc D A al be n h as (as.map (s_tr al)).toArray U ∧ s_GS q v U A) := by
  intro U hU hw
  refine ⟨s_pre hF hW hS U hU hw, ?_⟩
  show s_Sq q v A U U.heap
  rw [hU]
  exact (hG.kept hS.2.1).moved hw.alike
section JCALLS
variable {P : s_C} {k u n pc : Nat} {h : Nat → sE} {lv : List (Nat × Value)} {st as : List Value} {index d2 q v : Nat} {M : s_M} {Q2 : s_P}
variable {l : Launch} {D : va_G} {A : Nat → Prop} {al0 : Nat → Nat} {p : Program} {e : Env} {s : State} {m : MethodId} {args : Array Value} {below : List Frame} {meth : Method} {c : Code} {al : Nat → Nat} {be : Nat → ClassId} {H : Heap} {locs : List Loc} {ls : Array Slot}
theorem w_callVG (E : s_Ev P D A p s m args meth c) (hG : s_Sq q v A s s.heap) (ha : (∀ i, i < P.2.2.2.2.1 → al i = al0 i) ∧ P.2.2.2.2.1 ≤ n ∧ (n = P.2.2.2.2.1 → al = al0)) (hW : s_Wd D A s al be n h H) (hS : va_S A s.heap H locs) (hl : lv_has ls P.1.2.2.1 (lv.map (fun q => (q.1, s_tr al q.2)))) (hdg : decode P.1.2.1 pc = .ok (.invokevirtual index, 3)) {np : Nat} (hm : s_MV P.1.1.cls index M np) (hc : M.1.cls = "java/lang/String") (hsp : SpG q v M d2 (.retAddr q :: as) n h Q2) (hnp : as.length = np) (hcat : (st.map fun v => v.category).sum ≤ 8) (hd : d2 + 1 ≤ P.2.1) (hk : k ≤ P.2.2.1) (hu : u ≤ P.2.2.2.1) (hb : s_Bk P k u n pc lv st 0 0 Q2) :
    W p l e (s_rm P.2.1 P.2.2.1 P.2.2.2.1) s m args below meth c H locs k u (MQ below (s_Qc D A al0 P.2.2.2.2.1 P.2.2.2.2.2.1) args s P.2.2.1 P.2.2.2.1 A) (F0 m pc ls ((as.reverse ++ .retAddr q :: st).map (s_tr al))) := by
  obtain ⟨hx, hbt, hr, hml, hown, hts, hlk, hnm, hF⟩ := id E
  obtain ⟨m1, m2, m3, m4, m5, m6, m7⟩ := hm
  have hrec := va_Orecv (hG.1.1 0 (by decide)).1 hS
  rw [← hc] at hrec
  subst hnp
  rw [s_revmap]
  refine s_call (mc := 0) (ms := 0) (a := (Value.ref q :: as.map (s_tr al)).toArray) (rest := st.map (s_tr al)) (va_runV ⟨hx, hbt, hml, hown, hts⟩ (hsp l D A al be) (n := as.length) ⟨callB_of as.length hts (s_good m5) rfl rfl rfl (hts _ m4) (hts _ m1) m6 (s_room hd m7), hts _ m2, hts _ m3⟩ ⟨s_blindG, hrec, s_preG (as := .retAddr q :: as) hF hW hS hG⟩ rfl (by rw [List.length_map]) hl.1 rfl (lv_room (by rw [s_cats]; exact hcat)) hdg ⟨hk, hu⟩) hS ?_
  exact s_behind E ha hl hb
theorem w_callSG (E : s_Ev P D A p s m args meth c) (hG : s_Sq q v A s s.heap) (ha : (∀ i, i < P.2.2.2.2.1 → al i = al0 i) ∧ P.2.2.2.2.1 ≤ n ∧ (n = P.2.2.2.2.1 → al = al0)) (hW : s_Wd D A s al be n h H) (hS : va_S A s.heap H locs) (hl : lv_has ls P.1.2.2.1 (lv.map (fun q => (q.1, s_tr al q.2)))) (hdg : decode P.1.2.1 pc = .ok (.invokestatic index, 3)) {np : Nat} (hm : s_MS P.1.1.cls index M np) (hsp : SpG q v M d2 as n h Q2) (hnp : as.length = np) (hcat : (st.map fun v => v.category).sum ≤ 8) (hd : d2 + 1 ≤ P.2.1) (hk : k ≤ P.2.2.1) (hu : u ≤ P.2.2.2.1) (hb : s_Bk P k u n pc lv st 0 0 Q2) :
    W p l e (s_rm P.2.1 P.2.2.1 P.2.2.2.1) s m args below meth c H locs k u (MQ below (s_Qc D A al0 P.2.2.2.2.1 P.2.2.2.2.2.1) args s P.2.2.1 P.2.2.2.1 A) (F0 m pc ls ((as.reverse ++ st).map (s_tr al))) := by
  obtain ⟨hx, hbt, hr, hml, hown, hts, hlk, hnm, hF⟩ := id E
  obtain ⟨m1, m2, m4, m5, m6, m7⟩ := hm
  subst hnp
  rw [s_revmap]
  rcases m1 with m1 | ⟨host, m1⟩
  · refine s_call (mc := 0) (ms := 0) (a := (as.map (s_tr al)).toArray) (rest := st.map (s_tr al)) (va_runS ⟨hx, hbt, hml, hown, hts⟩ (hsp l D A al be) (n := as.length) ⟨callB_of as.length hts (s_good m5) rfl rfl rfl (hts _ m4) (hts _ m1) m6 (s_room hd m7), hts _ m2⟩ ⟨s_blindG, s_preG (as := as) hF hW hS hG⟩ rfl (by rw [List.length_map]) hl.1 rfl (lv_room (by rw [s_cats]; exact hcat)) hdg ⟨hk, hu⟩) hS ?_
    exact s_behind E ha hl hb
  · refine s_call (mc := 0) (ms := 0) (a := (as.map (s_tr al)).toArray) (rest := st.map (s_tr al)) (va_runSN ⟨hx, hbt, hml, hown, hts⟩ (hsp l D A al be) (n := as.length) ⟨va_cnB as.length hts (s_good m5) rfl rfl rfl (hF.2.2.2.1 _ m1) (hts _ m4) m6 (s_room hd m7), hts _ m2, trivial⟩ ⟨s_blindG, s_preG (as := as) hF hW hS hG⟩ rfl (by rw [List.length_map]) hl.1 rfl (lv_room (by rw [s_cats]; exact hcat)) hdg ⟨hk, hu⟩) hS ?_
    exact s_behind E ha hl hb
end JCALLS
def jR (r0 : Option Value) (n0 : Nat) (h0 : Nat → sE) : s_P := fun r n h => r = r0 ∧ n = n0 ∧ h = h0
section JROWS
variable {M : s_M} {d q v k u n pc n0 : Nat} {h : Nat → sE} {lv : List (Nat × Value)} {st as : List Value} {index d2 : Nat} {M2 : s_M} {Q : s_P}
abbrev jP (M : s_M) (d n : Nat) (Q : s_P) (q v : Nat) : s_C := (M, d, 0, 0, n, Q, s_GS q v)
theorem j_callV {r : Value} (hdg : decode M.2.1 pc = .ok (.invokevirtual index, 3)) {np : Nat} (hm : s_MV M.1.cls index M2 np) (hc : M2.1.cls = "java/lang/String") (hsp : SpG q v M2 d2 (.retAddr q :: as) n h (jR (some r) n h)) (hnp : as.length = np) (hcat : (st.map fun v => v.category).sum ≤ 8) (hd : d2 + 1 ≤ d) (kk : V (jP M d n0 Q q v) 0 0 n h (pc + 3) lv (r :: st)) : V (jP M d n0 Q q v) 0 0 n h pc lv (as.reverse ++ .retAddr q :: st) := by
  intro l D A al0 p e s m args below meth c E al be H locs ls ha hW hS hl
  exact w_callVG E E.2.2.2.2.2.2.2.1.2 ha hW hS hl hdg hm hc hsp hnp hcat hd (Nat.le_refl _) (Nat.le_refl _) ⟨Or.inl (fun _ _ _ z => z.2.1), fun r n1 h1 z => by obtain ⟨rfl, rfl, rfl⟩ := z; exact kk⟩
theorem j_callS {r : Option Value} (hdg : decode M.2.1 pc = .ok (.invokestatic index, 3)) {np : Nat} (hm : s_MS M.1.cls index M2 np) (hsp : SpG q v M2 d2 as n h (jR r n h)) (hnp : as.length = np) (hcat : (st.map fun v => v.category).sum ≤ 8) (hd : d2 + 1 ≤ d) (kk : V (jP M d n0 Q q v) 0 0 n h (pc + 3) lv (s_push r st)) : V (jP M d n0 Q q v) 0 0 n h pc lv (as.reverse ++ st) := by
  intro l D A al0 p e s m args below meth c E al be H locs ls ha hW hS hl
  exact w_callSG E E.2.2.2.2.2.2.2.1.2 ha hW hS hl hdg hm hsp hnp hcat hd (Nat.le_refl _) (Nat.le_refl _) ⟨Or.inl (fun _ _ _ z => z.2.1), fun r n1 h1 z => by obtain ⟨rfl, rfl, rfl⟩ := z; exact kk⟩
theorem j_value (hdg : decode M.2.1 pc = .ok (.getfield 9, 3)) (hc : M.1.cls = "java/lang/String") (kk : V (jP M d n0 Q q v) 0 0 n h (pc + 3) lv (.retAddr v :: st)) : V (jP M d n0 Q q v) 0 0 n h pc lv (.retAddr q :: st) := by
  intro l D A al0 p e s m args below meth c E al be H locs ls ha hW hS hl
  refine vk_getf E.1 E.2.1 (E.2.2.2.2.2.2.2.1.2.1.1 0 (by decide)).2.2.1 hS E.2.2.2.2.1 (E.2.2.2.2.2.1 _ (by dsimp only; rw [hc]; exact ws_30)) (fun _ z => z) hdg ?_
  exact kk l D A al0 p e s m args below meth c E al be H locs ls ha hW hS hl
theorem j_coder (hdg : decode M.2.1 pc = .ok (.getfield 15, 3)) (hc : M.1.cls = "java/lang/String") (kk : V (jP M d n0 Q q v) 0 0 n h (pc + 3) lv (.int 0 :: st)) : V (jP M d n0 Q q v) 0 0 n h pc lv (.retAddr q :: st) := by
  intro l D A al0 p e s m args below meth c E al be H locs ls ha hW hS hl
  refine vk_getf E.1 E.2.1 (E.2.2.2.2.2.2.2.1.2.1.1 0 (by decide)).2.1 hS E.2.2.2.2.1 (E.2.2.2.2.2.1 _ (by dsimp only; rw [hc]; exact ws_31)) (fun _ z => z) hdg ?_
  exact kk l D A al0 p e s m args below meth c E al be H locs ls ha hW hS hl
theorem j_compact (hdg : decode M.2.1 pc = .ok (.getstatic 38, 3)) (hc : M.1.cls = "java/lang/String") (kk : V (jP M d n0 Q q v) 0 0 n h (pc + 3) lv (.int 1 :: st)) : V (jP M d n0 Q q v) 0 0 n h pc lv st := by
  intro l D A al0 p e s m args below meth c E al be H locs ls ha hW hS hl
  refine va_gets E.1 E.2.1 E.2.2.2.2.2.2.2.1.2.2.1 hS E.2.2.2.2.1 (E.2.2.2.2.2.1 _ (by dsimp only; rw [hc]; exact ws_11)) (fun _ z => z) hdg ?_
  exact kk l D A al0 p e s m args below meth c E al be H locs ls ha hW hS hl
theorem j_form (hdg : decode M.2.1 pc = .ok (.getstatic 1053, 3)) (hc : M.1.cls = "java/lang/String") (kk : ∀ w : Value, (w = .null ∨ ∃ a : Nat, w = .retAddr a) → V (jP M d n0 Q q v) 0 0 n h (pc + 3) lv (w :: st)) : V (jP M d n0 Q q v) 0 0 n h pc lv st := by
  intro l D A al0 p e s m args below meth c E al be H locs ls ha hW hS hl
  obtain ⟨w, hw⟩ := E.2.2.2.2.2.2.2.1.2.2.2
  refine va_gets E.1 E.2.1 hw hS E.2.2.2.2.1 (E.2.2.2.2.2.1 _ (by dsimp only; rw [hc]; exact ws_26)) (fun _ z => z) hdg ?_
  cases w with
  | none => exact kk .null (Or.inl rfl) l D A al0 p e s m args below meth c E al be H locs ls ha hW hS hl
  | some a => exact kk (.retAddr a) (Or.inr ⟨a, rfl⟩) l D A al0 p e s m args below meth c E al be H locs ls ha hW hS hl
theorem j_len (hdg : decode M.2.1 pc = .ok (.arraylength, 1)) (kk : V (jP M d n0 Q q v) 0 0 n h (pc + 1) lv (.int 131 :: st)) : V (jP M d n0 Q q v) 0 0 n h pc lv (.retAddr v :: st) := by
  intro l D A al0 p e s m args below meth c E al be H locs ls ha hW hS hl
  exact va_tlen E.1 E.2.1 (E.2.2.2.2.2.2.2.1.2.1.1 0 (by decide)).2.2.2 hS (by decide) hdg (kk l D A al0 p e s m args below meth c E al be H locs ls ha hW hS hl)
theorem j_byte {x : Int32} (hdg : decode M.2.1 pc = .ok (.baload, 1)) (h0 : ¬ x < 0) (h1 : x < 131) (kk : V (jP M d n0 Q q v) 0 0 n h (pc + 1) lv (.int (s_chr x) :: st)) : V (jP M d n0 Q q v) 0 0 n h pc lv (.int x :: .retAddr v :: st) := by
  intro l D A al0 p e s m args below meth c E al be H locs ls ha hW hS hl
  refine va_tb E.1 E.2.1 (E.2.2.2.2.2.2.2.1.2.1.1 0 (by decide)).2.2.2 hS (i := x) (fun z => ?_) rfl hdg (kk l D A al0 p e s m args below meth c E al be H locs ls ha hW hS hl)
  rcases z with z | z
  · exact h0 z
  · exact absurd (q_ch h0 h1) (Nat.not_lt.mpr z)
end JROWS
theorem v_i2c {P : s_C} {k u n pc : Nat} {h : Nat → sE} {lv : List (Nat × Value)} {st : List Value} {x y : Int32} (hdg : decode P.1.2.1 pc = .ok (.i2c, 1)) (hv : (x.toUInt32 % 65536).toInt32 = y) (kk : V P k u n h (pc + 1) lv (.int y :: st)) : V P k u n h pc lv (.int x :: st) := by
  intro l D A al0 p e s m args below meth c E al be H locs ls ha hW hS hl
  exact lv_i2c E.1 E.2.1 hdg hv (kk l D A al0 p e s m args below meth c E al be H locs ls ha hW hS hl)
theorem v_popi {P : s_C} {k u n pc : Nat} {h : Nat → sE} {lv : List (Nat × Value)} {st : List Value} {x : Int32} (hdg : decode P.1.2.1 pc = .ok (.pop, 1)) (kk : V P k u n h (pc + 1) lv st) : V P k u n h pc lv (.int x :: st) := by
  intro l D A al0 p e s m args below meth c E al be H locs ls ha hW hS hl
  exact lv_pop E.1 E.2.1 hdg rfl (kk l D A al0 p e s m args below meth c E al be H locs ls ha hW hS hl)
theorem v_nret {P : s_C} {k u n pc : Nat} {h : Nat → sE} {lv : List (Nat × Value)} {x : Int32} {ty : FieldType} (hdg : decode P.1.2.1 pc = .ok (.ireturn, 1)) (hr : P.1.2.2.2 = some ty) (hn : narrow ty (.int x) = .int x) (hk : k ≤ P.2.2.1) (hu : u ≤ P.2.2.2.1) (hq : P.2.2.2.2.2.1 (some (.int x)) n h) : V P k u n h pc lv [.int x] := by
  intro l D A al0 p e s m args below meth c E al be H locs ls ha hW hS hl
  obtain ⟨ha1, ha2, ha3⟩ := ha
  refine W.widen hk hu ?_
  refine W.zret E.1 E.2.1 (E.2.2.1.trans hr) hn (fun t ht hw => ⟨⟨some (.int x), n, h, al, be, rfl, hq, ha1, ha2, ha3, by rw [ht]; exact hW.moved hw.alike⟩, hS.F ht⟩) hS.2.2 hdg E.2.2.2.2.2.2.1
abbrev jM_len : s_M := (⟨"java/lang/String", "length", "()I"⟩, prog_16_method_54_code, 1, some .int)
abbrev jM_cod : s_M := (⟨"java/lang/String", "coder", "()B"⟩, prog_16_method_152_code, 1, some .byte)
abbrev jM_chr : s_M := (⟨"java/lang/String", "charAt", "(I)C"⟩, prog_16_method_56_code, 2, some .char)
abbrev jM_lat : s_M := (⟨"java/lang/String", "isLatin1", "()Z"⟩, prog_16_method_154_code, 1, some .boolean)
abbrev jM_chk : s_M := (⟨"java/lang/String", "checkIndex", "(II)V"⟩, prog_16_method_155_code, 2, none)
abbrev jM_ch1 : s_M := (⟨"java/lang/StringLatin1", "charAt", "([BI)C"⟩, prog_17_method_2_code, 2, some .char)
abbrev jM_pre : s_M := (⟨"jdk/internal/util/Preconditions", "checkIndex", "(IILjava/util/function/BiFunction;)I"⟩, prog_20_method_11_code, 3, some .int)
theorem ml_cod : s_MV "java/lang/String" 335 jM_cod 0 := ⟨ws_7, ws_8, ws_9, ws_0, ws_10, ⟨by decide +kernel, by decide +kernel, by decide +kernel⟩, Nat.le_of_ble_eq_true rfl⟩
theorem ml_lat : s_MV "java/lang/String" 492 jM_lat 0 := ⟨ws_16, ws_17, ws_18, ws_0, ws_19, ⟨by decide +kernel, by decide +kernel, by decide +kernel⟩, Nat.le_of_ble_eq_true rfl⟩
theorem ml_len : s_MV "ShadowHerds$Reader" 124 jM_len 0 := ⟨ws_3, ws_4, ws_5, ws_0, ws_6, ⟨by decide +kernel, by decide +kernel, by decide +kernel⟩, Nat.le_of_ble_eq_true rfl⟩
theorem ml_chr : s_MV "ShadowHerds$Reader" 128 jM_chr 1 := ⟨ws_12, ws_13, ws_14, ws_0, ws_15, ⟨by decide +kernel, by decide +kernel, by decide +kernel⟩, Nat.le_of_ble_eq_true rfl⟩
theorem ml_ch1 : s_MS "java/lang/String" 495 jM_ch1 2 := ⟨Or.inl ws_20, ws_21, ws_1, ws_22, ⟨by decide +kernel, by decide +kernel, by decide +kernel⟩, Nat.le_of_ble_eq_true rfl⟩
theorem ml_chk : s_MS "java/lang/StringLatin1" 9 jM_chk 2 := ⟨Or.inl ws_23, ws_24, ws_0, ws_25, ⟨by decide +kernel, by decide +kernel, by decide +kernel⟩, Nat.le_of_ble_eq_true rfl⟩
theorem ml_pre : s_MS "java/lang/String" 1059 jM_pre 3 := ⟨Or.inl ws_27, ws_28, ws_2, ws_29, ⟨by decide +kernel, by decide +kernel, by decide +kernel⟩, Nat.le_of_ble_eq_true rfl⟩
theorem dj_pre_0 : decode prog_20_method_11_code 0 = .ok (.iload_n 0, 1) := by decide +kernel
theorem dj_pre_1 : decode prog_20_method_11_code 1 = .ok (.ifCond .lt 8, 3) := by decide +kernel
theorem dj_pre_4 : decode prog_20_method_11_code 4 = .ok (.iload_n 0, 1) := by decide +kernel
theorem dj_pre_5 : decode prog_20_method_11_code 5 = .ok (.iload_n 1, 1) := by decide +kernel
theorem dj_pre_6 : decode prog_20_method_11_code 6 = .ok (.if_icmp .lt 10, 3) := by decide +kernel
theorem dj_pre_16 : decode prog_20_method_11_code 16 = .ok (.iload_n 0, 1) := by decide +kernel
theorem dj_pre_17 : decode prog_20_method_11_code 17 = .ok (.ireturn, 1) := by decide +kernel
theorem dj_chk_0 : decode prog_16_method_155_code 0 = .ok (.iload_n 0, 1) := by decide +kernel
theorem dj_chk_1 : decode prog_16_method_155_code 1 = .ok (.iload_n 1, 1) := by decide +kernel
theorem dj_chk_2 : decode prog_16_method_155_code 2 = .ok (.getstatic 1053, 3) := by decide +kernel
theorem dj_chk_5 : decode prog_16_method_155_code 5 = .ok (.invokestatic 1059, 3) := by decide +kernel
theorem dj_chk_8 : decode prog_16_method_155_code 8 = .ok (.pop, 1) := by decide +kernel
theorem dj_chk_9 : decode prog_16_method_155_code 9 = .ok (.return_, 1) := by decide +kernel
theorem dj_ch1_0 : decode prog_17_method_2_code 0 = .ok (.iload_n 1, 1) := by decide +kernel
theorem dj_ch1_1 : decode prog_17_method_2_code 1 = .ok (.aload_n 0, 1) := by decide +kernel
theorem dj_ch1_2 : decode prog_17_method_2_code 2 = .ok (.arraylength, 1) := by decide +kernel
theorem dj_ch1_3 : decode prog_17_method_2_code 3 = .ok (.invokestatic 9, 3) := by decide +kernel
theorem dj_ch1_6 : decode prog_17_method_2_code 6 = .ok (.aload_n 0, 1) := by decide +kernel
theorem dj_ch1_7 : decode prog_17_method_2_code 7 = .ok (.iload_n 1, 1) := by decide +kernel
theorem dj_ch1_8 : decode prog_17_method_2_code 8 = .ok (.baload, 1) := by decide +kernel
theorem dj_ch1_9 : decode prog_17_method_2_code 9 = .ok (.sipush 255, 3) := by decide +kernel
theorem dj_ch1_12 : decode prog_17_method_2_code 12 = .ok (.iand, 1) := by decide +kernel
theorem dj_ch1_13 : decode prog_17_method_2_code 13 = .ok (.i2c, 1) := by decide +kernel
theorem dj_ch1_14 : decode prog_17_method_2_code 14 = .ok (.ireturn, 1) := by decide +kernel
theorem dj_cod_0 : decode prog_16_method_152_code 0 = .ok (.getstatic 38, 3) := by decide +kernel
theorem dj_cod_3 : decode prog_16_method_152_code 3 = .ok (.ifCond .eq 10, 3) := by decide +kernel
theorem dj_cod_6 : decode prog_16_method_152_code 6 = .ok (.aload_n 0, 1) := by decide +kernel
theorem dj_cod_7 : decode prog_16_method_152_code 7 = .ok (.getfield 15, 3) := by decide +kernel
theorem dj_cod_10 : decode prog_16_method_152_code 10 = .ok (.goto 4, 3) := by decide +kernel
theorem dj_cod_14 : decode prog_16_method_152_code 14 = .ok (.ireturn, 1) := by decide +kernel
theorem dj_lat_0 : decode prog_16_method_154_code 0 = .ok (.getstatic 38, 3) := by decide +kernel
theorem dj_lat_3 : decode prog_16_method_154_code 3 = .ok (.ifCond .eq 14, 3) := by decide +kernel
theorem dj_lat_6 : decode prog_16_method_154_code 6 = .ok (.aload_n 0, 1) := by decide +kernel
theorem dj_lat_7 : decode prog_16_method_154_code 7 = .ok (.getfield 15, 3) := by decide +kernel
theorem dj_lat_10 : decode prog_16_method_154_code 10 = .ok (.ifCond .ne 7, 3) := by decide +kernel
theorem dj_lat_13 : decode prog_16_method_154_code 13 = .ok (.iconst 1, 1) := by decide +kernel
theorem dj_lat_14 : decode prog_16_method_154_code 14 = .ok (.goto 4, 3) := by decide +kernel
theorem dj_lat_18 : decode prog_16_method_154_code 18 = .ok (.ireturn, 1) := by decide +kernel
theorem dj_len_0 : decode prog_16_method_54_code 0 = .ok (.aload_n 0, 1) := by decide +kernel
theorem dj_len_1 : decode prog_16_method_54_code 1 = .ok (.getfield 9, 3) := by decide +kernel
theorem dj_len_4 : decode prog_16_method_54_code 4 = .ok (.arraylength, 1) := by decide +kernel
theorem dj_len_5 : decode prog_16_method_54_code 5 = .ok (.aload_n 0, 1) := by decide +kernel
theorem dj_len_6 : decode prog_16_method_54_code 6 = .ok (.invokevirtual 335, 3) := by decide +kernel
theorem dj_len_9 : decode prog_16_method_54_code 9 = .ok (.ishr, 1) := by decide +kernel
theorem dj_len_10 : decode prog_16_method_54_code 10 = .ok (.ireturn, 1) := by decide +kernel
theorem dj_chr_0 : decode prog_16_method_56_code 0 = .ok (.aload_n 0, 1) := by decide +kernel
theorem dj_chr_1 : decode prog_16_method_56_code 1 = .ok (.invokevirtual 492, 3) := by decide +kernel
theorem dj_chr_4 : decode prog_16_method_56_code 4 = .ok (.ifCond .eq 12, 3) := by decide +kernel
theorem dj_chr_7 : decode prog_16_method_56_code 7 = .ok (.aload_n 0, 1) := by decide +kernel
theorem dj_chr_8 : decode prog_16_method_56_code 8 = .ok (.getfield 9, 3) := by decide +kernel
theorem dj_chr_11 : decode prog_16_method_56_code 11 = .ok (.iload_n 1, 1) := by decide +kernel
theorem dj_chr_12 : decode prog_16_method_56_code 12 = .ok (.invokestatic 495, 3) := by decide +kernel
theorem dj_chr_15 : decode prog_16_method_56_code 15 = .ok (.ireturn, 1) := by decide +kernel
section JMEM
variable {q v n : Nat} {h : Nat → sE}
theorem jp_pre {x : Int32} {w : Value} (hw : w = .null ∨ ∃ a : Nat, w = .retAddr a) (h0 : ¬ x < 0) (h1 : x < 131) : SpG q v jM_pre 0 [.int x, .int 131, w] n h (jR (some (.int x)) n h) := by
  rcases hw with rfl | ⟨a, rfl⟩
  all_goals refine SpG.ofV (by decide +kernel) (Nat.le_of_ble_eq_true rfl) ?_
  all_goals refine v_iload_n (P := jP jM_pre 0 n _ q v) (f := 0) dj_pre_0 rfl ?_
  all_goals refine v_if_lt (tgt := 9) (off := 8) dj_pre_1 (by decide) (fun z => absurd z h0) (fun _ => ?_)
  all_goals refine v_iload_n (f := 0) dj_pre_4 rfl ?_
  all_goals refine v_iload_n (f := 1) dj_pre_5 rfl ?_
  all_goals refine v_icmp_lt (tgt := 16) (off := 10) dj_pre_6 (by decide) (fun _ => ?_) (fun z => absurd h1 z)
  all_goals refine v_iload_n (f := 0) dj_pre_16 rfl ?_
  all_goals exact v_iret dj_pre_17 rfl (Nat.le_refl _) (Nat.le_refl _) ⟨rfl, rfl, rfl⟩
theorem jp_chk {x : Int32} (h0 : ¬ x < 0) (h1 : x < 131) : SpG q v jM_chk 1 [.int x, .int 131] n h (jR none n h) := by
  refine SpG.ofV (by decide +kernel) (Nat.le_of_ble_eq_true rfl) ?_
  refine v_iload_n (P := jP jM_chk 1 n _ q v) (f := 0) dj_chk_0 rfl ?_
  refine v_iload_n (f := 1) dj_chk_1 rfl ?_
  refine j_form dj_chk_2 rfl (fun w hw => ?_)
  refine j_callS (as := [.int x, .int 131, w]) (st := []) dj_chk_5 ml_pre (jp_pre hw h0 h1) rfl (by decide) (Nat.le_refl _) ?_
  refine v_popi dj_chk_8 ?_
  exact v_vret dj_chk_9 rfl (Nat.le_refl _) (Nat.le_refl _) ⟨rfl, rfl, rfl⟩
theorem jp_ch1 {x : Int32} (h0 : ¬ x < 0) (h1 : x < 131) : SpG q v jM_ch1 2 [.retAddr v, .int x] n h (jR (some (.int (s_chr x))) n h) := by
  have hx := s_chr_all x.toNatClampNeg (q_ch h0 h1)
  refine SpG.ofV (by decide +kernel) (Nat.le_of_ble_eq_true rfl) ?_
  refine v_iload_n (P := jP jM_ch1 2 n _ q v) (f := 1) dj_ch1_0 rfl ?_
  refine v_aload_no (f := 0) dj_ch1_1 rfl ?_
  refine j_len dj_ch1_2 ?_
  refine j_callS (as := [.int x, .int 131]) (st := []) dj_ch1_3 ml_chk (jp_chk h0 h1) rfl (by decide) (Nat.le_refl _) ?_
  refine v_aload_no (f := 0) dj_ch1_6 rfl ?_
  refine v_iload_n (f := 1) dj_ch1_7 rfl ?_
  refine j_byte dj_ch1_8 h0 h1 ?_
  refine v_sipush (z := 255) dj_ch1_9 ?_
  refine v_iand dj_ch1_12 ?_
  refine v_i2c dj_ch1_13 hx.1 ?_
  exact v_nret dj_ch1_14 rfl hx.2 (Nat.le_refl _) (Nat.le_refl _) ⟨rfl, rfl, rfl⟩
theorem jp_cod : SpG q v jM_cod 0 [.retAddr q] n h (jR (some (.int 0)) n h) := by
  refine SpG.ofV (by decide +kernel) (Nat.le_of_ble_eq_true rfl) ?_
  refine j_compact dj_cod_0 rfl ?_
  refine v_if_eq (tgt := 13) (off := 10) dj_cod_3 (by decide) (fun z => absurd z (by decide)) (fun _ => ?_)
  refine v_aload_no (f := 0) dj_cod_6 rfl ?_
  refine j_coder dj_cod_7 rfl ?_
  refine v_goto (tgt := 14) (off := 4) dj_cod_10 (by decide) ?_
  exact v_nret dj_cod_14 rfl (by decide) (Nat.le_refl _) (Nat.le_refl _) ⟨rfl, rfl, rfl⟩
theorem jp_lat : SpG q v jM_lat 0 [.retAddr q] n h (jR (some (.int 1)) n h) := by
  refine SpG.ofV (by decide +kernel) (Nat.le_of_ble_eq_true rfl) ?_
  refine j_compact dj_lat_0 rfl ?_
  refine v_if_eq (tgt := 17) (off := 14) dj_lat_3 (by decide) (fun z => absurd z (by decide)) (fun _ => ?_)
  refine v_aload_no (f := 0) dj_lat_6 rfl ?_
  refine j_coder dj_lat_7 rfl ?_
  refine v_if_ne (tgt := 17) (off := 7) dj_lat_10 (by decide) (fun z => absurd rfl z) (fun _ => ?_)
  refine v_iconst' 1 (z := 1) dj_lat_13 rfl ?_
  refine v_goto (tgt := 18) (off := 4) dj_lat_14 (by decide) ?_
  exact v_nret dj_lat_18 rfl (by decide) (Nat.le_refl _) (Nat.le_refl _) ⟨rfl, rfl, rfl⟩
theorem jp_len : SpG q v jM_len 1 [.retAddr q] n h (jR (some (.int 131)) n h) := by
  refine SpG.ofV (by decide +kernel) (Nat.le_of_ble_eq_true rfl) ?_
  refine v_aload_no (P := jP jM_len 1 n _ q v) (f := 0) dj_len_0 rfl ?_
  refine j_value dj_len_1 rfl ?_
  refine j_len dj_len_4 ?_
  refine v_aload_no (f := 0) dj_len_5 rfl ?_
  refine j_callV (as := []) (st := [.int 131]) dj_len_6 ml_cod rfl jp_cod rfl (by decide) (Nat.le_refl _) ?_
  refine v_ishr dj_len_9 ?_
  exact v_iret (x := 131) dj_len_10 rfl (Nat.le_refl _) (Nat.le_refl _) ⟨rfl, rfl, rfl⟩
theorem jp_chr {x : Int32} (h0 : ¬ x < 0) (h1 : x < 131) : SpG q v jM_chr 3 [.retAddr q, .int x] n h (jR (some (.int (s_chr x))) n h) := by
  have hx := s_chr_all x.toNatClampNeg (q_ch h0 h1)
  refine SpG.ofV (by decide +kernel) (Nat.le_of_ble_eq_true rfl) ?_
  refine v_aload_no (P := jP jM_chr 3 n _ q v) (f := 0) dj_chr_0 rfl ?_
  refine j_callV (as := []) (st := []) dj_chr_1 ml_lat rfl jp_lat rfl (by decide) (Nat.le_of_ble_eq_true rfl) ?_
  refine v_if_eq (tgt := 16) (off := 12) dj_chr_4 (by decide) (fun z => absurd z (by decide)) (fun _ => ?_)
  refine v_aload_no (f := 0) dj_chr_7 rfl ?_
  refine j_value dj_chr_8 rfl ?_
  refine v_iload_n (f := 1) dj_chr_11 rfl ?_
  refine j_callS (as := [.retAddr v, .int x]) (st := []) dj_chr_12 ml_ch1 (jp_ch1 h0 h1) rfl (by decide) (Nat.le_refl _) ?_
  exact v_nret dj_chr_15 rfl hx.2 (Nat.le_refl _) (Nat.le_refl _) ⟨rfl, rfl, rfl⟩
end JMEM
/-- WORDS.length() -/
theorem v_wlen {P : s_C} {k u n pc : Nat} {h : Nat → sE} {lv : List (Nat × Value)} {st : List Value} (hc : P.1.1.cls = "ShadowHerds$Reader") (hdg : decode P.1.2.1 pc = .ok (.ldc 122, 2)) (hdg2 : decode P.1.2.1 (pc + 2) = .ok (.invokevirtual 124, 3)) (hcat : (st.map fun v => v.category).sum ≤ 8) (hd : 2 ≤ P.2.1) (hk : k ≤ P.2.2.1) (hu : u ≤ P.2.2.2.1) (kk : V P k u n h (pc + 2 + 3) lv (.int 131 :: st)) : V P k u n h pc lv st := by
  intro l D A al0 p e s m args below meth c E al be H locs ls ha hW hS hl
  obtain ⟨q, v, hr, hg⟩ := E.2.2.2.2.2.2.2.2.2.2.1.2.2
  refine va_ldcS E.1 E.2.1 (by have := E.2.2.2.2.1; rw [hc] at this; exact this) hr hdg ?_
  exact w_callVG (as := []) E hg ha hW hS hl hdg2 (by rw [hc]; exact ml_len) rfl jp_len rfl hcat hd hk hu ⟨Or.inl (fun _ _ _ z => z.2.1), fun r n1 h1 z => by obtain ⟨rfl, rfl, rfl⟩ := z; exact kk⟩
/-- WORDS.charAt(x), x a local -/
theorem v_wchr {P : s_C} {k u n pc : Nat} {h : Nat → sE} {lv : List (Nat × Value)} {st : List Value} {x : Int32} {L : Nat} (hc : P.1.1.cls = "ShadowHerds$Reader") (hdg : decode P.1.2.1 pc = .ok (.ldc 122, 2)) (hdg1 : decode P.1.2.1 (pc + 2) = .ok (.iload L, 2)) (hdg2 : decode P.1.2.1 (pc + 2 + 2) = .ok (.invokevirtual 128, 3)) (hx : s_lk lv L = some (.int x)) (h0 : ¬ x < 0) (h1 : x < 131) (hcat : (st.map fun v => v.category).sum ≤ 8) (hd : 4 ≤ P.2.1) (hk : k ≤ P.2.2.1) (hu : u ≤ P.2.2.2.1) (kk : V P k u n h (pc + 2 + 2 + 3) lv (.int (s_chr x) :: st)) : V P k u n h pc lv st := by
  intro l D A al0 p e s m args below meth c E al be H locs ls ha hW hS hl
  obtain ⟨q, v, hr, hg⟩ := E.2.2.2.2.2.2.2.2.2.2.1.2.2
  refine va_ldcS E.1 E.2.1 (by have := E.2.2.2.2.1; rw [hc] at this; exact this) hr hdg ?_
  refine lv_iload E.1 E.2.1 hdg1 (s_lk_at hl hx) ?_
  exact w_callVG (as := [.int x]) E hg ha hW hS hl hdg2 (by rw [hc]; exact ml_chr) rfl (jp_chr h0 h1) rfl hcat hd hk hu ⟨Or.inl (fun _ _ _ z => z.2.1), fun r n1 h1 z => by obtain ⟨rfl, rfl, rfl⟩ := z; exact kk⟩

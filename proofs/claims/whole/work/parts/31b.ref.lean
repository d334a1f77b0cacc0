/-! THE REFERENCE'S METHODS, 2 of 5: texts over the picture, by program (tools/wp.py) -/
theorem dX12_readBehind_0 : decode cX12_readBehind 0 = .ok (.aload_n 0, 1) := by decide +kernel
theorem dX12_readBehind_1 : decode cX12_readBehind 1 = .ok (.getfield 254, 3) := by decide +kernel
theorem dX12_readBehind_4 : decode cX12_readBehind 4 = .ok (.ifCond .ne 12, 3) := by decide +kernel
theorem dX12_readBehind_7 : decode cX12_readBehind 7 = .ok (.aload_n 0, 1) := by decide +kernel
theorem dX12_readBehind_8 : decode cX12_readBehind 8 = .ok (.aload_n 0, 1) := by decide +kernel
theorem dX12_readBehind_9 : decode cX12_readBehind 9 = .ok (.lload_n 2, 1) := by decide +kernel
theorem dX12_readBehind_10 : decode cX12_readBehind 10 = .ok (.invokevirtual 306, 3) := by decide +kernel
theorem dX12_readBehind_13 : decode cX12_readBehind 13 = .ok (.invokevirtual 285, 3) := by decide +kernel
theorem dX12_readBehind_16 : decode cX12_readBehind 16 = .ok (.aload_n 0, 1) := by decide +kernel
theorem dX12_readBehind_17 : decode cX12_readBehind 17 = .ok (.iload_n 1, 1) := by decide +kernel
theorem dX12_readBehind_18 : decode cX12_readBehind 18 = .ok (.invokevirtual 582, 3) := by decide +kernel
theorem dX12_readBehind_21 : decode cX12_readBehind 21 = .ok (.return_, 1) := by decide +kernel
def w_X12_readBehind (a0 a1 : Int) (X : XT) (Q : XT → Prop) : Prop :=
  R32 (X 77 14) ∧ (¬ (X 77 14) = 0 → w_X12_readSum  a0 X (fun (X4 : XT) => Q X4)) ∧ ((X 77 14) = 0 → w_X12_isWord  a1 X (fun (v9 : Int) => w_X12_must  v9 X (fun (X16 : XT) => w_X12_readSum  a0 X16 (fun (X22 : XT) => Q X22))))
set_option maxRecDepth 20000 in
theorem so_X12_readBehind {n : Nat} {h : Nat → sE} {X : XT} {a0 a1 : Int} {Q : XT → Prop} (hn : 115 ≤ n) (hp : Pic X h) (w : w_X12_readBehind  a0 a1 X Q) : Sp m_X12_readBehind 8 0 0 [.ref 77, .int (iI a0), .long (jJ a1)] n h (pVw n h Q) := by
  unfold w_X12_readBehind at w
  refine Sp.ofV (by decide +kernel) (Nat.le_of_ble_eq_true rfl) ?_
  have hf : Fr h h := fun _ _ => rfl
  refine v_aload_n dX12_readBehind_0 rfl ?_
  refine v_get dX12_readBehind_1 fl_X12_254 ((hp 77 (by decide)).trans (ent_77 _)) rfl (s_lt hn rfl) ?_
  obtain ⟨q1, w⟩ := w
  refine v_if_neI (tgt := 16) dX12_readBehind_4 (by decide) q1.1 q1.2 (fun c2 => ?_) (fun c2 => ?_)
  · replace w := w.1 c2
    refine v_aload_n dX12_readBehind_16 rfl ?_
    refine v_iload_n dX12_readBehind_17 rfl ?_
    refine v_callVVw dX12_readBehind_18 ml_X12_582 (so_X12_readSum hn hp  w) ((hp 77 (by decide)).trans (ent_77 _)) rfl (s_lt hn rfl) rfl rfl (Nat.le_of_ble_eq_true rfl) (Nat.le_of_ble_eq_true rfl) (Nat.zero_le _) (Nat.zero_le _) (fun X4 h5 hp7 hf6 w => ?_)
    have hf8 := Fr.trans hf hf6
    exact v_vret dX12_readBehind_21 rfl (Nat.zero_le _) (Nat.zero_le _) ⟨rfl, hf8, _, rfl, hp7, w⟩
  · replace w := w.2 c2
    refine v_aload_n dX12_readBehind_7 rfl ?_
    refine v_aload_n dX12_readBehind_8 rfl ?_
    refine v_lload_n dX12_readBehind_9 rfl ?_
    refine v_callVIr dX12_readBehind_10 ml_X12_306 (so_X12_isWord hn hp  w) ((hp 77 (by decide)).trans (ent_77 _)) rfl (s_lt hn rfl) rfl rfl (Nat.le_of_ble_eq_true rfl) (Nat.le_of_ble_eq_true rfl) (Nat.zero_le _) (Nat.zero_le _) (fun v9 w => ?_)
    refine v_callVVw dX12_readBehind_13 ml_X12_285 (so_X12_must hn hp  w) ((hp 77 (by decide)).trans (ent_77 _)) rfl (s_lt hn rfl) rfl rfl (Nat.le_of_ble_eq_true rfl) (Nat.le_of_ble_eq_true rfl) (Nat.zero_le _) (Nat.zero_le _) (fun X16 h17 hp19 hf18 w => ?_)
    have hf20 := Fr.trans hf hf18
    refine v_aload_n dX12_readBehind_16 rfl ?_
    refine v_iload_n dX12_readBehind_17 rfl ?_
    refine v_callVVw dX12_readBehind_18 ml_X12_582 (so_X12_readSum hn hp19  w) ((hp19 77 (by decide)).trans (ent_77 _)) rfl (s_lt hn rfl) rfl rfl (Nat.le_of_ble_eq_true rfl) (Nat.le_of_ble_eq_true rfl) (Nat.zero_le _) (Nat.zero_le _) (fun X22 h23 hp25 hf24 w => ?_)
    have hf26 := Fr.trans hf20 hf24
    exact v_vret dX12_readBehind_21 rfl (Nat.zero_le _) (Nat.zero_le _) ⟨rfl, hf26, _, rfl, hp25, w⟩
theorem dX12_readDrive_0 : decode cX12_readDrive 0 = .ok (.aload_n 0, 1) := by decide +kernel
theorem dX12_readDrive_1 : decode cX12_readDrive 1 = .ok (.aload_n 0, 1) := by decide +kernel
theorem dX12_readDrive_2 : decode cX12_readDrive 2 = .ok (.ldc2_w 585, 3) := by decide +kernel
theorem dX12_readDrive_5 : decode cX12_readDrive 5 = .ok (.invokevirtual 306, 3) := by decide +kernel
theorem dX12_readDrive_8 : decode cX12_readDrive 8 = .ok (.ifCond .eq 16, 3) := by decide +kernel
theorem dX12_readDrive_11 : decode cX12_readDrive 11 = .ok (.aload_n 0, 1) := by decide +kernel
theorem dX12_readDrive_12 : decode cX12_readDrive 12 = .ok (.getfield 377, 3) := by decide +kernel
theorem dX12_readDrive_15 : decode cX12_readDrive 15 = .ok (.bipush 12, 2) := by decide +kernel
theorem dX12_readDrive_17 : decode cX12_readDrive 17 = .ok (.if_icmp .ge 7, 3) := by decide +kernel
theorem dX12_readDrive_20 : decode cX12_readDrive 20 = .ok (.iconst 1, 1) := by decide +kernel
theorem dX12_readDrive_21 : decode cX12_readDrive 21 = .ok (.goto 4, 3) := by decide +kernel
theorem dX12_readDrive_24 : decode cX12_readDrive 24 = .ok (.iconst 0, 1) := by decide +kernel
theorem dX12_readDrive_25 : decode cX12_readDrive 25 = .ok (.invokevirtual 285, 3) := by decide +kernel
theorem dX12_readDrive_28 : decode cX12_readDrive 28 = .ok (.aload_n 0, 1) := by decide +kernel
theorem dX12_readDrive_29 : decode cX12_readDrive 29 = .ok (.getfield 254, 3) := by decide +kernel
theorem dX12_readDrive_32 : decode cX12_readDrive 32 = .ok (.ifCond .eq 4, 3) := by decide +kernel
theorem dX12_readDrive_35 : decode cX12_readDrive 35 = .ok (.return_, 1) := by decide +kernel
theorem dX12_readDrive_36 : decode cX12_readDrive 36 = .ok (.bipush 12, 2) := by decide +kernel
theorem dX12_readDrive_38 : decode cX12_readDrive 38 = .ok (.aload_n 0, 1) := by decide +kernel
theorem dX12_readDrive_39 : decode cX12_readDrive 39 = .ok (.getfield 377, 3) := by decide +kernel
theorem dX12_readDrive_42 : decode cX12_readDrive 42 = .ok (.imul, 1) := by decide +kernel
theorem dX12_readDrive_43 : decode cX12_readDrive 43 = .ok (.istore_n 1, 1) := by decide +kernel
theorem dX12_readDrive_44 : decode cX12_readDrive 44 = .ok (.aload_n 0, 1) := by decide +kernel
theorem dX12_readDrive_45 : decode cX12_readDrive 45 = .ok (.dup, 1) := by decide +kernel
theorem dX12_readDrive_46 : decode cX12_readDrive 46 = .ok (.getfield 377, 3) := by decide +kernel
theorem dX12_readDrive_49 : decode cX12_readDrive 49 = .ok (.iconst 1, 1) := by decide +kernel
theorem dX12_readDrive_50 : decode cX12_readDrive 50 = .ok (.iadd, 1) := by decide +kernel
theorem dX12_readDrive_51 : decode cX12_readDrive 51 = .ok (.putfield 377, 3) := by decide +kernel
theorem dX12_readDrive_54 : decode cX12_readDrive 54 = .ok (.iconst 0, 1) := by decide +kernel
theorem dX12_readDrive_55 : decode cX12_readDrive 55 = .ok (.istore_n 2, 1) := by decide +kernel
theorem dX12_readDrive_56 : decode cX12_readDrive 56 = .ok (.iload_n 2, 1) := by decide +kernel
theorem dX12_readDrive_57 : decode cX12_readDrive 57 = .ok (.bipush 12, 2) := by decide +kernel
theorem dX12_readDrive_59 : decode cX12_readDrive 59 = .ok (.if_icmp .ge 18, 3) := by decide +kernel
theorem dX12_readDrive_62 : decode cX12_readDrive 62 = .ok (.aload_n 0, 1) := by decide +kernel
theorem dX12_readDrive_63 : decode cX12_readDrive 63 = .ok (.getfield 160, 3) := by decide +kernel
theorem dX12_readDrive_66 : decode cX12_readDrive 66 = .ok (.iload_n 1, 1) := by decide +kernel
theorem dX12_readDrive_67 : decode cX12_readDrive 67 = .ok (.iload_n 2, 1) := by decide +kernel
theorem dX12_readDrive_68 : decode cX12_readDrive 68 = .ok (.iadd, 1) := by decide +kernel
theorem dX12_readDrive_69 : decode cX12_readDrive 69 = .ok (.iconst 0, 1) := by decide +kernel
theorem dX12_readDrive_70 : decode cX12_readDrive 70 = .ok (.iastore, 1) := by decide +kernel
theorem dX12_readDrive_71 : decode cX12_readDrive 71 = .ok (.iinc 2 1, 3) := by decide +kernel
theorem dX12_readDrive_74 : decode cX12_readDrive 74 = .ok (.goto (-18), 3) := by decide +kernel
theorem dX12_readDrive_77 : decode cX12_readDrive 77 = .ok (.aload_n 0, 1) := by decide +kernel
theorem dX12_readDrive_78 : decode cX12_readDrive 78 = .ok (.iload_n 1, 1) := by decide +kernel
theorem dX12_readDrive_79 : decode cX12_readDrive 79 = .ok (.invokevirtual 582, 3) := by decide +kernel
theorem dX12_readDrive_82 : decode cX12_readDrive 82 = .ok (.aload_n 0, 1) := by decide +kernel
theorem dX12_readDrive_83 : decode cX12_readDrive 83 = .ok (.iload_n 1, 1) := by decide +kernel
theorem dX12_readDrive_84 : decode cX12_readDrive 84 = .ok (.iconst 2, 1) := by decide +kernel
theorem dX12_readDrive_85 : decode cX12_readDrive 85 = .ok (.iadd, 1) := by decide +kernel
theorem dX12_readDrive_86 : decode cX12_readDrive 86 = .ok (.ldc2_w 587, 3) := by decide +kernel
theorem dX12_readDrive_89 : decode cX12_readDrive 89 = .ok (.invokevirtual 589, 3) := by decide +kernel
theorem dX12_readDrive_92 : decode cX12_readDrive 92 = .ok (.aload_n 0, 1) := by decide +kernel
theorem dX12_readDrive_93 : decode cX12_readDrive 93 = .ok (.iload_n 1, 1) := by decide +kernel
theorem dX12_readDrive_94 : decode cX12_readDrive 94 = .ok (.iconst 4, 1) := by decide +kernel
theorem dX12_readDrive_95 : decode cX12_readDrive 95 = .ok (.iadd, 1) := by decide +kernel
theorem dX12_readDrive_96 : decode cX12_readDrive 96 = .ok (.ldc2_w 593, 3) := by decide +kernel
theorem dX12_readDrive_99 : decode cX12_readDrive 99 = .ok (.invokevirtual 589, 3) := by decide +kernel
theorem dX12_readDrive_102 : decode cX12_readDrive 102 = .ok (.aload_n 0, 1) := by decide +kernel
theorem dX12_readDrive_103 : decode cX12_readDrive 103 = .ok (.getfield 254, 3) := by decide +kernel
theorem dX12_readDrive_106 : decode cX12_readDrive 106 = .ok (.ifCond .ne 25, 3) := by decide +kernel
theorem dX12_readDrive_109 : decode cX12_readDrive 109 = .ok (.aload_n 0, 1) := by decide +kernel
theorem dX12_readDrive_110 : decode cX12_readDrive 110 = .ok (.ldc2_w 595, 3) := by decide +kernel
theorem dX12_readDrive_113 : decode cX12_readDrive 113 = .ok (.invokevirtual 306, 3) := by decide +kernel
theorem dX12_readDrive_116 : decode cX12_readDrive 116 = .ok (.ifCond .eq 15, 3) := by decide +kernel
theorem dX12_readDrive_119 : decode cX12_readDrive 119 = .ok (.aload_n 0, 1) := by decide +kernel
theorem dX12_readDrive_120 : decode cX12_readDrive 120 = .ok (.invokevirtual 258, 3) := by decide +kernel
theorem dX12_readDrive_123 : decode cX12_readDrive 123 = .ok (.aload_n 0, 1) := by decide +kernel
theorem dX12_readDrive_124 : decode cX12_readDrive 124 = .ok (.iload_n 1, 1) := by decide +kernel
theorem dX12_readDrive_125 : decode cX12_readDrive 125 = .ok (.bipush 6, 2) := by decide +kernel
theorem dX12_readDrive_127 : decode cX12_readDrive 127 = .ok (.iadd, 1) := by decide +kernel
theorem dX12_readDrive_128 : decode cX12_readDrive 128 = .ok (.invokevirtual 582, 3) := by decide +kernel
theorem dX12_readDrive_131 : decode cX12_readDrive 131 = .ok (.aload_n 0, 1) := by decide +kernel
theorem dX12_readDrive_132 : decode cX12_readDrive 132 = .ok (.getfield 160, 3) := by decide +kernel
theorem dX12_readDrive_135 : decode cX12_readDrive 135 = .ok (.iload_n 1, 1) := by decide +kernel
theorem dX12_readDrive_136 : decode cX12_readDrive 136 = .ok (.bipush 10, 2) := by decide +kernel
theorem dX12_readDrive_138 : decode cX12_readDrive 138 = .ok (.iadd, 1) := by decide +kernel
theorem dX12_readDrive_139 : decode cX12_readDrive 139 = .ok (.iconst 1, 1) := by decide +kernel
theorem dX12_readDrive_140 : decode cX12_readDrive 140 = .ok (.iastore, 1) := by decide +kernel
theorem dX12_readDrive_141 : decode cX12_readDrive 141 = .ok (.aload_n 0, 1) := by decide +kernel
theorem dX12_readDrive_142 : decode cX12_readDrive 142 = .ok (.getfield 254, 3) := by decide +kernel
theorem dX12_readDrive_145 : decode cX12_readDrive 145 = .ok (.ifCond .ne 34, 3) := by decide +kernel
theorem dX12_readDrive_148 : decode cX12_readDrive 148 = .ok (.aload_n 0, 1) := by decide +kernel
theorem dX12_readDrive_149 : decode cX12_readDrive 149 = .ok (.ldc2_w 597, 3) := by decide +kernel
theorem dX12_readDrive_152 : decode cX12_readDrive 152 = .ok (.invokevirtual 306, 3) := by decide +kernel
theorem dX12_readDrive_155 : decode cX12_readDrive 155 = .ok (.ifCond .eq 24, 3) := by decide +kernel
theorem dX12_readDrive_158 : decode cX12_readDrive 158 = .ok (.aload_n 0, 1) := by decide +kernel
theorem dX12_readDrive_159 : decode cX12_readDrive 159 = .ok (.invokevirtual 258, 3) := by decide +kernel
theorem dX12_readDrive_162 : decode cX12_readDrive 162 = .ok (.aload_n 0, 1) := by decide +kernel
theorem dX12_readDrive_163 : decode cX12_readDrive 163 = .ok (.getfield 160, 3) := by decide +kernel
theorem dX12_readDrive_166 : decode cX12_readDrive 166 = .ok (.iload_n 1, 1) := by decide +kernel
theorem dX12_readDrive_167 : decode cX12_readDrive 167 = .ok (.bipush 10, 2) := by decide +kernel
theorem dX12_readDrive_169 : decode cX12_readDrive 169 = .ok (.iadd, 1) := by decide +kernel
theorem dX12_readDrive_170 : decode cX12_readDrive 170 = .ok (.aload_n 0, 1) := by decide +kernel
theorem dX12_readDrive_171 : decode cX12_readDrive 171 = .ok (.lconst 1, 1) := by decide +kernel
theorem dX12_readDrive_172 : decode cX12_readDrive 172 = .ok (.ldc2_w 302, 3) := by decide +kernel
theorem dX12_readDrive_175 : decode cX12_readDrive 175 = .ok (.invokevirtual 341, 3) := by decide +kernel
theorem dX12_readDrive_178 : decode cX12_readDrive 178 = .ok (.iastore, 1) := by decide +kernel
theorem dX12_readDrive_179 : decode cX12_readDrive 179 = .ok (.aload_n 0, 1) := by decide +kernel
theorem dX12_readDrive_180 : decode cX12_readDrive 180 = .ok (.getfield 160, 3) := by decide +kernel
theorem dX12_readDrive_183 : decode cX12_readDrive 183 = .ok (.iload_n 1, 1) := by decide +kernel
theorem dX12_readDrive_184 : decode cX12_readDrive 184 = .ok (.bipush 8, 2) := by decide +kernel
theorem dX12_readDrive_186 : decode cX12_readDrive 186 = .ok (.iadd, 1) := by decide +kernel
theorem dX12_readDrive_187 : decode cX12_readDrive 187 = .ok (.aload_n 0, 1) := by decide +kernel
theorem dX12_readDrive_188 : decode cX12_readDrive 188 = .ok (.getfield 289, 3) := by decide +kernel
theorem dX12_readDrive_191 : decode cX12_readDrive 191 = .ok (.iastore, 1) := by decide +kernel
theorem dX12_readDrive_192 : decode cX12_readDrive 192 = .ok (.aload_n 0, 1) := by decide +kernel
theorem dX12_readDrive_193 : decode cX12_readDrive 193 = .ok (.getfield 254, 3) := by decide +kernel
theorem dX12_readDrive_196 : decode cX12_readDrive 196 = .ok (.ifCond .ne 22, 3) := by decide +kernel
theorem dX12_readDrive_199 : decode cX12_readDrive 199 = .ok (.aload_n 0, 1) := by decide +kernel
theorem dX12_readDrive_200 : decode cX12_readDrive 200 = .ok (.ldc2_w 383, 3) := by decide +kernel
theorem dX12_readDrive_203 : decode cX12_readDrive 203 = .ok (.invokevirtual 306, 3) := by decide +kernel
theorem dX12_readDrive_206 : decode cX12_readDrive 206 = .ok (.ifCond .eq 12, 3) := by decide +kernel
theorem dX12_readDrive_209 : decode cX12_readDrive 209 = .ok (.aload_n 0, 1) := by decide +kernel
theorem dX12_readDrive_210 : decode cX12_readDrive 210 = .ok (.invokevirtual 258, 3) := by decide +kernel
theorem dX12_readDrive_213 : decode cX12_readDrive 213 = .ok (.aload_n 0, 1) := by decide +kernel
theorem dX12_readDrive_214 : decode cX12_readDrive 214 = .ok (.iconst 1, 1) := by decide +kernel
theorem dX12_readDrive_215 : decode cX12_readDrive 215 = .ok (.invokevirtual 380, 3) := by decide +kernel
theorem dX12_readDrive_218 : decode cX12_readDrive 218 = .ok (.aload_n 0, 1) := by decide +kernel
theorem dX12_readDrive_219 : decode cX12_readDrive 219 = .ok (.getfield 160, 3) := by decide +kernel
theorem dX12_readDrive_222 : decode cX12_readDrive 222 = .ok (.iload_n 1, 1) := by decide +kernel
theorem dX12_readDrive_223 : decode cX12_readDrive 223 = .ok (.bipush 9, 2) := by decide +kernel
theorem dX12_readDrive_225 : decode cX12_readDrive 225 = .ok (.iadd, 1) := by decide +kernel
theorem dX12_readDrive_226 : decode cX12_readDrive 226 = .ok (.aload_n 0, 1) := by decide +kernel
theorem dX12_readDrive_227 : decode cX12_readDrive 227 = .ok (.getfield 289, 3) := by decide +kernel
theorem dX12_readDrive_230 : decode cX12_readDrive 230 = .ok (.iastore, 1) := by decide +kernel
theorem dX12_readDrive_231 : decode cX12_readDrive 231 = .ok (.return_, 1) := by decide +kernel
def w_X12_readDrive (X : XT) (Q : XT → Prop) : Prop :=
  w_X12_isWord  208935 X (fun (v1 : Int) => ∀ J8 : Int → Prop, (∀ (v7 : Int), (w_X12_must  v7 X (fun (X10 : XT) => R32 (X10 77 14) ∧ ((X10 77 14) = 0 → ∃ (I24 : Int → XT → Prop) (m25 : Int → XT → Nat), I24 0 (x_st X10 77 16 ((X10 77 16) + 1)) ∧ ∀ (x22 : Int) (X23 : XT), I24 x22 X23 → R32 x22 ∧ (12 ≤ x22 → w_X12_readSum  (12 * (X10 77 16)) X23 (fun (X39 : XT) => w_X12_readBehind  ((12 * (X10 77 16)) + 2) 655 X39 (fun (X45 : XT) => w_X12_readBehind  ((12 * (X10 77 16)) + 4) 52 X45 (fun (X51 : XT) => ∀ J57 : XT → Prop, (∀  (X56 : XT), ((0 ≤ ((12 * (X10 77 16)) + 10) ∧ ((12 * (X10 77 16)) + 10) < 144) ∧ ∀ J68 : XT → Prop, (∀  (X67 : XT), ((0 ≤ ((12 * (X10 77 16)) + 8) ∧ ((12 * (X10 77 16)) + 8) < 144) ∧ ∀ J79 : XT → Prop, (∀  (X78 : XT), ((0 ≤ ((12 * (X10 77 16)) + 9) ∧ ((12 * (X10 77 16)) + 9) < 144) ∧ Q (x_st X78 113 ((12 * (X10 77 16)) + 9) (X78 77 18))) → J79  X78) → R32 ((x_st X67 113 ((12 * (X10 77 16)) + 8) (X67 77 18)) 77 14) ∧ (¬ ((x_st X67 113 ((12 * (X10 77 16)) + 8) (X67 77 18)) 77 14) = 0 → J79  (x_st X67 113 ((12 * (X10 77 16)) + 8) (X67 77 18))) ∧ (((x_st X67 113 ((12 * (X10 77 16)) + 8) (X67 77 18)) 77 14) = 0 → w_X12_isWord  294 (x_st X67 113 ((12 * (X10 77 16)) + 8) (X67 77 18)) (fun (v91 : Int) => R32 v91 ∧ (v91 = 0 → J79  (x_st X67 113 ((12 * (X10 77 16)) + 8) (X67 77 18))) ∧ (¬ v91 = 0 → w_X12_next   (x_st X67 113 ((12 * (X10 77 16)) + 8) (X67 77 18)) (fun (X100 : XT) => w_X12_readExpression  1 X100 (fun (X106 : XT) => J79  X106)))))) → J68  X67) → R32 ((x_st X56 113 ((12 * (X10 77 16)) + 10) 1) 77 14) ∧ (¬ ((x_st X56 113 ((12 * (X10 77 16)) + 10) 1) 77 14) = 0 → J68  (x_st X56 113 ((12 * (X10 77 16)) + 10) 1)) ∧ (((x_st X56 113 ((12 * (X10 77 16)) + 10) 1) 77 14) = 0 → w_X12_isWord  21279923 (x_st X56 113 ((12 * (X10 77 16)) + 10) 1) (fun (v113 : Int) => R32 v113 ∧ (v113 = 0 → J68  (x_st X56 113 ((12 * (X10 77 16)) + 10) 1)) ∧ (¬ v113 = 0 → w_X12_next   (x_st X56 113 ((12 * (X10 77 16)) + 10) 1) (fun (X122 : XT) => w_X12_number  1 20 X122 (fun (v127 : Int) (X128 : XT) => J68  (x_st X128 113 ((12 * (X10 77 16)) + 10) v127))))))) → J57  X56) → R32 (X51 77 14) ∧ (¬ (X51 77 14) = 0 → J57  X51) ∧ ((X51 77 14) = 0 → w_X12_isWord  164968 X51 (fun (v140 : Int) => R32 v140 ∧ (v140 = 0 → J57  X51) ∧ (¬ v140 = 0 → w_X12_next   X51 (fun (X149 : XT) => w_X12_readSum  ((12 * (X10 77 16)) + 6) X149 (fun (X155 : XT) => J57  X155))))))))) ∧ (¬ 12 ≤ x22 → (0 ≤ ((12 * (X10 77 16)) + x22) ∧ ((12 * (X10 77 16)) + x22) < 144) ∧ I24 (x22 + 1) (x_st X23 113 ((12 * (X10 77 16)) + x22) 0) ∧ m25 (x22 + 1) (x_st X23 113 ((12 * (X10 77 16)) + x22) 0) < m25 x22 X23)) ∧ (¬ (X10 77 14) = 0 → Q X10))) → J8 v7) → R32 v1 ∧ (v1 = 0 → J8 0) ∧ (¬ v1 = 0 → R32 (X 77 16) ∧ (12 ≤ (X 77 16) → J8 0) ∧ (¬ 12 ≤ (X 77 16) → J8 1)))
set_option maxRecDepth 20000 in
theorem so_X12_readDrive {n : Nat} {h : Nat → sE} {X : XT} {Q : XT → Prop} (hn : 115 ≤ n) (hp : Pic X h) (w : w_X12_readDrive   X Q) : Sp m_X12_readDrive 9 0 0 [.ref 77] n h (pVw n h Q) := by
  unfold w_X12_readDrive at w
  refine Sp.ofV (by decide +kernel) (Nat.le_of_ble_eq_true rfl) ?_
  have hf : Fr h h := fun _ _ => rfl
  refine v_aload_n dX12_readDrive_0 rfl ?_
  refine v_aload_n dX12_readDrive_1 rfl ?_
  refine v_ldc2I 208935 dX12_readDrive_2 k_X12_585 rfl ?_
  refine v_callVIr dX12_readDrive_5 ml_X12_306 (so_X12_isWord hn hp  w) ((hp 77 (by decide)).trans (ent_77 _)) rfl (s_lt hn rfl) rfl rfl (Nat.le_of_ble_eq_true rfl) (Nat.le_of_ble_eq_true rfl) (Nat.zero_le _) (Nat.zero_le _) (fun v1 w => ?_)
  replace w := w (fun (v7 : Int) => V (m_X12_readDrive, 9, 0, 0, n, pVw n h Q, s_G0) 0 0 n h 25 [(0, .ref 77)] [.int (iI v7), .ref 77]) (by
    intro v7 w
    refine v_callVVw dX12_readDrive_25 ml_X12_285 (so_X12_must hn hp  w) ((hp 77 (by decide)).trans (ent_77 _)) rfl (s_lt hn rfl) rfl rfl (Nat.le_of_ble_eq_true rfl) (Nat.le_of_ble_eq_true rfl) (Nat.zero_le _) (Nat.zero_le _) (fun X10 h11 hp13 hf12 w => ?_)
    have hf14 := Fr.trans hf hf12
    refine v_aload_n dX12_readDrive_28 rfl ?_
    refine v_get dX12_readDrive_29 fl_X12_254 ((hp13 77 (by decide)).trans (ent_77 _)) rfl (s_lt hn rfl) ?_
    obtain ⟨q15, w⟩ := w
    refine v_if_eqI (tgt := 36) dX12_readDrive_32 (by decide) q15.1 q15.2 (fun c16 => ?_) (fun c16 => ?_)
    · replace w := w.1 c16
      refine v_bipushI dX12_readDrive_36 rfl ?_
      refine v_aload_n dX12_readDrive_38 rfl ?_
      refine v_get dX12_readDrive_39 fl_X12_377 ((hp13 77 (by decide)).trans (ent_77 _)) rfl (s_lt hn rfl) ?_
      refine v_imulI dX12_readDrive_42 ?_
      refine v_istore_n dX12_readDrive_43 (Nat.le_of_ble_eq_true rfl) ?_
      refine v_aload_n dX12_readDrive_44 rfl ?_
      refine v_dup dX12_readDrive_45 rfl ?_
      refine v_get dX12_readDrive_46 fl_X12_377 ((hp13 77 (by decide)).trans (ent_77 _)) rfl (s_lt hn rfl) ?_
      refine v_iconstI dX12_readDrive_49 ?_
      refine v_iaddI dX12_readDrive_50 ?_
      refine v_put dX12_readDrive_51 fl_X12_377 ((hp13 77 (by decide)).trans (ent_77 _)) (s_lt hn rfl) (Nat.le_of_ble_eq_true rfl) (fun _ => ⟨rfl, rfl⟩) trivial (fun h17 E18 F19 => ?_)
      have hp20 := pic_st hp13 (show h17 77 = ent 77 (uI _ 16 ((X10 77 16) + 1)) from E18) F19
      have hf21 := Fr.up (c := 77) hf14 F19 rfl
      refine v_iconstI dX12_readDrive_54 ?_
      refine v_istore_n dX12_readDrive_55 (Nat.le_of_ble_eq_true rfl) ?_
      refine v_pick [2, 1, 0] rfl ?_
      obtain ⟨I24, m25, wi28, wl27⟩ := w
      have hL29 : ∀ (N32 : Nat) (x22 : Int) (X23 : XT) (h33 : Nat → sE), m25 x22 X23 < N32 → I24 x22 X23 → Pic X23 h33 → Fr h h33 → V (m_X12_readDrive, 9, 0, 0, n, pVw n h Q, s_G0) 0 0 n h33 56 [(0, .ref 77), (1, .int (iI (12 * (X10 77 16)))), (2, .int (iI x22))] [] := by
        intro N32
        induction N32 with
        | zero => intro x22 X23 h33 hm30; exact absurd hm30 (Nat.not_lt_zero _)
        | succ N32 ih26 =>
          intro x22 X23 h33 hm30 hI31 hp34 hf35
          have w := wl27 x22 X23 hI31
          refine v_iload_n dX12_readDrive_56 rfl ?_
          refine v_bipushI dX12_readDrive_57 rfl ?_
          obtain ⟨q36, w⟩ := w
          refine v_icmp_geI (tgt := 77) dX12_readDrive_59 (by decide) q36.1 q36.2 (by decide) (by decide) (fun c37 => ?_) (fun c37 => ?_)
          · replace w := w.1 c37
            refine v_aload_n dX12_readDrive_77 rfl ?_
            refine v_iload_n dX12_readDrive_78 rfl ?_
            refine v_callVVw dX12_readDrive_79 ml_X12_582 (so_X12_readSum hn hp34  w) ((hp34 77 (by decide)).trans (ent_77 _)) rfl (s_lt hn rfl) rfl rfl (Nat.le_of_ble_eq_true rfl) (Nat.le_of_ble_eq_true rfl) (Nat.zero_le _) (Nat.zero_le _) (fun X39 h40 hp42 hf41 w => ?_)
            have hf43 := Fr.trans hf35 hf41
            refine v_aload_n dX12_readDrive_82 rfl ?_
            refine v_iload_n dX12_readDrive_83 rfl ?_
            refine v_iconstI dX12_readDrive_84 ?_
            refine v_iaddI dX12_readDrive_85 ?_
            refine v_ldc2I 655 dX12_readDrive_86 k_X12_587 rfl ?_
            refine v_callVVw dX12_readDrive_89 ml_X12_589 (so_X12_readBehind hn hp42  w) ((hp42 77 (by decide)).trans (ent_77 _)) rfl (s_lt hn rfl) rfl rfl (Nat.le_of_ble_eq_true rfl) (Nat.le_of_ble_eq_true rfl) (Nat.zero_le _) (Nat.zero_le _) (fun X45 h46 hp48 hf47 w => ?_)
            have hf49 := Fr.trans hf43 hf47
            refine v_aload_n dX12_readDrive_92 rfl ?_
            refine v_iload_n dX12_readDrive_93 rfl ?_
            refine v_iconstI dX12_readDrive_94 ?_
            refine v_iaddI dX12_readDrive_95 ?_
            refine v_ldc2I 52 dX12_readDrive_96 k_X12_593 rfl ?_
            refine v_callVVw dX12_readDrive_99 ml_X12_589 (so_X12_readBehind hn hp48  w) ((hp48 77 (by decide)).trans (ent_77 _)) rfl (s_lt hn rfl) rfl rfl (Nat.le_of_ble_eq_true rfl) (Nat.le_of_ble_eq_true rfl) (Nat.zero_le _) (Nat.zero_le _) (fun X51 h52 hp54 hf53 w => ?_)
            have hf55 := Fr.trans hf49 hf53
            refine v_aload_n dX12_readDrive_102 rfl ?_
            refine v_get dX12_readDrive_103 fl_X12_254 ((hp54 77 (by decide)).trans (ent_77 _)) rfl (s_lt hn rfl) ?_
            replace w := w (fun  (X56 : XT) => ∀ h60 : Nat → sE, Pic X56 h60 → Fr h h60 → V (m_X12_readDrive, 9, 0, 0, n, pVw n h Q, s_G0) 0 0 n h60 131 [(0, .ref 77), (1, .int (iI (12 * (X10 77 16))))] []) (by
              intro  X56 w h60 hp58 hf59
              refine v_aload_n dX12_readDrive_131 rfl ?_
              refine v_get dX12_readDrive_132 fl_X12_160 ((hp58 77 (by decide)).trans (ent_77 _)) rfl (s_lt hn rfl) ?_
              refine v_iload_n dX12_readDrive_135 rfl ?_
              refine v_bipushI dX12_readDrive_136 rfl ?_
              refine v_iaddI dX12_readDrive_138 ?_
              refine v_iconstI dX12_readDrive_139 ?_
              obtain ⟨q61, w⟩ := w
              refine v_iastI dX12_readDrive_140 ((hp58 113 (by decide)).trans (ent_113 _)) (s_lt hn rfl) q61.1 q61.2 (ix_le q61.2 (by decide)) (fun h62 E63 F64 => ?_)
              have hp65 := pic_st hp58 (show h62 113 = ent 113 (uI _ ((12 * (X10 77 16)) + 10) 1) from E63) F64
              have hf66 := Fr.up (c := 113) hf59 F64 rfl
              refine v_aload_n dX12_readDrive_141 rfl ?_
              refine v_get dX12_readDrive_142 fl_X12_254 ((hp65 77 (by decide)).trans (ent_77 _)) rfl (s_lt hn rfl) ?_
              replace w := w (fun  (X67 : XT) => ∀ h71 : Nat → sE, Pic X67 h71 → Fr h h71 → V (m_X12_readDrive, 9, 0, 0, n, pVw n h Q, s_G0) 0 0 n h71 179 [(0, .ref 77), (1, .int (iI (12 * (X10 77 16))))] []) (by
                intro  X67 w h71 hp69 hf70
                refine v_aload_n dX12_readDrive_179 rfl ?_
                refine v_get dX12_readDrive_180 fl_X12_160 ((hp69 77 (by decide)).trans (ent_77 _)) rfl (s_lt hn rfl) ?_
                refine v_iload_n dX12_readDrive_183 rfl ?_
                refine v_bipushI dX12_readDrive_184 rfl ?_
                refine v_iaddI dX12_readDrive_186 ?_
                refine v_aload_n dX12_readDrive_187 rfl ?_
                refine v_get dX12_readDrive_188 fl_X12_289 ((hp69 77 (by decide)).trans (ent_77 _)) rfl (s_lt hn rfl) ?_
                obtain ⟨q72, w⟩ := w
                refine v_iastI dX12_readDrive_191 ((hp69 113 (by decide)).trans (ent_113 _)) (s_lt hn rfl) q72.1 q72.2 (ix_le q72.2 (by decide)) (fun h73 E74 F75 => ?_)
                have hp76 := pic_st hp69 (show h73 113 = ent 113 (uI _ ((12 * (X10 77 16)) + 8) (X67 77 18)) from E74) F75
                have hf77 := Fr.up (c := 113) hf70 F75 rfl
                refine v_aload_n dX12_readDrive_192 rfl ?_
                refine v_get dX12_readDrive_193 fl_X12_254 ((hp76 77 (by decide)).trans (ent_77 _)) rfl (s_lt hn rfl) ?_
                replace w := w (fun  (X78 : XT) => ∀ h82 : Nat → sE, Pic X78 h82 → Fr h h82 → V (m_X12_readDrive, 9, 0, 0, n, pVw n h Q, s_G0) 0 0 n h82 218 [(0, .ref 77), (1, .int (iI (12 * (X10 77 16))))] []) (by
                  intro  X78 w h82 hp80 hf81
                  refine v_aload_n dX12_readDrive_218 rfl ?_
                  refine v_get dX12_readDrive_219 fl_X12_160 ((hp80 77 (by decide)).trans (ent_77 _)) rfl (s_lt hn rfl) ?_
                  refine v_iload_n dX12_readDrive_222 rfl ?_
                  refine v_bipushI dX12_readDrive_223 rfl ?_
                  refine v_iaddI dX12_readDrive_225 ?_
                  refine v_aload_n dX12_readDrive_226 rfl ?_
                  refine v_get dX12_readDrive_227 fl_X12_289 ((hp80 77 (by decide)).trans (ent_77 _)) rfl (s_lt hn rfl) ?_
                  obtain ⟨q83, w⟩ := w
                  refine v_iastI dX12_readDrive_230 ((hp80 113 (by decide)).trans (ent_113 _)) (s_lt hn rfl) q83.1 q83.2 (ix_le q83.2 (by decide)) (fun h84 E85 F86 => ?_)
                  have hp87 := pic_st hp80 (show h84 113 = ent 113 (uI _ ((12 * (X10 77 16)) + 9) (X78 77 18)) from E85) F86
                  have hf88 := Fr.up (c := 113) hf81 F86 rfl
                  exact v_vret dX12_readDrive_231 rfl (Nat.zero_le _) (Nat.zero_le _) ⟨rfl, hf88, _, rfl, hp87, w⟩
                )
                obtain ⟨q89, w⟩ := w
                refine v_if_neI (tgt := 218) dX12_readDrive_196 (by decide) q89.1 q89.2 (fun c90 => ?_) (fun c90 => ?_)
                · replace w := w.1 c90
                  exact w _ hp76 hf77
                · replace w := w.2 c90
                  refine v_aload_n dX12_readDrive_199 rfl ?_
                  refine v_ldc2I 294 dX12_readDrive_200 k_X12_383 rfl ?_
                  refine v_callVIr dX12_readDrive_203 ml_X12_306 (so_X12_isWord hn hp76  w) ((hp76 77 (by decide)).trans (ent_77 _)) rfl (s_lt hn rfl) rfl rfl (Nat.le_of_ble_eq_true rfl) (Nat.le_of_ble_eq_true rfl) (Nat.zero_le _) (Nat.zero_le _) (fun v91 w => ?_)
                  obtain ⟨q97, w⟩ := w
                  refine v_if_eqI (tgt := 218) dX12_readDrive_206 (by decide) q97.1 q97.2 (fun c98 => ?_) (fun c98 => ?_)
                  · replace w := w.1 c98
                    exact w _ hp76 hf77
                  · replace w := w.2 c98
                    refine v_aload_n dX12_readDrive_209 rfl ?_
                    refine v_callVVw dX12_readDrive_210 ml_X12_258 (so_X12_next hn hp76  w) ((hp76 77 (by decide)).trans (ent_77 _)) rfl (s_lt hn rfl) rfl rfl (Nat.le_of_ble_eq_true rfl) (Nat.le_of_ble_eq_true rfl) (Nat.zero_le _) (Nat.zero_le _) (fun X100 h101 hp103 hf102 w => ?_)
                    have hf104 := Fr.trans hf77 hf102
                    refine v_aload_n dX12_readDrive_213 rfl ?_
                    refine v_iconstI dX12_readDrive_214 ?_
                    refine v_callVVw dX12_readDrive_215 ml_X12_380 (so_X12_readExpression hn hp103  w) ((hp103 77 (by decide)).trans (ent_77 _)) rfl (s_lt hn rfl) rfl rfl (Nat.le_of_ble_eq_true rfl) (Nat.le_of_ble_eq_true rfl) (Nat.zero_le _) (Nat.zero_le _) (fun X106 h107 hp109 hf108 w => ?_)
                    have hf110 := Fr.trans hf104 hf108
                    exact w _ hp109 hf110
              )
              obtain ⟨q111, w⟩ := w
              refine v_if_neI (tgt := 179) dX12_readDrive_145 (by decide) q111.1 q111.2 (fun c112 => ?_) (fun c112 => ?_)
              · replace w := w.1 c112
                exact w _ hp65 hf66
              · replace w := w.2 c112
                refine v_aload_n dX12_readDrive_148 rfl ?_
                refine v_ldc2I 21279923 dX12_readDrive_149 k_X12_597 rfl ?_
                refine v_callVIr dX12_readDrive_152 ml_X12_306 (so_X12_isWord hn hp65  w) ((hp65 77 (by decide)).trans (ent_77 _)) rfl (s_lt hn rfl) rfl rfl (Nat.le_of_ble_eq_true rfl) (Nat.le_of_ble_eq_true rfl) (Nat.zero_le _) (Nat.zero_le _) (fun v113 w => ?_)
                obtain ⟨q119, w⟩ := w
                refine v_if_eqI (tgt := 179) dX12_readDrive_155 (by decide) q119.1 q119.2 (fun c120 => ?_) (fun c120 => ?_)
                · replace w := w.1 c120
                  exact w _ hp65 hf66
                · replace w := w.2 c120
                  refine v_aload_n dX12_readDrive_158 rfl ?_
                  refine v_callVVw dX12_readDrive_159 ml_X12_258 (so_X12_next hn hp65  w) ((hp65 77 (by decide)).trans (ent_77 _)) rfl (s_lt hn rfl) rfl rfl (Nat.le_of_ble_eq_true rfl) (Nat.le_of_ble_eq_true rfl) (Nat.zero_le _) (Nat.zero_le _) (fun X122 h123 hp125 hf124 w => ?_)
                  have hf126 := Fr.trans hf66 hf124
                  refine v_aload_n dX12_readDrive_162 rfl ?_
                  refine v_get dX12_readDrive_163 fl_X12_160 ((hp125 77 (by decide)).trans (ent_77 _)) rfl (s_lt hn rfl) ?_
                  refine v_iload_n dX12_readDrive_166 rfl ?_
                  refine v_bipushI dX12_readDrive_167 rfl ?_
                  refine v_iaddI dX12_readDrive_169 ?_
                  refine v_aload_n dX12_readDrive_170 rfl ?_
                  refine v_lconstI (w := 1) dX12_readDrive_171 rfl ?_
                  refine v_ldc2I 20 dX12_readDrive_172 k_X12_302 rfl ?_
                  refine v_callVIw dX12_readDrive_175 ml_X12_341 (so_X12_number hn hp125  w) ((hp125 77 (by decide)).trans (ent_77 _)) rfl (s_lt hn rfl) rfl rfl (Nat.le_of_ble_eq_true rfl) (Nat.le_of_ble_eq_true rfl) (Nat.zero_le _) (Nat.zero_le _) (fun v127 X128 h129 hp131 hf130 w => ?_)
                  have hf132 := Fr.trans hf126 hf130
                  refine v_iastI dX12_readDrive_178 ((hp131 113 (by decide)).trans (ent_113 _)) (s_lt hn rfl) q61.1 q61.2 (ix_le q61.2 (by decide)) (fun h133 E134 F135 => ?_)
                  have hp136 := pic_st hp131 (show h133 113 = ent 113 (uI _ ((12 * (X10 77 16)) + 10) v127) from E134) F135
                  have hf137 := Fr.up (c := 113) hf132 F135 rfl
                  exact w _ hp136 hf137
            )
            obtain ⟨q138, w⟩ := w
            refine v_if_neI (tgt := 131) dX12_readDrive_106 (by decide) q138.1 q138.2 (fun c139 => ?_) (fun c139 => ?_)
            · replace w := w.1 c139
              refine v_pick [0, 1] rfl ?_
              exact w _ hp54 hf55
            · replace w := w.2 c139
              refine v_aload_n dX12_readDrive_109 rfl ?_
              refine v_ldc2I 164968 dX12_readDrive_110 k_X12_595 rfl ?_
              refine v_callVIr dX12_readDrive_113 ml_X12_306 (so_X12_isWord hn hp54  w) ((hp54 77 (by decide)).trans (ent_77 _)) rfl (s_lt hn rfl) rfl rfl (Nat.le_of_ble_eq_true rfl) (Nat.le_of_ble_eq_true rfl) (Nat.zero_le _) (Nat.zero_le _) (fun v140 w => ?_)
              obtain ⟨q146, w⟩ := w
              refine v_if_eqI (tgt := 131) dX12_readDrive_116 (by decide) q146.1 q146.2 (fun c147 => ?_) (fun c147 => ?_)
              · replace w := w.1 c147
                refine v_pick [0, 1] rfl ?_
                exact w _ hp54 hf55
              · replace w := w.2 c147
                refine v_aload_n dX12_readDrive_119 rfl ?_
                refine v_callVVw dX12_readDrive_120 ml_X12_258 (so_X12_next hn hp54  w) ((hp54 77 (by decide)).trans (ent_77 _)) rfl (s_lt hn rfl) rfl rfl (Nat.le_of_ble_eq_true rfl) (Nat.le_of_ble_eq_true rfl) (Nat.zero_le _) (Nat.zero_le _) (fun X149 h150 hp152 hf151 w => ?_)
                have hf153 := Fr.trans hf55 hf151
                refine v_aload_n dX12_readDrive_123 rfl ?_
                refine v_iload_n dX12_readDrive_124 rfl ?_
                refine v_bipushI dX12_readDrive_125 rfl ?_
                refine v_iaddI dX12_readDrive_127 ?_
                refine v_callVVw dX12_readDrive_128 ml_X12_582 (so_X12_readSum hn hp152  w) ((hp152 77 (by decide)).trans (ent_77 _)) rfl (s_lt hn rfl) rfl rfl (Nat.le_of_ble_eq_true rfl) (Nat.le_of_ble_eq_true rfl) (Nat.zero_le _) (Nat.zero_le _) (fun X155 h156 hp158 hf157 w => ?_)
                have hf159 := Fr.trans hf153 hf157
                refine v_pick [0, 1] rfl ?_
                exact w _ hp158 hf159
          · replace w := w.2 c37
            refine v_aload_n dX12_readDrive_62 rfl ?_
            refine v_get dX12_readDrive_63 fl_X12_160 ((hp34 77 (by decide)).trans (ent_77 _)) rfl (s_lt hn rfl) ?_
            refine v_iload_n dX12_readDrive_66 rfl ?_
            refine v_iload_n dX12_readDrive_67 rfl ?_
            refine v_iaddI dX12_readDrive_68 ?_
            refine v_iconstI dX12_readDrive_69 ?_
            obtain ⟨q160, w⟩ := w
            refine v_iastI dX12_readDrive_70 ((hp34 113 (by decide)).trans (ent_113 _)) (s_lt hn rfl) q160.1 q160.2 (ix_le q160.2 (by decide)) (fun h161 E162 F163 => ?_)
            have hp164 := pic_st hp34 (show h161 113 = ent 113 (uI _ ((12 * (X10 77 16)) + x22) 0) from E162) F163
            have hf165 := Fr.up (c := 113) hf35 F163 rfl
            refine v_iincI dX12_readDrive_71 rfl (Nat.le_of_ble_eq_true rfl) ?_
            refine v_goto (tgt := 56) dX12_readDrive_74 (by decide) ?_
            refine v_pick [1, 2, 0] rfl ?_
            exact ih26 _ _ _ (Nat.lt_of_lt_of_le w.2 (Nat.le_of_lt_succ hm30)) w.1 hp164 hf165
      exact hL29 _ _ _ _ (Nat.lt_succ_self _) wi28 hp20 hf21
    · replace w := w.2 c16
      exact v_vret dX12_readDrive_35 rfl (Nat.zero_le _) (Nat.zero_le _) ⟨rfl, hf14, _, rfl, hp13, w⟩
  )
  obtain ⟨q166, w⟩ := w
  refine v_if_eqI (tgt := 24) dX12_readDrive_8 (by decide) q166.1 q166.2 (fun c167 => ?_) (fun c167 => ?_)
  · replace w := w.1 c167
    refine v_iconstI dX12_readDrive_24 ?_
    exact w
  · replace w := w.2 c167
    refine v_aload_n dX12_readDrive_11 rfl ?_
    refine v_get dX12_readDrive_12 fl_X12_377 ((hp 77 (by decide)).trans (ent_77 _)) rfl (s_lt hn rfl) ?_
    refine v_bipushI dX12_readDrive_15 rfl ?_
    obtain ⟨q168, w⟩ := w
    refine v_icmp_geI (tgt := 24) dX12_readDrive_17 (by decide) q168.1 q168.2 (by decide) (by decide) (fun c169 => ?_) (fun c169 => ?_)
    · replace w := w.1 c169
      refine v_iconstI dX12_readDrive_24 ?_
      exact w
    · replace w := w.2 c169
      refine v_iconstI dX12_readDrive_20 ?_
      refine v_goto (tgt := 25) dX12_readDrive_21 (by decide) ?_
      exact w
theorem dX12_beginsAt_0 : decode cX12_beginsAt 0 = .ok (.aload_n 0, 1) := by decide +kernel
theorem dX12_beginsAt_1 : decode cX12_beginsAt 1 = .ok (.iload_n 1, 1) := by decide +kernel
theorem dX12_beginsAt_2 : decode cX12_beginsAt 2 = .ok (.iconst 3, 1) := by decide +kernel
theorem dX12_beginsAt_3 : decode cX12_beginsAt 3 = .ok (.invokevirtual 224, 3) := by decide +kernel
theorem dX12_beginsAt_6 : decode cX12_beginsAt 6 = .ok (.aload_n 0, 1) := by decide +kernel
theorem dX12_beginsAt_7 : decode cX12_beginsAt 7 = .ok (.iload_n 1, 1) := by decide +kernel
theorem dX12_beginsAt_8 : decode cX12_beginsAt 8 = .ok (.iconst 4, 1) := by decide +kernel
theorem dX12_beginsAt_9 : decode cX12_beginsAt 9 = .ok (.invokevirtual 224, 3) := by decide +kernel
theorem dX12_beginsAt_12 : decode cX12_beginsAt 12 = .ok (.invokestatic 454, 3) := by decide +kernel
theorem dX12_beginsAt_15 : decode cX12_beginsAt 15 = .ok (.ireturn, 1) := by decide +kernel
def w_X12_beginsAt (a0 : Int) (X : XT) (Q : Int → Prop) : Prop :=
  (0 ≤ a0 ∧ a0 ≤ 4) ∧ R32 (X 79 (15 + 5 * a0 + 3)) ∧ R32 (X 79 (15 + 5 * a0 + 4)) ∧ Q (caF (X 79 (15 + 5 * a0 + 3)) (X 79 (15 + 5 * a0 + 4)))
set_option maxRecDepth 20000 in
theorem so_X12_beginsAt {n : Nat} {h : Nat → sE} {X : XT} {a0 : Int} {Q : Int → Prop} (hn : 115 ≤ n) (hp : Pic X h) (w : w_X12_beginsAt  a0 X Q) : Sp m_X12_beginsAt 3 0 0 [.ref 77, .int (iI a0)] n h (pIr n h Q) := by
  unfold w_X12_beginsAt at w
  refine Sp.ofV (by decide +kernel) (Nat.le_of_ble_eq_true rfl) ?_
  have hf : Fr h h := fun _ _ => rfl
  refine v_aload_n dX12_beginsAt_0 rfl ?_
  refine v_iload_n dX12_beginsAt_1 rfl ?_
  refine v_iconstI dX12_beginsAt_2 ?_
  obtain ⟨q1, w⟩ := w
  refine v_callVp dX12_beginsAt_3 ml_X12_224 (sv_X12_ofCloud (a := a0) (b := 3) (g77 := X 77) (g79 := X 79) hn (hp 77 (by decide)) (hp 79 (by decide)) q1 (by decide)) ((hp 77 (by decide)).trans (ent_77 _)) rfl (s_lt hn rfl) rfl rfl (Nat.le_of_ble_eq_true rfl) (Nat.le_of_ble_eq_true rfl) (Nat.zero_le _) (Nat.zero_le _) ?_
  refine v_aload_n dX12_beginsAt_6 rfl ?_
  refine v_iload_n dX12_beginsAt_7 rfl ?_
  refine v_iconstI dX12_beginsAt_8 ?_
  refine v_callVp dX12_beginsAt_9 ml_X12_224 (sv_X12_ofCloud (a := a0) (b := 4) (g77 := X 77) (g79 := X 79) hn (hp 77 (by decide)) (hp 79 (by decide)) q1 (by decide)) ((hp 77 (by decide)).trans (ent_77 _)) rfl (s_lt hn rfl) rfl rfl (Nat.le_of_ble_eq_true rfl) (Nat.le_of_ble_eq_true rfl) (Nat.zero_le _) (Nat.zero_le _) ?_
  obtain ⟨q2, q3, w⟩ := w
  refine v_callSp dX12_beginsAt_12 ml_X12_454 (sp_X12_cornerAt (x := (X 79 (15 + 5 * a0 + 3))) (y := (X 79 (15 + 5 * a0 + 4))) q2 q3) rfl rfl (Nat.le_of_ble_eq_true rfl) (Nat.le_of_ble_eq_true rfl) (Nat.zero_le _) (Nat.zero_le _) ?_
  exact v_iret dX12_beginsAt_15 rfl (Nat.zero_le _) (Nat.zero_le _) ⟨rfl, rfl, _, rfl, w⟩
theorem dX12_isWet_0 : decode cX12_isWet 0 = .ok (.iload_n 1, 1) := by decide +kernel
theorem dX12_isWet_1 : decode cX12_isWet 1 = .ok (.invokestatic 417, 3) := by decide +kernel
theorem dX12_isWet_4 : decode cX12_isWet 4 = .ok (.istore_n 2, 1) := by decide +kernel
theorem dX12_isWet_5 : decode cX12_isWet 5 = .ok (.iload_n 1, 1) := by decide +kernel
theorem dX12_isWet_6 : decode cX12_isWet 6 = .ok (.invokestatic 420, 3) := by decide +kernel
theorem dX12_isWet_9 : decode cX12_isWet 9 = .ok (.istore_n 3, 1) := by decide +kernel
theorem dX12_isWet_10 : decode cX12_isWet 10 = .ok (.iload_n 2, 1) := by decide +kernel
theorem dX12_isWet_11 : decode cX12_isWet 11 = .ok (.i2l, 1) := by decide +kernel
theorem dX12_isWet_12 : decode cX12_isWet 12 = .ok (.lconst 0, 1) := by decide +kernel
theorem dX12_isWet_13 : decode cX12_isWet 13 = .ok (.ldc2_w 440, 3) := by decide +kernel
theorem dX12_isWet_16 : decode cX12_isWet 16 = .ok (.invokestatic 175, 3) := by decide +kernel
theorem dX12_isWet_19 : decode cX12_isWet 19 = .ok (.ifCond .eq 34, 3) := by decide +kernel
theorem dX12_isWet_22 : decode cX12_isWet 22 = .ok (.iload_n 3, 1) := by decide +kernel
theorem dX12_isWet_23 : decode cX12_isWet 23 = .ok (.i2l, 1) := by decide +kernel
theorem dX12_isWet_24 : decode cX12_isWet 24 = .ok (.lconst 0, 1) := by decide +kernel
theorem dX12_isWet_25 : decode cX12_isWet 25 = .ok (.ldc2_w 440, 3) := by decide +kernel
theorem dX12_isWet_28 : decode cX12_isWet 28 = .ok (.invokestatic 175, 3) := by decide +kernel
theorem dX12_isWet_31 : decode cX12_isWet 31 = .ok (.ifCond .eq 22, 3) := by decide +kernel
theorem dX12_isWet_34 : decode cX12_isWet 34 = .ok (.aload_n 0, 1) := by decide +kernel
theorem dX12_isWet_35 : decode cX12_isWet 35 = .ok (.bipush 8, 2) := by decide +kernel
theorem dX12_isWet_37 : decode cX12_isWet 37 = .ok (.iload_n 3, 1) := by decide +kernel
theorem dX12_isWet_38 : decode cX12_isWet 38 = .ok (.imul, 1) := by decide +kernel
theorem dX12_isWet_39 : decode cX12_isWet 39 = .ok (.iload_n 2, 1) := by decide +kernel
theorem dX12_isWet_40 : decode cX12_isWet 40 = .ok (.iadd, 1) := by decide +kernel
theorem dX12_isWet_41 : decode cX12_isWet 41 = .ok (.iconst 2, 1) := by decide +kernel
theorem dX12_isWet_42 : decode cX12_isWet 42 = .ok (.invokevirtual 205, 3) := by decide +kernel
theorem dX12_isWet_45 : decode cX12_isWet 45 = .ok (.iconst 1, 1) := by decide +kernel
theorem dX12_isWet_46 : decode cX12_isWet 46 = .ok (.if_icmp .ne 7, 3) := by decide +kernel
theorem dX12_isWet_49 : decode cX12_isWet 49 = .ok (.iconst 1, 1) := by decide +kernel
theorem dX12_isWet_50 : decode cX12_isWet 50 = .ok (.goto 4, 3) := by decide +kernel
theorem dX12_isWet_53 : decode cX12_isWet 53 = .ok (.iconst 0, 1) := by decide +kernel
theorem dX12_isWet_54 : decode cX12_isWet 54 = .ok (.ireturn, 1) := by decide +kernel
def w_X12_isWet (a0 : Int) (X : XT) (Q : Int → Prop) : Prop :=
  (0 ≤ a0 ∧ a0 ≤ 2147483647) ∧ R32 (a0 % 24 - 8) ∧ (¬ (0 ≤ (a0 % 24 - 8) ∧ (a0 % 24 - 8) ≤ 7) → Q 0) ∧ ((0 ≤ (a0 % 24 - 8) ∧ (a0 % 24 - 8) ≤ 7) → R32 (a0 / 24 - 8) ∧ (¬ (0 ≤ (a0 / 24 - 8) ∧ (a0 / 24 - 8) ≤ 7) → Q 0) ∧ ((0 ≤ (a0 / 24 - 8) ∧ (a0 / 24 - 8) ≤ 7) → (0 ≤ ((8 * (a0 / 24 - 8)) + (a0 % 24 - 8)) ∧ ((8 * (a0 / 24 - 8)) + (a0 % 24 - 8)) ≤ 63) ∧ R32 (X 79 (40 + 3 * ((8 * (a0 / 24 - 8)) + (a0 % 24 - 8)) + 2)) ∧ (¬ (X 79 (40 + 3 * ((8 * (a0 / 24 - 8)) + (a0 % 24 - 8)) + 2)) = 1 → Q 0) ∧ ((X 79 (40 + 3 * ((8 * (a0 / 24 - 8)) + (a0 % 24 - 8)) + 2)) = 1 → Q 1)))
set_option maxRecDepth 20000 in
theorem so_X12_isWet {n : Nat} {h : Nat → sE} {X : XT} {a0 : Int} {Q : Int → Prop} (hn : 115 ≤ n) (hp : Pic X h) (w : w_X12_isWet  a0 X Q) : Sp m_X12_isWet 1 0 0 [.ref 77, .int (iI a0)] n h (pIr n h Q) := by
  unfold w_X12_isWet at w
  refine Sp.ofV (by decide +kernel) (Nat.le_of_ble_eq_true rfl) ?_
  have hf : Fr h h := fun _ _ => rfl
  refine v_iload_n dX12_isWet_0 rfl ?_
  obtain ⟨q1, w⟩ := w
  refine v_callSp dX12_isWet_1 ml_X12_417 (sp_X12_xOf (a := a0) q1) rfl rfl (Nat.le_of_ble_eq_true rfl) (Nat.le_of_ble_eq_true rfl) (Nat.zero_le _) (Nat.zero_le _) ?_
  refine v_istore_n dX12_isWet_4 (Nat.le_of_ble_eq_true rfl) ?_
  refine v_iload_n dX12_isWet_5 rfl ?_
  refine v_callSp dX12_isWet_6 ml_X12_420 (sp_X12_yOf (a := a0) q1) rfl rfl (Nat.le_of_ble_eq_true rfl) (Nat.le_of_ble_eq_true rfl) (Nat.zero_le _) (Nat.zero_le _) ?_
  refine v_istore_n dX12_isWet_9 (Nat.le_of_ble_eq_true rfl) ?_
  refine v_iload_n dX12_isWet_10 rfl ?_
  obtain ⟨q2, w⟩ := w
  refine v_i2lI dX12_isWet_11 q2.1 q2.2 ?_
  refine v_lconstI (w := 0) dX12_isWet_12 rfl ?_
  refine v_ldc2I 7 dX12_isWet_13 k_X12_440 rfl ?_
  refine v_callSp dX12_isWet_16 ml_X12_175 (sp_X12_in (v := (a0 % 24 - 8)) (lo := 0) (hi := 7) (r32_64 q2) (by decide) (by decide)) rfl rfl (Nat.le_of_ble_eq_true rfl) (Nat.le_of_ble_eq_true rfl) (Nat.zero_le _) (Nat.zero_le _) ?_
  refine v_ifeqB (tgt := 53) dX12_isWet_19 (by decide) (fun c3 => ?_) (fun c3 => ?_)
  · replace w := w.1 c3
    refine v_iconstI dX12_isWet_53 ?_
    exact v_z0 dX12_isWet_54 rfl (Nat.zero_le _) (Nat.zero_le _) ⟨rfl, rfl, _, rfl, w⟩
  · replace w := w.2 c3
    refine v_iload_n dX12_isWet_22 rfl ?_
    obtain ⟨q4, w⟩ := w
    refine v_i2lI dX12_isWet_23 q4.1 q4.2 ?_
    refine v_lconstI (w := 0) dX12_isWet_24 rfl ?_
    refine v_ldc2I 7 dX12_isWet_25 k_X12_440 rfl ?_
    refine v_callSp dX12_isWet_28 ml_X12_175 (sp_X12_in (v := (a0 / 24 - 8)) (lo := 0) (hi := 7) (r32_64 q4) (by decide) (by decide)) rfl rfl (Nat.le_of_ble_eq_true rfl) (Nat.le_of_ble_eq_true rfl) (Nat.zero_le _) (Nat.zero_le _) ?_
    refine v_ifeqB (tgt := 53) dX12_isWet_31 (by decide) (fun c5 => ?_) (fun c5 => ?_)
    · replace w := w.1 c5
      refine v_iconstI dX12_isWet_53 ?_
      exact v_z0 dX12_isWet_54 rfl (Nat.zero_le _) (Nat.zero_le _) ⟨rfl, rfl, _, rfl, w⟩
    · replace w := w.2 c5
      refine v_aload_n dX12_isWet_34 rfl ?_
      refine v_bipushI dX12_isWet_35 rfl ?_
      refine v_iload_n dX12_isWet_37 rfl ?_
      refine v_imulI dX12_isWet_38 ?_
      refine v_iload_n dX12_isWet_39 rfl ?_
      refine v_iaddI dX12_isWet_40 ?_
      refine v_iconstI dX12_isWet_41 ?_
      obtain ⟨q6, w⟩ := w
      refine v_callVp dX12_isWet_42 ml_X12_205 (sv_X12_ofField (a := ((8 * (a0 / 24 - 8)) + (a0 % 24 - 8))) (b := 2) (g77 := X 77) (g79 := X 79) hn (hp 77 (by decide)) (hp 79 (by decide)) q6 (by decide)) ((hp 77 (by decide)).trans (ent_77 _)) rfl (s_lt hn rfl) rfl rfl (Nat.le_of_ble_eq_true rfl) (Nat.le_of_ble_eq_true rfl) (Nat.zero_le _) (Nat.zero_le _) ?_
      refine v_iconstI dX12_isWet_45 ?_
      obtain ⟨q7, w⟩ := w
      refine v_icmp_neI (tgt := 53) dX12_isWet_46 (by decide) q7.1 q7.2 (by decide) (by decide) (fun c8 => ?_) (fun c8 => ?_)
      · replace w := w.1 c8
        refine v_iconstI dX12_isWet_53 ?_
        exact v_z0 dX12_isWet_54 rfl (Nat.zero_le _) (Nat.zero_le _) ⟨rfl, rfl, _, rfl, w⟩
      · replace w := w.2 c8
        refine v_iconstI dX12_isWet_49 ?_
        refine v_goto (tgt := 54) dX12_isWet_50 (by decide) ?_
        exact v_z1 dX12_isWet_54 rfl (Nat.zero_le _) (Nat.zero_le _) ⟨rfl, rfl, _, rfl, w⟩
theorem dX12_toldOf_0 : decode cX12_toldOf 0 = .ok (.iload_n 2, 1) := by decide +kernel
theorem dX12_toldOf_1 : decode cX12_toldOf 1 = .ok (.bipush 12, 2) := by decide +kernel
theorem dX12_toldOf_3 : decode cX12_toldOf 3 = .ok (.idiv, 1) := by decide +kernel
theorem dX12_toldOf_4 : decode cX12_toldOf 4 = .ok (.istore_n 3, 1) := by decide +kernel
theorem dX12_toldOf_5 : decode cX12_toldOf 5 = .ok (.aload_n 0, 1) := by decide +kernel
theorem dX12_toldOf_6 : decode cX12_toldOf 6 = .ok (.iload_n 3, 1) := by decide +kernel
theorem dX12_toldOf_7 : decode cX12_toldOf 7 = .ok (.invokevirtual 219, 3) := by decide +kernel
theorem dX12_toldOf_10 : decode cX12_toldOf 10 = .ok (.ifCond .eq 20, 3) := by decide +kernel
theorem dX12_toldOf_13 : decode cX12_toldOf 13 = .ok (.aload_n 0, 1) := by decide +kernel
theorem dX12_toldOf_14 : decode cX12_toldOf 14 = .ok (.getfield 102, 3) := by decide +kernel
theorem dX12_toldOf_17 : decode cX12_toldOf 17 = .ok (.bipush 12, 2) := by decide +kernel
theorem dX12_toldOf_19 : decode cX12_toldOf 19 = .ok (.iload_n 3, 1) := by decide +kernel
theorem dX12_toldOf_20 : decode cX12_toldOf 20 = .ok (.imul, 1) := by decide +kernel
theorem dX12_toldOf_21 : decode cX12_toldOf 21 = .ok (.iload_n 2, 1) := by decide +kernel
theorem dX12_toldOf_22 : decode cX12_toldOf 22 = .ok (.bipush 12, 2) := by decide +kernel
theorem dX12_toldOf_24 : decode cX12_toldOf 24 = .ok (.irem, 1) := by decide +kernel
theorem dX12_toldOf_25 : decode cX12_toldOf 25 = .ok (.iadd, 1) := by decide +kernel
theorem dX12_toldOf_26 : decode cX12_toldOf 26 = .ok (.iaload, 1) := by decide +kernel
theorem dX12_toldOf_27 : decode cX12_toldOf 27 = .ok (.goto 4, 3) := by decide +kernel
theorem dX12_toldOf_30 : decode cX12_toldOf 30 = .ok (.iconst (-1), 1) := by decide +kernel
theorem dX12_toldOf_31 : decode cX12_toldOf 31 = .ok (.istore 4, 2) := by decide +kernel
theorem dX12_toldOf_33 : decode cX12_toldOf 33 = .ok (.iload 4, 2) := by decide +kernel
theorem dX12_toldOf_35 : decode cX12_toldOf 35 = .ok (.iconst (-1), 1) := by decide +kernel
theorem dX12_toldOf_36 : decode cX12_toldOf 36 = .ok (.if_icmp .ne 9, 3) := by decide +kernel
theorem dX12_toldOf_39 : decode cX12_toldOf 39 = .ok (.ldc2_w 415, 3) := by decide +kernel
theorem dX12_toldOf_42 : decode cX12_toldOf 42 = .ok (.goto 24, 3) := by decide +kernel
theorem dX12_toldOf_45 : decode cX12_toldOf 45 = .ok (.iload_n 1, 1) := by decide +kernel
theorem dX12_toldOf_46 : decode cX12_toldOf 46 = .ok (.bipush 7, 2) := by decide +kernel
theorem dX12_toldOf_48 : decode cX12_toldOf 48 = .ok (.if_icmp .ne 12, 3) := by decide +kernel
theorem dX12_toldOf_51 : decode cX12_toldOf 51 = .ok (.iload 4, 2) := by decide +kernel
theorem dX12_toldOf_53 : decode cX12_toldOf 53 = .ok (.invokestatic 417, 3) := by decide +kernel
theorem dX12_toldOf_56 : decode cX12_toldOf 56 = .ok (.i2l, 1) := by decide +kernel
theorem dX12_toldOf_57 : decode cX12_toldOf 57 = .ok (.goto 9, 3) := by decide +kernel
theorem dX12_toldOf_60 : decode cX12_toldOf 60 = .ok (.iload 4, 2) := by decide +kernel
theorem dX12_toldOf_62 : decode cX12_toldOf 62 = .ok (.invokestatic 420, 3) := by decide +kernel
theorem dX12_toldOf_65 : decode cX12_toldOf 65 = .ok (.i2l, 1) := by decide +kernel
theorem dX12_toldOf_66 : decode cX12_toldOf 66 = .ok (.lreturn, 1) := by decide +kernel
def w_X12_toldOf (a0 a1 : Int) (X : XT) (Q : Int → Prop) : Prop :=
  R32 a1 ∧ (0 ≤ a1) ∧ R32 (a1 / 12) ∧ (0 ≤ X 79 0 ∧ X 79 0 ≤ 5) ∧ ∀ J6 : Int → Prop, (∀ (v5 : Int), (R32 v5 ∧ (¬ v5 = (-1) → R32 a0 ∧ (¬ a0 = 7 → (0 ≤ v5 ∧ v5 ≤ 2147483647) ∧ R32 (v5 / 24 - 8) ∧ Q (v5 / 24 - 8)) ∧ (a0 = 7 → (0 ≤ v5 ∧ v5 ≤ 2147483647) ∧ R32 (v5 % 24 - 8) ∧ Q (v5 % 24 - 8))) ∧ (v5 = (-1) → Q 100)) → J6 v5) → (¬ (0 ≤ (a1 / 12) ∧ (a1 / 12) ≤ X 79 0 - 1) → J6 (-1)) ∧ ((0 ≤ (a1 / 12) ∧ (a1 / 12) ≤ X 79 0 - 1) → (0 ≤ ((12 * (a1 / 12)) + (a1 % 12)) ∧ ((12 * (a1 / 12)) + (a1 % 12)) < 60) ∧ J6 (X 94 ((12 * (a1 / 12)) + (a1 % 12))))
set_option maxRecDepth 20000 in
theorem so_X12_toldOf {n : Nat} {h : Nat → sE} {X : XT} {a0 a1 : Int} {Q : Int → Prop} (hn : 115 ≤ n) (hp : Pic X h) (w : w_X12_toldOf  a0 a1 X Q) : Sp m_X12_toldOf 2 0 0 [.ref 77, .int (iI a0), .int (iI a1)] n h (pLr n h Q) := by
  unfold w_X12_toldOf at w
  refine Sp.ofV (by decide +kernel) (Nat.le_of_ble_eq_true rfl) ?_
  have hf : Fr h h := fun _ _ => rfl
  refine v_iload_n dX12_toldOf_0 rfl ?_
  refine v_bipushI dX12_toldOf_1 rfl ?_
  obtain ⟨q1, q2, w⟩ := w
  refine v_idivI dX12_toldOf_3 q2 q1.2 (by decide) (by decide) ?_
  refine v_istore_n dX12_toldOf_4 (Nat.le_of_ble_eq_true rfl) ?_
  refine v_aload_n dX12_toldOf_5 rfl ?_
  refine v_iload_n dX12_toldOf_6 rfl ?_
  obtain ⟨q3, q4, w⟩ := w
  refine v_callVp dX12_toldOf_7 ml_X12_219 (sp_X12_isCloud (a := (a1 / 12)) (g77 := X 77) (g79 := X 79) hn (hp 77 (by decide)) (hp 79 (by decide)) q3 q4) ((hp 77 (by decide)).trans (ent_77 _)) rfl (s_lt hn rfl) rfl rfl (Nat.le_of_ble_eq_true rfl) (Nat.le_of_ble_eq_true rfl) (Nat.zero_le _) (Nat.zero_le _) ?_
  replace w := w (fun (v5 : Int) => V (m_X12_toldOf, 2, 0, 0, n, pLr n h Q, s_G0) 0 0 n h 31 [(1, .int (iI a0))] [.int (iI v5)]) (by
    intro v5 w
    refine v_istore dX12_toldOf_31 (Nat.le_of_ble_eq_true rfl) ?_
    refine v_iload dX12_toldOf_33 rfl ?_
    refine v_iconstI dX12_toldOf_35 ?_
    obtain ⟨q7, w⟩ := w
    refine v_icmp_neI (tgt := 45) dX12_toldOf_36 (by decide) q7.1 q7.2 (by decide) (by decide) (fun c8 => ?_) (fun c8 => ?_)
    · replace w := w.1 c8
      refine v_iload_n dX12_toldOf_45 rfl ?_
      refine v_bipushI dX12_toldOf_46 rfl ?_
      obtain ⟨q9, w⟩ := w
      refine v_icmp_neI (tgt := 60) dX12_toldOf_48 (by decide) q9.1 q9.2 (by decide) (by decide) (fun c10 => ?_) (fun c10 => ?_)
      · replace w := w.1 c10
        refine v_iload dX12_toldOf_60 rfl ?_
        obtain ⟨q11, w⟩ := w
        refine v_callSp dX12_toldOf_62 ml_X12_420 (sp_X12_yOf (a := v5) q11) rfl rfl (Nat.le_of_ble_eq_true rfl) (Nat.le_of_ble_eq_true rfl) (Nat.zero_le _) (Nat.zero_le _) ?_
        obtain ⟨q12, w⟩ := w
        refine v_i2lI dX12_toldOf_65 q12.1 q12.2 ?_
        exact v_lret dX12_toldOf_66 rfl (Nat.zero_le _) (Nat.zero_le _) ⟨rfl, rfl, _, rfl, w⟩
      · replace w := w.2 c10
        refine v_iload dX12_toldOf_51 rfl ?_
        obtain ⟨q13, w⟩ := w
        refine v_callSp dX12_toldOf_53 ml_X12_417 (sp_X12_xOf (a := v5) q13) rfl rfl (Nat.le_of_ble_eq_true rfl) (Nat.le_of_ble_eq_true rfl) (Nat.zero_le _) (Nat.zero_le _) ?_
        obtain ⟨q14, w⟩ := w
        refine v_i2lI dX12_toldOf_56 q14.1 q14.2 ?_
        refine v_goto (tgt := 66) dX12_toldOf_57 (by decide) ?_
        exact v_lret dX12_toldOf_66 rfl (Nat.zero_le _) (Nat.zero_le _) ⟨rfl, rfl, _, rfl, w⟩
    · replace w := w.2 c8
      refine v_ldc2I 100 dX12_toldOf_39 k_X12_415 rfl ?_
      refine v_goto (tgt := 66) dX12_toldOf_42 (by decide) ?_
      exact v_lret dX12_toldOf_66 rfl (Nat.zero_le _) (Nat.zero_le _) ⟨rfl, rfl, _, rfl, w⟩
  )
  refine v_ifeqB (tgt := 30) dX12_toldOf_10 (by decide) (fun c15 => ?_) (fun c15 => ?_)
  · replace w := w.1 c15
    refine v_iconstI dX12_toldOf_30 ?_
    refine v_pick [2] rfl ?_
    exact w
  · replace w := w.2 c15
    refine v_aload_n dX12_toldOf_13 rfl ?_
    refine v_get dX12_toldOf_14 fl_X12_102 ((hp 77 (by decide)).trans (ent_77 _)) rfl (s_lt hn rfl) ?_
    refine v_bipushI dX12_toldOf_17 rfl ?_
    refine v_iload_n dX12_toldOf_19 rfl ?_
    refine v_imulI dX12_toldOf_20 ?_
    refine v_iload_n dX12_toldOf_21 rfl ?_
    refine v_bipushI dX12_toldOf_22 rfl ?_
    refine v_iremI dX12_toldOf_24 q2 q1.2 (by decide) (by decide) ?_
    refine v_iaddI dX12_toldOf_25 ?_
    obtain ⟨q16, w⟩ := w
    refine v_ialdI dX12_toldOf_26 ((hp 94 (by decide)).trans (ent_94 _)) (s_lt hn rfl) q16.1 q16.2 (ix_le q16.2 (by decide)) ?_
    refine v_goto (tgt := 31) dX12_toldOf_27 (by decide) ?_
    refine v_pick [2] rfl ?_
    exact w
theorem dX12_reckon_0 : decode cX12_reckon 0 = .ok (.iload_n 1, 1) := by decide +kernel
theorem dX12_reckon_1 : decode cX12_reckon 1 = .ok (.tableswitch 148 20 26 #[43, 48, 53, 58, 90, 122, 135], 43) := by decide +kernel
theorem dX12_reckon_44 : decode cX12_reckon 44 = .ok (.lload_n 2, 1) := by decide +kernel
theorem dX12_reckon_45 : decode cX12_reckon 45 = .ok (.lload 4, 2) := by decide +kernel
theorem dX12_reckon_47 : decode cX12_reckon 47 = .ok (.ladd, 1) := by decide +kernel
theorem dX12_reckon_48 : decode cX12_reckon 48 = .ok (.lreturn, 1) := by decide +kernel
theorem dX12_reckon_49 : decode cX12_reckon 49 = .ok (.lload_n 2, 1) := by decide +kernel
theorem dX12_reckon_50 : decode cX12_reckon 50 = .ok (.lload 4, 2) := by decide +kernel
theorem dX12_reckon_52 : decode cX12_reckon 52 = .ok (.lsub, 1) := by decide +kernel
theorem dX12_reckon_53 : decode cX12_reckon 53 = .ok (.lreturn, 1) := by decide +kernel
theorem dX12_reckon_54 : decode cX12_reckon 54 = .ok (.lload_n 2, 1) := by decide +kernel
theorem dX12_reckon_55 : decode cX12_reckon 55 = .ok (.lload 4, 2) := by decide +kernel
theorem dX12_reckon_57 : decode cX12_reckon 57 = .ok (.lmul, 1) := by decide +kernel
theorem dX12_reckon_58 : decode cX12_reckon 58 = .ok (.lreturn, 1) := by decide +kernel
theorem dX12_reckon_59 : decode cX12_reckon 59 = .ok (.aload_n 0, 1) := by decide +kernel
theorem dX12_reckon_60 : decode cX12_reckon 60 = .ok (.lload 4, 2) := by decide +kernel
theorem dX12_reckon_62 : decode cX12_reckon 62 = .ok (.lconst 0, 1) := by decide +kernel
theorem dX12_reckon_63 : decode cX12_reckon 63 = .ok (.lcmp, 1) := by decide +kernel
theorem dX12_reckon_64 : decode cX12_reckon 64 = .ok (.ifCond .ne 7, 3) := by decide +kernel
theorem dX12_reckon_67 : decode cX12_reckon 67 = .ok (.iconst 1, 1) := by decide +kernel
theorem dX12_reckon_68 : decode cX12_reckon 68 = .ok (.goto 4, 3) := by decide +kernel
theorem dX12_reckon_71 : decode cX12_reckon 71 = .ok (.iconst 0, 1) := by decide +kernel
theorem dX12_reckon_72 : decode cX12_reckon 72 = .ok (.putfield 394, 3) := by decide +kernel
theorem dX12_reckon_75 : decode cX12_reckon 75 = .ok (.aload_n 0, 1) := by decide +kernel
theorem dX12_reckon_76 : decode cX12_reckon 76 = .ok (.getfield 394, 3) := by decide +kernel
theorem dX12_reckon_79 : decode cX12_reckon 79 = .ok (.ifCond .eq 7, 3) := by decide +kernel
theorem dX12_reckon_82 : decode cX12_reckon 82 = .ok (.lconst 0, 1) := by decide +kernel
theorem dX12_reckon_83 : decode cX12_reckon 83 = .ok (.goto 7, 3) := by decide +kernel
theorem dX12_reckon_86 : decode cX12_reckon 86 = .ok (.lload_n 2, 1) := by decide +kernel
theorem dX12_reckon_87 : decode cX12_reckon 87 = .ok (.lload 4, 2) := by decide +kernel
theorem dX12_reckon_89 : decode cX12_reckon 89 = .ok (.ldiv, 1) := by decide +kernel
theorem dX12_reckon_90 : decode cX12_reckon 90 = .ok (.lreturn, 1) := by decide +kernel
theorem dX12_reckon_91 : decode cX12_reckon 91 = .ok (.aload_n 0, 1) := by decide +kernel
theorem dX12_reckon_92 : decode cX12_reckon 92 = .ok (.lload 4, 2) := by decide +kernel
theorem dX12_reckon_94 : decode cX12_reckon 94 = .ok (.lconst 0, 1) := by decide +kernel
theorem dX12_reckon_95 : decode cX12_reckon 95 = .ok (.lcmp, 1) := by decide +kernel
theorem dX12_reckon_96 : decode cX12_reckon 96 = .ok (.ifCond .ne 7, 3) := by decide +kernel
theorem dX12_reckon_99 : decode cX12_reckon 99 = .ok (.iconst 1, 1) := by decide +kernel
theorem dX12_reckon_100 : decode cX12_reckon 100 = .ok (.goto 4, 3) := by decide +kernel
theorem dX12_reckon_103 : decode cX12_reckon 103 = .ok (.iconst 0, 1) := by decide +kernel
theorem dX12_reckon_104 : decode cX12_reckon 104 = .ok (.putfield 394, 3) := by decide +kernel
theorem dX12_reckon_107 : decode cX12_reckon 107 = .ok (.aload_n 0, 1) := by decide +kernel
theorem dX12_reckon_108 : decode cX12_reckon 108 = .ok (.getfield 394, 3) := by decide +kernel
theorem dX12_reckon_111 : decode cX12_reckon 111 = .ok (.ifCond .eq 7, 3) := by decide +kernel
theorem dX12_reckon_114 : decode cX12_reckon 114 = .ok (.lconst 0, 1) := by decide +kernel
theorem dX12_reckon_115 : decode cX12_reckon 115 = .ok (.goto 7, 3) := by decide +kernel
theorem dX12_reckon_118 : decode cX12_reckon 118 = .ok (.lload_n 2, 1) := by decide +kernel
theorem dX12_reckon_119 : decode cX12_reckon 119 = .ok (.lload 4, 2) := by decide +kernel
theorem dX12_reckon_121 : decode cX12_reckon 121 = .ok (.lrem, 1) := by decide +kernel
theorem dX12_reckon_122 : decode cX12_reckon 122 = .ok (.lreturn, 1) := by decide +kernel
theorem dX12_reckon_123 : decode cX12_reckon 123 = .ok (.lload_n 2, 1) := by decide +kernel
theorem dX12_reckon_124 : decode cX12_reckon 124 = .ok (.lload 4, 2) := by decide +kernel
theorem dX12_reckon_126 : decode cX12_reckon 126 = .ok (.lcmp, 1) := by decide +kernel
theorem dX12_reckon_127 : decode cX12_reckon 127 = .ok (.ifCond .ge 7, 3) := by decide +kernel
theorem dX12_reckon_130 : decode cX12_reckon 130 = .ok (.lconst 1, 1) := by decide +kernel
theorem dX12_reckon_131 : decode cX12_reckon 131 = .ok (.goto 4, 3) := by decide +kernel
theorem dX12_reckon_134 : decode cX12_reckon 134 = .ok (.lconst 0, 1) := by decide +kernel
theorem dX12_reckon_135 : decode cX12_reckon 135 = .ok (.lreturn, 1) := by decide +kernel
theorem dX12_reckon_136 : decode cX12_reckon 136 = .ok (.lload_n 2, 1) := by decide +kernel
theorem dX12_reckon_137 : decode cX12_reckon 137 = .ok (.lload 4, 2) := by decide +kernel
theorem dX12_reckon_139 : decode cX12_reckon 139 = .ok (.lcmp, 1) := by decide +kernel
theorem dX12_reckon_140 : decode cX12_reckon 140 = .ok (.ifCond .le 7, 3) := by decide +kernel
theorem dX12_reckon_143 : decode cX12_reckon 143 = .ok (.lconst 1, 1) := by decide +kernel
theorem dX12_reckon_144 : decode cX12_reckon 144 = .ok (.goto 4, 3) := by decide +kernel
theorem dX12_reckon_147 : decode cX12_reckon 147 = .ok (.lconst 0, 1) := by decide +kernel
theorem dX12_reckon_148 : decode cX12_reckon 148 = .ok (.lreturn, 1) := by decide +kernel
theorem dX12_reckon_149 : decode cX12_reckon 149 = .ok (.lload_n 2, 1) := by decide +kernel
theorem dX12_reckon_150 : decode cX12_reckon 150 = .ok (.lload 4, 2) := by decide +kernel
theorem dX12_reckon_152 : decode cX12_reckon 152 = .ok (.lcmp, 1) := by decide +kernel
theorem dX12_reckon_153 : decode cX12_reckon 153 = .ok (.ifCond .ne 7, 3) := by decide +kernel
theorem dX12_reckon_156 : decode cX12_reckon 156 = .ok (.lconst 1, 1) := by decide +kernel
theorem dX12_reckon_157 : decode cX12_reckon 157 = .ok (.goto 4, 3) := by decide +kernel
theorem dX12_reckon_160 : decode cX12_reckon 160 = .ok (.lconst 0, 1) := by decide +kernel
theorem dX12_reckon_161 : decode cX12_reckon 161 = .ok (.lreturn, 1) := by decide +kernel
def w_X12_reckon (a0 a1 a2 : Int) (X : XT) (Q : Int → XT → Prop) : Prop :=
  R32 a0 ∧ (a0 = 20 → Q (a1 + a2) X) ∧ (a0 = 21 → Q (a1 - a2) X) ∧ (a0 = 22 → Q (a1 * a2) X) ∧ (a0 = 23 → ∀ J7 : Int → Prop, (∀ (v6 : Int), ((v6 = 0 ∨ v6 = 1) ∧ R32 ((x_st X 77 33 v6) 77 33) ∧ (((x_st X 77 33 v6) 77 33) = 0 → R64 a1 ∧ R64 a2 ∧ (¬ a2 = 0) ∧ (-1000000000000000000 ≤ a1) ∧ Q (Int.tdiv a1 a2) (x_st X 77 33 v6)) ∧ (¬ ((x_st X 77 33 v6) 77 33) = 0 → Q 0 (x_st X 77 33 v6))) → J7 v6) → R64 a2 ∧ (¬ a2 = 0 → J7 0) ∧ (a2 = 0 → J7 1)) ∧ (a0 = 24 → ∀ J24 : Int → Prop, (∀ (v23 : Int), ((v23 = 0 ∨ v23 = 1) ∧ R32 ((x_st X 77 33 v23) 77 33) ∧ (((x_st X 77 33 v23) 77 33) = 0 → R64 a1 ∧ R64 a2 ∧ (¬ a2 = 0) ∧ (-1000000000000000000 ≤ a1) ∧ Q (Int.tmod a1 a2) (x_st X 77 33 v23)) ∧ (¬ ((x_st X 77 33 v23) 77 33) = 0 → Q 0 (x_st X 77 33 v23))) → J24 v23) → R64 a2 ∧ (¬ a2 = 0 → J24 0) ∧ (a2 = 0 → J24 1)) ∧ (a0 = 25 → R64 a1 ∧ R64 a2 ∧ (a2 ≤ a1 → Q 0 X) ∧ (¬ a2 ≤ a1 → Q 1 X)) ∧ (a0 = 26 → R64 a1 ∧ R64 a2 ∧ (a1 ≤ a2 → Q 0 X) ∧ (¬ a1 ≤ a2 → Q 1 X)) ∧ (¬ a0 = 20 ∧ ¬ a0 = 21 ∧ ¬ a0 = 22 ∧ ¬ a0 = 23 ∧ ¬ a0 = 24 ∧ ¬ a0 = 25 ∧ ¬ a0 = 26 → R64 a1 ∧ R64 a2 ∧ (¬ a1 = a2 → Q 0 X) ∧ (a1 = a2 → Q 1 X))
set_option maxRecDepth 20000 in
theorem so_X12_reckon {n : Nat} {h : Nat → sE} {X : XT} {a0 a1 a2 : Int} {Q : Int → XT → Prop} (hn : 115 ≤ n) (hp : Pic X h) (w : w_X12_reckon  a0 a1 a2 X Q) : Sp m_X12_reckon 0 0 0 [.ref 77, .int (iI a0), .long (jJ a1), .long (jJ a2)] n h (pLw n h Q) := by
  unfold w_X12_reckon at w
  refine Sp.ofV (by decide +kernel) (Nat.le_of_ble_eq_true rfl) ?_
  have hf : Fr h h := fun _ _ => rfl
  refine v_iload_n dX12_reckon_0 rfl ?_
  obtain ⟨q1, w⟩ := w
  by_cases c2 : a0 = 20
  · refine v_tabInI (tgt := 44) 20 dX12_reckon_1 c2 (by decide) (by decide) (by decide) (by decide) rfl (by decide) ?_
    replace w := w.1 c2
    refine v_lload_n dX12_reckon_44 rfl ?_
    refine v_lload dX12_reckon_45 rfl ?_
    refine v_laddI dX12_reckon_47 ?_
    exact v_lret dX12_reckon_48 rfl (Nat.zero_le _) (Nat.zero_le _) ⟨rfl, hf, _, _, rfl, hp, w⟩
  by_cases c3 : a0 = 21
  · refine v_tabInI (tgt := 49) 21 dX12_reckon_1 c3 (by decide) (by decide) (by decide) (by decide) rfl (by decide) ?_
    replace w := w.2.1 c3
    refine v_lload_n dX12_reckon_49 rfl ?_
    refine v_lload dX12_reckon_50 rfl ?_
    refine v_lsubI dX12_reckon_52 ?_
    exact v_lret dX12_reckon_53 rfl (Nat.zero_le _) (Nat.zero_le _) ⟨rfl, hf, _, _, rfl, hp, w⟩
  by_cases c4 : a0 = 22
  · refine v_tabInI (tgt := 54) 22 dX12_reckon_1 c4 (by decide) (by decide) (by decide) (by decide) rfl (by decide) ?_
    replace w := w.2.2.1 c4
    refine v_lload_n dX12_reckon_54 rfl ?_
    refine v_lload dX12_reckon_55 rfl ?_
    refine v_lmulI dX12_reckon_57 ?_
    exact v_lret dX12_reckon_58 rfl (Nat.zero_le _) (Nat.zero_le _) ⟨rfl, hf, _, _, rfl, hp, w⟩
  by_cases c5 : a0 = 23
  · refine v_tabInI (tgt := 59) 23 dX12_reckon_1 c5 (by decide) (by decide) (by decide) (by decide) rfl (by decide) ?_
    replace w := w.2.2.2.1 c5
    refine v_aload_n dX12_reckon_59 rfl ?_
    refine v_lload dX12_reckon_60 rfl ?_
    refine v_lconstI (w := 0) dX12_reckon_62 rfl ?_
    replace w := w (fun (v6 : Int) => V (m_X12_reckon, 0, 0, 0, n, pLw n h Q, s_G0) 0 0 n h 72 [(0, .ref 77), (2, .long (jJ a1)), (4, .long (jJ a2))] [.int (iI v6), .ref 77]) (by
      intro v6 w
      obtain ⟨q11, w⟩ := w
      refine v_put dX12_reckon_72 fl_X12_394 ((hp 77 (by decide)).trans (ent_77 _)) (s_lt hn rfl) (Nat.le_of_ble_eq_true rfl) (iI_nbs q11) trivial (fun h8 E9 F10 => ?_)
      have hp12 := pic_st hp (show h8 77 = ent 77 (uI _ 33 v6) from E9) F10
      have hf13 := Fr.up (c := 77) hf F10 rfl
      refine v_aload_n dX12_reckon_75 rfl ?_
      refine v_get dX12_reckon_76 fl_X12_394 ((hp12 77 (by decide)).trans (ent_77 _)) rfl (s_lt hn rfl) ?_
      obtain ⟨q14, w⟩ := w
      refine v_if_eqI (tgt := 86) dX12_reckon_79 (by decide) q14.1 q14.2 (fun c15 => ?_) (fun c15 => ?_)
      · replace w := w.1 c15
        refine v_lload_n dX12_reckon_86 rfl ?_
        refine v_lload dX12_reckon_87 rfl ?_
        obtain ⟨q16, q17, q18, q19, w⟩ := w
        refine v_ldivT dX12_reckon_89 q16 q17 q18 q19 ?_
        exact v_lret dX12_reckon_90 rfl (Nat.zero_le _) (Nat.zero_le _) ⟨rfl, hf13, _, _, rfl, hp12, w⟩
      · replace w := w.2 c15
        refine v_lconstI (w := 0) dX12_reckon_82 rfl ?_
        refine v_goto (tgt := 90) dX12_reckon_83 (by decide) ?_
        exact v_lret dX12_reckon_90 rfl (Nat.zero_le _) (Nat.zero_le _) ⟨rfl, hf13, _, _, rfl, hp12, w⟩
    )
    obtain ⟨q20, w⟩ := w
    refine v_lcmp_neI (tgt := 71) dX12_reckon_63 dX12_reckon_64 (by decide) q20.1 q20.2 (by decide) (by decide) (fun c21 => ?_) (fun c21 => ?_)
    · replace w := w.1 c21
      refine v_iconstI dX12_reckon_71 ?_
      refine v_pick [0, 2, 3] rfl ?_
      exact w
    · replace w := w.2 c21
      refine v_iconstI dX12_reckon_67 ?_
      refine v_goto (tgt := 72) dX12_reckon_68 (by decide) ?_
      refine v_pick [0, 2, 3] rfl ?_
      exact w
  by_cases c22 : a0 = 24
  · refine v_tabInI (tgt := 91) 24 dX12_reckon_1 c22 (by decide) (by decide) (by decide) (by decide) rfl (by decide) ?_
    replace w := w.2.2.2.2.1 c22
    refine v_aload_n dX12_reckon_91 rfl ?_
    refine v_lload dX12_reckon_92 rfl ?_
    refine v_lconstI (w := 0) dX12_reckon_94 rfl ?_
    replace w := w (fun (v23 : Int) => V (m_X12_reckon, 0, 0, 0, n, pLw n h Q, s_G0) 0 0 n h 104 [(0, .ref 77), (2, .long (jJ a1)), (4, .long (jJ a2))] [.int (iI v23), .ref 77]) (by
      intro v23 w
      obtain ⟨q28, w⟩ := w
      refine v_put dX12_reckon_104 fl_X12_394 ((hp 77 (by decide)).trans (ent_77 _)) (s_lt hn rfl) (Nat.le_of_ble_eq_true rfl) (iI_nbs q28) trivial (fun h25 E26 F27 => ?_)
      have hp29 := pic_st hp (show h25 77 = ent 77 (uI _ 33 v23) from E26) F27
      have hf30 := Fr.up (c := 77) hf F27 rfl
      refine v_aload_n dX12_reckon_107 rfl ?_
      refine v_get dX12_reckon_108 fl_X12_394 ((hp29 77 (by decide)).trans (ent_77 _)) rfl (s_lt hn rfl) ?_
      obtain ⟨q31, w⟩ := w
      refine v_if_eqI (tgt := 118) dX12_reckon_111 (by decide) q31.1 q31.2 (fun c32 => ?_) (fun c32 => ?_)
      · replace w := w.1 c32
        refine v_lload_n dX12_reckon_118 rfl ?_
        refine v_lload dX12_reckon_119 rfl ?_
        obtain ⟨q33, q34, q35, q36, w⟩ := w
        refine v_lremT dX12_reckon_121 q33 q34 q35 q36 ?_
        exact v_lret dX12_reckon_122 rfl (Nat.zero_le _) (Nat.zero_le _) ⟨rfl, hf30, _, _, rfl, hp29, w⟩
      · replace w := w.2 c32
        refine v_lconstI (w := 0) dX12_reckon_114 rfl ?_
        refine v_goto (tgt := 122) dX12_reckon_115 (by decide) ?_
        exact v_lret dX12_reckon_122 rfl (Nat.zero_le _) (Nat.zero_le _) ⟨rfl, hf30, _, _, rfl, hp29, w⟩
    )
    obtain ⟨q37, w⟩ := w
    refine v_lcmp_neI (tgt := 103) dX12_reckon_95 dX12_reckon_96 (by decide) q37.1 q37.2 (by decide) (by decide) (fun c38 => ?_) (fun c38 => ?_)
    · replace w := w.1 c38
      refine v_iconstI dX12_reckon_103 ?_
      refine v_pick [0, 2, 3] rfl ?_
      exact w
    · replace w := w.2 c38
      refine v_iconstI dX12_reckon_99 ?_
      refine v_goto (tgt := 104) dX12_reckon_100 (by decide) ?_
      refine v_pick [0, 2, 3] rfl ?_
      exact w
  by_cases c39 : a0 = 25
  · refine v_tabInI (tgt := 123) 25 dX12_reckon_1 c39 (by decide) (by decide) (by decide) (by decide) rfl (by decide) ?_
    replace w := w.2.2.2.2.2.1 c39
    refine v_lload_n dX12_reckon_123 rfl ?_
    refine v_lload dX12_reckon_124 rfl ?_
    obtain ⟨q40, q41, w⟩ := w
    refine v_lcmp_geI (tgt := 134) dX12_reckon_126 dX12_reckon_127 (by decide) q40.1 q40.2 q41.1 q41.2 (fun c42 => ?_) (fun c42 => ?_)
    · replace w := w.1 c42
      refine v_lconstI (w := 0) dX12_reckon_134 rfl ?_
      exact v_lret dX12_reckon_135 rfl (Nat.zero_le _) (Nat.zero_le _) ⟨rfl, hf, _, _, rfl, hp, w⟩
    · replace w := w.2 c42
      refine v_lconstI (w := 1) dX12_reckon_130 rfl ?_
      refine v_goto (tgt := 135) dX12_reckon_131 (by decide) ?_
      exact v_lret dX12_reckon_135 rfl (Nat.zero_le _) (Nat.zero_le _) ⟨rfl, hf, _, _, rfl, hp, w⟩
  by_cases c43 : a0 = 26
  · refine v_tabInI (tgt := 136) 26 dX12_reckon_1 c43 (by decide) (by decide) (by decide) (by decide) rfl (by decide) ?_
    replace w := w.2.2.2.2.2.2.1 c43
    refine v_lload_n dX12_reckon_136 rfl ?_
    refine v_lload dX12_reckon_137 rfl ?_
    obtain ⟨q44, q45, w⟩ := w
    refine v_lcmp_leI (tgt := 147) dX12_reckon_139 dX12_reckon_140 (by decide) q44.1 q44.2 q45.1 q45.2 (fun c46 => ?_) (fun c46 => ?_)
    · replace w := w.1 c46
      refine v_lconstI (w := 0) dX12_reckon_147 rfl ?_
      exact v_lret dX12_reckon_148 rfl (Nat.zero_le _) (Nat.zero_le _) ⟨rfl, hf, _, _, rfl, hp, w⟩
    · replace w := w.2 c46
      refine v_lconstI (w := 1) dX12_reckon_143 rfl ?_
      refine v_goto (tgt := 148) dX12_reckon_144 (by decide) ?_
      exact v_lret dX12_reckon_148 rfl (Nat.zero_le _) (Nat.zero_le _) ⟨rfl, hf, _, _, rfl, hp, w⟩
  replace w := w.2.2.2.2.2.2.2 ⟨c2, c3, c4, c5, c22, c39, c43⟩
  refine v_tabOutI (tgt := 149) dX12_reckon_1 q1.1 q1.2 (by omega) (by decide) ?_
  refine v_lload_n dX12_reckon_149 rfl ?_
  refine v_lload dX12_reckon_150 rfl ?_
  obtain ⟨q47, q48, w⟩ := w
  refine v_lcmp_neI (tgt := 160) dX12_reckon_152 dX12_reckon_153 (by decide) q47.1 q47.2 q48.1 q48.2 (fun c49 => ?_) (fun c49 => ?_)
  · replace w := w.1 c49
    refine v_lconstI (w := 0) dX12_reckon_160 rfl ?_
    exact v_lret dX12_reckon_161 rfl (Nat.zero_le _) (Nat.zero_le _) ⟨rfl, hf, _, _, rfl, hp, w⟩
  · replace w := w.2 c49
    refine v_lconstI (w := 1) dX12_reckon_156 rfl ?_
    refine v_goto (tgt := 161) dX12_reckon_157 (by decide) ?_
    exact v_lret dX12_reckon_161 rfl (Nat.zero_le _) (Nat.zero_le _) ⟨rfl, hf, _, _, rfl, hp, w⟩
theorem dX12_reckonAll_0 : decode cX12_reckonAll 0 = .ok (.aload_n 0, 1) := by decide +kernel
theorem dX12_reckonAll_1 : decode cX12_reckonAll 1 = .ok (.iconst 0, 1) := by decide +kernel
theorem dX12_reckonAll_2 : decode cX12_reckonAll 2 = .ok (.putfield 394, 3) := by decide +kernel
theorem dX12_reckonAll_5 : decode cX12_reckonAll 5 = .ok (.iconst 0, 1) := by decide +kernel
theorem dX12_reckonAll_6 : decode cX12_reckonAll 6 = .ok (.istore_n 3, 1) := by decide +kernel
theorem dX12_reckonAll_7 : decode cX12_reckonAll 7 = .ok (.iload_n 1, 1) := by decide +kernel
theorem dX12_reckonAll_8 : decode cX12_reckonAll 8 = .ok (.istore 4, 2) := by decide +kernel
theorem dX12_reckonAll_10 : decode cX12_reckonAll 10 = .ok (.iload 4, 2) := by decide +kernel
theorem dX12_reckonAll_12 : decode cX12_reckonAll 12 = .ok (.iload_n 2, 1) := by decide +kernel
theorem dX12_reckonAll_13 : decode cX12_reckonAll 13 = .ok (.if_icmp .ge 301, 3) := by decide +kernel
theorem dX12_reckonAll_16 : decode cX12_reckonAll 16 = .ok (.aload_n 0, 1) := by decide +kernel
theorem dX12_reckonAll_17 : decode cX12_reckonAll 17 = .ok (.getfield 394, 3) := by decide +kernel
theorem dX12_reckonAll_20 : decode cX12_reckonAll 20 = .ok (.ifCond .ne 294, 3) := by decide +kernel
theorem dX12_reckonAll_23 : decode cX12_reckonAll 23 = .ok (.aload_n 0, 1) := by decide +kernel
theorem dX12_reckonAll_24 : decode cX12_reckonAll 24 = .ok (.getfield 325, 3) := by decide +kernel
theorem dX12_reckonAll_27 : decode cX12_reckonAll 27 = .ok (.ifCond .eq 13, 3) := by decide +kernel
theorem dX12_reckonAll_30 : decode cX12_reckonAll 30 = .ok (.aload_n 0, 1) := by decide +kernel
theorem dX12_reckonAll_31 : decode cX12_reckonAll 31 = .ok (.getfield 33, 3) := by decide +kernel
theorem dX12_reckonAll_34 : decode cX12_reckonAll 34 = .ok (.iload 4, 2) := by decide +kernel
theorem dX12_reckonAll_36 : decode cX12_reckonAll 36 = .ok (.iaload, 1) := by decide +kernel
theorem dX12_reckonAll_37 : decode cX12_reckonAll 37 = .ok (.goto 20, 3) := by decide +kernel
theorem dX12_reckonAll_40 : decode cX12_reckonAll 40 = .ok (.aload_n 0, 1) := by decide +kernel
theorem dX12_reckonAll_41 : decode cX12_reckonAll 41 = .ok (.getfield 13, 3) := by decide +kernel
theorem dX12_reckonAll_44 : decode cX12_reckonAll 44 = .ok (.aload_n 0, 1) := by decide +kernel
theorem dX12_reckonAll_45 : decode cX12_reckonAll 45 = .ok (.getfield 397, 3) := by decide +kernel
theorem dX12_reckonAll_48 : decode cX12_reckonAll 48 = .ok (.bipush 98, 2) := by decide +kernel
theorem dX12_reckonAll_50 : decode cX12_reckonAll 50 = .ok (.iadd, 1) := by decide +kernel
theorem dX12_reckonAll_51 : decode cX12_reckonAll 51 = .ok (.iconst 2, 1) := by decide +kernel
theorem dX12_reckonAll_52 : decode cX12_reckonAll 52 = .ok (.iload 4, 2) := by decide +kernel
theorem dX12_reckonAll_54 : decode cX12_reckonAll 54 = .ok (.imul, 1) := by decide +kernel
theorem dX12_reckonAll_55 : decode cX12_reckonAll 55 = .ok (.iadd, 1) := by decide +kernel
theorem dX12_reckonAll_56 : decode cX12_reckonAll 56 = .ok (.iaload, 1) := by decide +kernel
theorem dX12_reckonAll_57 : decode cX12_reckonAll 57 = .ok (.istore 5, 2) := by decide +kernel
theorem dX12_reckonAll_59 : decode cX12_reckonAll 59 = .ok (.aload_n 0, 1) := by decide +kernel
theorem dX12_reckonAll_60 : decode cX12_reckonAll 60 = .ok (.getfield 325, 3) := by decide +kernel
theorem dX12_reckonAll_63 : decode cX12_reckonAll 63 = .ok (.ifCond .eq 13, 3) := by decide +kernel
theorem dX12_reckonAll_66 : decode cX12_reckonAll 66 = .ok (.aload_n 0, 1) := by decide +kernel
theorem dX12_reckonAll_67 : decode cX12_reckonAll 67 = .ok (.getfield 36, 3) := by decide +kernel
theorem dX12_reckonAll_70 : decode cX12_reckonAll 70 = .ok (.iload 4, 2) := by decide +kernel
theorem dX12_reckonAll_72 : decode cX12_reckonAll 72 = .ok (.iaload, 1) := by decide +kernel
theorem dX12_reckonAll_73 : decode cX12_reckonAll 73 = .ok (.goto 22, 3) := by decide +kernel
theorem dX12_reckonAll_76 : decode cX12_reckonAll 76 = .ok (.aload_n 0, 1) := by decide +kernel
theorem dX12_reckonAll_77 : decode cX12_reckonAll 77 = .ok (.getfield 13, 3) := by decide +kernel
theorem dX12_reckonAll_80 : decode cX12_reckonAll 80 = .ok (.aload_n 0, 1) := by decide +kernel
theorem dX12_reckonAll_81 : decode cX12_reckonAll 81 = .ok (.getfield 397, 3) := by decide +kernel
theorem dX12_reckonAll_84 : decode cX12_reckonAll 84 = .ok (.bipush 98, 2) := by decide +kernel
theorem dX12_reckonAll_86 : decode cX12_reckonAll 86 = .ok (.iadd, 1) := by decide +kernel
theorem dX12_reckonAll_87 : decode cX12_reckonAll 87 = .ok (.iconst 2, 1) := by decide +kernel
theorem dX12_reckonAll_88 : decode cX12_reckonAll 88 = .ok (.iload 4, 2) := by decide +kernel
theorem dX12_reckonAll_90 : decode cX12_reckonAll 90 = .ok (.imul, 1) := by decide +kernel
theorem dX12_reckonAll_91 : decode cX12_reckonAll 91 = .ok (.iadd, 1) := by decide +kernel
theorem dX12_reckonAll_92 : decode cX12_reckonAll 92 = .ok (.iconst 1, 1) := by decide +kernel
theorem dX12_reckonAll_93 : decode cX12_reckonAll 93 = .ok (.iadd, 1) := by decide +kernel
theorem dX12_reckonAll_94 : decode cX12_reckonAll 94 = .ok (.iaload, 1) := by decide +kernel
theorem dX12_reckonAll_95 : decode cX12_reckonAll 95 = .ok (.istore 6, 2) := by decide +kernel
theorem dX12_reckonAll_97 : decode cX12_reckonAll 97 = .ok (.iinc 4 1, 3) := by decide +kernel
theorem dX12_reckonAll_100 : decode cX12_reckonAll 100 = .ok (.iload 5, 2) := by decide +kernel
theorem dX12_reckonAll_102 : decode cX12_reckonAll 102 = .ok (.bipush 20, 2) := by decide +kernel
theorem dX12_reckonAll_104 : decode cX12_reckonAll 104 = .ok (.if_icmp .ge 68, 3) := by decide +kernel
theorem dX12_reckonAll_107 : decode cX12_reckonAll 107 = .ok (.aload_n 0, 1) := by decide +kernel
theorem dX12_reckonAll_108 : decode cX12_reckonAll 108 = .ok (.getfield 99, 3) := by decide +kernel
theorem dX12_reckonAll_111 : decode cX12_reckonAll 111 = .ok (.iload_n 3, 1) := by decide +kernel
theorem dX12_reckonAll_112 : decode cX12_reckonAll 112 = .ok (.iload 5, 2) := by decide +kernel
theorem dX12_reckonAll_114 : decode cX12_reckonAll 114 = .ok (.ifCond .ne 9, 3) := by decide +kernel
theorem dX12_reckonAll_117 : decode cX12_reckonAll 117 = .ok (.iload 6, 2) := by decide +kernel
theorem dX12_reckonAll_119 : decode cX12_reckonAll 119 = .ok (.i2l, 1) := by decide +kernel
theorem dX12_reckonAll_120 : decode cX12_reckonAll 120 = .ok (.goto 45, 3) := by decide +kernel
theorem dX12_reckonAll_123 : decode cX12_reckonAll 123 = .ok (.aload_n 0, 1) := by decide +kernel
theorem dX12_reckonAll_124 : decode cX12_reckonAll 124 = .ok (.getfield 325, 3) := by decide +kernel
theorem dX12_reckonAll_127 : decode cX12_reckonAll 127 = .ok (.ifCond .ne 13, 3) := by decide +kernel
theorem dX12_reckonAll_130 : decode cX12_reckonAll 130 = .ok (.aload_n 0, 1) := by decide +kernel
theorem dX12_reckonAll_131 : decode cX12_reckonAll 131 = .ok (.getfield 93, 3) := by decide +kernel
theorem dX12_reckonAll_134 : decode cX12_reckonAll 134 = .ok (.iload 5, 2) := by decide +kernel
theorem dX12_reckonAll_136 : decode cX12_reckonAll 136 = .ok (.laload, 1) := by decide +kernel
theorem dX12_reckonAll_137 : decode cX12_reckonAll 137 = .ok (.goto 28, 3) := by decide +kernel
theorem dX12_reckonAll_140 : decode cX12_reckonAll 140 = .ok (.iload 5, 2) := by decide +kernel
theorem dX12_reckonAll_142 : decode cX12_reckonAll 142 = .ok (.bipush 7, 2) := by decide +kernel
theorem dX12_reckonAll_144 : decode cX12_reckonAll 144 = .ok (.if_icmp .ge 13, 3) := by decide +kernel
theorem dX12_reckonAll_147 : decode cX12_reckonAll 147 = .ok (.aload_n 0, 1) := by decide +kernel
theorem dX12_reckonAll_148 : decode cX12_reckonAll 148 = .ok (.getfield 96, 3) := by decide +kernel
theorem dX12_reckonAll_151 : decode cX12_reckonAll 151 = .ok (.iload 5, 2) := by decide +kernel
theorem dX12_reckonAll_153 : decode cX12_reckonAll 153 = .ok (.laload, 1) := by decide +kernel
theorem dX12_reckonAll_154 : decode cX12_reckonAll 154 = .ok (.goto 11, 3) := by decide +kernel
theorem dX12_reckonAll_157 : decode cX12_reckonAll 157 = .ok (.aload_n 0, 1) := by decide +kernel
theorem dX12_reckonAll_158 : decode cX12_reckonAll 158 = .ok (.iload 5, 2) := by decide +kernel
theorem dX12_reckonAll_160 : decode cX12_reckonAll 160 = .ok (.iload 6, 2) := by decide +kernel
theorem dX12_reckonAll_162 : decode cX12_reckonAll 162 = .ok (.invokevirtual 400, 3) := by decide +kernel
theorem dX12_reckonAll_165 : decode cX12_reckonAll 165 = .ok (.lastore, 1) := by decide +kernel
theorem dX12_reckonAll_166 : decode cX12_reckonAll 166 = .ok (.iinc 3 1, 3) := by decide +kernel
theorem dX12_reckonAll_169 : decode cX12_reckonAll 169 = .ok (.goto 142, 3) := by decide +kernel
theorem dX12_reckonAll_172 : decode cX12_reckonAll 172 = .ok (.iload 5, 2) := by decide +kernel
theorem dX12_reckonAll_174 : decode cX12_reckonAll 174 = .ok (.bipush 28, 2) := by decide +kernel
theorem dX12_reckonAll_176 : decode cX12_reckonAll 176 = .ok (.if_icmp .ge 73, 3) := by decide +kernel
theorem dX12_reckonAll_179 : decode cX12_reckonAll 179 = .ok (.iinc 3 (-1), 3) := by decide +kernel
theorem dX12_reckonAll_182 : decode cX12_reckonAll 182 = .ok (.aload_n 0, 1) := by decide +kernel
theorem dX12_reckonAll_183 : decode cX12_reckonAll 183 = .ok (.getfield 99, 3) := by decide +kernel
theorem dX12_reckonAll_186 : decode cX12_reckonAll 186 = .ok (.iload_n 3, 1) := by decide +kernel
theorem dX12_reckonAll_187 : decode cX12_reckonAll 187 = .ok (.iconst 1, 1) := by decide +kernel
theorem dX12_reckonAll_188 : decode cX12_reckonAll 188 = .ok (.isub, 1) := by decide +kernel
theorem dX12_reckonAll_189 : decode cX12_reckonAll 189 = .ok (.aload_n 0, 1) := by decide +kernel
theorem dX12_reckonAll_190 : decode cX12_reckonAll 190 = .ok (.iload 5, 2) := by decide +kernel
theorem dX12_reckonAll_192 : decode cX12_reckonAll 192 = .ok (.aload_n 0, 1) := by decide +kernel
theorem dX12_reckonAll_193 : decode cX12_reckonAll 193 = .ok (.getfield 99, 3) := by decide +kernel
theorem dX12_reckonAll_196 : decode cX12_reckonAll 196 = .ok (.iload_n 3, 1) := by decide +kernel
theorem dX12_reckonAll_197 : decode cX12_reckonAll 197 = .ok (.iconst 1, 1) := by decide +kernel
theorem dX12_reckonAll_198 : decode cX12_reckonAll 198 = .ok (.isub, 1) := by decide +kernel
theorem dX12_reckonAll_199 : decode cX12_reckonAll 199 = .ok (.laload, 1) := by decide +kernel
theorem dX12_reckonAll_200 : decode cX12_reckonAll 200 = .ok (.aload_n 0, 1) := by decide +kernel
theorem dX12_reckonAll_201 : decode cX12_reckonAll 201 = .ok (.getfield 99, 3) := by decide +kernel
theorem dX12_reckonAll_204 : decode cX12_reckonAll 204 = .ok (.iload_n 3, 1) := by decide +kernel
theorem dX12_reckonAll_205 : decode cX12_reckonAll 205 = .ok (.laload, 1) := by decide +kernel
theorem dX12_reckonAll_206 : decode cX12_reckonAll 206 = .ok (.invokevirtual 404, 3) := by decide +kernel
theorem dX12_reckonAll_209 : decode cX12_reckonAll 209 = .ok (.lastore, 1) := by decide +kernel
theorem dX12_reckonAll_210 : decode cX12_reckonAll 210 = .ok (.aload_n 0, 1) := by decide +kernel
theorem dX12_reckonAll_211 : decode cX12_reckonAll 211 = .ok (.aload_n 0, 1) := by decide +kernel
theorem dX12_reckonAll_212 : decode cX12_reckonAll 212 = .ok (.getfield 394, 3) := by decide +kernel
theorem dX12_reckonAll_215 : decode cX12_reckonAll 215 = .ok (.ifCond .ne 23, 3) := by decide +kernel
theorem dX12_reckonAll_218 : decode cX12_reckonAll 218 = .ok (.aload_n 0, 1) := by decide +kernel
theorem dX12_reckonAll_219 : decode cX12_reckonAll 219 = .ok (.getfield 99, 3) := by decide +kernel
theorem dX12_reckonAll_222 : decode cX12_reckonAll 222 = .ok (.iload_n 3, 1) := by decide +kernel
theorem dX12_reckonAll_223 : decode cX12_reckonAll 223 = .ok (.iconst 1, 1) := by decide +kernel
theorem dX12_reckonAll_224 : decode cX12_reckonAll 224 = .ok (.isub, 1) := by decide +kernel
theorem dX12_reckonAll_225 : decode cX12_reckonAll 225 = .ok (.laload, 1) := by decide +kernel
theorem dX12_reckonAll_226 : decode cX12_reckonAll 226 = .ok (.ldc2_w 408, 3) := by decide +kernel
theorem dX12_reckonAll_229 : decode cX12_reckonAll 229 = .ok (.ldc2_w 410, 3) := by decide +kernel
theorem dX12_reckonAll_232 : decode cX12_reckonAll 232 = .ok (.invokestatic 175, 3) := by decide +kernel
theorem dX12_reckonAll_235 : decode cX12_reckonAll 235 = .ok (.ifCond .ne 7, 3) := by decide +kernel
theorem dX12_reckonAll_238 : decode cX12_reckonAll 238 = .ok (.iconst 1, 1) := by decide +kernel
theorem dX12_reckonAll_239 : decode cX12_reckonAll 239 = .ok (.goto 4, 3) := by decide +kernel
theorem dX12_reckonAll_242 : decode cX12_reckonAll 242 = .ok (.iconst 0, 1) := by decide +kernel
theorem dX12_reckonAll_243 : decode cX12_reckonAll 243 = .ok (.putfield 394, 3) := by decide +kernel
theorem dX12_reckonAll_246 : decode cX12_reckonAll 246 = .ok (.goto 65, 3) := by decide +kernel
theorem dX12_reckonAll_249 : decode cX12_reckonAll 249 = .ok (.iload 5, 2) := by decide +kernel
theorem dX12_reckonAll_251 : decode cX12_reckonAll 251 = .ok (.bipush 28, 2) := by decide +kernel
theorem dX12_reckonAll_253 : decode cX12_reckonAll 253 = .ok (.if_icmp .ne 24, 3) := by decide +kernel
theorem dX12_reckonAll_256 : decode cX12_reckonAll 256 = .ok (.aload_n 0, 1) := by decide +kernel
theorem dX12_reckonAll_257 : decode cX12_reckonAll 257 = .ok (.getfield 99, 3) := by decide +kernel
theorem dX12_reckonAll_260 : decode cX12_reckonAll 260 = .ok (.iload_n 3, 1) := by decide +kernel
theorem dX12_reckonAll_261 : decode cX12_reckonAll 261 = .ok (.iconst 1, 1) := by decide +kernel
theorem dX12_reckonAll_262 : decode cX12_reckonAll 262 = .ok (.isub, 1) := by decide +kernel
theorem dX12_reckonAll_263 : decode cX12_reckonAll 263 = .ok (.lconst 1, 1) := by decide +kernel
theorem dX12_reckonAll_264 : decode cX12_reckonAll 264 = .ok (.aload_n 0, 1) := by decide +kernel
theorem dX12_reckonAll_265 : decode cX12_reckonAll 265 = .ok (.getfield 99, 3) := by decide +kernel
theorem dX12_reckonAll_268 : decode cX12_reckonAll 268 = .ok (.iload_n 3, 1) := by decide +kernel
theorem dX12_reckonAll_269 : decode cX12_reckonAll 269 = .ok (.iconst 1, 1) := by decide +kernel
theorem dX12_reckonAll_270 : decode cX12_reckonAll 270 = .ok (.isub, 1) := by decide +kernel
theorem dX12_reckonAll_271 : decode cX12_reckonAll 271 = .ok (.laload, 1) := by decide +kernel
theorem dX12_reckonAll_272 : decode cX12_reckonAll 272 = .ok (.lsub, 1) := by decide +kernel
theorem dX12_reckonAll_273 : decode cX12_reckonAll 273 = .ok (.lastore, 1) := by decide +kernel
theorem dX12_reckonAll_274 : decode cX12_reckonAll 274 = .ok (.goto 37, 3) := by decide +kernel
theorem dX12_reckonAll_277 : decode cX12_reckonAll 277 = .ok (.aload_n 0, 1) := by decide +kernel
theorem dX12_reckonAll_278 : decode cX12_reckonAll 278 = .ok (.getfield 99, 3) := by decide +kernel
theorem dX12_reckonAll_281 : decode cX12_reckonAll 281 = .ok (.iload_n 3, 1) := by decide +kernel
theorem dX12_reckonAll_282 : decode cX12_reckonAll 282 = .ok (.iconst 1, 1) := by decide +kernel
theorem dX12_reckonAll_283 : decode cX12_reckonAll 283 = .ok (.isub, 1) := by decide +kernel
theorem dX12_reckonAll_284 : decode cX12_reckonAll 284 = .ok (.laload, 1) := by decide +kernel
theorem dX12_reckonAll_285 : decode cX12_reckonAll 285 = .ok (.iload 5, 2) := by decide +kernel
theorem dX12_reckonAll_287 : decode cX12_reckonAll 287 = .ok (.bipush 29, 2) := by decide +kernel
theorem dX12_reckonAll_289 : decode cX12_reckonAll 289 = .ok (.if_icmp .ne 7, 3) := by decide +kernel
theorem dX12_reckonAll_292 : decode cX12_reckonAll 292 = .ok (.lconst 0, 1) := by decide +kernel
theorem dX12_reckonAll_293 : decode cX12_reckonAll 293 = .ok (.goto 4, 3) := by decide +kernel
theorem dX12_reckonAll_296 : decode cX12_reckonAll 296 = .ok (.lconst 1, 1) := by decide +kernel
theorem dX12_reckonAll_297 : decode cX12_reckonAll 297 = .ok (.lcmp, 1) := by decide +kernel
theorem dX12_reckonAll_298 : decode cX12_reckonAll 298 = .ok (.ifCond .ne 10, 3) := by decide +kernel
theorem dX12_reckonAll_301 : decode cX12_reckonAll 301 = .ok (.iload 6, 2) := by decide +kernel
theorem dX12_reckonAll_303 : decode cX12_reckonAll 303 = .ok (.istore 4, 2) := by decide +kernel
theorem dX12_reckonAll_305 : decode cX12_reckonAll 305 = .ok (.goto 6, 3) := by decide +kernel
theorem dX12_reckonAll_308 : decode cX12_reckonAll 308 = .ok (.iinc 3 (-1), 3) := by decide +kernel
theorem dX12_reckonAll_311 : decode cX12_reckonAll 311 = .ok (.goto (-301), 3) := by decide +kernel
theorem dX12_reckonAll_314 : decode cX12_reckonAll 314 = .ok (.aload_n 0, 1) := by decide +kernel
theorem dX12_reckonAll_315 : decode cX12_reckonAll 315 = .ok (.iload_n 3, 1) := by decide +kernel
theorem dX12_reckonAll_316 : decode cX12_reckonAll 316 = .ok (.ifCond .le 12, 3) := by decide +kernel
theorem dX12_reckonAll_319 : decode cX12_reckonAll 319 = .ok (.aload_n 0, 1) := by decide +kernel
theorem dX12_reckonAll_320 : decode cX12_reckonAll 320 = .ok (.getfield 99, 3) := by decide +kernel
theorem dX12_reckonAll_323 : decode cX12_reckonAll 323 = .ok (.iconst 0, 1) := by decide +kernel
theorem dX12_reckonAll_324 : decode cX12_reckonAll 324 = .ok (.laload, 1) := by decide +kernel
theorem dX12_reckonAll_325 : decode cX12_reckonAll 325 = .ok (.goto 4, 3) := by decide +kernel
theorem dX12_reckonAll_328 : decode cX12_reckonAll 328 = .ok (.lconst 0, 1) := by decide +kernel
theorem dX12_reckonAll_329 : decode cX12_reckonAll 329 = .ok (.putfield 412, 3) := by decide +kernel
theorem dX12_reckonAll_332 : decode cX12_reckonAll 332 = .ok (.return_, 1) := by decide +kernel
def w_X12_reckonAll (a0 a1 : Int) (X : XT) (Q : XT → Prop) : Prop :=
  ∃ (I9 : Int → Int → XT → Prop) (m10 : Int → Int → XT → Nat), I9 0 a0 (x_st X 77 33 0) ∧ ∀ (x6 : Int) (x7 : Int) (X8 : XT), I9 x6 x7 X8 → ∀ J21 : Prop, ((R32 x6 ∧ (x6 ≤ 0 → Q (x_st X8 77 34 0)) ∧ (¬ x6 ≤ 0 → Q (x_st X8 77 34 (X8 93 0)))) → J21) → R32 x7 ∧ R32 a1 ∧ (a1 ≤ x7 → J21 ) ∧ (¬ a1 ≤ x7 → R32 (X8 77 33) ∧ (¬ (X8 77 33) = 0 → J21 ) ∧ ((X8 77 33) = 0 → ∀ J40 : Int → Prop, (∀ (v39 : Int), (∀ J42 : Int → Prop, (∀ (v41 : Int), (R32 v39 ∧ (20 ≤ v39 → (28 ≤ v39 → (¬ v39 = 28 → (0 ≤ (x6 - 1) ∧ (x6 - 1) < 400) ∧ ∀ J49 : Int → Prop, (∀ (v48 : Int), (R64 (X8 93 (x6 - 1)) ∧ R64 v48 ∧ (¬ (X8 93 (x6 - 1)) = v48 → I9 (x6 + (-1)) (x7 + 1) X8 ∧ m10 (x6 + (-1)) (x7 + 1) X8 < m10 x6 x7 X8) ∧ ((X8 93 (x6 - 1)) = v48 → I9 x6 v41 X8 ∧ m10 x6 v41 X8 < m10 x6 x7 X8)) → J49 v48) → (¬ v39 = 29 → J49 1) ∧ (v39 = 29 → J49 0)) ∧ (v39 = 28 → (0 ≤ (x6 - 1) ∧ (x6 - 1) < 400) ∧ I9 x6 (x7 + 1) (x_st X8 93 (x6 - 1) (1 - (X8 93 (x6 - 1)))) ∧ m10 x6 (x7 + 1) (x_st X8 93 (x6 - 1) (1 - (X8 93 (x6 - 1)))) < m10 x6 x7 X8)) ∧ (¬ 28 ≤ v39 → (0 ≤ ((x6 + (-1)) - 1) ∧ ((x6 + (-1)) - 1) < 400) ∧ (0 ≤ (x6 + (-1)) ∧ (x6 + (-1)) < 400) ∧ w_X12_reckon  v39 (X8 93 ((x6 + (-1)) - 1)) (X8 93 (x6 + (-1))) X8 (fun (v62 : Int) (X63 : XT) => ∀ J73 : Prop, ((I9 (x6 + (-1)) (x7 + 1) (x_st (x_st X63 93 ((x6 + (-1)) - 1) v62) 77 33 1) ∧ m10 (x6 + (-1)) (x7 + 1) (x_st (x_st X63 93 ((x6 + (-1)) - 1) v62) 77 33 1) < m10 x6 x7 X8) → J73) → R32 ((x_st X63 93 ((x6 + (-1)) - 1) v62) 77 33) ∧ (¬ ((x_st X63 93 ((x6 + (-1)) - 1) v62) 77 33) = 0 → J73 ) ∧ (((x_st X63 93 ((x6 + (-1)) - 1) v62) 77 33) = 0 → R64 ((x_st X63 93 ((x6 + (-1)) - 1) v62) 93 ((x6 + (-1)) - 1)) ∧ (((-1000000000) ≤ ((x_st X63 93 ((x6 + (-1)) - 1) v62) 93 ((x6 + (-1)) - 1)) ∧ ((x_st X63 93 ((x6 + (-1)) - 1) v62) 93 ((x6 + (-1)) - 1)) ≤ 1000000000) → I9 (x6 + (-1)) (x7 + 1) (x_st (x_st X63 93 ((x6 + (-1)) - 1) v62) 77 33 0) ∧ m10 (x6 + (-1)) (x7 + 1) (x_st (x_st X63 93 ((x6 + (-1)) - 1) v62) 77 33 0) < m10 x6 x7 X8) ∧ (¬ ((-1000000000) ≤ ((x_st X63 93 ((x6 + (-1)) - 1) v62) 93 ((x6 + (-1)) - 1)) ∧ ((x_st X63 93 ((x6 + (-1)) - 1) v62) 93 ((x6 + (-1)) - 1)) ≤ 1000000000) → J73 ))))) ∧ (¬ 20 ≤ v39 → ∀ J89 : Int → Prop, (∀ (v88 : Int), ((0 ≤ x6 ∧ x6 < 400) ∧ I9 (x6 + 1) (x7 + 1) (x_st X8 93 x6 v88) ∧ m10 (x6 + 1) (x7 + 1) (x_st X8 93 x6 v88) < m10 x6 x7 X8) → J89 v88) → (¬ v39 = 0 → R32 (X8 77 15) ∧ (¬ (X8 77 15) = 0 → (7 ≤ v39 → w_X12_toldOf  v39 v41 X8 (fun (v100 : Int) => J89 v100)) ∧ (¬ 7 ≤ v39 → (0 ≤ v39 ∧ v39 < 13) ∧ J89 (X8 92 v39))) ∧ ((X8 77 15) = 0 → (0 ≤ v39 ∧ v39 < 13) ∧ J89 (X8 91 v39))) ∧ (v39 = 0 → R32 v41 ∧ J89 v41))) → J42 v41) → R32 (X8 77 15) ∧ ((X8 77 15) = 0 → (0 ≤ ((((X8 77 29) + 98) + (2 * x7)) + 1) ∧ ((((X8 77 29) + 98) + (2 * x7)) + 1) < 5780) ∧ J42 (X8 79 ((((X8 77 29) + 98) + (2 * x7)) + 1))) ∧ (¬ (X8 77 15) = 0 → (0 ≤ x7 ∧ x7 < 400) ∧ J42 (X8 85 x7))) → J40 v39) → R32 (X8 77 15) ∧ ((X8 77 15) = 0 → (0 ≤ (((X8 77 29) + 98) + (2 * x7)) ∧ (((X8 77 29) + 98) + (2 * x7)) < 5780) ∧ J40 (X8 79 (((X8 77 29) + 98) + (2 * x7)))) ∧ (¬ (X8 77 15) = 0 → (0 ≤ x7 ∧ x7 < 400) ∧ J40 (X8 84 x7))))
set_option maxRecDepth 20000 in
theorem so_X12_reckonAll {n : Nat} {h : Nat → sE} {X : XT} {a0 a1 : Int} {Q : XT → Prop} (hn : 115 ≤ n) (hp : Pic X h) (w : w_X12_reckonAll  a0 a1 X Q) : Sp m_X12_reckonAll 3 0 0 [.ref 77, .int (iI a0), .int (iI a1)] n h (pVw n h Q) := by
  unfold w_X12_reckonAll at w
  refine Sp.ofV (by decide +kernel) (Nat.le_of_ble_eq_true rfl) ?_
  have hf : Fr h h := fun _ _ => rfl
  refine v_aload_n dX12_reckonAll_0 rfl ?_
  refine v_iconstI dX12_reckonAll_1 ?_
  refine v_put dX12_reckonAll_2 fl_X12_394 ((hp 77 (by decide)).trans (ent_77 _)) (s_lt hn rfl) (Nat.le_of_ble_eq_true rfl) (fun _ => ⟨iI_nb0, rfl⟩) trivial (fun h1 E2 F3 => ?_)
  have hp4 := pic_st hp (show h1 77 = ent 77 (uI _ 33 0) from E2) F3
  have hf5 := Fr.up (c := 77) hf F3 rfl
  refine v_iconstI dX12_reckonAll_5 ?_
  refine v_istore_n dX12_reckonAll_6 (Nat.le_of_ble_eq_true rfl) ?_
  refine v_iload_n dX12_reckonAll_7 rfl ?_
  refine v_istore dX12_reckonAll_8 (Nat.le_of_ble_eq_true rfl) ?_
  refine v_pick [2, 4, 1, 0] rfl ?_
  obtain ⟨I9, m10, wi13, wl12⟩ := w
  have hL14 : ∀ (N17 : Nat) (x6 : Int) (x7 : Int) (X8 : XT) (h18 : Nat → sE), m10 x6 x7 X8 < N17 → I9 x6 x7 X8 → Pic X8 h18 → Fr h h18 → V (m_X12_reckonAll, 3, 0, 0, n, pVw n h Q, s_G0) 0 0 n h18 10 [(0, .ref 77), (2, .int (iI a1)), (3, .int (iI x6)), (4, .int (iI x7))] [] := by
    intro N17
    induction N17 with
    | zero => intro x6 x7 X8 h18 hm15; exact absurd hm15 (Nat.not_lt_zero _)
    | succ N17 ih11 =>
      intro x6 x7 X8 h18 hm15 hI16 hp19 hf20
      have w := wl12 x6 x7 X8 hI16
      refine v_iload dX12_reckonAll_10 rfl ?_
      refine v_iload_n dX12_reckonAll_12 rfl ?_
      replace w := w (V (m_X12_reckonAll, 3, 0, 0, n, pVw n h Q, s_G0) 0 0 n h18 314 [(0, .ref 77), (3, .int (iI x6))] []) (by
        intro  w
        refine v_aload_n dX12_reckonAll_314 rfl ?_
        refine v_iload_n dX12_reckonAll_315 rfl ?_
        obtain ⟨q22, w⟩ := w
        refine v_if_leI (tgt := 328) dX12_reckonAll_316 (by decide) q22.1 q22.2 (fun c23 => ?_) (fun c23 => ?_)
        · replace w := w.1 c23
          refine v_lconstI (w := 0) dX12_reckonAll_328 rfl ?_
          refine v_put dX12_reckonAll_329 fl_X12_412 ((hp19 77 (by decide)).trans (ent_77 _)) (s_lt hn rfl) (Nat.le_of_ble_eq_true rfl) (fun _ => ⟨rfl, rfl⟩) trivial (fun h24 E25 F26 => ?_)
          have hp27 := pic_st hp19 (show h24 77 = ent 77 (uI _ 34 0) from E25) F26
          have hf28 := Fr.up (c := 77) hf20 F26 rfl
          exact v_vret dX12_reckonAll_332 rfl (Nat.zero_le _) (Nat.zero_le _) ⟨rfl, hf28, _, rfl, hp27, w⟩
        · replace w := w.2 c23
          refine v_aload_n dX12_reckonAll_319 rfl ?_
          refine v_get dX12_reckonAll_320 fl_X12_99 ((hp19 77 (by decide)).trans (ent_77 _)) rfl (s_lt hn rfl) ?_
          refine v_iconstI dX12_reckonAll_323 ?_
          refine v_laldI dX12_reckonAll_324 ((hp19 93 (by decide)).trans (ent_93 _)) (s_lt hn rfl) (by decide) (by decide) (by decide) ?_
          refine v_goto (tgt := 329) dX12_reckonAll_325 (by decide) ?_
          refine v_put dX12_reckonAll_329 fl_X12_412 ((hp19 77 (by decide)).trans (ent_77 _)) (s_lt hn rfl) (Nat.le_of_ble_eq_true rfl) (fun _ => ⟨rfl, rfl⟩) trivial (fun h29 E30 F31 => ?_)
          have hp32 := pic_st hp19 (show h29 77 = ent 77 (uI _ 34 (X8 93 0)) from E30) F31
          have hf33 := Fr.up (c := 77) hf20 F31 rfl
          exact v_vret dX12_reckonAll_332 rfl (Nat.zero_le _) (Nat.zero_le _) ⟨rfl, hf33, _, rfl, hp32, w⟩
      )
      obtain ⟨q34, q35, w⟩ := w
      refine v_icmp_geI (tgt := 314) dX12_reckonAll_13 (by decide) q34.1 q34.2 q35.1 q35.2 (fun c36 => ?_) (fun c36 => ?_)
      · replace w := w.1 c36
        refine v_pick [0, 2] rfl ?_
        exact w
      · replace w := w.2 c36
        refine v_aload_n dX12_reckonAll_16 rfl ?_
        refine v_get dX12_reckonAll_17 fl_X12_394 ((hp19 77 (by decide)).trans (ent_77 _)) rfl (s_lt hn rfl) ?_
        obtain ⟨q37, w⟩ := w
        refine v_if_neI (tgt := 314) dX12_reckonAll_20 (by decide) q37.1 q37.2 (fun c38 => ?_) (fun c38 => ?_)
        · replace w := w.1 c38
          refine v_pick [0, 2] rfl ?_
          exact w
        · replace w := w.2 c38
          refine v_aload_n dX12_reckonAll_23 rfl ?_
          refine v_get dX12_reckonAll_24 fl_X12_325 ((hp19 77 (by decide)).trans (ent_77 _)) rfl (s_lt hn rfl) ?_
          replace w := w (fun (v39 : Int) => V (m_X12_reckonAll, 3, 0, 0, n, pVw n h Q, s_G0) 0 0 n h18 57 [(0, .ref 77), (2, .int (iI a1)), (3, .int (iI x6)), (4, .int (iI x7))] [.int (iI v39)]) (by
            intro v39 w
            refine v_istore dX12_reckonAll_57 (Nat.le_of_ble_eq_true rfl) ?_
            refine v_aload_n dX12_reckonAll_59 rfl ?_
            refine v_get dX12_reckonAll_60 fl_X12_325 ((hp19 77 (by decide)).trans (ent_77 _)) rfl (s_lt hn rfl) ?_
            replace w := w (fun (v41 : Int) => V (m_X12_reckonAll, 3, 0, 0, n, pVw n h Q, s_G0) 0 0 n h18 95 [(0, .ref 77), (2, .int (iI a1)), (3, .int (iI x6)), (4, .int (iI x7)), (5, .int (iI v39))] [.int (iI v41)]) (by
              intro v41 w
              refine v_istore dX12_reckonAll_95 (Nat.le_of_ble_eq_true rfl) ?_
              refine v_iincI dX12_reckonAll_97 rfl (Nat.le_of_ble_eq_true rfl) ?_
              refine v_iload dX12_reckonAll_100 rfl ?_
              refine v_bipushI dX12_reckonAll_102 rfl ?_
              obtain ⟨q43, w⟩ := w
              refine v_icmp_geI (tgt := 172) dX12_reckonAll_104 (by decide) q43.1 q43.2 (by decide) (by decide) (fun c44 => ?_) (fun c44 => ?_)
              · replace w := w.1 c44
                refine v_iload dX12_reckonAll_172 rfl ?_
                refine v_bipushI dX12_reckonAll_174 rfl ?_
                refine v_icmp_geI (tgt := 249) dX12_reckonAll_176 (by decide) q43.1 q43.2 (by decide) (by decide) (fun c45 => ?_) (fun c45 => ?_)
                · replace w := w.1 c45
                  refine v_iload dX12_reckonAll_249 rfl ?_
                  refine v_bipushI dX12_reckonAll_251 rfl ?_
                  refine v_icmp_neI (tgt := 277) dX12_reckonAll_253 (by decide) q43.1 q43.2 (by decide) (by decide) (fun c46 => ?_) (fun c46 => ?_)
                  · replace w := w.1 c46
                    refine v_aload_n dX12_reckonAll_277 rfl ?_
                    refine v_get dX12_reckonAll_278 fl_X12_99 ((hp19 77 (by decide)).trans (ent_77 _)) rfl (s_lt hn rfl) ?_
                    refine v_iload_n dX12_reckonAll_281 rfl ?_
                    refine v_iconstI dX12_reckonAll_282 ?_
                    refine v_isubI dX12_reckonAll_283 ?_
                    obtain ⟨q47, w⟩ := w
                    refine v_laldI dX12_reckonAll_284 ((hp19 93 (by decide)).trans (ent_93 _)) (s_lt hn rfl) q47.1 q47.2 (ix_le q47.2 (by decide)) ?_
                    refine v_iload dX12_reckonAll_285 rfl ?_
                    refine v_bipushI dX12_reckonAll_287 rfl ?_
                    replace w := w (fun (v48 : Int) => V (m_X12_reckonAll, 3, 0, 0, n, pVw n h Q, s_G0) 0 0 n h18 297 [(0, .ref 77), (2, .int (iI a1)), (3, .int (iI x6)), (4, .int (iI (x7 + 1))), (6, .int (iI v41))] [.long (jJ v48), .long (jJ (X8 93 (x6 - 1)))]) (by
                      intro v48 w
                      obtain ⟨q50, q51, w⟩ := w
                      refine v_lcmp_neI (tgt := 308) dX12_reckonAll_297 dX12_reckonAll_298 (by decide) q50.1 q50.2 q51.1 q51.2 (fun c52 => ?_) (fun c52 => ?_)
                      · replace w := w.1 c52
                        refine v_iincI dX12_reckonAll_308 rfl (Nat.le_of_ble_eq_true rfl) ?_
                        refine v_goto (tgt := 10) dX12_reckonAll_311 (by decide) ?_
                        refine v_pick [1, 2, 0, 3] rfl ?_
                        exact ih11 _ _ _ _ (Nat.lt_of_lt_of_le w.2 (Nat.le_of_lt_succ hm15)) w.1 hp19 hf20
                      · replace w := w.2 c52
                        refine v_iload dX12_reckonAll_301 rfl ?_
                        refine v_istore dX12_reckonAll_303 (Nat.le_of_ble_eq_true rfl) ?_
                        refine v_goto (tgt := 311) dX12_reckonAll_305 (by decide) ?_
                        refine v_goto (tgt := 10) dX12_reckonAll_311 (by decide) ?_
                        refine v_pick [1, 2, 3, 0] rfl ?_
                        exact ih11 _ _ _ _ (Nat.lt_of_lt_of_le w.2 (Nat.le_of_lt_succ hm15)) w.1 hp19 hf20
                    )
                    refine v_icmp_neI (tgt := 296) dX12_reckonAll_289 (by decide) q43.1 q43.2 (by decide) (by decide) (fun c53 => ?_) (fun c53 => ?_)
                    · replace w := w.1 c53
                      refine v_lconstI (w := 1) dX12_reckonAll_296 rfl ?_
                      refine v_pick [2, 3, 4, 0, 1] rfl ?_
                      exact w
                    · replace w := w.2 c53
                      refine v_lconstI (w := 0) dX12_reckonAll_292 rfl ?_
                      refine v_goto (tgt := 297) dX12_reckonAll_293 (by decide) ?_
                      refine v_pick [2, 3, 4, 0, 1] rfl ?_
                      exact w
                  · replace w := w.2 c46
                    refine v_aload_n dX12_reckonAll_256 rfl ?_
                    refine v_get dX12_reckonAll_257 fl_X12_99 ((hp19 77 (by decide)).trans (ent_77 _)) rfl (s_lt hn rfl) ?_
                    refine v_iload_n dX12_reckonAll_260 rfl ?_
                    refine v_iconstI dX12_reckonAll_261 ?_
                    refine v_isubI dX12_reckonAll_262 ?_
                    refine v_lconstI (w := 1) dX12_reckonAll_263 rfl ?_
                    refine v_aload_n dX12_reckonAll_264 rfl ?_
                    refine v_get dX12_reckonAll_265 fl_X12_99 ((hp19 77 (by decide)).trans (ent_77 _)) rfl (s_lt hn rfl) ?_
                    refine v_iload_n dX12_reckonAll_268 rfl ?_
                    refine v_iconstI dX12_reckonAll_269 ?_
                    refine v_isubI dX12_reckonAll_270 ?_
                    obtain ⟨q54, w⟩ := w
                    refine v_laldI dX12_reckonAll_271 ((hp19 93 (by decide)).trans (ent_93 _)) (s_lt hn rfl) q54.1 q54.2 (ix_le q54.2 (by decide)) ?_
                    refine v_lsubI dX12_reckonAll_272 ?_
                    refine v_lastI dX12_reckonAll_273 ((hp19 93 (by decide)).trans (ent_93 _)) (s_lt hn rfl) q54.1 q54.2 (ix_le q54.2 (by decide)) (fun h55 E56 F57 => ?_)
                    have hp58 := pic_st hp19 (show h55 93 = ent 93 (uI _ (x6 - 1) (1 - (X8 93 (x6 - 1)))) from E56) F57
                    have hf59 := Fr.up (c := 93) hf20 F57 rfl
                    refine v_goto (tgt := 311) dX12_reckonAll_274 (by decide) ?_
                    refine v_goto (tgt := 10) dX12_reckonAll_311 (by decide) ?_
                    refine v_pick [2, 3, 4, 0] rfl ?_
                    exact ih11 _ _ _ _ (Nat.lt_of_lt_of_le w.2 (Nat.le_of_lt_succ hm15)) w.1 hp58 hf59
                · replace w := w.2 c45
                  refine v_iincI dX12_reckonAll_179 rfl (Nat.le_of_ble_eq_true rfl) ?_
                  refine v_aload_n dX12_reckonAll_182 rfl ?_
                  refine v_get dX12_reckonAll_183 fl_X12_99 ((hp19 77 (by decide)).trans (ent_77 _)) rfl (s_lt hn rfl) ?_
                  refine v_iload_n dX12_reckonAll_186 rfl ?_
                  refine v_iconstI dX12_reckonAll_187 ?_
                  refine v_isubI dX12_reckonAll_188 ?_
                  refine v_aload_n dX12_reckonAll_189 rfl ?_
                  refine v_iload dX12_reckonAll_190 rfl ?_
                  refine v_aload_n dX12_reckonAll_192 rfl ?_
                  refine v_get dX12_reckonAll_193 fl_X12_99 ((hp19 77 (by decide)).trans (ent_77 _)) rfl (s_lt hn rfl) ?_
                  refine v_iload_n dX12_reckonAll_196 rfl ?_
                  refine v_iconstI dX12_reckonAll_197 ?_
                  refine v_isubI dX12_reckonAll_198 ?_
                  obtain ⟨q60, w⟩ := w
                  refine v_laldI dX12_reckonAll_199 ((hp19 93 (by decide)).trans (ent_93 _)) (s_lt hn rfl) q60.1 q60.2 (ix_le q60.2 (by decide)) ?_
                  refine v_aload_n dX12_reckonAll_200 rfl ?_
                  refine v_get dX12_reckonAll_201 fl_X12_99 ((hp19 77 (by decide)).trans (ent_77 _)) rfl (s_lt hn rfl) ?_
                  refine v_iload_n dX12_reckonAll_204 rfl ?_
                  obtain ⟨q61, w⟩ := w
                  refine v_laldI dX12_reckonAll_205 ((hp19 93 (by decide)).trans (ent_93 _)) (s_lt hn rfl) q61.1 q61.2 (ix_le q61.2 (by decide)) ?_
                  refine v_callVLw dX12_reckonAll_206 ml_X12_404 (so_X12_reckon hn hp19  w) ((hp19 77 (by decide)).trans (ent_77 _)) rfl (s_lt hn rfl) rfl rfl (Nat.le_of_ble_eq_true rfl) (Nat.le_of_ble_eq_true rfl) (Nat.zero_le _) (Nat.zero_le _) (fun v62 X63 h64 hp66 hf65 w => ?_)
                  have hf67 := Fr.trans hf20 hf65
                  refine v_lastI dX12_reckonAll_209 ((hp66 93 (by decide)).trans (ent_93 _)) (s_lt hn rfl) q60.1 q60.2 (ix_le q60.2 (by decide)) (fun h68 E69 F70 => ?_)
                  have hp71 := pic_st hp66 (show h68 93 = ent 93 (uI _ ((x6 + (-1)) - 1) v62) from E69) F70
                  have hf72 := Fr.up (c := 93) hf67 F70 rfl
                  refine v_aload_n dX12_reckonAll_210 rfl ?_
                  refine v_aload_n dX12_reckonAll_211 rfl ?_
                  refine v_get dX12_reckonAll_212 fl_X12_394 ((hp71 77 (by decide)).trans (ent_77 _)) rfl (s_lt hn rfl) ?_
                  replace w := w (V (m_X12_reckonAll, 3, 0, 0, n, pVw n h Q, s_G0) 0 0 n h68 238 [(0, .ref 77), (2, .int (iI a1)), (3, .int (iI (x6 + (-1)))), (4, .int (iI (x7 + 1)))] [.ref 77]) (by
                    intro  w
                    refine v_iconstI dX12_reckonAll_238 ?_
                    refine v_goto (tgt := 243) dX12_reckonAll_239 (by decide) ?_
                    refine v_put dX12_reckonAll_243 fl_X12_394 ((hp71 77 (by decide)).trans (ent_77 _)) (s_lt hn rfl) (Nat.le_of_ble_eq_true rfl) (fun _ => ⟨iI_nb1, rfl⟩) trivial (fun h74 E75 F76 => ?_)
                    have hp77 := pic_st hp71 (show h74 77 = ent 77 (uI _ 33 1) from E75) F76
                    have hf78 := Fr.up (c := 77) hf72 F76 rfl
                    refine v_goto (tgt := 311) dX12_reckonAll_246 (by decide) ?_
                    refine v_goto (tgt := 10) dX12_reckonAll_311 (by decide) ?_
                    exact ih11 _ _ _ _ (Nat.lt_of_lt_of_le w.2 (Nat.le_of_lt_succ hm15)) w.1 hp77 hf78
                  )
                  obtain ⟨q79, w⟩ := w
                  refine v_if_neI (tgt := 238) dX12_reckonAll_215 (by decide) q79.1 q79.2 (fun c80 => ?_) (fun c80 => ?_)
                  · replace w := w.1 c80
                    refine v_pick [3, 4, 0, 1] rfl ?_
                    exact w
                  · replace w := w.2 c80
                    refine v_aload_n dX12_reckonAll_218 rfl ?_
                    refine v_get dX12_reckonAll_219 fl_X12_99 ((hp71 77 (by decide)).trans (ent_77 _)) rfl (s_lt hn rfl) ?_
                    refine v_iload_n dX12_reckonAll_222 rfl ?_
                    refine v_iconstI dX12_reckonAll_223 ?_
                    refine v_isubI dX12_reckonAll_224 ?_
                    refine v_laldI dX12_reckonAll_225 ((hp71 93 (by decide)).trans (ent_93 _)) (s_lt hn rfl) q60.1 q60.2 (ix_le q60.2 (by decide)) ?_
                    refine v_ldc2I (-1000000000) dX12_reckonAll_226 k_X12_408 rfl ?_
                    refine v_ldc2I 1000000000 dX12_reckonAll_229 k_X12_410 rfl ?_
                    obtain ⟨q81, w⟩ := w
                    refine v_callSp dX12_reckonAll_232 ml_X12_175 (sp_X12_in (v := ((x_st X63 93 ((x6 + (-1)) - 1) v62) 93 ((x6 + (-1)) - 1))) (lo := (-1000000000)) (hi := 1000000000) q81 (by decide) (by decide)) rfl rfl (Nat.le_of_ble_eq_true rfl) (Nat.le_of_ble_eq_true rfl) (Nat.zero_le _) (Nat.zero_le _) ?_
                    refine v_ifneB (tgt := 242) dX12_reckonAll_235 (by decide) (fun c82 => ?_) (fun c82 => ?_)
                    · replace w := w.1 c82
                      refine v_iconstI dX12_reckonAll_242 ?_
                      refine v_put dX12_reckonAll_243 fl_X12_394 ((hp71 77 (by decide)).trans (ent_77 _)) (s_lt hn rfl) (Nat.le_of_ble_eq_true rfl) (fun _ => ⟨iI_nb0, rfl⟩) trivial (fun h83 E84 F85 => ?_)
                      have hp86 := pic_st hp71 (show h83 77 = ent 77 (uI _ 33 0) from E84) F85
                      have hf87 := Fr.up (c := 77) hf72 F85 rfl
                      refine v_goto (tgt := 311) dX12_reckonAll_246 (by decide) ?_
                      refine v_goto (tgt := 10) dX12_reckonAll_311 (by decide) ?_
                      refine v_pick [3, 4, 0, 1] rfl ?_
                      exact ih11 _ _ _ _ (Nat.lt_of_lt_of_le w.2 (Nat.le_of_lt_succ hm15)) w.1 hp86 hf87
                    · replace w := w.2 c82
                      refine v_pick [3, 4, 0, 1] rfl ?_
                      exact w
              · replace w := w.2 c44
                refine v_aload_n dX12_reckonAll_107 rfl ?_
                refine v_get dX12_reckonAll_108 fl_X12_99 ((hp19 77 (by decide)).trans (ent_77 _)) rfl (s_lt hn rfl) ?_
                refine v_iload_n dX12_reckonAll_111 rfl ?_
                refine v_iload dX12_reckonAll_112 rfl ?_
                replace w := w (fun (v88 : Int) => V (m_X12_reckonAll, 3, 0, 0, n, pVw n h Q, s_G0) 0 0 n h18 165 [(0, .ref 77), (2, .int (iI a1)), (3, .int (iI x6)), (4, .int (iI (x7 + 1)))] [.long (jJ v88), .int (iI x6), .ref 93]) (by
                  intro v88 w
                  obtain ⟨q90, w⟩ := w
                  refine v_lastI dX12_reckonAll_165 ((hp19 93 (by decide)).trans (ent_93 _)) (s_lt hn rfl) q90.1 q90.2 (ix_le q90.2 (by decide)) (fun h91 E92 F93 => ?_)
                  have hp94 := pic_st hp19 (show h91 93 = ent 93 (uI _ x6 v88) from E92) F93
                  have hf95 := Fr.up (c := 93) hf20 F93 rfl
                  refine v_iincI dX12_reckonAll_166 rfl (Nat.le_of_ble_eq_true rfl) ?_
                  refine v_goto (tgt := 311) dX12_reckonAll_169 (by decide) ?_
                  refine v_goto (tgt := 10) dX12_reckonAll_311 (by decide) ?_
                  refine v_pick [1, 2, 0, 3] rfl ?_
                  exact ih11 _ _ _ _ (Nat.lt_of_lt_of_le w.2 (Nat.le_of_lt_succ hm15)) w.1 hp94 hf95
                )
                refine v_if_neI (tgt := 123) dX12_reckonAll_114 (by decide) q43.1 q43.2 (fun c96 => ?_) (fun c96 => ?_)
                · replace w := w.1 c96
                  refine v_aload_n dX12_reckonAll_123 rfl ?_
                  refine v_get dX12_reckonAll_124 fl_X12_325 ((hp19 77 (by decide)).trans (ent_77 _)) rfl (s_lt hn rfl) ?_
                  obtain ⟨q97, w⟩ := w
                  refine v_if_neI (tgt := 140) dX12_reckonAll_127 (by decide) q97.1 q97.2 (fun c98 => ?_) (fun c98 => ?_)
                  · replace w := w.1 c98
                    refine v_iload dX12_reckonAll_140 rfl ?_
                    refine v_bipushI dX12_reckonAll_142 rfl ?_
                    refine v_icmp_geI (tgt := 157) dX12_reckonAll_144 (by decide) q43.1 q43.2 (by decide) (by decide) (fun c99 => ?_) (fun c99 => ?_)
                    · replace w := w.1 c99
                      refine v_aload_n dX12_reckonAll_157 rfl ?_
                      refine v_iload dX12_reckonAll_158 rfl ?_
                      refine v_iload dX12_reckonAll_160 rfl ?_
                      refine v_callVLr dX12_reckonAll_162 ml_X12_400 (so_X12_toldOf hn hp19  w) ((hp19 77 (by decide)).trans (ent_77 _)) rfl (s_lt hn rfl) rfl rfl (Nat.le_of_ble_eq_true rfl) (Nat.le_of_ble_eq_true rfl) (Nat.zero_le _) (Nat.zero_le _) (fun v100 w => ?_)
                      refine v_pick [2, 3, 4, 0] rfl ?_
                      exact w
                    · replace w := w.2 c99
                      refine v_aload_n dX12_reckonAll_147 rfl ?_
                      refine v_get dX12_reckonAll_148 fl_X12_96 ((hp19 77 (by decide)).trans (ent_77 _)) rfl (s_lt hn rfl) ?_
                      refine v_iload dX12_reckonAll_151 rfl ?_
                      obtain ⟨q106, w⟩ := w
                      refine v_laldI dX12_reckonAll_153 ((hp19 92 (by decide)).trans (ent_92 _)) (s_lt hn rfl) q106.1 q106.2 (ix_le q106.2 (by decide)) ?_
                      refine v_goto (tgt := 165) dX12_reckonAll_154 (by decide) ?_
                      refine v_pick [2, 3, 4, 0] rfl ?_
                      exact w
                  · replace w := w.2 c98
                    refine v_aload_n dX12_reckonAll_130 rfl ?_
                    refine v_get dX12_reckonAll_131 fl_X12_93 ((hp19 77 (by decide)).trans (ent_77 _)) rfl (s_lt hn rfl) ?_
                    refine v_iload dX12_reckonAll_134 rfl ?_
                    obtain ⟨q107, w⟩ := w
                    refine v_laldI dX12_reckonAll_136 ((hp19 91 (by decide)).trans (ent_91 _)) (s_lt hn rfl) q107.1 q107.2 (ix_le q107.2 (by decide)) ?_
                    refine v_goto (tgt := 165) dX12_reckonAll_137 (by decide) ?_
                    refine v_pick [2, 3, 4, 0] rfl ?_
                    exact w
                · replace w := w.2 c96
                  refine v_iload dX12_reckonAll_117 rfl ?_
                  obtain ⟨q108, w⟩ := w
                  refine v_i2lI dX12_reckonAll_119 q108.1 q108.2 ?_
                  refine v_goto (tgt := 165) dX12_reckonAll_120 (by decide) ?_
                  refine v_pick [2, 3, 4, 0] rfl ?_
                  exact w
            )
            obtain ⟨q109, w⟩ := w
            refine v_if_eqI (tgt := 76) dX12_reckonAll_63 (by decide) q109.1 q109.2 (fun c110 => ?_) (fun c110 => ?_)
            · replace w := w.1 c110
              refine v_aload_n dX12_reckonAll_76 rfl ?_
              refine v_get dX12_reckonAll_77 fl_X12_13 ((hp19 77 (by decide)).trans (ent_77 _)) rfl (s_lt hn rfl) ?_
              refine v_aload_n dX12_reckonAll_80 rfl ?_
              refine v_get dX12_reckonAll_81 fl_X12_397 ((hp19 77 (by decide)).trans (ent_77 _)) rfl (s_lt hn rfl) ?_
              refine v_bipushI dX12_reckonAll_84 rfl ?_
              refine v_iaddI dX12_reckonAll_86 ?_
              refine v_iconstI dX12_reckonAll_87 ?_
              refine v_iload dX12_reckonAll_88 rfl ?_
              refine v_imulI dX12_reckonAll_90 ?_
              refine v_iaddI dX12_reckonAll_91 ?_
              refine v_iconstI dX12_reckonAll_92 ?_
              refine v_iaddI dX12_reckonAll_93 ?_
              obtain ⟨q111, w⟩ := w
              refine v_ialdI dX12_reckonAll_94 ((hp19 79 (by decide)).trans (ent_79 _)) (s_lt hn rfl) q111.1 q111.2 (ix_le q111.2 (by decide)) ?_
              refine v_pick [1, 2, 3, 4, 0] rfl ?_
              exact w
            · replace w := w.2 c110
              refine v_aload_n dX12_reckonAll_66 rfl ?_
              refine v_get dX12_reckonAll_67 fl_X12_36 ((hp19 77 (by decide)).trans (ent_77 _)) rfl (s_lt hn rfl) ?_
              refine v_iload dX12_reckonAll_70 rfl ?_
              obtain ⟨q112, w⟩ := w
              refine v_ialdI dX12_reckonAll_72 ((hp19 85 (by decide)).trans (ent_85 _)) (s_lt hn rfl) q112.1 q112.2 (ix_le q112.2 (by decide)) ?_
              refine v_goto (tgt := 95) dX12_reckonAll_73 (by decide) ?_
              refine v_pick [1, 2, 3, 4, 0] rfl ?_
              exact w
          )
          obtain ⟨q113, w⟩ := w
          refine v_if_eqI (tgt := 40) dX12_reckonAll_27 (by decide) q113.1 q113.2 (fun c114 => ?_) (fun c114 => ?_)
          · replace w := w.1 c114
            refine v_aload_n dX12_reckonAll_40 rfl ?_
            refine v_get dX12_reckonAll_41 fl_X12_13 ((hp19 77 (by decide)).trans (ent_77 _)) rfl (s_lt hn rfl) ?_
            refine v_aload_n dX12_reckonAll_44 rfl ?_
            refine v_get dX12_reckonAll_45 fl_X12_397 ((hp19 77 (by decide)).trans (ent_77 _)) rfl (s_lt hn rfl) ?_
            refine v_bipushI dX12_reckonAll_48 rfl ?_
            refine v_iaddI dX12_reckonAll_50 ?_
            refine v_iconstI dX12_reckonAll_51 ?_
            refine v_iload dX12_reckonAll_52 rfl ?_
            refine v_imulI dX12_reckonAll_54 ?_
            refine v_iaddI dX12_reckonAll_55 ?_
            obtain ⟨q115, w⟩ := w
            refine v_ialdI dX12_reckonAll_56 ((hp19 79 (by decide)).trans (ent_79 _)) (s_lt hn rfl) q115.1 q115.2 (ix_le q115.2 (by decide)) ?_
            exact w
          · replace w := w.2 c114
            refine v_aload_n dX12_reckonAll_30 rfl ?_
            refine v_get dX12_reckonAll_31 fl_X12_33 ((hp19 77 (by decide)).trans (ent_77 _)) rfl (s_lt hn rfl) ?_
            refine v_iload dX12_reckonAll_34 rfl ?_
            obtain ⟨q116, w⟩ := w
            refine v_ialdI dX12_reckonAll_36 ((hp19 84 (by decide)).trans (ent_84 _)) (s_lt hn rfl) q116.1 q116.2 (ix_le q116.2 (by decide)) ?_
            refine v_goto (tgt := 57) dX12_reckonAll_37 (by decide) ?_
            exact w
  exact hL14 _ _ _ _ _ (Nat.lt_succ_self _) wi13 hp4 hf5
theorem dX12_isSo_0 : decode cX12_isSo 0 = .ok (.aload_n 0, 1) := by decide +kernel
theorem dX12_isSo_1 : decode cX12_isSo 1 = .ok (.getfield 13, 3) := by decide +kernel
theorem dX12_isSo_4 : decode cX12_isSo 4 = .ok (.iload_n 1, 1) := by decide +kernel
theorem dX12_isSo_5 : decode cX12_isSo 5 = .ok (.iconst 5, 1) := by decide +kernel
theorem dX12_isSo_6 : decode cX12_isSo 6 = .ok (.iadd, 1) := by decide +kernel
theorem dX12_isSo_7 : decode cX12_isSo 7 = .ok (.iaload, 1) := by decide +kernel
theorem dX12_isSo_8 : decode cX12_isSo 8 = .ok (.aload_n 0, 1) := by decide +kernel
theorem dX12_isSo_9 : decode cX12_isSo 9 = .ok (.getfield 13, 3) := by decide +kernel
theorem dX12_isSo_12 : decode cX12_isSo 12 = .ok (.iload_n 1, 1) := by decide +kernel
theorem dX12_isSo_13 : decode cX12_isSo 13 = .ok (.bipush 6, 2) := by decide +kernel
theorem dX12_isSo_15 : decode cX12_isSo 15 = .ok (.iadd, 1) := by decide +kernel
theorem dX12_isSo_16 : decode cX12_isSo 16 = .ok (.iaload, 1) := by decide +kernel
theorem dX12_isSo_17 : decode cX12_isSo 17 = .ok (.if_icmp .ge 42, 3) := by decide +kernel
theorem dX12_isSo_20 : decode cX12_isSo 20 = .ok (.aload_n 0, 1) := by decide +kernel
theorem dX12_isSo_21 : decode cX12_isSo 21 = .ok (.aload_n 0, 1) := by decide +kernel
theorem dX12_isSo_22 : decode cX12_isSo 22 = .ok (.getfield 13, 3) := by decide +kernel
theorem dX12_isSo_25 : decode cX12_isSo 25 = .ok (.iload_n 1, 1) := by decide +kernel
theorem dX12_isSo_26 : decode cX12_isSo 26 = .ok (.iconst 5, 1) := by decide +kernel
theorem dX12_isSo_27 : decode cX12_isSo 27 = .ok (.iadd, 1) := by decide +kernel
theorem dX12_isSo_28 : decode cX12_isSo 28 = .ok (.iaload, 1) := by decide +kernel
theorem dX12_isSo_29 : decode cX12_isSo 29 = .ok (.aload_n 0, 1) := by decide +kernel
theorem dX12_isSo_30 : decode cX12_isSo 30 = .ok (.getfield 13, 3) := by decide +kernel
theorem dX12_isSo_33 : decode cX12_isSo 33 = .ok (.iload_n 1, 1) := by decide +kernel
theorem dX12_isSo_34 : decode cX12_isSo 34 = .ok (.bipush 6, 2) := by decide +kernel
theorem dX12_isSo_36 : decode cX12_isSo 36 = .ok (.iadd, 1) := by decide +kernel
theorem dX12_isSo_37 : decode cX12_isSo 37 = .ok (.iaload, 1) := by decide +kernel
theorem dX12_isSo_38 : decode cX12_isSo 38 = .ok (.invokevirtual 423, 3) := by decide +kernel
theorem dX12_isSo_41 : decode cX12_isSo 41 = .ok (.aload_n 0, 1) := by decide +kernel
theorem dX12_isSo_42 : decode cX12_isSo 42 = .ok (.getfield 394, 3) := by decide +kernel
theorem dX12_isSo_45 : decode cX12_isSo 45 = .ok (.ifCond .ne 12, 3) := by decide +kernel
theorem dX12_isSo_48 : decode cX12_isSo 48 = .ok (.aload_n 0, 1) := by decide +kernel
theorem dX12_isSo_49 : decode cX12_isSo 49 = .ok (.getfield 412, 3) := by decide +kernel
theorem dX12_isSo_52 : decode cX12_isSo 52 = .ok (.lconst 0, 1) := by decide +kernel
theorem dX12_isSo_53 : decode cX12_isSo 53 = .ok (.lcmp, 1) := by decide +kernel
theorem dX12_isSo_54 : decode cX12_isSo 54 = .ok (.ifCond .ne 5, 3) := by decide +kernel
theorem dX12_isSo_57 : decode cX12_isSo 57 = .ok (.iconst 0, 1) := by decide +kernel
theorem dX12_isSo_58 : decode cX12_isSo 58 = .ok (.ireturn, 1) := by decide +kernel
theorem dX12_isSo_59 : decode cX12_isSo 59 = .ok (.aload_n 0, 1) := by decide +kernel
theorem dX12_isSo_60 : decode cX12_isSo 60 = .ok (.getfield 13, 3) := by decide +kernel
theorem dX12_isSo_63 : decode cX12_isSo 63 = .ok (.iload_n 1, 1) := by decide +kernel
theorem dX12_isSo_64 : decode cX12_isSo 64 = .ok (.iaload, 1) := by decide +kernel
theorem dX12_isSo_65 : decode cX12_isSo 65 = .ok (.iconst 3, 1) := by decide +kernel
theorem dX12_isSo_66 : decode cX12_isSo 66 = .ok (.if_icmp .eq 44, 3) := by decide +kernel
theorem dX12_isSo_69 : decode cX12_isSo 69 = .ok (.aload_n 0, 1) := by decide +kernel
theorem dX12_isSo_70 : decode cX12_isSo 70 = .ok (.aload_n 0, 1) := by decide +kernel
theorem dX12_isSo_71 : decode cX12_isSo 71 = .ok (.getfield 13, 3) := by decide +kernel
theorem dX12_isSo_74 : decode cX12_isSo 74 = .ok (.iload_n 1, 1) := by decide +kernel
theorem dX12_isSo_75 : decode cX12_isSo 75 = .ok (.iconst 3, 1) := by decide +kernel
theorem dX12_isSo_76 : decode cX12_isSo 76 = .ok (.iadd, 1) := by decide +kernel
theorem dX12_isSo_77 : decode cX12_isSo 77 = .ok (.iaload, 1) := by decide +kernel
theorem dX12_isSo_78 : decode cX12_isSo 78 = .ok (.aload_n 0, 1) := by decide +kernel
theorem dX12_isSo_79 : decode cX12_isSo 79 = .ok (.getfield 13, 3) := by decide +kernel
theorem dX12_isSo_82 : decode cX12_isSo 82 = .ok (.iload_n 1, 1) := by decide +kernel
theorem dX12_isSo_83 : decode cX12_isSo 83 = .ok (.iconst 4, 1) := by decide +kernel
theorem dX12_isSo_84 : decode cX12_isSo 84 = .ok (.iadd, 1) := by decide +kernel
theorem dX12_isSo_85 : decode cX12_isSo 85 = .ok (.iaload, 1) := by decide +kernel
theorem dX12_isSo_86 : decode cX12_isSo 86 = .ok (.invokevirtual 423, 3) := by decide +kernel
theorem dX12_isSo_89 : decode cX12_isSo 89 = .ok (.aload_n 0, 1) := by decide +kernel
theorem dX12_isSo_90 : decode cX12_isSo 90 = .ok (.aload_n 0, 1) := by decide +kernel
theorem dX12_isSo_91 : decode cX12_isSo 91 = .ok (.getfield 412, 3) := by decide +kernel
theorem dX12_isSo_94 : decode cX12_isSo 94 = .ok (.putfield 426, 3) := by decide +kernel
theorem dX12_isSo_97 : decode cX12_isSo 97 = .ok (.aload_n 0, 1) := by decide +kernel
theorem dX12_isSo_98 : decode cX12_isSo 98 = .ok (.getfield 394, 3) := by decide +kernel
theorem dX12_isSo_101 : decode cX12_isSo 101 = .ok (.ifCond .ne 7, 3) := by decide +kernel
theorem dX12_isSo_104 : decode cX12_isSo 104 = .ok (.iconst 1, 1) := by decide +kernel
theorem dX12_isSo_105 : decode cX12_isSo 105 = .ok (.goto 4, 3) := by decide +kernel
theorem dX12_isSo_108 : decode cX12_isSo 108 = .ok (.iconst 0, 1) := by decide +kernel
theorem dX12_isSo_109 : decode cX12_isSo 109 = .ok (.ireturn, 1) := by decide +kernel
theorem dX12_isSo_110 : decode cX12_isSo 110 = .ok (.iconst 1, 1) := by decide +kernel
theorem dX12_isSo_111 : decode cX12_isSo 111 = .ok (.ireturn, 1) := by decide +kernel
def w_X12_isSo (a0 : Int) (X : XT) (Q : Int → XT → Prop) : Prop :=
  (0 ≤ (a0 + 5) ∧ (a0 + 5) < 5780) ∧ (0 ≤ (a0 + 6) ∧ (a0 + 6) < 5780) ∧ ∀ J4 : XT → Prop, (∀  (X3 : XT), ((0 ≤ a0 ∧ a0 < 5780) ∧ R32 (X3 79 a0) ∧ ((X3 79 a0) = 3 → Q 1 X3) ∧ (¬ (X3 79 a0) = 3 → (0 ≤ (a0 + 3) ∧ (a0 + 3) < 5780) ∧ (0 ≤ (a0 + 4) ∧ (a0 + 4) < 5780) ∧ w_X12_reckonAll  (X3 79 (a0 + 3)) (X3 79 (a0 + 4)) X3 (fun (X14 : XT) => R32 ((x_st X14 77 35 (X14 77 34)) 77 33) ∧ (¬ ((x_st X14 77 35 (X14 77 34)) 77 33) = 0 → Q 0 (x_st X14 77 35 (X14 77 34))) ∧ (((x_st X14 77 35 (X14 77 34)) 77 33) = 0 → Q 1 (x_st X14 77 35 (X14 77 34)))))) → J4  X3) → R32 (X 79 (a0 + 5)) ∧ R32 (X 79 (a0 + 6)) ∧ ((X 79 (a0 + 6)) ≤ (X 79 (a0 + 5)) → J4  X) ∧ (¬ (X 79 (a0 + 6)) ≤ (X 79 (a0 + 5)) → w_X12_reckonAll  (X 79 (a0 + 5)) (X 79 (a0 + 6)) X (fun (X30 : XT) => R32 (X30 77 33) ∧ (¬ (X30 77 33) = 0 → Q 0 X30) ∧ ((X30 77 33) = 0 → R64 (X30 77 34) ∧ (¬ (X30 77 34) = 0 → J4  X30) ∧ ((X30 77 34) = 0 → Q 0 X30))))
set_option maxRecDepth 20000 in
theorem so_X12_isSo {n : Nat} {h : Nat → sE} {X : XT} {a0 : Int} {Q : Int → XT → Prop} (hn : 115 ≤ n) (hp : Pic X h) (w : w_X12_isSo  a0 X Q) : Sp m_X12_isSo 4 0 0 [.ref 77, .int (iI a0)] n h (pIw n h Q) := by
  unfold w_X12_isSo at w
  refine Sp.ofV (by decide +kernel) (Nat.le_of_ble_eq_true rfl) ?_
  have hf : Fr h h := fun _ _ => rfl
  refine v_aload_n dX12_isSo_0 rfl ?_
  refine v_get dX12_isSo_1 fl_X12_13 ((hp 77 (by decide)).trans (ent_77 _)) rfl (s_lt hn rfl) ?_
  refine v_iload_n dX12_isSo_4 rfl ?_
  refine v_iconstI dX12_isSo_5 ?_
  refine v_iaddI dX12_isSo_6 ?_
  obtain ⟨q1, w⟩ := w
  refine v_ialdI dX12_isSo_7 ((hp 79 (by decide)).trans (ent_79 _)) (s_lt hn rfl) q1.1 q1.2 (ix_le q1.2 (by decide)) ?_
  refine v_aload_n dX12_isSo_8 rfl ?_
  refine v_get dX12_isSo_9 fl_X12_13 ((hp 77 (by decide)).trans (ent_77 _)) rfl (s_lt hn rfl) ?_
  refine v_iload_n dX12_isSo_12 rfl ?_
  refine v_bipushI dX12_isSo_13 rfl ?_
  refine v_iaddI dX12_isSo_15 ?_
  obtain ⟨q2, w⟩ := w
  refine v_ialdI dX12_isSo_16 ((hp 79 (by decide)).trans (ent_79 _)) (s_lt hn rfl) q2.1 q2.2 (ix_le q2.2 (by decide)) ?_
  replace w := w (fun  (X3 : XT) => ∀ h7 : Nat → sE, Pic X3 h7 → Fr h h7 → V (m_X12_isSo, 4, 0, 0, n, pIw n h Q, s_G0) 0 0 n h7 59 [(0, .ref 77), (1, .int (iI a0))] []) (by
    intro  X3 w h7 hp5 hf6
    refine v_aload_n dX12_isSo_59 rfl ?_
    refine v_get dX12_isSo_60 fl_X12_13 ((hp5 77 (by decide)).trans (ent_77 _)) rfl (s_lt hn rfl) ?_
    refine v_iload_n dX12_isSo_63 rfl ?_
    obtain ⟨q8, w⟩ := w
    refine v_ialdI dX12_isSo_64 ((hp5 79 (by decide)).trans (ent_79 _)) (s_lt hn rfl) q8.1 q8.2 (ix_le q8.2 (by decide)) ?_
    refine v_iconstI dX12_isSo_65 ?_
    obtain ⟨q9, w⟩ := w
    refine v_icmp_eqI (tgt := 110) dX12_isSo_66 (by decide) q9.1 q9.2 (by decide) (by decide) (fun c10 => ?_) (fun c10 => ?_)
    · replace w := w.1 c10
      refine v_iconstI dX12_isSo_110 ?_
      exact v_z1 dX12_isSo_111 rfl (Nat.zero_le _) (Nat.zero_le _) ⟨rfl, hf6, _, _, rfl, hp5, w⟩
    · replace w := w.2 c10
      refine v_aload_n dX12_isSo_69 rfl ?_
      refine v_aload_n dX12_isSo_70 rfl ?_
      refine v_get dX12_isSo_71 fl_X12_13 ((hp5 77 (by decide)).trans (ent_77 _)) rfl (s_lt hn rfl) ?_
      refine v_iload_n dX12_isSo_74 rfl ?_
      refine v_iconstI dX12_isSo_75 ?_
      refine v_iaddI dX12_isSo_76 ?_
      obtain ⟨q11, w⟩ := w
      refine v_ialdI dX12_isSo_77 ((hp5 79 (by decide)).trans (ent_79 _)) (s_lt hn rfl) q11.1 q11.2 (ix_le q11.2 (by decide)) ?_
      refine v_aload_n dX12_isSo_78 rfl ?_
      refine v_get dX12_isSo_79 fl_X12_13 ((hp5 77 (by decide)).trans (ent_77 _)) rfl (s_lt hn rfl) ?_
      refine v_iload_n dX12_isSo_82 rfl ?_
      refine v_iconstI dX12_isSo_83 ?_
      refine v_iaddI dX12_isSo_84 ?_
      obtain ⟨q12, w⟩ := w
      refine v_ialdI dX12_isSo_85 ((hp5 79 (by decide)).trans (ent_79 _)) (s_lt hn rfl) q12.1 q12.2 (ix_le q12.2 (by decide)) ?_
      refine v_callVVw dX12_isSo_86 ml_X12_423 (so_X12_reckonAll hn hp5  w) ((hp5 77 (by decide)).trans (ent_77 _)) rfl (s_lt hn rfl) rfl rfl (Nat.le_of_ble_eq_true rfl) (Nat.le_of_ble_eq_true rfl) (Nat.zero_le _) (Nat.zero_le _) (fun X14 h15 hp17 hf16 w => ?_)
      have hf18 := Fr.trans hf6 hf16
      refine v_aload_n dX12_isSo_89 rfl ?_
      refine v_aload_n dX12_isSo_90 rfl ?_
      refine v_get dX12_isSo_91 fl_X12_412 ((hp17 77 (by decide)).trans (ent_77 _)) rfl (s_lt hn rfl) ?_
      refine v_put dX12_isSo_94 fl_X12_426 ((hp17 77 (by decide)).trans (ent_77 _)) (s_lt hn rfl) (Nat.le_of_ble_eq_true rfl) (fun _ => ⟨rfl, rfl⟩) trivial (fun h19 E20 F21 => ?_)
      have hp22 := pic_st hp17 (show h19 77 = ent 77 (uI _ 35 (X14 77 34)) from E20) F21
      have hf23 := Fr.up (c := 77) hf18 F21 rfl
      refine v_aload_n dX12_isSo_97 rfl ?_
      refine v_get dX12_isSo_98 fl_X12_394 ((hp22 77 (by decide)).trans (ent_77 _)) rfl (s_lt hn rfl) ?_
      obtain ⟨q24, w⟩ := w
      refine v_if_neI (tgt := 108) dX12_isSo_101 (by decide) q24.1 q24.2 (fun c25 => ?_) (fun c25 => ?_)
      · replace w := w.1 c25
        refine v_iconstI dX12_isSo_108 ?_
        exact v_z0 dX12_isSo_109 rfl (Nat.zero_le _) (Nat.zero_le _) ⟨rfl, hf23, _, _, rfl, hp22, w⟩
      · replace w := w.2 c25
        refine v_iconstI dX12_isSo_104 ?_
        refine v_goto (tgt := 109) dX12_isSo_105 (by decide) ?_
        exact v_z1 dX12_isSo_109 rfl (Nat.zero_le _) (Nat.zero_le _) ⟨rfl, hf23, _, _, rfl, hp22, w⟩
  )
  obtain ⟨q26, q27, w⟩ := w
  refine v_icmp_geI (tgt := 59) dX12_isSo_17 (by decide) q26.1 q26.2 q27.1 q27.2 (fun c28 => ?_) (fun c28 => ?_)
  · replace w := w.1 c28
    exact w _ hp hf
  · replace w := w.2 c28
    refine v_aload_n dX12_isSo_20 rfl ?_
    refine v_aload_n dX12_isSo_21 rfl ?_
    refine v_get dX12_isSo_22 fl_X12_13 ((hp 77 (by decide)).trans (ent_77 _)) rfl (s_lt hn rfl) ?_
    refine v_iload_n dX12_isSo_25 rfl ?_
    refine v_iconstI dX12_isSo_26 ?_
    refine v_iaddI dX12_isSo_27 ?_
    refine v_ialdI dX12_isSo_28 ((hp 79 (by decide)).trans (ent_79 _)) (s_lt hn rfl) q1.1 q1.2 (ix_le q1.2 (by decide)) ?_
    refine v_aload_n dX12_isSo_29 rfl ?_
    refine v_get dX12_isSo_30 fl_X12_13 ((hp 77 (by decide)).trans (ent_77 _)) rfl (s_lt hn rfl) ?_
    refine v_iload_n dX12_isSo_33 rfl ?_
    refine v_bipushI dX12_isSo_34 rfl ?_
    refine v_iaddI dX12_isSo_36 ?_
    refine v_ialdI dX12_isSo_37 ((hp 79 (by decide)).trans (ent_79 _)) (s_lt hn rfl) q2.1 q2.2 (ix_le q2.2 (by decide)) ?_
    refine v_callVVw dX12_isSo_38 ml_X12_423 (so_X12_reckonAll hn hp  w) ((hp 77 (by decide)).trans (ent_77 _)) rfl (s_lt hn rfl) rfl rfl (Nat.le_of_ble_eq_true rfl) (Nat.le_of_ble_eq_true rfl) (Nat.zero_le _) (Nat.zero_le _) (fun X30 h31 hp33 hf32 w => ?_)
    have hf34 := Fr.trans hf hf32
    refine v_aload_n dX12_isSo_41 rfl ?_
    refine v_get dX12_isSo_42 fl_X12_394 ((hp33 77 (by decide)).trans (ent_77 _)) rfl (s_lt hn rfl) ?_
    obtain ⟨q35, w⟩ := w
    refine v_if_neI (tgt := 57) dX12_isSo_45 (by decide) q35.1 q35.2 (fun c36 => ?_) (fun c36 => ?_)
    · replace w := w.1 c36
      refine v_iconstI dX12_isSo_57 ?_
      exact v_z0 dX12_isSo_58 rfl (Nat.zero_le _) (Nat.zero_le _) ⟨rfl, hf34, _, _, rfl, hp33, w⟩
    · replace w := w.2 c36
      refine v_aload_n dX12_isSo_48 rfl ?_
      refine v_get dX12_isSo_49 fl_X12_412 ((hp33 77 (by decide)).trans (ent_77 _)) rfl (s_lt hn rfl) ?_
      refine v_lconstI (w := 0) dX12_isSo_52 rfl ?_
      obtain ⟨q37, w⟩ := w
      refine v_lcmp_neI (tgt := 59) dX12_isSo_53 dX12_isSo_54 (by decide) q37.1 q37.2 (by decide) (by decide) (fun c38 => ?_) (fun c38 => ?_)
      · replace w := w.1 c38
        exact w _ hp33 hf34
      · replace w := w.2 c38
        refine v_iconstI dX12_isSo_57 ?_
        exact v_z0 dX12_isSo_58 rfl (Nat.zero_le _) (Nat.zero_le _) ⟨rfl, hf34, _, _, rfl, hp33, w⟩
theorem dX12_tells_0 : decode cX12_tells 0 = .ok (.aload_n 0, 1) := by decide +kernel
theorem dX12_tells_1 : decode cX12_tells 1 = .ok (.getfield 13, 3) := by decide +kernel
theorem dX12_tells_4 : decode cX12_tells 4 = .ok (.iconst 5, 1) := by decide +kernel
theorem dX12_tells_5 : decode cX12_tells 5 = .ok (.iaload, 1) := by decide +kernel
theorem dX12_tells_6 : decode cX12_tells 6 = .ok (.iconst (-1), 1) := by decide +kernel
theorem dX12_tells_7 : decode cX12_tells 7 = .ok (.if_icmp .ne 6, 3) := by decide +kernel
theorem dX12_tells_10 : decode cX12_tells 10 = .ok (.lload 8, 2) := by decide +kernel
theorem dX12_tells_12 : decode cX12_tells 12 = .ok (.lreturn, 1) := by decide +kernel
theorem dX12_tells_13 : decode cX12_tells 13 = .ok (.aload_n 0, 1) := by decide +kernel
theorem dX12_tells_14 : decode cX12_tells 14 = .ok (.sipush 380, 3) := by decide +kernel
theorem dX12_tells_17 : decode cX12_tells 17 = .ok (.sipush 900, 3) := by decide +kernel
theorem dX12_tells_20 : decode cX12_tells 20 = .ok (.aload_n 0, 1) := by decide +kernel
theorem dX12_tells_21 : decode cX12_tells 21 = .ok (.getfield 13, 3) := by decide +kernel
theorem dX12_tells_24 : decode cX12_tells 24 = .ok (.iconst 5, 1) := by decide +kernel
theorem dX12_tells_25 : decode cX12_tells 25 = .ok (.iaload, 1) := by decide +kernel
theorem dX12_tells_26 : decode cX12_tells 26 = .ok (.imul, 1) := by decide +kernel
theorem dX12_tells_27 : decode cX12_tells 27 = .ok (.iadd, 1) := by decide +kernel
theorem dX12_tells_28 : decode cX12_tells 28 = .ok (.putfield 397, 3) := by decide +kernel
theorem dX12_tells_31 : decode cX12_tells 31 = .ok (.aload_n 0, 1) := by decide +kernel
theorem dX12_tells_32 : decode cX12_tells 32 = .ok (.getfield 93, 3) := by decide +kernel
theorem dX12_tells_35 : decode cX12_tells 35 = .ok (.iconst 1, 1) := by decide +kernel
theorem dX12_tells_36 : decode cX12_tells 36 = .ok (.iload_n 2, 1) := by decide +kernel
theorem dX12_tells_37 : decode cX12_tells 37 = .ok (.i2l, 1) := by decide +kernel
theorem dX12_tells_38 : decode cX12_tells 38 = .ok (.lastore, 1) := by decide +kernel
theorem dX12_tells_39 : decode cX12_tells 39 = .ok (.aload_n 0, 1) := by decide +kernel
theorem dX12_tells_40 : decode cX12_tells 40 = .ok (.getfield 93, 3) := by decide +kernel
theorem dX12_tells_43 : decode cX12_tells 43 = .ok (.iconst 2, 1) := by decide +kernel
theorem dX12_tells_44 : decode cX12_tells 44 = .ok (.iload_n 3, 1) := by decide +kernel
theorem dX12_tells_45 : decode cX12_tells 45 = .ok (.i2l, 1) := by decide +kernel
theorem dX12_tells_46 : decode cX12_tells 46 = .ok (.lastore, 1) := by decide +kernel
theorem dX12_tells_47 : decode cX12_tells 47 = .ok (.aload_n 0, 1) := by decide +kernel
theorem dX12_tells_48 : decode cX12_tells 48 = .ok (.getfield 93, 3) := by decide +kernel
theorem dX12_tells_51 : decode cX12_tells 51 = .ok (.iconst 3, 1) := by decide +kernel
theorem dX12_tells_52 : decode cX12_tells 52 = .ok (.iload 4, 2) := by decide +kernel
theorem dX12_tells_54 : decode cX12_tells 54 = .ok (.i2l, 1) := by decide +kernel
theorem dX12_tells_55 : decode cX12_tells 55 = .ok (.lastore, 1) := by decide +kernel
theorem dX12_tells_56 : decode cX12_tells 56 = .ok (.aload_n 0, 1) := by decide +kernel
theorem dX12_tells_57 : decode cX12_tells 57 = .ok (.getfield 93, 3) := by decide +kernel
theorem dX12_tells_60 : decode cX12_tells 60 = .ok (.iconst 4, 1) := by decide +kernel
theorem dX12_tells_61 : decode cX12_tells 61 = .ok (.iload 5, 2) := by decide +kernel
theorem dX12_tells_63 : decode cX12_tells 63 = .ok (.i2l, 1) := by decide +kernel
theorem dX12_tells_64 : decode cX12_tells 64 = .ok (.lastore, 1) := by decide +kernel
theorem dX12_tells_65 : decode cX12_tells 65 = .ok (.aload_n 0, 1) := by decide +kernel
theorem dX12_tells_66 : decode cX12_tells 66 = .ok (.getfield 93, 3) := by decide +kernel
theorem dX12_tells_69 : decode cX12_tells 69 = .ok (.iconst 5, 1) := by decide +kernel
theorem dX12_tells_70 : decode cX12_tells 70 = .ok (.iload 6, 2) := by decide +kernel
theorem dX12_tells_72 : decode cX12_tells 72 = .ok (.i2l, 1) := by decide +kernel
theorem dX12_tells_73 : decode cX12_tells 73 = .ok (.lastore, 1) := by decide +kernel
theorem dX12_tells_74 : decode cX12_tells 74 = .ok (.aload_n 0, 1) := by decide +kernel
theorem dX12_tells_75 : decode cX12_tells 75 = .ok (.getfield 93, 3) := by decide +kernel
theorem dX12_tells_78 : decode cX12_tells 78 = .ok (.bipush 6, 2) := by decide +kernel
theorem dX12_tells_80 : decode cX12_tells 80 = .ok (.iload 7, 2) := by decide +kernel
theorem dX12_tells_82 : decode cX12_tells 82 = .ok (.i2l, 1) := by decide +kernel
theorem dX12_tells_83 : decode cX12_tells 83 = .ok (.lastore, 1) := by decide +kernel
theorem dX12_tells_84 : decode cX12_tells 84 = .ok (.aload_n 0, 1) := by decide +kernel
theorem dX12_tells_85 : decode cX12_tells 85 = .ok (.getfield 93, 3) := by decide +kernel
theorem dX12_tells_88 : decode cX12_tells 88 = .ok (.bipush 7, 2) := by decide +kernel
theorem dX12_tells_90 : decode cX12_tells 90 = .ok (.aload_n 0, 1) := by decide +kernel
theorem dX12_tells_91 : decode cX12_tells 91 = .ok (.getfield 13, 3) := by decide +kernel
theorem dX12_tells_94 : decode cX12_tells 94 = .ok (.bipush 6, 2) := by decide +kernel
theorem dX12_tells_96 : decode cX12_tells 96 = .ok (.iaload, 1) := by decide +kernel
theorem dX12_tells_97 : decode cX12_tells 97 = .ok (.i2l, 1) := by decide +kernel
theorem dX12_tells_98 : decode cX12_tells 98 = .ok (.lastore, 1) := by decide +kernel
theorem dX12_tells_99 : decode cX12_tells 99 = .ok (.aload_n 0, 1) := by decide +kernel
theorem dX12_tells_100 : decode cX12_tells 100 = .ok (.getfield 93, 3) := by decide +kernel
theorem dX12_tells_103 : decode cX12_tells 103 = .ok (.bipush 8, 2) := by decide +kernel
theorem dX12_tells_105 : decode cX12_tells 105 = .ok (.aload_n 0, 1) := by decide +kernel
theorem dX12_tells_106 : decode cX12_tells 106 = .ok (.getfield 13, 3) := by decide +kernel
theorem dX12_tells_109 : decode cX12_tells 109 = .ok (.bipush 8, 2) := by decide +kernel
theorem dX12_tells_111 : decode cX12_tells 111 = .ok (.iaload, 1) := by decide +kernel
theorem dX12_tells_112 : decode cX12_tells 112 = .ok (.i2l, 1) := by decide +kernel
theorem dX12_tells_113 : decode cX12_tells 113 = .ok (.lastore, 1) := by decide +kernel
theorem dX12_tells_114 : decode cX12_tells 114 = .ok (.lload 8, 2) := by decide +kernel
theorem dX12_tells_116 : decode cX12_tells 116 = .ok (.lstore 10, 2) := by decide +kernel
theorem dX12_tells_118 : decode cX12_tells 118 = .ok (.iconst 0, 1) := by decide +kernel
theorem dX12_tells_119 : decode cX12_tells 119 = .ok (.istore 12, 2) := by decide +kernel
theorem dX12_tells_121 : decode cX12_tells 121 = .ok (.iload 12, 2) := by decide +kernel
theorem dX12_tells_123 : decode cX12_tells 123 = .ok (.aload_n 0, 1) := by decide +kernel
theorem dX12_tells_124 : decode cX12_tells 124 = .ok (.getfield 13, 3) := by decide +kernel
theorem dX12_tells_127 : decode cX12_tells 127 = .ok (.aload_n 0, 1) := by decide +kernel
theorem dX12_tells_128 : decode cX12_tells 128 = .ok (.getfield 397, 3) := by decide +kernel
theorem dX12_tells_131 : decode cX12_tells 131 = .ok (.iconst 1, 1) := by decide +kernel
theorem dX12_tells_132 : decode cX12_tells 132 = .ok (.iadd, 1) := by decide +kernel
theorem dX12_tells_133 : decode cX12_tells 133 = .ok (.iaload, 1) := by decide +kernel
theorem dX12_tells_134 : decode cX12_tells 134 = .ok (.if_icmp .ge 58, 3) := by decide +kernel
theorem dX12_tells_137 : decode cX12_tells 137 = .ok (.aload_n 0, 1) := by decide +kernel
theorem dX12_tells_138 : decode cX12_tells 138 = .ok (.getfield 397, 3) := by decide +kernel
theorem dX12_tells_141 : decode cX12_tells 141 = .ok (.iconst 2, 1) := by decide +kernel
theorem dX12_tells_142 : decode cX12_tells 142 = .ok (.iadd, 1) := by decide +kernel
theorem dX12_tells_143 : decode cX12_tells 143 = .ok (.bipush 8, 2) := by decide +kernel
theorem dX12_tells_145 : decode cX12_tells 145 = .ok (.iload 12, 2) := by decide +kernel
theorem dX12_tells_147 : decode cX12_tells 147 = .ok (.imul, 1) := by decide +kernel
theorem dX12_tells_148 : decode cX12_tells 148 = .ok (.iadd, 1) := by decide +kernel
theorem dX12_tells_149 : decode cX12_tells 149 = .ok (.istore 13, 2) := by decide +kernel
theorem dX12_tells_151 : decode cX12_tells 151 = .ok (.aload_n 0, 1) := by decide +kernel
theorem dX12_tells_152 : decode cX12_tells 152 = .ok (.getfield 13, 3) := by decide +kernel
theorem dX12_tells_155 : decode cX12_tells 155 = .ok (.iload 13, 2) := by decide +kernel
theorem dX12_tells_157 : decode cX12_tells 157 = .ok (.iaload, 1) := by decide +kernel
theorem dX12_tells_158 : decode cX12_tells 158 = .ok (.iload_n 1, 1) := by decide +kernel
theorem dX12_tells_159 : decode cX12_tells 159 = .ok (.if_icmp .ne 27, 3) := by decide +kernel
theorem dX12_tells_162 : decode cX12_tells 162 = .ok (.aload_n 0, 1) := by decide +kernel
theorem dX12_tells_163 : decode cX12_tells 163 = .ok (.iload 13, 2) := by decide +kernel
theorem dX12_tells_165 : decode cX12_tells 165 = .ok (.invokevirtual 429, 3) := by decide +kernel
theorem dX12_tells_168 : decode cX12_tells 168 = .ok (.ifCond .eq 18, 3) := by decide +kernel
theorem dX12_tells_171 : decode cX12_tells 171 = .ok (.iload_n 1, 1) := by decide +kernel
theorem dX12_tells_172 : decode cX12_tells 172 = .ok (.iconst 3, 1) := by decide +kernel
theorem dX12_tells_173 : decode cX12_tells 173 = .ok (.if_icmp .ne 7, 3) := by decide +kernel
theorem dX12_tells_176 : decode cX12_tells 176 = .ok (.lconst 1, 1) := by decide +kernel
theorem dX12_tells_177 : decode cX12_tells 177 = .ok (.goto 7, 3) := by decide +kernel
theorem dX12_tells_180 : decode cX12_tells 180 = .ok (.aload_n 0, 1) := by decide +kernel
theorem dX12_tells_181 : decode cX12_tells 181 = .ok (.getfield 426, 3) := by decide +kernel
theorem dX12_tells_184 : decode cX12_tells 184 = .ok (.lstore 10, 2) := by decide +kernel
theorem dX12_tells_186 : decode cX12_tells 186 = .ok (.iinc 12 1, 3) := by decide +kernel
theorem dX12_tells_189 : decode cX12_tells 189 = .ok (.goto (-68), 3) := by decide +kernel
theorem dX12_tells_192 : decode cX12_tells 192 = .ok (.lload 10, 2) := by decide +kernel
theorem dX12_tells_194 : decode cX12_tells 194 = .ok (.lreturn, 1) := by decide +kernel
def w_X12_tells (a0 a1 a2 a3 a4 a5 a6 a7 : Int) (X : XT) (Q : Int → XT → Prop) : Prop :=
  R32 (X 79 5) ∧ (¬ (X 79 5) = (-1) → R32 a1 ∧ R32 a2 ∧ R32 a3 ∧ R32 a4 ∧ R32 a5 ∧ R32 a6 ∧ R32 ((x_st (x_st (x_st (x_st (x_st (x_st (x_st X 77 29 (380 + (900 * (X 79 5)))) 91 1 a1) 91 2 a2) 91 3 a3) 91 4 a4) 91 5 a5) 91 6 a6) 79 6) ∧ R32 ((x_st (x_st (x_st (x_st (x_st (x_st (x_st (x_st X 77 29 (380 + (900 * (X 79 5)))) 91 1 a1) 91 2 a2) 91 3 a3) 91 4 a4) 91 5 a5) 91 6 a6) 91 7 ((x_st (x_st (x_st (x_st (x_st (x_st (x_st X 77 29 (380 + (900 * (X 79 5)))) 91 1 a1) 91 2 a2) 91 3 a3) 91 4 a4) 91 5 a5) 91 6 a6) 79 6)) 79 8) ∧ ∃ (I59 : Int → Int → XT → Prop) (m60 : Int → Int → XT → Nat), I59 a7 0 (x_st (x_st (x_st (x_st (x_st (x_st (x_st (x_st (x_st X 77 29 (380 + (900 * (X 79 5)))) 91 1 a1) 91 2 a2) 91 3 a3) 91 4 a4) 91 5 a5) 91 6 a6) 91 7 ((x_st (x_st (x_st (x_st (x_st (x_st (x_st X 77 29 (380 + (900 * (X 79 5)))) 91 1 a1) 91 2 a2) 91 3 a3) 91 4 a4) 91 5 a5) 91 6 a6) 79 6)) 91 8 ((x_st (x_st (x_st (x_st (x_st (x_st (x_st (x_st X 77 29 (380 + (900 * (X 79 5)))) 91 1 a1) 91 2 a2) 91 3 a3) 91 4 a4) 91 5 a5) 91 6 a6) 91 7 ((x_st (x_st (x_st (x_st (x_st (x_st (x_st X 77 29 (380 + (900 * (X 79 5)))) 91 1 a1) 91 2 a2) 91 3 a3) 91 4 a4) 91 5 a5) 91 6 a6) 79 6)) 79 8)) ∧ ∀ (x56 : Int) (x57 : Int) (X58 : XT), I59 x56 x57 X58 → (0 ≤ ((X58 77 29) + 1) ∧ ((X58 77 29) + 1) < 5780) ∧ R32 x57 ∧ R32 (X58 79 ((X58 77 29) + 1)) ∧ ((X58 79 ((X58 77 29) + 1)) ≤ x57 → Q x56 X58) ∧ (¬ (X58 79 ((X58 77 29) + 1)) ≤ x57 → (0 ≤ (((X58 77 29) + 2) + (8 * x57)) ∧ (((X58 77 29) + 2) + (8 * x57)) < 5780) ∧ R32 (X58 79 (((X58 77 29) + 2) + (8 * x57))) ∧ R32 a0 ∧ (¬ (X58 79 (((X58 77 29) + 2) + (8 * x57))) = a0 → I59 x56 (x57 + 1) X58 ∧ m60 x56 (x57 + 1) X58 < m60 x56 x57 X58) ∧ ((X58 79 (((X58 77 29) + 2) + (8 * x57))) = a0 → w_X12_isSo  (((X58 77 29) + 2) + (8 * x57)) X58 (fun (v79 : Int) (X80 : XT) => R32 v79 ∧ (v79 = 0 → I59 x56 (x57 + 1) X80 ∧ m60 x56 (x57 + 1) X80 < m60 x56 x57 X58) ∧ (¬ v79 = 0 → (¬ a0 = 3 → I59 (X80 77 35) (x57 + 1) X80 ∧ m60 (X80 77 35) (x57 + 1) X80 < m60 x56 x57 X58) ∧ (a0 = 3 → I59 1 (x57 + 1) X80 ∧ m60 1 (x57 + 1) X80 < m60 x56 x57 X58)))))) ∧ ((X 79 5) = (-1) → Q a7 X)
set_option maxRecDepth 20000 in
theorem so_X12_tells {n : Nat} {h : Nat → sE} {X : XT} {a0 a1 a2 a3 a4 a5 a6 a7 : Int} {Q : Int → XT → Prop} (hn : 115 ≤ n) (hp : Pic X h) (w : w_X12_tells  a0 a1 a2 a3 a4 a5 a6 a7 X Q) : Sp m_X12_tells 5 0 0 [.ref 77, .int (iI a0), .int (iI a1), .int (iI a2), .int (iI a3), .int (iI a4), .int (iI a5), .int (iI a6), .long (jJ a7)] n h (pLw n h Q) := by
  unfold w_X12_tells at w
  refine Sp.ofV (by decide +kernel) (Nat.le_of_ble_eq_true rfl) ?_
  have hf : Fr h h := fun _ _ => rfl
  refine v_aload_n dX12_tells_0 rfl ?_
  refine v_get dX12_tells_1 fl_X12_13 ((hp 77 (by decide)).trans (ent_77 _)) rfl (s_lt hn rfl) ?_
  refine v_iconstI dX12_tells_4 ?_
  refine v_ialdI dX12_tells_5 ((hp 79 (by decide)).trans (ent_79 _)) (s_lt hn rfl) (by decide) (by decide) (by decide) ?_
  refine v_iconstI dX12_tells_6 ?_
  obtain ⟨q1, w⟩ := w
  refine v_icmp_neI (tgt := 13) dX12_tells_7 (by decide) q1.1 q1.2 (by decide) (by decide) (fun c2 => ?_) (fun c2 => ?_)
  · replace w := w.1 c2
    refine v_aload_n dX12_tells_13 rfl ?_
    refine v_sipushI dX12_tells_14 rfl ?_
    refine v_sipushI dX12_tells_17 rfl ?_
    refine v_aload_n dX12_tells_20 rfl ?_
    refine v_get dX12_tells_21 fl_X12_13 ((hp 77 (by decide)).trans (ent_77 _)) rfl (s_lt hn rfl) ?_
    refine v_iconstI dX12_tells_24 ?_
    refine v_ialdI dX12_tells_25 ((hp 79 (by decide)).trans (ent_79 _)) (s_lt hn rfl) (by decide) (by decide) (by decide) ?_
    refine v_imulI dX12_tells_26 ?_
    refine v_iaddI dX12_tells_27 ?_
    refine v_put dX12_tells_28 fl_X12_397 ((hp 77 (by decide)).trans (ent_77 _)) (s_lt hn rfl) (Nat.le_of_ble_eq_true rfl) (fun _ => ⟨rfl, rfl⟩) trivial (fun h3 E4 F5 => ?_)
    have hp6 := pic_st hp (show h3 77 = ent 77 (uI _ 29 (380 + (900 * (X 79 5)))) from E4) F5
    have hf7 := Fr.up (c := 77) hf F5 rfl
    refine v_aload_n dX12_tells_31 rfl ?_
    refine v_get dX12_tells_32 fl_X12_93 ((hp6 77 (by decide)).trans (ent_77 _)) rfl (s_lt hn rfl) ?_
    refine v_iconstI dX12_tells_35 ?_
    refine v_iload_n dX12_tells_36 rfl ?_
    obtain ⟨q8, w⟩ := w
    refine v_i2lI dX12_tells_37 q8.1 q8.2 ?_
    refine v_lastI dX12_tells_38 ((hp6 91 (by decide)).trans (ent_91 _)) (s_lt hn rfl) (by decide) (by decide) (by decide) (fun h9 E10 F11 => ?_)
    have hp12 := pic_st hp6 (show h9 91 = ent 91 (uI _ 1 a1) from E10) F11
    have hf13 := Fr.up (c := 91) hf7 F11 rfl
    refine v_aload_n dX12_tells_39 rfl ?_
    refine v_get dX12_tells_40 fl_X12_93 ((hp12 77 (by decide)).trans (ent_77 _)) rfl (s_lt hn rfl) ?_
    refine v_iconstI dX12_tells_43 ?_
    refine v_iload_n dX12_tells_44 rfl ?_
    obtain ⟨q14, w⟩ := w
    refine v_i2lI dX12_tells_45 q14.1 q14.2 ?_
    refine v_lastI dX12_tells_46 ((hp12 91 (by decide)).trans (ent_91 _)) (s_lt hn rfl) (by decide) (by decide) (by decide) (fun h15 E16 F17 => ?_)
    have hp18 := pic_st hp12 (show h15 91 = ent 91 (uI _ 2 a2) from E16) F17
    have hf19 := Fr.up (c := 91) hf13 F17 rfl
    refine v_aload_n dX12_tells_47 rfl ?_
    refine v_get dX12_tells_48 fl_X12_93 ((hp18 77 (by decide)).trans (ent_77 _)) rfl (s_lt hn rfl) ?_
    refine v_iconstI dX12_tells_51 ?_
    refine v_iload dX12_tells_52 rfl ?_
    obtain ⟨q20, w⟩ := w
    refine v_i2lI dX12_tells_54 q20.1 q20.2 ?_
    refine v_lastI dX12_tells_55 ((hp18 91 (by decide)).trans (ent_91 _)) (s_lt hn rfl) (by decide) (by decide) (by decide) (fun h21 E22 F23 => ?_)
    have hp24 := pic_st hp18 (show h21 91 = ent 91 (uI _ 3 a3) from E22) F23
    have hf25 := Fr.up (c := 91) hf19 F23 rfl
    refine v_aload_n dX12_tells_56 rfl ?_
    refine v_get dX12_tells_57 fl_X12_93 ((hp24 77 (by decide)).trans (ent_77 _)) rfl (s_lt hn rfl) ?_
    refine v_iconstI dX12_tells_60 ?_
    refine v_iload dX12_tells_61 rfl ?_
    obtain ⟨q26, w⟩ := w
    refine v_i2lI dX12_tells_63 q26.1 q26.2 ?_
    refine v_lastI dX12_tells_64 ((hp24 91 (by decide)).trans (ent_91 _)) (s_lt hn rfl) (by decide) (by decide) (by decide) (fun h27 E28 F29 => ?_)
    have hp30 := pic_st hp24 (show h27 91 = ent 91 (uI _ 4 a4) from E28) F29
    have hf31 := Fr.up (c := 91) hf25 F29 rfl
    refine v_aload_n dX12_tells_65 rfl ?_
    refine v_get dX12_tells_66 fl_X12_93 ((hp30 77 (by decide)).trans (ent_77 _)) rfl (s_lt hn rfl) ?_
    refine v_iconstI dX12_tells_69 ?_
    refine v_iload dX12_tells_70 rfl ?_
    obtain ⟨q32, w⟩ := w
    refine v_i2lI dX12_tells_72 q32.1 q32.2 ?_
    refine v_lastI dX12_tells_73 ((hp30 91 (by decide)).trans (ent_91 _)) (s_lt hn rfl) (by decide) (by decide) (by decide) (fun h33 E34 F35 => ?_)
    have hp36 := pic_st hp30 (show h33 91 = ent 91 (uI _ 5 a5) from E34) F35
    have hf37 := Fr.up (c := 91) hf31 F35 rfl
    refine v_aload_n dX12_tells_74 rfl ?_
    refine v_get dX12_tells_75 fl_X12_93 ((hp36 77 (by decide)).trans (ent_77 _)) rfl (s_lt hn rfl) ?_
    refine v_bipushI dX12_tells_78 rfl ?_
    refine v_iload dX12_tells_80 rfl ?_
    obtain ⟨q38, w⟩ := w
    refine v_i2lI dX12_tells_82 q38.1 q38.2 ?_
    refine v_lastI dX12_tells_83 ((hp36 91 (by decide)).trans (ent_91 _)) (s_lt hn rfl) (by decide) (by decide) (by decide) (fun h39 E40 F41 => ?_)
    have hp42 := pic_st hp36 (show h39 91 = ent 91 (uI _ 6 a6) from E40) F41
    have hf43 := Fr.up (c := 91) hf37 F41 rfl
    refine v_aload_n dX12_tells_84 rfl ?_
    refine v_get dX12_tells_85 fl_X12_93 ((hp42 77 (by decide)).trans (ent_77 _)) rfl (s_lt hn rfl) ?_
    refine v_bipushI dX12_tells_88 rfl ?_
    refine v_aload_n dX12_tells_90 rfl ?_
    refine v_get dX12_tells_91 fl_X12_13 ((hp42 77 (by decide)).trans (ent_77 _)) rfl (s_lt hn rfl) ?_
    refine v_bipushI dX12_tells_94 rfl ?_
    refine v_ialdI dX12_tells_96 ((hp42 79 (by decide)).trans (ent_79 _)) (s_lt hn rfl) (by decide) (by decide) (by decide) ?_
    obtain ⟨q44, w⟩ := w
    refine v_i2lI dX12_tells_97 q44.1 q44.2 ?_
    refine v_lastI dX12_tells_98 ((hp42 91 (by decide)).trans (ent_91 _)) (s_lt hn rfl) (by decide) (by decide) (by decide) (fun h45 E46 F47 => ?_)
    have hp48 := pic_st hp42 (show h45 91 = ent 91 (uI _ 7 ((x_st (x_st (x_st (x_st (x_st (x_st (x_st X 77 29 (380 + (900 * (X 79 5)))) 91 1 a1) 91 2 a2) 91 3 a3) 91 4 a4) 91 5 a5) 91 6 a6) 79 6)) from E46) F47
    have hf49 := Fr.up (c := 91) hf43 F47 rfl
    refine v_aload_n dX12_tells_99 rfl ?_
    refine v_get dX12_tells_100 fl_X12_93 ((hp48 77 (by decide)).trans (ent_77 _)) rfl (s_lt hn rfl) ?_
    refine v_bipushI dX12_tells_103 rfl ?_
    refine v_aload_n dX12_tells_105 rfl ?_
    refine v_get dX12_tells_106 fl_X12_13 ((hp48 77 (by decide)).trans (ent_77 _)) rfl (s_lt hn rfl) ?_
    refine v_bipushI dX12_tells_109 rfl ?_
    refine v_ialdI dX12_tells_111 ((hp48 79 (by decide)).trans (ent_79 _)) (s_lt hn rfl) (by decide) (by decide) (by decide) ?_
    obtain ⟨q50, w⟩ := w
    refine v_i2lI dX12_tells_112 q50.1 q50.2 ?_
    refine v_lastI dX12_tells_113 ((hp48 91 (by decide)).trans (ent_91 _)) (s_lt hn rfl) (by decide) (by decide) (by decide) (fun h51 E52 F53 => ?_)
    have hp54 := pic_st hp48 (show h51 91 = ent 91 (uI _ 8 ((x_st (x_st (x_st (x_st (x_st (x_st (x_st (x_st X 77 29 (380 + (900 * (X 79 5)))) 91 1 a1) 91 2 a2) 91 3 a3) 91 4 a4) 91 5 a5) 91 6 a6) 91 7 ((x_st (x_st (x_st (x_st (x_st (x_st (x_st X 77 29 (380 + (900 * (X 79 5)))) 91 1 a1) 91 2 a2) 91 3 a3) 91 4 a4) 91 5 a5) 91 6 a6) 79 6)) 79 8)) from E52) F53
    have hf55 := Fr.up (c := 91) hf49 F53 rfl
    refine v_lload dX12_tells_114 rfl ?_
    refine v_lstore dX12_tells_116 (Nat.le_of_ble_eq_true rfl) ?_
    refine v_iconstI dX12_tells_118 ?_
    refine v_istore dX12_tells_119 (Nat.le_of_ble_eq_true rfl) ?_
    refine v_pick [2, 3, 1, 0] rfl ?_
    obtain ⟨I59, m60, wi63, wl62⟩ := w
    have hL64 : ∀ (N67 : Nat) (x56 : Int) (x57 : Int) (X58 : XT) (h68 : Nat → sE), m60 x56 x57 X58 < N67 → I59 x56 x57 X58 → Pic X58 h68 → Fr h h68 → V (m_X12_tells, 5, 0, 0, n, pLw n h Q, s_G0) 0 0 n h68 121 [(0, .ref 77), (1, .int (iI a0)), (10, .long (jJ x56)), (12, .int (iI x57))] [] := by
      intro N67
      induction N67 with
      | zero => intro x56 x57 X58 h68 hm65; exact absurd hm65 (Nat.not_lt_zero _)
      | succ N67 ih61 =>
        intro x56 x57 X58 h68 hm65 hI66 hp69 hf70
        have w := wl62 x56 x57 X58 hI66
        refine v_iload dX12_tells_121 rfl ?_
        refine v_aload_n dX12_tells_123 rfl ?_
        refine v_get dX12_tells_124 fl_X12_13 ((hp69 77 (by decide)).trans (ent_77 _)) rfl (s_lt hn rfl) ?_
        refine v_aload_n dX12_tells_127 rfl ?_
        refine v_get dX12_tells_128 fl_X12_397 ((hp69 77 (by decide)).trans (ent_77 _)) rfl (s_lt hn rfl) ?_
        refine v_iconstI dX12_tells_131 ?_
        refine v_iaddI dX12_tells_132 ?_
        obtain ⟨q71, w⟩ := w
        refine v_ialdI dX12_tells_133 ((hp69 79 (by decide)).trans (ent_79 _)) (s_lt hn rfl) q71.1 q71.2 (ix_le q71.2 (by decide)) ?_
        obtain ⟨q72, q73, w⟩ := w
        refine v_icmp_geI (tgt := 192) dX12_tells_134 (by decide) q72.1 q72.2 q73.1 q73.2 (fun c74 => ?_) (fun c74 => ?_)
        · replace w := w.1 c74
          refine v_lload dX12_tells_192 rfl ?_
          exact v_lret dX12_tells_194 rfl (Nat.zero_le _) (Nat.zero_le _) ⟨rfl, hf70, _, _, rfl, hp69, w⟩
        · replace w := w.2 c74
          refine v_aload_n dX12_tells_137 rfl ?_
          refine v_get dX12_tells_138 fl_X12_397 ((hp69 77 (by decide)).trans (ent_77 _)) rfl (s_lt hn rfl) ?_
          refine v_iconstI dX12_tells_141 ?_
          refine v_iaddI dX12_tells_142 ?_
          refine v_bipushI dX12_tells_143 rfl ?_
          refine v_iload dX12_tells_145 rfl ?_
          refine v_imulI dX12_tells_147 ?_
          refine v_iaddI dX12_tells_148 ?_
          refine v_istore dX12_tells_149 (Nat.le_of_ble_eq_true rfl) ?_
          refine v_aload_n dX12_tells_151 rfl ?_
          refine v_get dX12_tells_152 fl_X12_13 ((hp69 77 (by decide)).trans (ent_77 _)) rfl (s_lt hn rfl) ?_
          refine v_iload dX12_tells_155 rfl ?_
          obtain ⟨q75, w⟩ := w
          refine v_ialdI dX12_tells_157 ((hp69 79 (by decide)).trans (ent_79 _)) (s_lt hn rfl) q75.1 q75.2 (ix_le q75.2 (by decide)) ?_
          refine v_iload_n dX12_tells_158 rfl ?_
          obtain ⟨q76, q77, w⟩ := w
          refine v_icmp_neI (tgt := 186) dX12_tells_159 (by decide) q76.1 q76.2 q77.1 q77.2 (fun c78 => ?_) (fun c78 => ?_)
          · replace w := w.1 c78
            refine v_iincI dX12_tells_186 rfl (Nat.le_of_ble_eq_true rfl) ?_
            refine v_goto (tgt := 121) dX12_tells_189 (by decide) ?_
            refine v_pick [2, 3, 4, 0] rfl ?_
            exact ih61 _ _ _ _ (Nat.lt_of_lt_of_le w.2 (Nat.le_of_lt_succ hm65)) w.1 hp69 hf70
          · replace w := w.2 c78
            refine v_aload_n dX12_tells_162 rfl ?_
            refine v_iload dX12_tells_163 rfl ?_
            refine v_callVIw dX12_tells_165 ml_X12_429 (so_X12_isSo hn hp69  w) ((hp69 77 (by decide)).trans (ent_77 _)) rfl (s_lt hn rfl) rfl rfl (Nat.le_of_ble_eq_true rfl) (Nat.le_of_ble_eq_true rfl) (Nat.zero_le _) (Nat.zero_le _) (fun v79 X80 h81 hp83 hf82 w => ?_)
            have hf84 := Fr.trans hf70 hf82
            obtain ⟨q85, w⟩ := w
            refine v_if_eqI (tgt := 186) dX12_tells_168 (by decide) q85.1 q85.2 (fun c86 => ?_) (fun c86 => ?_)
            · replace w := w.1 c86
              refine v_iincI dX12_tells_186 rfl (Nat.le_of_ble_eq_true rfl) ?_
              refine v_goto (tgt := 121) dX12_tells_189 (by decide) ?_
              refine v_pick [2, 3, 4, 0] rfl ?_
              exact ih61 _ _ _ _ (Nat.lt_of_lt_of_le w.2 (Nat.le_of_lt_succ hm65)) w.1 hp83 hf84
            · replace w := w.2 c86
              refine v_iload_n dX12_tells_171 rfl ?_
              refine v_iconstI dX12_tells_172 ?_
              refine v_icmp_neI (tgt := 180) dX12_tells_173 (by decide) q77.1 q77.2 (by decide) (by decide) (fun c87 => ?_) (fun c87 => ?_)
              · replace w := w.1 c87
                refine v_aload_n dX12_tells_180 rfl ?_
                refine v_get dX12_tells_181 fl_X12_426 ((hp83 77 (by decide)).trans (ent_77 _)) rfl (s_lt hn rfl) ?_
                refine v_lstore dX12_tells_184 (Nat.le_of_ble_eq_true rfl) ?_
                refine v_iincI dX12_tells_186 rfl (Nat.le_of_ble_eq_true rfl) ?_
                refine v_goto (tgt := 121) dX12_tells_189 (by decide) ?_
                refine v_pick [3, 4, 1, 0] rfl ?_
                exact ih61 _ _ _ _ (Nat.lt_of_lt_of_le w.2 (Nat.le_of_lt_succ hm65)) w.1 hp83 hf84
              · replace w := w.2 c87
                refine v_lconstI (w := 1) dX12_tells_176 rfl ?_
                refine v_goto (tgt := 184) dX12_tells_177 (by decide) ?_
                refine v_lstore dX12_tells_184 (Nat.le_of_ble_eq_true rfl) ?_
                refine v_iincI dX12_tells_186 rfl (Nat.le_of_ble_eq_true rfl) ?_
                refine v_goto (tgt := 121) dX12_tells_189 (by decide) ?_
                refine v_pick [3, 4, 1, 0] rfl ?_
                exact ih61 _ _ _ _ (Nat.lt_of_lt_of_le w.2 (Nat.le_of_lt_succ hm65)) w.1 hp83 hf84
    exact hL64 _ _ _ _ _ (Nat.lt_succ_self _) wi63 hp54 hf55
  · replace w := w.2 c2
    refine v_lload dX12_tells_10 rfl ?_
    exact v_lret dX12_tells_12 rfl (Nat.zero_le _) (Nat.zero_le _) ⟨rfl, hf, _, _, rfl, hp, w⟩
theorem dX12_isBarred_0 : decode cX12_isBarred 0 = .ok (.aload_n 0, 1) := by decide +kernel
theorem dX12_isBarred_1 : decode cX12_isBarred 1 = .ok (.iconst 3, 1) := by decide +kernel
theorem dX12_isBarred_2 : decode cX12_isBarred 2 = .ok (.iload_n 2, 1) := by decide +kernel
theorem dX12_isBarred_3 : decode cX12_isBarred 3 = .ok (.invokestatic 417, 3) := by decide +kernel
theorem dX12_isBarred_6 : decode cX12_isBarred 6 = .ok (.iload_n 2, 1) := by decide +kernel
theorem dX12_isBarred_7 : decode cX12_isBarred 7 = .ok (.invokestatic 420, 3) := by decide +kernel
theorem dX12_isBarred_10 : decode cX12_isBarred 10 = .ok (.iload_n 3, 1) := by decide +kernel
theorem dX12_isBarred_11 : decode cX12_isBarred 11 = .ok (.iload_n 1, 1) := by decide +kernel
theorem dX12_isBarred_12 : decode cX12_isBarred 12 = .ok (.aload_n 0, 1) := by decide +kernel
theorem dX12_isBarred_13 : decode cX12_isBarred 13 = .ok (.iload_n 1, 1) := by decide +kernel
theorem dX12_isBarred_14 : decode cX12_isBarred 14 = .ok (.iconst 2, 1) := by decide +kernel
theorem dX12_isBarred_15 : decode cX12_isBarred 15 = .ok (.invokevirtual 224, 3) := by decide +kernel
theorem dX12_isBarred_18 : decode cX12_isBarred 18 = .ok (.iconst (-1), 1) := by decide +kernel
theorem dX12_isBarred_19 : decode cX12_isBarred 19 = .ok (.lconst 0, 1) := by decide +kernel
theorem dX12_isBarred_20 : decode cX12_isBarred 20 = .ok (.invokevirtual 432, 3) := by decide +kernel
theorem dX12_isBarred_23 : decode cX12_isBarred 23 = .ok (.lconst 1, 1) := by decide +kernel
theorem dX12_isBarred_24 : decode cX12_isBarred 24 = .ok (.lcmp, 1) := by decide +kernel
theorem dX12_isBarred_25 : decode cX12_isBarred 25 = .ok (.ifCond .ne 7, 3) := by decide +kernel
theorem dX12_isBarred_28 : decode cX12_isBarred 28 = .ok (.iconst 1, 1) := by decide +kernel
theorem dX12_isBarred_29 : decode cX12_isBarred 29 = .ok (.goto 4, 3) := by decide +kernel
theorem dX12_isBarred_32 : decode cX12_isBarred 32 = .ok (.iconst 0, 1) := by decide +kernel
theorem dX12_isBarred_33 : decode cX12_isBarred 33 = .ok (.ireturn, 1) := by decide +kernel
def w_X12_isBarred (a0 a1 a2 : Int) (X : XT) (Q : Int → XT → Prop) : Prop :=
  (0 ≤ a1 ∧ a1 ≤ 2147483647) ∧ (0 ≤ a0 ∧ a0 ≤ 4) ∧ w_X12_tells  3 (a1 % 24 - 8) (a1 / 24 - 8) a2 a0 (X 79 (15 + 5 * a0 + 2)) (-1) 0 X (fun (v3 : Int) (X4 : XT) => R64 v3 ∧ (¬ v3 = 1 → Q 0 X4) ∧ (v3 = 1 → Q 1 X4))
set_option maxRecDepth 20000 in
theorem so_X12_isBarred {n : Nat} {h : Nat → sE} {X : XT} {a0 a1 a2 : Int} {Q : Int → XT → Prop} (hn : 115 ≤ n) (hp : Pic X h) (w : w_X12_isBarred  a0 a1 a2 X Q) : Sp m_X12_isBarred 6 0 0 [.ref 77, .int (iI a0), .int (iI a1), .int (iI a2)] n h (pIw n h Q) := by
  unfold w_X12_isBarred at w
  refine Sp.ofV (by decide +kernel) (Nat.le_of_ble_eq_true rfl) ?_
  have hf : Fr h h := fun _ _ => rfl
  refine v_aload_n dX12_isBarred_0 rfl ?_
  refine v_iconstI dX12_isBarred_1 ?_
  refine v_iload_n dX12_isBarred_2 rfl ?_
  obtain ⟨q1, w⟩ := w
  refine v_callSp dX12_isBarred_3 ml_X12_417 (sp_X12_xOf (a := a1) q1) rfl rfl (Nat.le_of_ble_eq_true rfl) (Nat.le_of_ble_eq_true rfl) (Nat.zero_le _) (Nat.zero_le _) ?_
  refine v_iload_n dX12_isBarred_6 rfl ?_
  refine v_callSp dX12_isBarred_7 ml_X12_420 (sp_X12_yOf (a := a1) q1) rfl rfl (Nat.le_of_ble_eq_true rfl) (Nat.le_of_ble_eq_true rfl) (Nat.zero_le _) (Nat.zero_le _) ?_
  refine v_iload_n dX12_isBarred_10 rfl ?_
  refine v_iload_n dX12_isBarred_11 rfl ?_
  refine v_aload_n dX12_isBarred_12 rfl ?_
  refine v_iload_n dX12_isBarred_13 rfl ?_
  refine v_iconstI dX12_isBarred_14 ?_
  obtain ⟨q2, w⟩ := w
  refine v_callVp dX12_isBarred_15 ml_X12_224 (sv_X12_ofCloud (a := a0) (b := 2) (g77 := X 77) (g79 := X 79) hn (hp 77 (by decide)) (hp 79 (by decide)) q2 (by decide)) ((hp 77 (by decide)).trans (ent_77 _)) rfl (s_lt hn rfl) rfl rfl (Nat.le_of_ble_eq_true rfl) (Nat.le_of_ble_eq_true rfl) (Nat.zero_le _) (Nat.zero_le _) ?_
  refine v_iconstI dX12_isBarred_18 ?_
  refine v_lconstI (w := 0) dX12_isBarred_19 rfl ?_
  refine v_callVLw dX12_isBarred_20 ml_X12_432 (so_X12_tells hn hp  w) ((hp 77 (by decide)).trans (ent_77 _)) rfl (s_lt hn rfl) rfl rfl (Nat.le_of_ble_eq_true rfl) (Nat.le_of_ble_eq_true rfl) (Nat.zero_le _) (Nat.zero_le _) (fun v3 X4 h5 hp7 hf6 w => ?_)
  have hf8 := Fr.trans hf hf6
  refine v_lconstI (w := 1) dX12_isBarred_23 rfl ?_
  obtain ⟨q9, w⟩ := w
  refine v_lcmp_neI (tgt := 32) dX12_isBarred_24 dX12_isBarred_25 (by decide) q9.1 q9.2 (by decide) (by decide) (fun c10 => ?_) (fun c10 => ?_)
  · replace w := w.1 c10
    refine v_iconstI dX12_isBarred_32 ?_
    exact v_z0 dX12_isBarred_33 rfl (Nat.zero_le _) (Nat.zero_le _) ⟨rfl, hf8, _, _, rfl, hp7, w⟩
  · replace w := w.2 c10
    refine v_iconstI dX12_isBarred_28 ?_
    refine v_goto (tgt := 33) dX12_isBarred_29 (by decide) ?_
    exact v_z1 dX12_isBarred_33 rfl (Nat.zero_le _) (Nat.zero_le _) ⟨rfl, hf8, _, _, rfl, hp7, w⟩
theorem dX12_helps_0 : decode cX12_helps 0 = .ok (.aload_n 0, 1) := by decide +kernel
theorem dX12_helps_1 : decode cX12_helps 1 = .ok (.iload_n 2, 1) := by decide +kernel
theorem dX12_helps_2 : decode cX12_helps 2 = .ok (.invokevirtual 442, 3) := by decide +kernel
theorem dX12_helps_5 : decode cX12_helps 5 = .ok (.ifCond .ne 17, 3) := by decide +kernel
theorem dX12_helps_8 : decode cX12_helps 8 = .ok (.aload_n 0, 1) := by decide +kernel
theorem dX12_helps_9 : decode cX12_helps 9 = .ok (.iload_n 1, 1) := by decide +kernel
theorem dX12_helps_10 : decode cX12_helps 10 = .ok (.iload_n 2, 1) := by decide +kernel
theorem dX12_helps_11 : decode cX12_helps 11 = .ok (.iload_n 3, 1) := by decide +kernel
theorem dX12_helps_12 : decode cX12_helps 12 = .ok (.invokevirtual 445, 3) := by decide +kernel
theorem dX12_helps_15 : decode cX12_helps 15 = .ok (.ifCond .ne 7, 3) := by decide +kernel
theorem dX12_helps_18 : decode cX12_helps 18 = .ok (.iconst 1, 1) := by decide +kernel
theorem dX12_helps_19 : decode cX12_helps 19 = .ok (.goto 4, 3) := by decide +kernel
theorem dX12_helps_22 : decode cX12_helps 22 = .ok (.iconst 0, 1) := by decide +kernel
theorem dX12_helps_23 : decode cX12_helps 23 = .ok (.ireturn, 1) := by decide +kernel
def w_X12_helps (a0 a1 a2 : Int) (X : XT) (Q : Int → XT → Prop) : Prop :=
  w_X12_isWet  a1 X (fun (v1 : Int) => R32 v1 ∧ (¬ v1 = 0 → Q 0 X) ∧ (v1 = 0 → w_X12_isBarred  a0 a1 a2 X (fun (v9 : Int) (X10 : XT) => R32 v9 ∧ (¬ v9 = 0 → Q 0 X10) ∧ (v9 = 0 → Q 1 X10))))
set_option maxRecDepth 20000 in
theorem so_X12_helps {n : Nat} {h : Nat → sE} {X : XT} {a0 a1 a2 : Int} {Q : Int → XT → Prop} (hn : 115 ≤ n) (hp : Pic X h) (w : w_X12_helps  a0 a1 a2 X Q) : Sp m_X12_helps 7 0 0 [.ref 77, .int (iI a0), .int (iI a1), .int (iI a2)] n h (pIw n h Q) := by
  unfold w_X12_helps at w
  refine Sp.ofV (by decide +kernel) (Nat.le_of_ble_eq_true rfl) ?_
  have hf : Fr h h := fun _ _ => rfl
  refine v_aload_n dX12_helps_0 rfl ?_
  refine v_iload_n dX12_helps_1 rfl ?_
  refine v_callVIr dX12_helps_2 ml_X12_442 (so_X12_isWet hn hp  w) ((hp 77 (by decide)).trans (ent_77 _)) rfl (s_lt hn rfl) rfl rfl (Nat.le_of_ble_eq_true rfl) (Nat.le_of_ble_eq_true rfl) (Nat.zero_le _) (Nat.zero_le _) (fun v1 w => ?_)
  obtain ⟨q7, w⟩ := w
  refine v_if_neI (tgt := 22) dX12_helps_5 (by decide) q7.1 q7.2 (fun c8 => ?_) (fun c8 => ?_)
  · replace w := w.1 c8
    refine v_iconstI dX12_helps_22 ?_
    exact v_z0 dX12_helps_23 rfl (Nat.zero_le _) (Nat.zero_le _) ⟨rfl, hf, _, _, rfl, hp, w⟩
  · replace w := w.2 c8
    refine v_aload_n dX12_helps_8 rfl ?_
    refine v_iload_n dX12_helps_9 rfl ?_
    refine v_iload_n dX12_helps_10 rfl ?_
    refine v_iload_n dX12_helps_11 rfl ?_
    refine v_callVIw dX12_helps_12 ml_X12_445 (so_X12_isBarred hn hp  w) ((hp 77 (by decide)).trans (ent_77 _)) rfl (s_lt hn rfl) rfl rfl (Nat.le_of_ble_eq_true rfl) (Nat.le_of_ble_eq_true rfl) (Nat.zero_le _) (Nat.zero_le _) (fun v9 X10 h11 hp13 hf12 w => ?_)
    have hf14 := Fr.trans hf hf12
    obtain ⟨q15, w⟩ := w
    refine v_if_neI (tgt := 22) dX12_helps_15 (by decide) q15.1 q15.2 (fun c16 => ?_) (fun c16 => ?_)
    · replace w := w.1 c16
      refine v_iconstI dX12_helps_22 ?_
      exact v_z0 dX12_helps_23 rfl (Nat.zero_le _) (Nat.zero_le _) ⟨rfl, hf14, _, _, rfl, hp13, w⟩
    · replace w := w.2 c16
      refine v_iconstI dX12_helps_18 ?_
      refine v_goto (tgt := 23) dX12_helps_19 (by decide) ?_
      exact v_z1 dX12_helps_23 rfl (Nat.zero_le _) (Nat.zero_le _) ⟨rfl, hf14, _, _, rfl, hp13, w⟩
theorem dX12_goes_0 : decode cX12_goes 0 = .ok (.aload_n 0, 1) := by decide +kernel
theorem dX12_goes_1 : decode cX12_goes 1 = .ok (.getfield 13, 3) := by decide +kernel
theorem dX12_goes_4 : decode cX12_goes 4 = .ok (.bipush 9, 2) := by decide +kernel
theorem dX12_goes_6 : decode cX12_goes 6 = .ok (.iconst 2, 1) := by decide +kernel
theorem dX12_goes_7 : decode cX12_goes 7 = .ok (.iload_n 1, 1) := by decide +kernel
theorem dX12_goes_8 : decode cX12_goes 8 = .ok (.imul, 1) := by decide +kernel
theorem dX12_goes_9 : decode cX12_goes 9 = .ok (.iadd, 1) := by decide +kernel
theorem dX12_goes_10 : decode cX12_goes 10 = .ok (.iaload, 1) := by decide +kernel
theorem dX12_goes_11 : decode cX12_goes 11 = .ok (.istore 6, 2) := by decide +kernel
theorem dX12_goes_13 : decode cX12_goes 13 = .ok (.aload_n 0, 1) := by decide +kernel
theorem dX12_goes_14 : decode cX12_goes 14 = .ok (.getfield 13, 3) := by decide +kernel
theorem dX12_goes_17 : decode cX12_goes 17 = .ok (.bipush 9, 2) := by decide +kernel
theorem dX12_goes_19 : decode cX12_goes 19 = .ok (.iconst 2, 1) := by decide +kernel
theorem dX12_goes_20 : decode cX12_goes 20 = .ok (.iload_n 1, 1) := by decide +kernel
theorem dX12_goes_21 : decode cX12_goes 21 = .ok (.imul, 1) := by decide +kernel
theorem dX12_goes_22 : decode cX12_goes 22 = .ok (.iadd, 1) := by decide +kernel
theorem dX12_goes_23 : decode cX12_goes 23 = .ok (.iconst 1, 1) := by decide +kernel
theorem dX12_goes_24 : decode cX12_goes 24 = .ok (.iadd, 1) := by decide +kernel
theorem dX12_goes_25 : decode cX12_goes 25 = .ok (.iaload, 1) := by decide +kernel
theorem dX12_goes_26 : decode cX12_goes 26 = .ok (.istore 7, 2) := by decide +kernel
theorem dX12_goes_28 : decode cX12_goes 28 = .ok (.iload_n 2, 1) := by decide +kernel
theorem dX12_goes_29 : decode cX12_goes 29 = .ok (.invokestatic 417, 3) := by decide +kernel
theorem dX12_goes_32 : decode cX12_goes 32 = .ok (.iload_n 3, 1) := by decide +kernel
theorem dX12_goes_33 : decode cX12_goes 33 = .ok (.ifCond .eq 9, 3) := by decide +kernel
theorem dX12_goes_36 : decode cX12_goes 36 = .ok (.iload 7, 2) := by decide +kernel
theorem dX12_goes_38 : decode cX12_goes 38 = .ok (.ineg, 1) := by decide +kernel
theorem dX12_goes_39 : decode cX12_goes 39 = .ok (.goto 5, 3) := by decide +kernel
theorem dX12_goes_42 : decode cX12_goes 42 = .ok (.iload 6, 2) := by decide +kernel
theorem dX12_goes_44 : decode cX12_goes 44 = .ok (.iadd, 1) := by decide +kernel
theorem dX12_goes_45 : decode cX12_goes 45 = .ok (.iload 4, 2) := by decide +kernel
theorem dX12_goes_47 : decode cX12_goes 47 = .ok (.invokestatic 448, 3) := by decide +kernel
theorem dX12_goes_50 : decode cX12_goes 50 = .ok (.iadd, 1) := by decide +kernel
theorem dX12_goes_51 : decode cX12_goes 51 = .ok (.iload 5, 2) := by decide +kernel
theorem dX12_goes_53 : decode cX12_goes 53 = .ok (.invokestatic 448, 3) := by decide +kernel
theorem dX12_goes_56 : decode cX12_goes 56 = .ok (.iadd, 1) := by decide +kernel
theorem dX12_goes_57 : decode cX12_goes 57 = .ok (.istore 8, 2) := by decide +kernel
theorem dX12_goes_59 : decode cX12_goes 59 = .ok (.iload_n 2, 1) := by decide +kernel
theorem dX12_goes_60 : decode cX12_goes 60 = .ok (.invokestatic 420, 3) := by decide +kernel
theorem dX12_goes_63 : decode cX12_goes 63 = .ok (.iload_n 3, 1) := by decide +kernel
theorem dX12_goes_64 : decode cX12_goes 64 = .ok (.ifCond .eq 8, 3) := by decide +kernel
theorem dX12_goes_67 : decode cX12_goes 67 = .ok (.iload 6, 2) := by decide +kernel
theorem dX12_goes_69 : decode cX12_goes 69 = .ok (.goto 5, 3) := by decide +kernel
theorem dX12_goes_72 : decode cX12_goes 72 = .ok (.iload 7, 2) := by decide +kernel
theorem dX12_goes_74 : decode cX12_goes 74 = .ok (.iadd, 1) := by decide +kernel
theorem dX12_goes_75 : decode cX12_goes 75 = .ok (.iload 4, 2) := by decide +kernel
theorem dX12_goes_77 : decode cX12_goes 77 = .ok (.invokestatic 451, 3) := by decide +kernel
theorem dX12_goes_80 : decode cX12_goes 80 = .ok (.iadd, 1) := by decide +kernel
theorem dX12_goes_81 : decode cX12_goes 81 = .ok (.iload 5, 2) := by decide +kernel
theorem dX12_goes_83 : decode cX12_goes 83 = .ok (.invokestatic 451, 3) := by decide +kernel
theorem dX12_goes_86 : decode cX12_goes 86 = .ok (.iadd, 1) := by decide +kernel
theorem dX12_goes_87 : decode cX12_goes 87 = .ok (.istore 9, 2) := by decide +kernel
theorem dX12_goes_89 : decode cX12_goes 89 = .ok (.iload 8, 2) := by decide +kernel
theorem dX12_goes_91 : decode cX12_goes 91 = .ok (.iload 9, 2) := by decide +kernel
theorem dX12_goes_93 : decode cX12_goes 93 = .ok (.invokestatic 454, 3) := by decide +kernel
theorem dX12_goes_96 : decode cX12_goes 96 = .ok (.ireturn, 1) := by decide +kernel
def w_X12_goes (a0 a1 a2 a3 a4 : Int) (X : XT) (Q : Int → Prop) : Prop :=
  (0 ≤ (9 + (2 * a0)) ∧ (9 + (2 * a0)) < 5780) ∧ (0 ≤ ((9 + (2 * a0)) + 1) ∧ ((9 + (2 * a0)) + 1) < 5780) ∧ (0 ≤ a1 ∧ a1 ≤ 2147483647) ∧ ∀ J5 : Int → Prop, (∀ (v4 : Int), (R32 a3 ∧ R32 a4 ∧ ∀ J9 : Int → Prop, (∀ (v8 : Int), (R32 ((((a1 % 24 - 8) + v4) + (sxF a3)) + (sxF a4)) ∧ R32 ((((a1 / 24 - 8) + v8) + (syF a3)) + (syF a4)) ∧ Q (caF ((((a1 % 24 - 8) + v4) + (sxF a3)) + (sxF a4)) ((((a1 / 24 - 8) + v8) + (syF a3)) + (syF a4)))) → J9 v8) → R32 a2 ∧ (a2 = 0 → J9 (X 79 ((9 + (2 * a0)) + 1))) ∧ (¬ a2 = 0 → J9 (X 79 (9 + (2 * a0))))) → J5 v4) → R32 a2 ∧ (a2 = 0 → J5 (X 79 (9 + (2 * a0)))) ∧ (¬ a2 = 0 → J5 (-(X 79 ((9 + (2 * a0)) + 1))))
set_option maxRecDepth 20000 in
theorem so_X12_goes {n : Nat} {h : Nat → sE} {X : XT} {a0 a1 a2 a3 a4 : Int} {Q : Int → Prop} (hn : 115 ≤ n) (hp : Pic X h) (w : w_X12_goes  a0 a1 a2 a3 a4 X Q) : Sp m_X12_goes 3 0 0 [.ref 77, .int (iI a0), .int (iI a1), .int (iI a2), .int (iI a3), .int (iI a4)] n h (pIr n h Q) := by
  unfold w_X12_goes at w
  refine Sp.ofV (by decide +kernel) (Nat.le_of_ble_eq_true rfl) ?_
  have hf : Fr h h := fun _ _ => rfl
  refine v_aload_n dX12_goes_0 rfl ?_
  refine v_get dX12_goes_1 fl_X12_13 ((hp 77 (by decide)).trans (ent_77 _)) rfl (s_lt hn rfl) ?_
  refine v_bipushI dX12_goes_4 rfl ?_
  refine v_iconstI dX12_goes_6 ?_
  refine v_iload_n dX12_goes_7 rfl ?_
  refine v_imulI dX12_goes_8 ?_
  refine v_iaddI dX12_goes_9 ?_
  obtain ⟨q1, w⟩ := w
  refine v_ialdI dX12_goes_10 ((hp 79 (by decide)).trans (ent_79 _)) (s_lt hn rfl) q1.1 q1.2 (ix_le q1.2 (by decide)) ?_
  refine v_istore dX12_goes_11 (Nat.le_of_ble_eq_true rfl) ?_
  refine v_aload_n dX12_goes_13 rfl ?_
  refine v_get dX12_goes_14 fl_X12_13 ((hp 77 (by decide)).trans (ent_77 _)) rfl (s_lt hn rfl) ?_
  refine v_bipushI dX12_goes_17 rfl ?_
  refine v_iconstI dX12_goes_19 ?_
  refine v_iload_n dX12_goes_20 rfl ?_
  refine v_imulI dX12_goes_21 ?_
  refine v_iaddI dX12_goes_22 ?_
  refine v_iconstI dX12_goes_23 ?_
  refine v_iaddI dX12_goes_24 ?_
  obtain ⟨q2, w⟩ := w
  refine v_ialdI dX12_goes_25 ((hp 79 (by decide)).trans (ent_79 _)) (s_lt hn rfl) q2.1 q2.2 (ix_le q2.2 (by decide)) ?_
  refine v_istore dX12_goes_26 (Nat.le_of_ble_eq_true rfl) ?_
  refine v_iload_n dX12_goes_28 rfl ?_
  obtain ⟨q3, w⟩ := w
  refine v_callSp dX12_goes_29 ml_X12_417 (sp_X12_xOf (a := a1) q3) rfl rfl (Nat.le_of_ble_eq_true rfl) (Nat.le_of_ble_eq_true rfl) (Nat.zero_le _) (Nat.zero_le _) ?_
  refine v_iload_n dX12_goes_32 rfl ?_
  replace w := w (fun (v4 : Int) => V (m_X12_goes, 3, 0, 0, n, pIr n h Q, s_G0) 0 0 n h 44 [(2, .int (iI a1)), (3, .int (iI a2)), (4, .int (iI a3)), (5, .int (iI a4)), (6, .int (iI (X 79 (9 + (2 * a0))))), (7, .int (iI (X 79 ((9 + (2 * a0)) + 1))))] [.int (iI v4), .int (iI (a1 % 24 - 8))]) (by
    intro v4 w
    refine v_iaddI dX12_goes_44 ?_
    refine v_iload dX12_goes_45 rfl ?_
    obtain ⟨q6, w⟩ := w
    refine v_callSp dX12_goes_47 ml_X12_448 (sp_X12_stepX (a := a3) q6) rfl rfl (Nat.le_of_ble_eq_true rfl) (Nat.le_of_ble_eq_true rfl) (Nat.zero_le _) (Nat.zero_le _) ?_
    refine v_iaddI dX12_goes_50 ?_
    refine v_iload dX12_goes_51 rfl ?_
    obtain ⟨q7, w⟩ := w
    refine v_callSp dX12_goes_53 ml_X12_448 (sp_X12_stepX (a := a4) q7) rfl rfl (Nat.le_of_ble_eq_true rfl) (Nat.le_of_ble_eq_true rfl) (Nat.zero_le _) (Nat.zero_le _) ?_
    refine v_iaddI dX12_goes_56 ?_
    refine v_istore dX12_goes_57 (Nat.le_of_ble_eq_true rfl) ?_
    refine v_iload_n dX12_goes_59 rfl ?_
    refine v_callSp dX12_goes_60 ml_X12_420 (sp_X12_yOf (a := a1) q3) rfl rfl (Nat.le_of_ble_eq_true rfl) (Nat.le_of_ble_eq_true rfl) (Nat.zero_le _) (Nat.zero_le _) ?_
    refine v_iload_n dX12_goes_63 rfl ?_
    replace w := w (fun (v8 : Int) => V (m_X12_goes, 3, 0, 0, n, pIr n h Q, s_G0) 0 0 n h 74 [(4, .int (iI a3)), (5, .int (iI a4)), (8, .int (iI ((((a1 % 24 - 8) + v4) + (sxF a3)) + (sxF a4))))] [.int (iI v8), .int (iI (a1 / 24 - 8))]) (by
      intro v8 w
      refine v_iaddI dX12_goes_74 ?_
      refine v_iload dX12_goes_75 rfl ?_
      refine v_callSp dX12_goes_77 ml_X12_451 (sp_X12_stepY (a := a3) q6) rfl rfl (Nat.le_of_ble_eq_true rfl) (Nat.le_of_ble_eq_true rfl) (Nat.zero_le _) (Nat.zero_le _) ?_
      refine v_iaddI dX12_goes_80 ?_
      refine v_iload dX12_goes_81 rfl ?_
      refine v_callSp dX12_goes_83 ml_X12_451 (sp_X12_stepY (a := a4) q7) rfl rfl (Nat.le_of_ble_eq_true rfl) (Nat.le_of_ble_eq_true rfl) (Nat.zero_le _) (Nat.zero_le _) ?_
      refine v_iaddI dX12_goes_86 ?_
      refine v_istore dX12_goes_87 (Nat.le_of_ble_eq_true rfl) ?_
      refine v_iload dX12_goes_89 rfl ?_
      refine v_iload dX12_goes_91 rfl ?_
      obtain ⟨q10, q11, w⟩ := w
      refine v_callSp dX12_goes_93 ml_X12_454 (sp_X12_cornerAt (x := ((((a1 % 24 - 8) + v4) + (sxF a3)) + (sxF a4))) (y := ((((a1 / 24 - 8) + v8) + (syF a3)) + (syF a4))) q10 q11) rfl rfl (Nat.le_of_ble_eq_true rfl) (Nat.le_of_ble_eq_true rfl) (Nat.zero_le _) (Nat.zero_le _) ?_
      exact v_iret dX12_goes_96 rfl (Nat.zero_le _) (Nat.zero_le _) ⟨rfl, rfl, _, rfl, w⟩
    )
    obtain ⟨q12, w⟩ := w
    refine v_if_eqI (tgt := 72) dX12_goes_64 (by decide) q12.1 q12.2 (fun c13 => ?_) (fun c13 => ?_)
    · replace w := w.1 c13
      refine v_iload dX12_goes_72 rfl ?_
      refine v_pick [3, 4, 0] rfl ?_
      exact w
    · replace w := w.2 c13
      refine v_iload dX12_goes_67 rfl ?_
      refine v_goto (tgt := 74) dX12_goes_69 (by decide) ?_
      refine v_pick [3, 4, 0] rfl ?_
      exact w
  )
  obtain ⟨q14, w⟩ := w
  refine v_if_eqI (tgt := 42) dX12_goes_33 (by decide) q14.1 q14.2 (fun c15 => ?_) (fun c15 => ?_)
  · replace w := w.1 c15
    refine v_iload dX12_goes_42 rfl ?_
    refine v_pick [4, 5, 6, 7, 1, 0] rfl ?_
    exact w
  · replace w := w.2 c15
    refine v_iload dX12_goes_36 rfl ?_
    refine v_inegI dX12_goes_38 ?_
    refine v_goto (tgt := 44) dX12_goes_39 (by decide) ?_
    refine v_pick [4, 5, 6, 7, 1, 0] rfl ?_
    exact w
theorem dX12_goOn_0 : decode cX12_goOn 0 = .ok (.iload 5, 2) := by decide +kernel
theorem dX12_goOn_2 : decode cX12_goOn 2 = .ok (.iconst (-1), 1) := by decide +kernel
theorem dX12_goOn_3 : decode cX12_goOn 3 = .ok (.if_icmp .eq 23, 3) := by decide +kernel
theorem dX12_goOn_6 : decode cX12_goOn 6 = .ok (.iload 5, 2) := by decide +kernel
theorem dX12_goOn_8 : decode cX12_goOn 8 = .ok (.iconst 4, 1) := by decide +kernel
theorem dX12_goOn_9 : decode cX12_goOn 9 = .ok (.if_icmp .ge 17, 3) := by decide +kernel
theorem dX12_goOn_12 : decode cX12_goOn 12 = .ok (.aload_n 0, 1) := by decide +kernel
theorem dX12_goOn_13 : decode cX12_goOn 13 = .ok (.iload_n 1, 1) := by decide +kernel
theorem dX12_goOn_14 : decode cX12_goOn 14 = .ok (.iload_n 2, 1) := by decide +kernel
theorem dX12_goOn_15 : decode cX12_goOn 15 = .ok (.iload_n 3, 1) := by decide +kernel
theorem dX12_goOn_16 : decode cX12_goOn 16 = .ok (.invokevirtual 457, 3) := by decide +kernel
theorem dX12_goOn_19 : decode cX12_goOn 19 = .ok (.ifCond .eq 7, 3) := by decide +kernel
theorem dX12_goOn_22 : decode cX12_goOn 22 = .ok (.iconst 1, 1) := by decide +kernel
theorem dX12_goOn_23 : decode cX12_goOn 23 = .ok (.goto 4, 3) := by decide +kernel
theorem dX12_goOn_26 : decode cX12_goOn 26 = .ok (.iconst 0, 1) := by decide +kernel
theorem dX12_goOn_27 : decode cX12_goOn 27 = .ok (.istore 6, 2) := by decide +kernel
theorem dX12_goOn_29 : decode cX12_goOn 29 = .ok (.aload_n 0, 1) := by decide +kernel
theorem dX12_goOn_30 : decode cX12_goOn 30 = .ok (.aload_n 0, 1) := by decide +kernel
theorem dX12_goOn_31 : decode cX12_goOn 31 = .ok (.iload_n 1, 1) := by decide +kernel
theorem dX12_goOn_32 : decode cX12_goOn 32 = .ok (.iconst 2, 1) := by decide +kernel
theorem dX12_goOn_33 : decode cX12_goOn 33 = .ok (.invokevirtual 224, 3) := by decide +kernel
theorem dX12_goOn_36 : decode cX12_goOn 36 = .ok (.iload_n 2, 1) := by decide +kernel
theorem dX12_goOn_37 : decode cX12_goOn 37 = .ok (.iload 4, 2) := by decide +kernel
theorem dX12_goOn_39 : decode cX12_goOn 39 = .ok (.iload 6, 2) := by decide +kernel
theorem dX12_goOn_41 : decode cX12_goOn 41 = .ok (.ifCond .eq 8, 3) := by decide +kernel
theorem dX12_goOn_44 : decode cX12_goOn 44 = .ok (.iload 5, 2) := by decide +kernel
theorem dX12_goOn_46 : decode cX12_goOn 46 = .ok (.goto 4, 3) := by decide +kernel
theorem dX12_goOn_49 : decode cX12_goOn 49 = .ok (.iconst 4, 1) := by decide +kernel
theorem dX12_goOn_50 : decode cX12_goOn 50 = .ok (.iconst 4, 1) := by decide +kernel
theorem dX12_goOn_51 : decode cX12_goOn 51 = .ok (.invokevirtual 460, 3) := by decide +kernel
theorem dX12_goOn_54 : decode cX12_goOn 54 = .ok (.ireturn, 1) := by decide +kernel
def w_X12_goOn (a0 a1 a2 a3 a4 : Int) (X : XT) (Q : Int → XT → Prop) : Prop :=
  ∀ J3 : Int → XT → Prop, (∀ (v1 : Int) (X2 : XT), ((0 ≤ a0 ∧ a0 ≤ 4) ∧ R32 v1 ∧ (v1 = 0 → w_X12_goes  (X2 79 (15 + 5 * a0 + 2)) a1 a3 4 4 X2 (fun (v10 : Int) => Q v10 X2)) ∧ (¬ v1 = 0 → w_X12_goes  (X2 79 (15 + 5 * a0 + 2)) a1 a3 a4 4 X2 (fun (v16 : Int) => Q v16 X2))) → J3 v1 X2) → R32 a4 ∧ (a4 = (-1) → J3 0 X) ∧ (¬ a4 = (-1) → (4 ≤ a4 → J3 0 X) ∧ (¬ 4 ≤ a4 → w_X12_helps  a0 a1 a2 X (fun (v25 : Int) (X26 : XT) => R32 v25 ∧ (v25 = 0 → J3 0 X26) ∧ (¬ v25 = 0 → J3 1 X26))))
set_option maxRecDepth 20000 in
theorem so_X12_goOn {n : Nat} {h : Nat → sE} {X : XT} {a0 a1 a2 a3 a4 : Int} {Q : Int → XT → Prop} (hn : 115 ≤ n) (hp : Pic X h) (w : w_X12_goOn  a0 a1 a2 a3 a4 X Q) : Sp m_X12_goOn 8 0 0 [.ref 77, .int (iI a0), .int (iI a1), .int (iI a2), .int (iI a3), .int (iI a4)] n h (pIw n h Q) := by
  unfold w_X12_goOn at w
  refine Sp.ofV (by decide +kernel) (Nat.le_of_ble_eq_true rfl) ?_
  have hf : Fr h h := fun _ _ => rfl
  refine v_iload dX12_goOn_0 rfl ?_
  refine v_iconstI dX12_goOn_2 ?_
  replace w := w (fun (v1 : Int) (X2 : XT) => ∀ h6 : Nat → sE, Pic X2 h6 → Fr h h6 → V (m_X12_goOn, 8, 0, 0, n, pIw n h Q, s_G0) 0 0 n h6 27 [(0, .ref 77), (1, .int (iI a0)), (2, .int (iI a1)), (4, .int (iI a3)), (5, .int (iI a4))] [.int (iI v1)]) (by
    intro v1 X2 w h6 hp4 hf5
    refine v_istore dX12_goOn_27 (Nat.le_of_ble_eq_true rfl) ?_
    refine v_aload_n dX12_goOn_29 rfl ?_
    refine v_aload_n dX12_goOn_30 rfl ?_
    refine v_iload_n dX12_goOn_31 rfl ?_
    refine v_iconstI dX12_goOn_32 ?_
    obtain ⟨q7, w⟩ := w
    refine v_callVp dX12_goOn_33 ml_X12_224 (sv_X12_ofCloud (a := a0) (b := 2) (g77 := X2 77) (g79 := X2 79) hn (hp4 77 (by decide)) (hp4 79 (by decide)) q7 (by decide)) ((hp4 77 (by decide)).trans (ent_77 _)) rfl (s_lt hn rfl) rfl rfl (Nat.le_of_ble_eq_true rfl) (Nat.le_of_ble_eq_true rfl) (Nat.zero_le _) (Nat.zero_le _) ?_
    refine v_iload_n dX12_goOn_36 rfl ?_
    refine v_iload dX12_goOn_37 rfl ?_
    refine v_iload dX12_goOn_39 rfl ?_
    obtain ⟨q8, w⟩ := w
    refine v_if_eqI (tgt := 49) dX12_goOn_41 (by decide) q8.1 q8.2 (fun c9 => ?_) (fun c9 => ?_)
    · replace w := w.1 c9
      refine v_iconstI dX12_goOn_49 ?_
      refine v_iconstI dX12_goOn_50 ?_
      refine v_callVIr dX12_goOn_51 ml_X12_460 (so_X12_goes hn hp4  w) ((hp4 77 (by decide)).trans (ent_77 _)) rfl (s_lt hn rfl) rfl rfl (Nat.le_of_ble_eq_true rfl) (Nat.le_of_ble_eq_true rfl) (Nat.zero_le _) (Nat.zero_le _) (fun v10 w => ?_)
      exact v_iret dX12_goOn_54 rfl (Nat.zero_le _) (Nat.zero_le _) ⟨rfl, hf5, _, _, rfl, hp4, w⟩
    · replace w := w.2 c9
      refine v_iload dX12_goOn_44 rfl ?_
      refine v_goto (tgt := 50) dX12_goOn_46 (by decide) ?_
      refine v_iconstI dX12_goOn_50 ?_
      refine v_callVIr dX12_goOn_51 ml_X12_460 (so_X12_goes hn hp4  w) ((hp4 77 (by decide)).trans (ent_77 _)) rfl (s_lt hn rfl) rfl rfl (Nat.le_of_ble_eq_true rfl) (Nat.le_of_ble_eq_true rfl) (Nat.zero_le _) (Nat.zero_le _) (fun v16 w => ?_)
      exact v_iret dX12_goOn_54 rfl (Nat.zero_le _) (Nat.zero_le _) ⟨rfl, hf5, _, _, rfl, hp4, w⟩
  )
  obtain ⟨q22, w⟩ := w
  refine v_icmp_eqI (tgt := 26) dX12_goOn_3 (by decide) q22.1 q22.2 (by decide) (by decide) (fun c23 => ?_) (fun c23 => ?_)
  · replace w := w.1 c23
    refine v_iconstI dX12_goOn_26 ?_
    refine v_pick [0, 1, 2, 4, 5] rfl ?_
    exact w _ hp hf
  · replace w := w.2 c23
    refine v_iload dX12_goOn_6 rfl ?_
    refine v_iconstI dX12_goOn_8 ?_
    refine v_icmp_geI (tgt := 26) dX12_goOn_9 (by decide) q22.1 q22.2 (by decide) (by decide) (fun c24 => ?_) (fun c24 => ?_)
    · replace w := w.1 c24
      refine v_iconstI dX12_goOn_26 ?_
      refine v_pick [0, 1, 2, 4, 5] rfl ?_
      exact w _ hp hf
    · replace w := w.2 c24
      refine v_aload_n dX12_goOn_12 rfl ?_
      refine v_iload_n dX12_goOn_13 rfl ?_
      refine v_iload_n dX12_goOn_14 rfl ?_
      refine v_iload_n dX12_goOn_15 rfl ?_
      refine v_callVIw dX12_goOn_16 ml_X12_457 (so_X12_helps hn hp  w) ((hp 77 (by decide)).trans (ent_77 _)) rfl (s_lt hn rfl) rfl rfl (Nat.le_of_ble_eq_true rfl) (Nat.le_of_ble_eq_true rfl) (Nat.zero_le _) (Nat.zero_le _) (fun v25 X26 h27 hp29 hf28 w => ?_)
      have hf30 := Fr.trans hf hf28
      obtain ⟨q31, w⟩ := w
      refine v_if_eqI (tgt := 26) dX12_goOn_19 (by decide) q31.1 q31.2 (fun c32 => ?_) (fun c32 => ?_)
      · replace w := w.1 c32
        refine v_iconstI dX12_goOn_26 ?_
        refine v_pick [0, 1, 2, 4, 5] rfl ?_
        exact w _ hp29 hf30
      · replace w := w.2 c32
        refine v_iconstI dX12_goOn_22 ?_
        refine v_goto (tgt := 27) dX12_goOn_23 (by decide) ?_
        refine v_pick [0, 1, 2, 4, 5] rfl ?_
        exact w _ hp29 hf30
theorem dX12_layCorners_0 : decode cX12_layCorners 0 = .ok (.iconst 0, 1) := by decide +kernel
theorem dX12_layCorners_1 : decode cX12_layCorners 1 = .ok (.istore_n 1, 1) := by decide +kernel
theorem dX12_layCorners_2 : decode cX12_layCorners 2 = .ok (.iload_n 1, 1) := by decide +kernel
theorem dX12_layCorners_3 : decode cX12_layCorners 3 = .ok (.aload_n 0, 1) := by decide +kernel
theorem dX12_layCorners_4 : decode cX12_layCorners 4 = .ok (.getfield 13, 3) := by decide +kernel
theorem dX12_layCorners_7 : decode cX12_layCorners 7 = .ok (.iconst 0, 1) := by decide +kernel
theorem dX12_layCorners_8 : decode cX12_layCorners 8 = .ok (.iaload, 1) := by decide +kernel
theorem dX12_layCorners_9 : decode cX12_layCorners 9 = .ok (.if_icmp .ge 65, 3) := by decide +kernel
theorem dX12_layCorners_12 : decode cX12_layCorners 12 = .ok (.aload_n 0, 1) := by decide +kernel
theorem dX12_layCorners_13 : decode cX12_layCorners 13 = .ok (.iload_n 1, 1) := by decide +kernel
theorem dX12_layCorners_14 : decode cX12_layCorners 14 = .ok (.invokevirtual 464, 3) := by decide +kernel
theorem dX12_layCorners_17 : decode cX12_layCorners 17 = .ok (.istore_n 2, 1) := by decide +kernel
theorem dX12_layCorners_18 : decode cX12_layCorners 18 = .ok (.iconst 0, 1) := by decide +kernel
theorem dX12_layCorners_19 : decode cX12_layCorners 19 = .ok (.istore_n 3, 1) := by decide +kernel
theorem dX12_layCorners_20 : decode cX12_layCorners 20 = .ok (.iload_n 3, 1) := by decide +kernel
theorem dX12_layCorners_21 : decode cX12_layCorners 21 = .ok (.bipush 12, 2) := by decide +kernel
theorem dX12_layCorners_23 : decode cX12_layCorners 23 = .ok (.if_icmp .ge 45, 3) := by decide +kernel
theorem dX12_layCorners_26 : decode cX12_layCorners 26 = .ok (.aload_n 0, 1) := by decide +kernel
theorem dX12_layCorners_27 : decode cX12_layCorners 27 = .ok (.getfield 102, 3) := by decide +kernel
theorem dX12_layCorners_30 : decode cX12_layCorners 30 = .ok (.bipush 12, 2) := by decide +kernel
theorem dX12_layCorners_32 : decode cX12_layCorners 32 = .ok (.iload_n 1, 1) := by decide +kernel
theorem dX12_layCorners_33 : decode cX12_layCorners 33 = .ok (.imul, 1) := by decide +kernel
theorem dX12_layCorners_34 : decode cX12_layCorners 34 = .ok (.iload_n 3, 1) := by decide +kernel
theorem dX12_layCorners_35 : decode cX12_layCorners 35 = .ok (.iadd, 1) := by decide +kernel
theorem dX12_layCorners_36 : decode cX12_layCorners 36 = .ok (.iload_n 2, 1) := by decide +kernel
theorem dX12_layCorners_37 : decode cX12_layCorners 37 = .ok (.iastore, 1) := by decide +kernel
theorem dX12_layCorners_38 : decode cX12_layCorners 38 = .ok (.iload_n 2, 1) := by decide +kernel
theorem dX12_layCorners_39 : decode cX12_layCorners 39 = .ok (.iconst (-1), 1) := by decide +kernel
theorem dX12_layCorners_40 : decode cX12_layCorners 40 = .ok (.if_icmp .ne 7, 3) := by decide +kernel
theorem dX12_layCorners_43 : decode cX12_layCorners 43 = .ok (.iconst (-1), 1) := by decide +kernel
theorem dX12_layCorners_44 : decode cX12_layCorners 44 = .ok (.goto 17, 3) := by decide +kernel
theorem dX12_layCorners_47 : decode cX12_layCorners 47 = .ok (.aload_n 0, 1) := by decide +kernel
theorem dX12_layCorners_48 : decode cX12_layCorners 48 = .ok (.iload_n 1, 1) := by decide +kernel
theorem dX12_layCorners_49 : decode cX12_layCorners 49 = .ok (.iload_n 2, 1) := by decide +kernel
theorem dX12_layCorners_50 : decode cX12_layCorners 50 = .ok (.iload_n 3, 1) := by decide +kernel
theorem dX12_layCorners_51 : decode cX12_layCorners 51 = .ok (.iconst 0, 1) := by decide +kernel
theorem dX12_layCorners_52 : decode cX12_layCorners 52 = .ok (.aload_n 0, 1) := by decide +kernel
theorem dX12_layCorners_53 : decode cX12_layCorners 53 = .ok (.iload_n 1, 1) := by decide +kernel
theorem dX12_layCorners_54 : decode cX12_layCorners 54 = .ok (.iload_n 3, 1) := by decide +kernel
theorem dX12_layCorners_55 : decode cX12_layCorners 55 = .ok (.invokevirtual 229, 3) := by decide +kernel
theorem dX12_layCorners_58 : decode cX12_layCorners 58 = .ok (.invokevirtual 467, 3) := by decide +kernel
theorem dX12_layCorners_61 : decode cX12_layCorners 61 = .ok (.istore_n 2, 1) := by decide +kernel
theorem dX12_layCorners_62 : decode cX12_layCorners 62 = .ok (.iinc 3 1, 3) := by decide +kernel
theorem dX12_layCorners_65 : decode cX12_layCorners 65 = .ok (.goto (-45), 3) := by decide +kernel
theorem dX12_layCorners_68 : decode cX12_layCorners 68 = .ok (.iinc 1 1, 3) := by decide +kernel
theorem dX12_layCorners_71 : decode cX12_layCorners 71 = .ok (.goto (-69), 3) := by decide +kernel
theorem dX12_layCorners_74 : decode cX12_layCorners 74 = .ok (.return_, 1) := by decide +kernel
def w_X12_layCorners (X : XT) (Q : XT → Prop) : Prop :=
  ∃ (I3 : Int → XT → Prop) (m4 : Int → XT → Nat), I3 0 X ∧ ∀ (x1 : Int) (X2 : XT), I3 x1 X2 → R32 x1 ∧ R32 (X2 79 0) ∧ ((X2 79 0) ≤ x1 → Q X2) ∧ (¬ (X2 79 0) ≤ x1 → w_X12_beginsAt  x1 X2 (fun (v18 : Int) => ∃ (I27 : Int → Int → XT → Prop) (m28 : Int → Int → XT → Nat), I27 v18 0 X2 ∧ ∀ (x24 : Int) (x25 : Int) (X26 : XT), I27 x24 x25 X26 → R32 x25 ∧ (12 ≤ x25 → I3 (x1 + 1) X26 ∧ m4 (x1 + 1) X26 < m4 x1 X2) ∧ (¬ 12 ≤ x25 → (0 ≤ ((12 * x1) + x25) ∧ ((12 * x1) + x25) < 60) ∧ R32 x24 ∧ (¬ x24 = (-1) → (FLK ((x_st X26 94 ((12 * x1) + x25) x24) 79)) ∧ w_X12_goOn  x1 x24 x25 0 (fRw ((x_st X26 94 ((12 * x1) + x25) x24) 79) x1 x25) (x_st X26 94 ((12 * x1) + x25) x24) (fun (v50 : Int) (X51 : XT) => I27 v50 (x25 + 1) X51 ∧ m28 v50 (x25 + 1) X51 < m28 x24 x25 X26)) ∧ (x24 = (-1) → I27 (-1) (x25 + 1) (x_st X26 94 ((12 * x1) + x25) x24) ∧ m28 (-1) (x25 + 1) (x_st X26 94 ((12 * x1) + x25) x24) < m28 x24 x25 X26))))
set_option maxRecDepth 20000 in
theorem so_X12_layCorners {n : Nat} {h : Nat → sE} {X : XT} {Q : XT → Prop} (hn : 115 ≤ n) (hp : Pic X h) (w : w_X12_layCorners   X Q) : Sp m_X12_layCorners 9 0 0 [.ref 77] n h (pVw n h Q) := by
  unfold w_X12_layCorners at w
  refine Sp.ofV (by decide +kernel) (Nat.le_of_ble_eq_true rfl) ?_
  have hf : Fr h h := fun _ _ => rfl
  refine v_iconstI dX12_layCorners_0 ?_
  refine v_istore_n dX12_layCorners_1 (Nat.le_of_ble_eq_true rfl) ?_
  refine v_pick [1, 0] rfl ?_
  obtain ⟨I3, m4, wi7, wl6⟩ := w
  have hL8 : ∀ (N11 : Nat) (x1 : Int) (X2 : XT) (h12 : Nat → sE), m4 x1 X2 < N11 → I3 x1 X2 → Pic X2 h12 → Fr h h12 → V (m_X12_layCorners, 9, 0, 0, n, pVw n h Q, s_G0) 0 0 n h12 2 [(0, .ref 77), (1, .int (iI x1))] [] := by
    intro N11
    induction N11 with
    | zero => intro x1 X2 h12 hm9; exact absurd hm9 (Nat.not_lt_zero _)
    | succ N11 ih5 =>
      intro x1 X2 h12 hm9 hI10 hp13 hf14
      have w := wl6 x1 X2 hI10
      refine v_iload_n dX12_layCorners_2 rfl ?_
      refine v_aload_n dX12_layCorners_3 rfl ?_
      refine v_get dX12_layCorners_4 fl_X12_13 ((hp13 77 (by decide)).trans (ent_77 _)) rfl (s_lt hn rfl) ?_
      refine v_iconstI dX12_layCorners_7 ?_
      refine v_ialdI dX12_layCorners_8 ((hp13 79 (by decide)).trans (ent_79 _)) (s_lt hn rfl) (by decide) (by decide) (by decide) ?_
      obtain ⟨q15, q16, w⟩ := w
      refine v_icmp_geI (tgt := 74) dX12_layCorners_9 (by decide) q15.1 q15.2 q16.1 q16.2 (fun c17 => ?_) (fun c17 => ?_)
      · replace w := w.1 c17
        exact v_vret dX12_layCorners_74 rfl (Nat.zero_le _) (Nat.zero_le _) ⟨rfl, hf14, _, rfl, hp13, w⟩
      · replace w := w.2 c17
        refine v_aload_n dX12_layCorners_12 rfl ?_
        refine v_iload_n dX12_layCorners_13 rfl ?_
        refine v_callVIr dX12_layCorners_14 ml_X12_464 (so_X12_beginsAt hn hp13  w) ((hp13 77 (by decide)).trans (ent_77 _)) rfl (s_lt hn rfl) rfl rfl (Nat.le_of_ble_eq_true rfl) (Nat.le_of_ble_eq_true rfl) (Nat.zero_le _) (Nat.zero_le _) (fun v18 w => ?_)
        refine v_istore_n dX12_layCorners_17 (Nat.le_of_ble_eq_true rfl) ?_
        refine v_iconstI dX12_layCorners_18 ?_
        refine v_istore_n dX12_layCorners_19 (Nat.le_of_ble_eq_true rfl) ?_
        refine v_pick [2, 3, 1, 0] rfl ?_
        obtain ⟨I27, m28, wi31, wl30⟩ := w
        have hL32 : ∀ (N35 : Nat) (x24 : Int) (x25 : Int) (X26 : XT) (h36 : Nat → sE), m28 x24 x25 X26 < N35 → I27 x24 x25 X26 → Pic X26 h36 → Fr h h36 → V (m_X12_layCorners, 9, 0, 0, n, pVw n h Q, s_G0) 0 0 n h36 20 [(0, .ref 77), (1, .int (iI x1)), (2, .int (iI x24)), (3, .int (iI x25))] [] := by
          intro N35
          induction N35 with
          | zero => intro x24 x25 X26 h36 hm33; exact absurd hm33 (Nat.not_lt_zero _)
          | succ N35 ih29 =>
            intro x24 x25 X26 h36 hm33 hI34 hp37 hf38
            have w := wl30 x24 x25 X26 hI34
            refine v_iload_n dX12_layCorners_20 rfl ?_
            refine v_bipushI dX12_layCorners_21 rfl ?_
            obtain ⟨q39, w⟩ := w
            refine v_icmp_geI (tgt := 68) dX12_layCorners_23 (by decide) q39.1 q39.2 (by decide) (by decide) (fun c40 => ?_) (fun c40 => ?_)
            · replace w := w.1 c40
              refine v_iincI dX12_layCorners_68 rfl (Nat.le_of_ble_eq_true rfl) ?_
              refine v_goto (tgt := 2) dX12_layCorners_71 (by decide) ?_
              refine v_pick [1, 0] rfl ?_
              exact ih5 _ _ _ (Nat.lt_of_lt_of_le w.2 (Nat.le_of_lt_succ hm9)) w.1 hp37 hf38
            · replace w := w.2 c40
              refine v_aload_n dX12_layCorners_26 rfl ?_
              refine v_get dX12_layCorners_27 fl_X12_102 ((hp37 77 (by decide)).trans (ent_77 _)) rfl (s_lt hn rfl) ?_
              refine v_bipushI dX12_layCorners_30 rfl ?_
              refine v_iload_n dX12_layCorners_32 rfl ?_
              refine v_imulI dX12_layCorners_33 ?_
              refine v_iload_n dX12_layCorners_34 rfl ?_
              refine v_iaddI dX12_layCorners_35 ?_
              refine v_iload_n dX12_layCorners_36 rfl ?_
              obtain ⟨q41, w⟩ := w
              refine v_iastI dX12_layCorners_37 ((hp37 94 (by decide)).trans (ent_94 _)) (s_lt hn rfl) q41.1 q41.2 (ix_le q41.2 (by decide)) (fun h42 E43 F44 => ?_)
              have hp45 := pic_st hp37 (show h42 94 = ent 94 (uI _ ((12 * x1) + x25) x24) from E43) F44
              have hf46 := Fr.up (c := 94) hf38 F44 rfl
              refine v_iload_n dX12_layCorners_38 rfl ?_
              refine v_iconstI dX12_layCorners_39 ?_
              obtain ⟨q47, w⟩ := w
              refine v_icmp_neI (tgt := 47) dX12_layCorners_40 (by decide) q47.1 q47.2 (by decide) (by decide) (fun c48 => ?_) (fun c48 => ?_)
              · replace w := w.1 c48
                refine v_aload_n dX12_layCorners_47 rfl ?_
                refine v_iload_n dX12_layCorners_48 rfl ?_
                refine v_iload_n dX12_layCorners_49 rfl ?_
                refine v_iload_n dX12_layCorners_50 rfl ?_
                refine v_iconstI dX12_layCorners_51 ?_
                refine v_aload_n dX12_layCorners_52 rfl ?_
                refine v_iload_n dX12_layCorners_53 rfl ?_
                refine v_iload_n dX12_layCorners_54 rfl ?_
                obtain ⟨q49, w⟩ := w
                refine v_callVp dX12_layCorners_55 ml_X12_229 (sv_X12_flagOf (a := x1) (b := x25) (g77 := (x_st X26 94 ((12 * x1) + x25) x24) 77) (g79 := (x_st X26 94 ((12 * x1) + x25) x24) 79) hn (hp45 77 (by decide)) (hp45 79 (by decide)) q15 q39 q49) ((hp45 77 (by decide)).trans (ent_77 _)) rfl (s_lt hn rfl) rfl rfl (Nat.le_of_ble_eq_true rfl) (Nat.le_of_ble_eq_true rfl) (Nat.zero_le _) (Nat.zero_le _) ?_
                refine v_callVIw dX12_layCorners_58 ml_X12_467 (so_X12_goOn hn hp45  w) ((hp45 77 (by decide)).trans (ent_77 _)) rfl (s_lt hn rfl) rfl rfl (Nat.le_of_ble_eq_true rfl) (Nat.le_of_ble_eq_true rfl) (Nat.zero_le _) (Nat.zero_le _) (fun v50 X51 h52 hp54 hf53 w => ?_)
                have hf55 := Fr.trans hf46 hf53
                refine v_istore_n dX12_layCorners_61 (Nat.le_of_ble_eq_true rfl) ?_
                refine v_iincI dX12_layCorners_62 rfl (Nat.le_of_ble_eq_true rfl) ?_
                refine v_goto (tgt := 20) dX12_layCorners_65 (by decide) ?_
                refine v_pick [2, 3, 1, 0] rfl ?_
                exact ih29 _ _ _ _ (Nat.lt_of_lt_of_le w.2 (Nat.le_of_lt_succ hm33)) w.1 hp54 hf55
              · replace w := w.2 c48
                refine v_iconstI dX12_layCorners_43 ?_
                refine v_goto (tgt := 61) dX12_layCorners_44 (by decide) ?_
                refine v_istore_n dX12_layCorners_61 (Nat.le_of_ble_eq_true rfl) ?_
                refine v_iincI dX12_layCorners_62 rfl (Nat.le_of_ble_eq_true rfl) ?_
                refine v_goto (tgt := 20) dX12_layCorners_65 (by decide) ?_
                refine v_pick [2, 3, 1, 0] rfl ?_
                exact ih29 _ _ _ _ (Nat.lt_of_lt_of_le w.2 (Nat.le_of_lt_succ hm33)) w.1 hp45 hf46
        exact hL32 _ _ _ _ _ (Nat.lt_succ_self _) wi31 hp13 hf14
  exact hL8 _ _ _ _ (Nat.lt_succ_self _) wi7 hp hf
theorem dX12_sumOf_0 : decode cX12_sumOf 0 = .ok (.aload_n 0, 1) := by decide +kernel
theorem dX12_sumOf_1 : decode cX12_sumOf 1 = .ok (.getfield 599, 3) := by decide +kernel
theorem dX12_sumOf_4 : decode cX12_sumOf 4 = .ok (.ifCond .ne 20, 3) := by decide +kernel
theorem dX12_sumOf_7 : decode cX12_sumOf 7 = .ok (.aload_n 0, 1) := by decide +kernel
theorem dX12_sumOf_8 : decode cX12_sumOf 8 = .ok (.getfield 160, 3) := by decide +kernel
theorem dX12_sumOf_11 : decode cX12_sumOf 11 = .ok (.iload_n 1, 1) := by decide +kernel
theorem dX12_sumOf_12 : decode cX12_sumOf 12 = .ok (.iaload, 1) := by decide +kernel
theorem dX12_sumOf_13 : decode cX12_sumOf 13 = .ok (.aload_n 0, 1) := by decide +kernel
theorem dX12_sumOf_14 : decode cX12_sumOf 14 = .ok (.getfield 160, 3) := by decide +kernel
theorem dX12_sumOf_17 : decode cX12_sumOf 17 = .ok (.iload_n 1, 1) := by decide +kernel
theorem dX12_sumOf_18 : decode cX12_sumOf 18 = .ok (.iconst 1, 1) := by decide +kernel
theorem dX12_sumOf_19 : decode cX12_sumOf 19 = .ok (.iadd, 1) := by decide +kernel
theorem dX12_sumOf_20 : decode cX12_sumOf 20 = .ok (.iaload, 1) := by decide +kernel
theorem dX12_sumOf_21 : decode cX12_sumOf 21 = .ok (.if_icmp .ne 5, 3) := by decide +kernel
theorem dX12_sumOf_24 : decode cX12_sumOf 24 = .ok (.lconst 0, 1) := by decide +kernel
theorem dX12_sumOf_25 : decode cX12_sumOf 25 = .ok (.lreturn, 1) := by decide +kernel
theorem dX12_sumOf_26 : decode cX12_sumOf 26 = .ok (.aload_n 0, 1) := by decide +kernel
theorem dX12_sumOf_27 : decode cX12_sumOf 27 = .ok (.iconst 1, 1) := by decide +kernel
theorem dX12_sumOf_28 : decode cX12_sumOf 28 = .ok (.putfield 325, 3) := by decide +kernel
theorem dX12_sumOf_31 : decode cX12_sumOf 31 = .ok (.aload_n 0, 1) := by decide +kernel
theorem dX12_sumOf_32 : decode cX12_sumOf 32 = .ok (.aload_n 0, 1) := by decide +kernel
theorem dX12_sumOf_33 : decode cX12_sumOf 33 = .ok (.getfield 160, 3) := by decide +kernel
theorem dX12_sumOf_36 : decode cX12_sumOf 36 = .ok (.iload_n 1, 1) := by decide +kernel
theorem dX12_sumOf_37 : decode cX12_sumOf 37 = .ok (.iaload, 1) := by decide +kernel
theorem dX12_sumOf_38 : decode cX12_sumOf 38 = .ok (.aload_n 0, 1) := by decide +kernel
theorem dX12_sumOf_39 : decode cX12_sumOf 39 = .ok (.getfield 160, 3) := by decide +kernel
theorem dX12_sumOf_42 : decode cX12_sumOf 42 = .ok (.iload_n 1, 1) := by decide +kernel
theorem dX12_sumOf_43 : decode cX12_sumOf 43 = .ok (.iconst 1, 1) := by decide +kernel
theorem dX12_sumOf_44 : decode cX12_sumOf 44 = .ok (.iadd, 1) := by decide +kernel
theorem dX12_sumOf_45 : decode cX12_sumOf 45 = .ok (.iaload, 1) := by decide +kernel
theorem dX12_sumOf_46 : decode cX12_sumOf 46 = .ok (.invokevirtual 423, 3) := by decide +kernel
theorem dX12_sumOf_49 : decode cX12_sumOf 49 = .ok (.aload_n 0, 1) := by decide +kernel
theorem dX12_sumOf_50 : decode cX12_sumOf 50 = .ok (.iconst 0, 1) := by decide +kernel
theorem dX12_sumOf_51 : decode cX12_sumOf 51 = .ok (.putfield 325, 3) := by decide +kernel
theorem dX12_sumOf_54 : decode cX12_sumOf 54 = .ok (.aload_n 0, 1) := by decide +kernel
theorem dX12_sumOf_55 : decode cX12_sumOf 55 = .ok (.aload_n 0, 1) := by decide +kernel
theorem dX12_sumOf_56 : decode cX12_sumOf 56 = .ok (.getfield 394, 3) := by decide +kernel
theorem dX12_sumOf_59 : decode cX12_sumOf 59 = .ok (.putfield 599, 3) := by decide +kernel
theorem dX12_sumOf_62 : decode cX12_sumOf 62 = .ok (.aload_n 0, 1) := by decide +kernel
theorem dX12_sumOf_63 : decode cX12_sumOf 63 = .ok (.getfield 412, 3) := by decide +kernel
theorem dX12_sumOf_66 : decode cX12_sumOf 66 = .ok (.lreturn, 1) := by decide +kernel
def w_X12_sumOf (a0 : Int) (X : XT) (Q : Int → XT → Prop) : Prop :=
  R32 (X 77 60) ∧ (¬ (X 77 60) = 0 → Q 0 X) ∧ ((X 77 60) = 0 → (0 ≤ a0 ∧ a0 < 144) ∧ (0 ≤ (a0 + 1) ∧ (a0 + 1) < 144) ∧ R32 (X 113 a0) ∧ R32 (X 113 (a0 + 1)) ∧ (¬ (X 113 a0) = (X 113 (a0 + 1)) → w_X12_reckonAll  ((x_st X 77 15 1) 113 a0) ((x_st X 77 15 1) 113 (a0 + 1)) (x_st X 77 15 1) (fun (X14 : XT) => (((x_st X14 77 15 0) 77 33) = 0 ∨ ((x_st X14 77 15 0) 77 33) = 1) ∧ Q ((x_st (x_st X14 77 15 0) 77 60 ((x_st X14 77 15 0) 77 33)) 77 34) (x_st (x_st X14 77 15 0) 77 60 ((x_st X14 77 15 0) 77 33)))) ∧ ((X 113 a0) = (X 113 (a0 + 1)) → Q 0 X))
set_option maxRecDepth 20000 in
theorem so_X12_sumOf {n : Nat} {h : Nat → sE} {X : XT} {a0 : Int} {Q : Int → XT → Prop} (hn : 115 ≤ n) (hp : Pic X h) (w : w_X12_sumOf  a0 X Q) : Sp m_X12_sumOf 4 0 0 [.ref 77, .int (iI a0)] n h (pLw n h Q) := by
  unfold w_X12_sumOf at w
  refine Sp.ofV (by decide +kernel) (Nat.le_of_ble_eq_true rfl) ?_
  have hf : Fr h h := fun _ _ => rfl
  refine v_aload_n dX12_sumOf_0 rfl ?_
  refine v_get dX12_sumOf_1 fl_X12_599 ((hp 77 (by decide)).trans (ent_77 _)) rfl (s_lt hn rfl) ?_
  obtain ⟨q1, w⟩ := w
  refine v_if_neI (tgt := 24) dX12_sumOf_4 (by decide) q1.1 q1.2 (fun c2 => ?_) (fun c2 => ?_)
  · replace w := w.1 c2
    refine v_lconstI (w := 0) dX12_sumOf_24 rfl ?_
    exact v_lret dX12_sumOf_25 rfl (Nat.zero_le _) (Nat.zero_le _) ⟨rfl, hf, _, _, rfl, hp, w⟩
  · replace w := w.2 c2
    refine v_aload_n dX12_sumOf_7 rfl ?_
    refine v_get dX12_sumOf_8 fl_X12_160 ((hp 77 (by decide)).trans (ent_77 _)) rfl (s_lt hn rfl) ?_
    refine v_iload_n dX12_sumOf_11 rfl ?_
    obtain ⟨q3, w⟩ := w
    refine v_ialdI dX12_sumOf_12 ((hp 113 (by decide)).trans (ent_113 _)) (s_lt hn rfl) q3.1 q3.2 (ix_le q3.2 (by decide)) ?_
    refine v_aload_n dX12_sumOf_13 rfl ?_
    refine v_get dX12_sumOf_14 fl_X12_160 ((hp 77 (by decide)).trans (ent_77 _)) rfl (s_lt hn rfl) ?_
    refine v_iload_n dX12_sumOf_17 rfl ?_
    refine v_iconstI dX12_sumOf_18 ?_
    refine v_iaddI dX12_sumOf_19 ?_
    obtain ⟨q4, w⟩ := w
    refine v_ialdI dX12_sumOf_20 ((hp 113 (by decide)).trans (ent_113 _)) (s_lt hn rfl) q4.1 q4.2 (ix_le q4.2 (by decide)) ?_
    obtain ⟨q5, q6, w⟩ := w
    refine v_icmp_neI (tgt := 26) dX12_sumOf_21 (by decide) q5.1 q5.2 q6.1 q6.2 (fun c7 => ?_) (fun c7 => ?_)
    · replace w := w.1 c7
      refine v_aload_n dX12_sumOf_26 rfl ?_
      refine v_iconstI dX12_sumOf_27 ?_
      refine v_put dX12_sumOf_28 fl_X12_325 ((hp 77 (by decide)).trans (ent_77 _)) (s_lt hn rfl) (Nat.le_of_ble_eq_true rfl) (fun _ => ⟨iI_nb1, rfl⟩) trivial (fun h8 E9 F10 => ?_)
      have hp11 := pic_st hp (show h8 77 = ent 77 (uI _ 15 1) from E9) F10
      have hf12 := Fr.up (c := 77) hf F10 rfl
      refine v_aload_n dX12_sumOf_31 rfl ?_
      refine v_aload_n dX12_sumOf_32 rfl ?_
      refine v_get dX12_sumOf_33 fl_X12_160 ((hp11 77 (by decide)).trans (ent_77 _)) rfl (s_lt hn rfl) ?_
      refine v_iload_n dX12_sumOf_36 rfl ?_
      refine v_ialdI dX12_sumOf_37 ((hp11 113 (by decide)).trans (ent_113 _)) (s_lt hn rfl) q3.1 q3.2 (ix_le q3.2 (by decide)) ?_
      refine v_aload_n dX12_sumOf_38 rfl ?_
      refine v_get dX12_sumOf_39 fl_X12_160 ((hp11 77 (by decide)).trans (ent_77 _)) rfl (s_lt hn rfl) ?_
      refine v_iload_n dX12_sumOf_42 rfl ?_
      refine v_iconstI dX12_sumOf_43 ?_
      refine v_iaddI dX12_sumOf_44 ?_
      refine v_ialdI dX12_sumOf_45 ((hp11 113 (by decide)).trans (ent_113 _)) (s_lt hn rfl) q4.1 q4.2 (ix_le q4.2 (by decide)) ?_
      refine v_callVVw dX12_sumOf_46 ml_X12_423 (so_X12_reckonAll hn hp11  w) ((hp11 77 (by decide)).trans (ent_77 _)) rfl (s_lt hn rfl) rfl rfl (Nat.le_of_ble_eq_true rfl) (Nat.le_of_ble_eq_true rfl) (Nat.zero_le _) (Nat.zero_le _) (fun X14 h15 hp17 hf16 w => ?_)
      have hf18 := Fr.trans hf12 hf16
      refine v_aload_n dX12_sumOf_49 rfl ?_
      refine v_iconstI dX12_sumOf_50 ?_
      refine v_put dX12_sumOf_51 fl_X12_325 ((hp17 77 (by decide)).trans (ent_77 _)) (s_lt hn rfl) (Nat.le_of_ble_eq_true rfl) (fun _ => ⟨iI_nb0, rfl⟩) trivial (fun h19 E20 F21 => ?_)
      have hp22 := pic_st hp17 (show h19 77 = ent 77 (uI _ 15 0) from E20) F21
      have hf23 := Fr.up (c := 77) hf18 F21 rfl
      refine v_aload_n dX12_sumOf_54 rfl ?_
      refine v_aload_n dX12_sumOf_55 rfl ?_
      refine v_get dX12_sumOf_56 fl_X12_394 ((hp22 77 (by decide)).trans (ent_77 _)) rfl (s_lt hn rfl) ?_
      obtain ⟨q27, w⟩ := w
      refine v_put dX12_sumOf_59 fl_X12_599 ((hp22 77 (by decide)).trans (ent_77 _)) (s_lt hn rfl) (Nat.le_of_ble_eq_true rfl) (iI_nbs q27) trivial (fun h24 E25 F26 => ?_)
      have hp28 := pic_st hp22 (show h24 77 = ent 77 (uI _ 60 ((x_st X14 77 15 0) 77 33)) from E25) F26
      have hf29 := Fr.up (c := 77) hf23 F26 rfl
      refine v_aload_n dX12_sumOf_62 rfl ?_
      refine v_get dX12_sumOf_63 fl_X12_412 ((hp28 77 (by decide)).trans (ent_77 _)) rfl (s_lt hn rfl) ?_
      exact v_lret dX12_sumOf_66 rfl (Nat.zero_le _) (Nat.zero_le _) ⟨rfl, hf29, _, _, rfl, hp28, w⟩
    · replace w := w.2 c7
      refine v_lconstI (w := 0) dX12_sumOf_24 rfl ?_
      exact v_lret dX12_sumOf_25 rfl (Nat.zero_le _) (Nat.zero_le _) ⟨rfl, hf, _, _, rfl, hp, w⟩
def w_X12_flag1 (a0 a1 a2 : Int) (X : XT) (Q : Int → XT → Prop) : Prop :=
  R32 a0 ∧ (¬ (0 ≤ a0 ∧ a0 ≤ 10) → Q (-1) X) ∧ ((0 ≤ a0 ∧ a0 ≤ 10) → R32 a2 ∧ ((0 ≤ a2 ∧ a2 ≤ 3) → R32 a1 ∧ (0 ≤ X 79 0 ∧ X 79 0 ≤ 5) ∧ ((0 ≤ a1 ∧ a1 ≤ X 79 0 - 1) → (FLK (X 79)) ∧ R32 (fRw (X 79) a1 a0) ∧ ((fRw (X 79) a1 a0) = (-1) → R32 (X 79 1) ∧ (¬ (X 79 1) = 24 → (0 ≤ (232 + (3 * (X 79 1))) ∧ (232 + (3 * (X 79 1))) < 5780) ∧ (0 ≤ ((232 + (3 * (X 79 1))) + 1) ∧ ((232 + (3 * (X 79 1))) + 1) < 5780) ∧ (0 ≤ ((232 + (3 * (X 79 1))) + 2) ∧ ((232 + (3 * (X 79 1))) + 2) < 5780) ∧ Q ((X 79 1) + 1) (x_st (x_st (x_st (x_st X 79 (232 + (3 * (X 79 1))) a0) 79 ((232 + (3 * (X 79 1))) + 1) a1) 79 ((232 + (3 * (X 79 1))) + 2) a2) 79 1 (((x_st (x_st (x_st X 79 (232 + (3 * (X 79 1))) a0) 79 ((232 + (3 * (X 79 1))) + 1) a1) 79 ((232 + (3 * (X 79 1))) + 2) a2) 79 1) + 1))) ∧ ((X 79 1) = 24 → Q (-5) X)) ∧ (¬ (fRw (X 79) a1 a0) = (-1) → Q (-3) X)) ∧ (¬ (0 ≤ a1 ∧ a1 ≤ X 79 0 - 1) → Q (-2) X)) ∧ (¬ (0 ≤ a2 ∧ a2 ≤ 3) → Q (-1) X))
set_option maxRecDepth 20000 in
theorem so_X12_flag1 {n : Nat} {h : Nat → sE} {X : XT} {a0 a1 a2 : Int} {Q : Int → XT → Prop} (hn : 115 ≤ n) (hp : Pic X h) (w : w_X12_flag1  a0 a1 a2 X Q) : Sp m_X12_flag1 2 0 0 [.ref 77, .int (iI a0), .int (iI a1), .int (iI a2)] n h (pIw n h Q) := by
  unfold w_X12_flag1 at w
  refine Sp.ofV (by decide +kernel) (Nat.le_of_ble_eq_true rfl) ?_
  have hf : Fr h h := fun _ _ => rfl
  refine v_iload_n dX12_flag1_0 rfl ?_
  obtain ⟨q1, w⟩ := w
  refine v_i2lI dX12_flag1_1 q1.1 q1.2 ?_
  refine v_lconstI (w := 0) dX12_flag1_2 rfl ?_
  refine v_ldc2I 10 dX12_flag1_3 k_X12_227 rfl ?_
  refine v_callSp dX12_flag1_6 ml_X12_175 (sp_X12_in (v := a0) (lo := 0) (hi := 10) (r32_64 q1) (by decide) (by decide)) rfl rfl (Nat.le_of_ble_eq_true rfl) (Nat.le_of_ble_eq_true rfl) (Nat.zero_le _) (Nat.zero_le _) ?_
  refine v_ifeqB (tgt := 24) dX12_flag1_9 (by decide) (fun c2 => ?_) (fun c2 => ?_)
  · replace w := w.1 c2
    refine v_iconstI dX12_flag1_24 ?_
    exact v_iret dX12_flag1_25 rfl (Nat.zero_le _) (Nat.zero_le _) ⟨rfl, hf, _, _, rfl, hp, w⟩
  · replace w := w.2 c2
    refine v_iload_n dX12_flag1_12 rfl ?_
    obtain ⟨q3, w⟩ := w
    refine v_i2lI dX12_flag1_13 q3.1 q3.2 ?_
    refine v_lconstI (w := 0) dX12_flag1_14 rfl ?_
    refine v_ldc2I 3 dX12_flag1_15 k_X12_210 rfl ?_
    refine v_callSp dX12_flag1_18 ml_X12_175 (sp_X12_in (v := a2) (lo := 0) (hi := 3) (r32_64 q3) (by decide) (by decide)) rfl rfl (Nat.le_of_ble_eq_true rfl) (Nat.le_of_ble_eq_true rfl) (Nat.zero_le _) (Nat.zero_le _) ?_
    refine v_ifneB (tgt := 26) dX12_flag1_21 (by decide) (fun c4 => ?_) (fun c4 => ?_)
    · replace w := w.1 c4
      refine v_aload_n dX12_flag1_26 rfl ?_
      refine v_iload_n dX12_flag1_27 rfl ?_
      obtain ⟨q5, q6, w⟩ := w
      refine v_callVp dX12_flag1_28 ml_X12_219 (sp_X12_isCloud (a := a1) (g77 := X 77) (g79 := X 79) hn (hp 77 (by decide)) (hp 79 (by decide)) q5 q6) ((hp 77 (by decide)).trans (ent_77 _)) rfl (s_lt hn rfl) rfl rfl (Nat.le_of_ble_eq_true rfl) (Nat.le_of_ble_eq_true rfl) (Nat.zero_le _) (Nat.zero_le _) ?_
      refine v_ifneB (tgt := 37) dX12_flag1_31 (by decide) (fun c7 => ?_) (fun c7 => ?_)
      · replace w := w.1 c7
        refine v_aload_n dX12_flag1_37 rfl ?_
        refine v_iload_n dX12_flag1_38 rfl ?_
        refine v_iload_n dX12_flag1_39 rfl ?_
        obtain ⟨q8, w⟩ := w
        refine v_callVp dX12_flag1_40 ml_X12_229 (sv_X12_flagOf (a := a1) (b := a0) (g77 := X 77) (g79 := X 79) hn (hp 77 (by decide)) (hp 79 (by decide)) q5 q1 q8) ((hp 77 (by decide)).trans (ent_77 _)) rfl (s_lt hn rfl) rfl rfl (Nat.le_of_ble_eq_true rfl) (Nat.le_of_ble_eq_true rfl) (Nat.zero_le _) (Nat.zero_le _) ?_
        refine v_iconstI dX12_flag1_43 ?_
        obtain ⟨q9, w⟩ := w
        refine v_icmp_eqI (tgt := 50) dX12_flag1_44 (by decide) q9.1 q9.2 (by decide) (by decide) (fun c10 => ?_) (fun c10 => ?_)
        · replace w := w.1 c10
          refine v_aload_n dX12_flag1_50 rfl ?_
          refine v_get dX12_flag1_51 fl_X12_13 ((hp 77 (by decide)).trans (ent_77 _)) rfl (s_lt hn rfl) ?_
          refine v_iconstI dX12_flag1_54 ?_
          refine v_ialdI dX12_flag1_55 ((hp 79 (by decide)).trans (ent_79 _)) (s_lt hn rfl) (by decide) (by decide) (by decide) ?_
          refine v_istore dX12_flag1_56 (Nat.le_of_ble_eq_true rfl) ?_
          refine v_iload dX12_flag1_58 rfl ?_
          refine v_bipushI dX12_flag1_60 rfl ?_
          obtain ⟨q11, w⟩ := w
          refine v_icmp_neI (tgt := 68) dX12_flag1_62 (by decide) q11.1 q11.2 (by decide) (by decide) (fun c12 => ?_) (fun c12 => ?_)
          · replace w := w.1 c12
            refine v_aload_n dX12_flag1_68 rfl ?_
            refine v_get dX12_flag1_69 fl_X12_13 ((hp 77 (by decide)).trans (ent_77 _)) rfl (s_lt hn rfl) ?_
            refine v_sipushI dX12_flag1_72 rfl ?_
            refine v_iconstI dX12_flag1_75 ?_
            refine v_iload dX12_flag1_76 rfl ?_
            refine v_imulI dX12_flag1_78 ?_
            refine v_iaddI dX12_flag1_79 ?_
            refine v_iload_n dX12_flag1_80 rfl ?_
            obtain ⟨q13, w⟩ := w
            refine v_iastI dX12_flag1_81 ((hp 79 (by decide)).trans (ent_79 _)) (s_lt hn rfl) q13.1 q13.2 (ix_le q13.2 (by decide)) (fun h14 E15 F16 => ?_)
            have hp17 := pic_st hp (show h14 79 = ent 79 (uI _ (232 + (3 * (X 79 1))) a0) from E15) F16
            have hf18 := Fr.up (c := 79) hf F16 rfl
            refine v_aload_n dX12_flag1_82 rfl ?_
            refine v_get dX12_flag1_83 fl_X12_13 ((hp17 77 (by decide)).trans (ent_77 _)) rfl (s_lt hn rfl) ?_
            refine v_sipushI dX12_flag1_86 rfl ?_
            refine v_iconstI dX12_flag1_89 ?_
            refine v_iload dX12_flag1_90 rfl ?_
            refine v_imulI dX12_flag1_92 ?_
            refine v_iaddI dX12_flag1_93 ?_
            refine v_iconstI dX12_flag1_94 ?_
            refine v_iaddI dX12_flag1_95 ?_
            refine v_iload_n dX12_flag1_96 rfl ?_
            obtain ⟨q19, w⟩ := w
            refine v_iastI dX12_flag1_97 ((hp17 79 (by decide)).trans (ent_79 _)) (s_lt hn rfl) q19.1 q19.2 (ix_le q19.2 (by decide)) (fun h20 E21 F22 => ?_)
            have hp23 := pic_st hp17 (show h20 79 = ent 79 (uI _ ((232 + (3 * (X 79 1))) + 1) a1) from E21) F22
            have hf24 := Fr.up (c := 79) hf18 F22 rfl
            refine v_aload_n dX12_flag1_98 rfl ?_
            refine v_get dX12_flag1_99 fl_X12_13 ((hp23 77 (by decide)).trans (ent_77 _)) rfl (s_lt hn rfl) ?_
            refine v_sipushI dX12_flag1_102 rfl ?_
            refine v_iconstI dX12_flag1_105 ?_
            refine v_iload dX12_flag1_106 rfl ?_
            refine v_imulI dX12_flag1_108 ?_
            refine v_iaddI dX12_flag1_109 ?_
            refine v_iconstI dX12_flag1_110 ?_
            refine v_iaddI dX12_flag1_111 ?_
            refine v_iload_n dX12_flag1_112 rfl ?_
            obtain ⟨q25, w⟩ := w
            refine v_iastI dX12_flag1_113 ((hp23 79 (by decide)).trans (ent_79 _)) (s_lt hn rfl) q25.1 q25.2 (ix_le q25.2 (by decide)) (fun h26 E27 F28 => ?_)
            have hp29 := pic_st hp23 (show h26 79 = ent 79 (uI _ ((232 + (3 * (X 79 1))) + 2) a2) from E27) F28
            have hf30 := Fr.up (c := 79) hf24 F28 rfl
            refine v_aload_n dX12_flag1_114 rfl ?_
            refine v_get dX12_flag1_115 fl_X12_13 ((hp29 77 (by decide)).trans (ent_77 _)) rfl (s_lt hn rfl) ?_
            refine v_iconstI dX12_flag1_118 ?_
            refine v_dup2 dX12_flag1_119 rfl rfl ?_
            refine v_ialdI dX12_flag1_120 ((hp29 79 (by decide)).trans (ent_79 _)) (s_lt hn rfl) (by decide) (by decide) (by decide) ?_
            refine v_iconstI dX12_flag1_121 ?_
            refine v_iaddI dX12_flag1_122 ?_
            refine v_iastI dX12_flag1_123 ((hp29 79 (by decide)).trans (ent_79 _)) (s_lt hn rfl) (by decide) (by decide) (by decide) (fun h31 E32 F33 => ?_)
            have hp34 := pic_st hp29 (show h31 79 = ent 79 (uI _ 1 (((x_st (x_st (x_st X 79 (232 + (3 * (X 79 1))) a0) 79 ((232 + (3 * (X 79 1))) + 1) a1) 79 ((232 + (3 * (X 79 1))) + 2) a2) 79 1) + 1)) from E32) F33
            have hf35 := Fr.up (c := 79) hf30 F33 rfl
            refine v_iload dX12_flag1_124 rfl ?_
            refine v_iconstI dX12_flag1_126 ?_
            refine v_iaddI dX12_flag1_127 ?_
            exact v_iret dX12_flag1_128 rfl (Nat.zero_le _) (Nat.zero_le _) ⟨rfl, hf35, _, _, rfl, hp34, w⟩
          · replace w := w.2 c12
            refine v_bipushI dX12_flag1_65 rfl ?_
            exact v_iret dX12_flag1_67 rfl (Nat.zero_le _) (Nat.zero_le _) ⟨rfl, hf, _, _, rfl, hp, w⟩
        · replace w := w.2 c10
          refine v_bipushI dX12_flag1_47 rfl ?_
          exact v_iret dX12_flag1_49 rfl (Nat.zero_le _) (Nat.zero_le _) ⟨rfl, hf, _, _, rfl, hp, w⟩
      · replace w := w.2 c7
        refine v_bipushI dX12_flag1_34 rfl ?_
        exact v_iret dX12_flag1_36 rfl (Nat.zero_le _) (Nat.zero_le _) ⟨rfl, hf, _, _, rfl, hp, w⟩
    · replace w := w.2 c4
      refine v_iconstI dX12_flag1_24 ?_
      exact v_iret dX12_flag1_25 rfl (Nat.zero_le _) (Nat.zero_le _) ⟨rfl, hf, _, _, rfl, hp, w⟩
theorem dX12_run_0 : decode cX12_run 0 = .ok (.aload_n 0, 1) := by decide +kernel
theorem dX12_run_1 : decode cX12_run 1 = .ok (.invokevirtual 478, 3) := by decide +kernel
theorem dX12_run_4 : decode cX12_run 4 = .ok (.aload_n 0, 1) := by decide +kernel
theorem dX12_run_5 : decode cX12_run 5 = .ok (.getfield 96, 3) := by decide +kernel
theorem dX12_run_8 : decode cX12_run 8 = .ok (.iconst 1, 1) := by decide +kernel
theorem dX12_run_9 : decode cX12_run 9 = .ok (.aload_n 0, 1) := by decide +kernel
theorem dX12_run_10 : decode cX12_run 10 = .ok (.getfield 13, 3) := by decide +kernel
theorem dX12_run_13 : decode cX12_run 13 = .ok (.iconst 0, 1) := by decide +kernel
theorem dX12_run_14 : decode cX12_run 14 = .ok (.iaload, 1) := by decide +kernel
theorem dX12_run_15 : decode cX12_run 15 = .ok (.i2l, 1) := by decide +kernel
theorem dX12_run_16 : decode cX12_run 16 = .ok (.lastore, 1) := by decide +kernel
theorem dX12_run_17 : decode cX12_run 17 = .ok (.aload_n 0, 1) := by decide +kernel
theorem dX12_run_18 : decode cX12_run 18 = .ok (.getfield 96, 3) := by decide +kernel
theorem dX12_run_21 : decode cX12_run 21 = .ok (.iconst 2, 1) := by decide +kernel
theorem dX12_run_22 : decode cX12_run 22 = .ok (.aload_n 0, 1) := by decide +kernel
theorem dX12_run_23 : decode cX12_run 23 = .ok (.getfield 13, 3) := by decide +kernel
theorem dX12_run_26 : decode cX12_run 26 = .ok (.iconst 1, 1) := by decide +kernel
theorem dX12_run_27 : decode cX12_run 27 = .ok (.iaload, 1) := by decide +kernel
theorem dX12_run_28 : decode cX12_run 28 = .ok (.i2l, 1) := by decide +kernel
theorem dX12_run_29 : decode cX12_run 29 = .ok (.lastore, 1) := by decide +kernel
theorem dX12_run_30 : decode cX12_run 30 = .ok (.aload_n 0, 1) := by decide +kernel
theorem dX12_run_31 : decode cX12_run 31 = .ok (.getfield 96, 3) := by decide +kernel
theorem dX12_run_34 : decode cX12_run 34 = .ok (.iconst 3, 1) := by decide +kernel
theorem dX12_run_35 : decode cX12_run 35 = .ok (.aload_n 0, 1) := by decide +kernel
theorem dX12_run_36 : decode cX12_run 36 = .ok (.getfield 602, 3) := by decide +kernel
theorem dX12_run_39 : decode cX12_run 39 = .ok (.i2l, 1) := by decide +kernel
theorem dX12_run_40 : decode cX12_run 40 = .ok (.lastore, 1) := by decide +kernel
theorem dX12_run_41 : decode cX12_run 41 = .ok (.aload_n 0, 1) := by decide +kernel
theorem dX12_run_42 : decode cX12_run 42 = .ok (.getfield 96, 3) := by decide +kernel
theorem dX12_run_45 : decode cX12_run 45 = .ok (.iconst 4, 1) := by decide +kernel
theorem dX12_run_46 : decode cX12_run 46 = .ok (.aload_n 0, 1) := by decide +kernel
theorem dX12_run_47 : decode cX12_run 47 = .ok (.getfield 605, 3) := by decide +kernel
theorem dX12_run_50 : decode cX12_run 50 = .ok (.i2l, 1) := by decide +kernel
theorem dX12_run_51 : decode cX12_run 51 = .ok (.lastore, 1) := by decide +kernel
theorem dX12_run_52 : decode cX12_run 52 = .ok (.aload_n 0, 1) := by decide +kernel
theorem dX12_run_53 : decode cX12_run 53 = .ok (.getfield 96, 3) := by decide +kernel
theorem dX12_run_56 : decode cX12_run 56 = .ok (.iconst 5, 1) := by decide +kernel
theorem dX12_run_57 : decode cX12_run 57 = .ok (.aload_n 0, 1) := by decide +kernel
theorem dX12_run_58 : decode cX12_run 58 = .ok (.getfield 160, 3) := by decide +kernel
theorem dX12_run_61 : decode cX12_run 61 = .ok (.iload_n 1, 1) := by decide +kernel
theorem dX12_run_62 : decode cX12_run 62 = .ok (.bipush 11, 2) := by decide +kernel
theorem dX12_run_64 : decode cX12_run 64 = .ok (.iadd, 1) := by decide +kernel
theorem dX12_run_65 : decode cX12_run 65 = .ok (.iaload, 1) := by decide +kernel
theorem dX12_run_66 : decode cX12_run 66 = .ok (.i2l, 1) := by decide +kernel
theorem dX12_run_67 : decode cX12_run 67 = .ok (.lastore, 1) := by decide +kernel
theorem dX12_run_68 : decode cX12_run 68 = .ok (.aload_n 0, 1) := by decide +kernel
theorem dX12_run_69 : decode cX12_run 69 = .ok (.getfield 96, 3) := by decide +kernel
theorem dX12_run_72 : decode cX12_run 72 = .ok (.bipush 6, 2) := by decide +kernel
theorem dX12_run_74 : decode cX12_run 74 = .ok (.aload_n 0, 1) := by decide +kernel
theorem dX12_run_75 : decode cX12_run 75 = .ok (.getfield 13, 3) := by decide +kernel
theorem dX12_run_78 : decode cX12_run 78 = .ok (.bipush 6, 2) := by decide +kernel
theorem dX12_run_80 : decode cX12_run 80 = .ok (.iaload, 1) := by decide +kernel
theorem dX12_run_81 : decode cX12_run 81 = .ok (.i2l, 1) := by decide +kernel
theorem dX12_run_82 : decode cX12_run 82 = .ok (.lastore, 1) := by decide +kernel
theorem dX12_run_83 : decode cX12_run 83 = .ok (.aload_n 0, 1) := by decide +kernel
theorem dX12_run_84 : decode cX12_run 84 = .ok (.iconst 0, 1) := by decide +kernel
theorem dX12_run_85 : decode cX12_run 85 = .ok (.putfield 599, 3) := by decide +kernel
theorem dX12_run_88 : decode cX12_run 88 = .ok (.aload_n 0, 1) := by decide +kernel
theorem dX12_run_89 : decode cX12_run 89 = .ok (.getfield 160, 3) := by decide +kernel
theorem dX12_run_92 : decode cX12_run 92 = .ok (.iload_n 1, 1) := by decide +kernel
theorem dX12_run_93 : decode cX12_run 93 = .ok (.bipush 8, 2) := by decide +kernel
theorem dX12_run_95 : decode cX12_run 95 = .ok (.iadd, 1) := by decide +kernel
theorem dX12_run_96 : decode cX12_run 96 = .ok (.iaload, 1) := by decide +kernel
theorem dX12_run_97 : decode cX12_run 97 = .ok (.aload_n 0, 1) := by decide +kernel
theorem dX12_run_98 : decode cX12_run 98 = .ok (.getfield 160, 3) := by decide +kernel
theorem dX12_run_101 : decode cX12_run 101 = .ok (.iload_n 1, 1) := by decide +kernel
theorem dX12_run_102 : decode cX12_run 102 = .ok (.bipush 9, 2) := by decide +kernel
theorem dX12_run_104 : decode cX12_run 104 = .ok (.iadd, 1) := by decide +kernel
theorem dX12_run_105 : decode cX12_run 105 = .ok (.iaload, 1) := by decide +kernel
theorem dX12_run_106 : decode cX12_run 106 = .ok (.if_icmp .ge 27, 3) := by decide +kernel
theorem dX12_run_109 : decode cX12_run 109 = .ok (.aload_n 0, 1) := by decide +kernel
theorem dX12_run_110 : decode cX12_run 110 = .ok (.iload_n 1, 1) := by decide +kernel
theorem dX12_run_111 : decode cX12_run 111 = .ok (.bipush 8, 2) := by decide +kernel
theorem dX12_run_113 : decode cX12_run 113 = .ok (.iadd, 1) := by decide +kernel
theorem dX12_run_114 : decode cX12_run 114 = .ok (.invokevirtual 608, 3) := by decide +kernel
theorem dX12_run_117 : decode cX12_run 117 = .ok (.lstore_n 2, 1) := by decide +kernel
theorem dX12_run_118 : decode cX12_run 118 = .ok (.aload_n 0, 1) := by decide +kernel
theorem dX12_run_119 : decode cX12_run 119 = .ok (.getfield 599, 3) := by decide +kernel
theorem dX12_run_122 : decode cX12_run 122 = .ok (.ifCond .ne 9, 3) := by decide +kernel
theorem dX12_run_125 : decode cX12_run 125 = .ok (.lload_n 2, 1) := by decide +kernel
theorem dX12_run_126 : decode cX12_run 126 = .ok (.lconst 0, 1) := by decide +kernel
theorem dX12_run_127 : decode cX12_run 127 = .ok (.lcmp, 1) := by decide +kernel
theorem dX12_run_128 : decode cX12_run 128 = .ok (.ifCond .ne 5, 3) := by decide +kernel
theorem dX12_run_131 : decode cX12_run 131 = .ok (.iconst 0, 1) := by decide +kernel
theorem dX12_run_132 : decode cX12_run 132 = .ok (.ireturn, 1) := by decide +kernel
theorem dX12_run_133 : decode cX12_run 133 = .ok (.aload_n 0, 1) := by decide +kernel
theorem dX12_run_134 : decode cX12_run 134 = .ok (.iload_n 1, 1) := by decide +kernel
theorem dX12_run_135 : decode cX12_run 135 = .ok (.invokevirtual 608, 3) := by decide +kernel
theorem dX12_run_138 : decode cX12_run 138 = .ok (.l2i, 1) := by decide +kernel
theorem dX12_run_139 : decode cX12_run 139 = .ok (.istore_n 2, 1) := by decide +kernel
theorem dX12_run_140 : decode cX12_run 140 = .ok (.aload_n 0, 1) := by decide +kernel
theorem dX12_run_141 : decode cX12_run 141 = .ok (.iload_n 1, 1) := by decide +kernel
theorem dX12_run_142 : decode cX12_run 142 = .ok (.iconst 2, 1) := by decide +kernel
theorem dX12_run_143 : decode cX12_run 143 = .ok (.iadd, 1) := by decide +kernel
theorem dX12_run_144 : decode cX12_run 144 = .ok (.invokevirtual 608, 3) := by decide +kernel
theorem dX12_run_147 : decode cX12_run 147 = .ok (.l2i, 1) := by decide +kernel
theorem dX12_run_148 : decode cX12_run 148 = .ok (.istore_n 3, 1) := by decide +kernel
theorem dX12_run_149 : decode cX12_run 149 = .ok (.aload_n 0, 1) := by decide +kernel
theorem dX12_run_150 : decode cX12_run 150 = .ok (.iload_n 1, 1) := by decide +kernel
theorem dX12_run_151 : decode cX12_run 151 = .ok (.iconst 4, 1) := by decide +kernel
theorem dX12_run_152 : decode cX12_run 152 = .ok (.iadd, 1) := by decide +kernel
theorem dX12_run_153 : decode cX12_run 153 = .ok (.invokevirtual 608, 3) := by decide +kernel
theorem dX12_run_156 : decode cX12_run 156 = .ok (.lstore 4, 2) := by decide +kernel
theorem dX12_run_158 : decode cX12_run 158 = .ok (.lload 4, 2) := by decide +kernel
theorem dX12_run_160 : decode cX12_run 160 = .ok (.aload_n 0, 1) := by decide +kernel
theorem dX12_run_161 : decode cX12_run 161 = .ok (.iload_n 1, 1) := by decide +kernel
theorem dX12_run_162 : decode cX12_run 162 = .ok (.bipush 6, 2) := by decide +kernel
theorem dX12_run_164 : decode cX12_run 164 = .ok (.iadd, 1) := by decide +kernel
theorem dX12_run_165 : decode cX12_run 165 = .ok (.invokevirtual 608, 3) := by decide +kernel
theorem dX12_run_168 : decode cX12_run 168 = .ok (.aload_n 0, 1) := by decide +kernel
theorem dX12_run_169 : decode cX12_run 169 = .ok (.getfield 160, 3) := by decide +kernel
theorem dX12_run_172 : decode cX12_run 172 = .ok (.iload_n 1, 1) := by decide +kernel
theorem dX12_run_173 : decode cX12_run 173 = .ok (.bipush 11, 2) := by decide +kernel
theorem dX12_run_175 : decode cX12_run 175 = .ok (.iadd, 1) := by decide +kernel
theorem dX12_run_176 : decode cX12_run 176 = .ok (.iaload, 1) := by decide +kernel
theorem dX12_run_177 : decode cX12_run 177 = .ok (.i2l, 1) := by decide +kernel
theorem dX12_run_178 : decode cX12_run 178 = .ok (.lmul, 1) := by decide +kernel
theorem dX12_run_179 : decode cX12_run 179 = .ok (.ladd, 1) := by decide +kernel
theorem dX12_run_180 : decode cX12_run 180 = .ok (.lstore 4, 2) := by decide +kernel
theorem dX12_run_182 : decode cX12_run 182 = .ok (.aload_n 0, 1) := by decide +kernel
theorem dX12_run_183 : decode cX12_run 183 = .ok (.getfield 599, 3) := by decide +kernel
theorem dX12_run_186 : decode cX12_run 186 = .ok (.ifCond .eq 6, 3) := by decide +kernel
theorem dX12_run_189 : decode cX12_run 189 = .ok (.bipush (-3), 2) := by decide +kernel
theorem dX12_run_191 : decode cX12_run 191 = .ok (.ireturn, 1) := by decide +kernel
theorem dX12_run_192 : decode cX12_run 192 = .ok (.lload 4, 2) := by decide +kernel
theorem dX12_run_194 : decode cX12_run 194 = .ok (.iconst (-1), 1) := by decide +kernel
theorem dX12_run_195 : decode cX12_run 195 = .ok (.bipush 12, 2) := by decide +kernel
theorem dX12_run_197 : decode cX12_run 197 = .ok (.invokestatic 436, 3) := by decide +kernel
theorem dX12_run_200 : decode cX12_run 200 = .ok (.istore 6, 2) := by decide +kernel
theorem dX12_run_202 : decode cX12_run 202 = .ok (.aload_n 0, 1) := by decide +kernel
theorem dX12_run_203 : decode cX12_run 203 = .ok (.iload 6, 2) := by decide +kernel
theorem dX12_run_205 : decode cX12_run 205 = .ok (.iload_n 2, 1) := by decide +kernel
theorem dX12_run_206 : decode cX12_run 206 = .ok (.iload_n 3, 1) := by decide +kernel
theorem dX12_run_207 : decode cX12_run 207 = .ok (.invokevirtual 232, 3) := by decide +kernel
theorem dX12_run_210 : decode cX12_run 210 = .ok (.istore 7, 2) := by decide +kernel
theorem dX12_run_212 : decode cX12_run 212 = .ok (.iload 7, 2) := by decide +kernel
theorem dX12_run_214 : decode cX12_run 214 = .ok (.ifCond .ge 18, 3) := by decide +kernel
theorem dX12_run_217 : decode cX12_run 217 = .ok (.iload 7, 2) := by decide +kernel
theorem dX12_run_219 : decode cX12_run 219 = .ok (.bipush (-5), 2) := by decide +kernel
theorem dX12_run_221 : decode cX12_run 221 = .ok (.if_icmp .ne 8, 3) := by decide +kernel
theorem dX12_run_224 : decode cX12_run 224 = .ok (.bipush (-5), 2) := by decide +kernel
theorem dX12_run_226 : decode cX12_run 226 = .ok (.goto 5, 3) := by decide +kernel
theorem dX12_run_229 : decode cX12_run 229 = .ok (.bipush (-3), 2) := by decide +kernel
theorem dX12_run_231 : decode cX12_run 231 = .ok (.ireturn, 1) := by decide +kernel
theorem dX12_run_232 : decode cX12_run 232 = .ok (.aload_n 0, 1) := by decide +kernel
theorem dX12_run_233 : decode cX12_run 233 = .ok (.getfield 160, 3) := by decide +kernel
theorem dX12_run_236 : decode cX12_run 236 = .ok (.iload_n 1, 1) := by decide +kernel
theorem dX12_run_237 : decode cX12_run 237 = .ok (.bipush 11, 2) := by decide +kernel
theorem dX12_run_239 : decode cX12_run 239 = .ok (.iadd, 1) := by decide +kernel
theorem dX12_run_240 : decode cX12_run 240 = .ok (.dup2, 1) := by decide +kernel
theorem dX12_run_241 : decode cX12_run 241 = .ok (.iaload, 1) := by decide +kernel
theorem dX12_run_242 : decode cX12_run 242 = .ok (.iconst 1, 1) := by decide +kernel
theorem dX12_run_243 : decode cX12_run 243 = .ok (.iadd, 1) := by decide +kernel
theorem dX12_run_244 : decode cX12_run 244 = .ok (.iastore, 1) := by decide +kernel
theorem dX12_run_245 : decode cX12_run 245 = .ok (.aload_n 0, 1) := by decide +kernel
theorem dX12_run_246 : decode cX12_run 246 = .ok (.iload 6, 2) := by decide +kernel
theorem dX12_run_248 : decode cX12_run 248 = .ok (.putfield 602, 3) := by decide +kernel
theorem dX12_run_251 : decode cX12_run 251 = .ok (.aload_n 0, 1) := by decide +kernel
theorem dX12_run_252 : decode cX12_run 252 = .ok (.dup, 1) := by decide +kernel
theorem dX12_run_253 : decode cX12_run 253 = .ok (.getfield 605, 3) := by decide +kernel
theorem dX12_run_256 : decode cX12_run 256 = .ok (.iconst 1, 1) := by decide +kernel
theorem dX12_run_257 : decode cX12_run 257 = .ok (.iadd, 1) := by decide +kernel
theorem dX12_run_258 : decode cX12_run 258 = .ok (.putfield 605, 3) := by decide +kernel
theorem dX12_run_261 : decode cX12_run 261 = .ok (.iconst 0, 1) := by decide +kernel
theorem dX12_run_262 : decode cX12_run 262 = .ok (.ireturn, 1) := by decide +kernel
def w_X12_run (a0 : Int) (X : XT) (Q : Int → XT → Prop) : Prop :=
  w_X12_layCorners   X (fun (X2 : XT) => R32 (X2 79 0) ∧ R32 ((x_st X2 92 1 (X2 79 0)) 79 1) ∧ R32 ((x_st (x_st X2 92 1 (X2 79 0)) 92 2 ((x_st X2 92 1 (X2 79 0)) 79 1)) 77 58) ∧ R32 ((x_st (x_st (x_st X2 92 1 (X2 79 0)) 92 2 ((x_st X2 92 1 (X2 79 0)) 79 1)) 92 3 ((x_st (x_st X2 92 1 (X2 79 0)) 92 2 ((x_st X2 92 1 (X2 79 0)) 79 1)) 77 58)) 77 57) ∧ (0 ≤ (a0 + 11) ∧ (a0 + 11) < 144) ∧ R32 ((x_st (x_st (x_st (x_st X2 92 1 (X2 79 0)) 92 2 ((x_st X2 92 1 (X2 79 0)) 79 1)) 92 3 ((x_st (x_st X2 92 1 (X2 79 0)) 92 2 ((x_st X2 92 1 (X2 79 0)) 79 1)) 77 58)) 92 4 ((x_st (x_st (x_st X2 92 1 (X2 79 0)) 92 2 ((x_st X2 92 1 (X2 79 0)) 79 1)) 92 3 ((x_st (x_st X2 92 1 (X2 79 0)) 92 2 ((x_st X2 92 1 (X2 79 0)) 79 1)) 77 58)) 77 57)) 113 (a0 + 11)) ∧ R32 ((x_st (x_st (x_st (x_st (x_st X2 92 1 (X2 79 0)) 92 2 ((x_st X2 92 1 (X2 79 0)) 79 1)) 92 3 ((x_st (x_st X2 92 1 (X2 79 0)) 92 2 ((x_st X2 92 1 (X2 79 0)) 79 1)) 77 58)) 92 4 ((x_st (x_st (x_st X2 92 1 (X2 79 0)) 92 2 ((x_st X2 92 1 (X2 79 0)) 79 1)) 92 3 ((x_st (x_st X2 92 1 (X2 79 0)) 92 2 ((x_st X2 92 1 (X2 79 0)) 79 1)) 77 58)) 77 57)) 92 5 ((x_st (x_st (x_st (x_st X2 92 1 (X2 79 0)) 92 2 ((x_st X2 92 1 (X2 79 0)) 79 1)) 92 3 ((x_st (x_st X2 92 1 (X2 79 0)) 92 2 ((x_st X2 92 1 (X2 79 0)) 79 1)) 77 58)) 92 4 ((x_st (x_st (x_st X2 92 1 (X2 79 0)) 92 2 ((x_st X2 92 1 (X2 79 0)) 79 1)) 92 3 ((x_st (x_st X2 92 1 (X2 79 0)) 92 2 ((x_st X2 92 1 (X2 79 0)) 79 1)) 77 58)) 77 57)) 113 (a0 + 11))) 79 6) ∧ (0 ≤ (a0 + 8) ∧ (a0 + 8) < 144) ∧ (0 ≤ (a0 + 9) ∧ (a0 + 9) < 144) ∧ ∀ J52 : XT → Prop, (∀  (X51 : XT), (w_X12_sumOf  a0 X51 (fun (v56 : Int) (X57 : XT) => w_X12_sumOf  (a0 + 2) X57 (fun (v62 : Int) (X63 : XT) => w_X12_sumOf  (a0 + 4) X63 (fun (v68 : Int) (X69 : XT) => w_X12_sumOf  (a0 + 6) X69 (fun (v74 : Int) (X75 : XT) => R32 (X75 113 (a0 + 11)) ∧ R32 (X75 77 60) ∧ ((X75 77 60) = 0 → R64 (v68 + (v74 * (X75 113 (a0 + 11)))) ∧ w_X12_flag1  (if (v68 + (v74 * (X75 113 (a0 + 11)))) < (-1) then (-1) else if 12 < (v68 + (v74 * (X75 113 (a0 + 11)))) then 12 else (v68 + (v74 * (X75 113 (a0 + 11))))) v56 v62 X75 (fun (v84 : Int) (X85 : XT) => R32 v84 ∧ (0 ≤ v84 → Q 0 (x_st (x_st (x_st X85 113 (a0 + 11) ((X85 113 (a0 + 11)) + 1)) 77 58 (if (v68 + (v74 * (X75 113 (a0 + 11)))) < (-1) then (-1) else if 12 < (v68 + (v74 * (X75 113 (a0 + 11)))) then 12 else (v68 + (v74 * (X75 113 (a0 + 11)))))) 77 57 (((x_st (x_st X85 113 (a0 + 11) ((X85 113 (a0 + 11)) + 1)) 77 58 (if (v68 + (v74 * (X75 113 (a0 + 11)))) < (-1) then (-1) else if 12 < (v68 + (v74 * (X75 113 (a0 + 11)))) then 12 else (v68 + (v74 * (X75 113 (a0 + 11)))))) 77 57) + 1))) ∧ (¬ 0 ≤ v84 → (¬ v84 = (-5) → Q (-3) X85) ∧ (v84 = (-5) → Q (-5) X85)))) ∧ (¬ (X75 77 60) = 0 → Q (-3) X75)))))) → J52  X51) → R32 ((x_st (x_st (x_st (x_st (x_st (x_st (x_st X2 92 1 (X2 79 0)) 92 2 ((x_st X2 92 1 (X2 79 0)) 79 1)) 92 3 ((x_st (x_st X2 92 1 (X2 79 0)) 92 2 ((x_st X2 92 1 (X2 79 0)) 79 1)) 77 58)) 92 4 ((x_st (x_st (x_st X2 92 1 (X2 79 0)) 92 2 ((x_st X2 92 1 (X2 79 0)) 79 1)) 92 3 ((x_st (x_st X2 92 1 (X2 79 0)) 92 2 ((x_st X2 92 1 (X2 79 0)) 79 1)) 77 58)) 77 57)) 92 5 ((x_st (x_st (x_st (x_st X2 92 1 (X2 79 0)) 92 2 ((x_st X2 92 1 (X2 79 0)) 79 1)) 92 3 ((x_st (x_st X2 92 1 (X2 79 0)) 92 2 ((x_st X2 92 1 (X2 79 0)) 79 1)) 77 58)) 92 4 ((x_st (x_st (x_st X2 92 1 (X2 79 0)) 92 2 ((x_st X2 92 1 (X2 79 0)) 79 1)) 92 3 ((x_st (x_st X2 92 1 (X2 79 0)) 92 2 ((x_st X2 92 1 (X2 79 0)) 79 1)) 77 58)) 77 57)) 113 (a0 + 11))) 92 6 ((x_st (x_st (x_st (x_st (x_st X2 92 1 (X2 79 0)) 92 2 ((x_st X2 92 1 (X2 79 0)) 79 1)) 92 3 ((x_st (x_st X2 92 1 (X2 79 0)) 92 2 ((x_st X2 92 1 (X2 79 0)) 79 1)) 77 58)) 92 4 ((x_st (x_st (x_st X2 92 1 (X2 79 0)) 92 2 ((x_st X2 92 1 (X2 79 0)) 79 1)) 92 3 ((x_st (x_st X2 92 1 (X2 79 0)) 92 2 ((x_st X2 92 1 (X2 79 0)) 79 1)) 77 58)) 77 57)) 92 5 ((x_st (x_st (x_st (x_st X2 92 1 (X2 79 0)) 92 2 ((x_st X2 92 1 (X2 79 0)) 79 1)) 92 3 ((x_st (x_st X2 92 1 (X2 79 0)) 92 2 ((x_st X2 92 1 (X2 79 0)) 79 1)) 77 58)) 92 4 ((x_st (x_st (x_st X2 92 1 (X2 79 0)) 92 2 ((x_st X2 92 1 (X2 79 0)) 79 1)) 92 3 ((x_st (x_st X2 92 1 (X2 79 0)) 92 2 ((x_st X2 92 1 (X2 79 0)) 79 1)) 77 58)) 77 57)) 113 (a0 + 11))) 79 6)) 77 60 0) 113 (a0 + 8)) ∧ R32 ((x_st (x_st (x_st (x_st (x_st (x_st (x_st X2 92 1 (X2 79 0)) 92 2 ((x_st X2 92 1 (X2 79 0)) 79 1)) 92 3 ((x_st (x_st X2 92 1 (X2 79 0)) 92 2 ((x_st X2 92 1 (X2 79 0)) 79 1)) 77 58)) 92 4 ((x_st (x_st (x_st X2 92 1 (X2 79 0)) 92 2 ((x_st X2 92 1 (X2 79 0)) 79 1)) 92 3 ((x_st (x_st X2 92 1 (X2 79 0)) 92 2 ((x_st X2 92 1 (X2 79 0)) 79 1)) 77 58)) 77 57)) 92 5 ((x_st (x_st (x_st (x_st X2 92 1 (X2 79 0)) 92 2 ((x_st X2 92 1 (X2 79 0)) 79 1)) 92 3 ((x_st (x_st X2 92 1 (X2 79 0)) 92 2 ((x_st X2 92 1 (X2 79 0)) 79 1)) 77 58)) 92 4 ((x_st (x_st (x_st X2 92 1 (X2 79 0)) 92 2 ((x_st X2 92 1 (X2 79 0)) 79 1)) 92 3 ((x_st (x_st X2 92 1 (X2 79 0)) 92 2 ((x_st X2 92 1 (X2 79 0)) 79 1)) 77 58)) 77 57)) 113 (a0 + 11))) 92 6 ((x_st (x_st (x_st (x_st (x_st X2 92 1 (X2 79 0)) 92 2 ((x_st X2 92 1 (X2 79 0)) 79 1)) 92 3 ((x_st (x_st X2 92 1 (X2 79 0)) 92 2 ((x_st X2 92 1 (X2 79 0)) 79 1)) 77 58)) 92 4 ((x_st (x_st (x_st X2 92 1 (X2 79 0)) 92 2 ((x_st X2 92 1 (X2 79 0)) 79 1)) 92 3 ((x_st (x_st X2 92 1 (X2 79 0)) 92 2 ((x_st X2 92 1 (X2 79 0)) 79 1)) 77 58)) 77 57)) 92 5 ((x_st (x_st (x_st (x_st X2 92 1 (X2 79 0)) 92 2 ((x_st X2 92 1 (X2 79 0)) 79 1)) 92 3 ((x_st (x_st X2 92 1 (X2 79 0)) 92 2 ((x_st X2 92 1 (X2 79 0)) 79 1)) 77 58)) 92 4 ((x_st (x_st (x_st X2 92 1 (X2 79 0)) 92 2 ((x_st X2 92 1 (X2 79 0)) 79 1)) 92 3 ((x_st (x_st X2 92 1 (X2 79 0)) 92 2 ((x_st X2 92 1 (X2 79 0)) 79 1)) 77 58)) 77 57)) 113 (a0 + 11))) 79 6)) 77 60 0) 113 (a0 + 9)) ∧ (((x_st (x_st (x_st (x_st (x_st (x_st (x_st X2 92 1 (X2 79 0)) 92 2 ((x_st X2 92 1 (X2 79 0)) 79 1)) 92 3 ((x_st (x_st X2 92 1 (X2 79 0)) 92 2 ((x_st X2 92 1 (X2 79 0)) 79 1)) 77 58)) 92 4 ((x_st (x_st (x_st X2 92 1 (X2 79 0)) 92 2 ((x_st X2 92 1 (X2 79 0)) 79 1)) 92 3 ((x_st (x_st X2 92 1 (X2 79 0)) 92 2 ((x_st X2 92 1 (X2 79 0)) 79 1)) 77 58)) 77 57)) 92 5 ((x_st (x_st (x_st (x_st X2 92 1 (X2 79 0)) 92 2 ((x_st X2 92 1 (X2 79 0)) 79 1)) 92 3 ((x_st (x_st X2 92 1 (X2 79 0)) 92 2 ((x_st X2 92 1 (X2 79 0)) 79 1)) 77 58)) 92 4 ((x_st (x_st (x_st X2 92 1 (X2 79 0)) 92 2 ((x_st X2 92 1 (X2 79 0)) 79 1)) 92 3 ((x_st (x_st X2 92 1 (X2 79 0)) 92 2 ((x_st X2 92 1 (X2 79 0)) 79 1)) 77 58)) 77 57)) 113 (a0 + 11))) 92 6 ((x_st (x_st (x_st (x_st (x_st X2 92 1 (X2 79 0)) 92 2 ((x_st X2 92 1 (X2 79 0)) 79 1)) 92 3 ((x_st (x_st X2 92 1 (X2 79 0)) 92 2 ((x_st X2 92 1 (X2 79 0)) 79 1)) 77 58)) 92 4 ((x_st (x_st (x_st X2 92 1 (X2 79 0)) 92 2 ((x_st X2 92 1 (X2 79 0)) 79 1)) 92 3 ((x_st (x_st X2 92 1 (X2 79 0)) 92 2 ((x_st X2 92 1 (X2 79 0)) 79 1)) 77 58)) 77 57)) 92 5 ((x_st (x_st (x_st (x_st X2 92 1 (X2 79 0)) 92 2 ((x_st X2 92 1 (X2 79 0)) 79 1)) 92 3 ((x_st (x_st X2 92 1 (X2 79 0)) 92 2 ((x_st X2 92 1 (X2 79 0)) 79 1)) 77 58)) 92 4 ((x_st (x_st (x_st X2 92 1 (X2 79 0)) 92 2 ((x_st X2 92 1 (X2 79 0)) 79 1)) 92 3 ((x_st (x_st X2 92 1 (X2 79 0)) 92 2 ((x_st X2 92 1 (X2 79 0)) 79 1)) 77 58)) 77 57)) 113 (a0 + 11))) 79 6)) 77 60 0) 113 (a0 + 9)) ≤ ((x_st (x_st (x_st (x_st (x_st (x_st (x_st X2 92 1 (X2 79 0)) 92 2 ((x_st X2 92 1 (X2 79 0)) 79 1)) 92 3 ((x_st (x_st X2 92 1 (X2 79 0)) 92 2 ((x_st X2 92 1 (X2 79 0)) 79 1)) 77 58)) 92 4 ((x_st (x_st (x_st X2 92 1 (X2 79 0)) 92 2 ((x_st X2 92 1 (X2 79 0)) 79 1)) 92 3 ((x_st (x_st X2 92 1 (X2 79 0)) 92 2 ((x_st X2 92 1 (X2 79 0)) 79 1)) 77 58)) 77 57)) 92 5 ((x_st (x_st (x_st (x_st X2 92 1 (X2 79 0)) 92 2 ((x_st X2 92 1 (X2 79 0)) 79 1)) 92 3 ((x_st (x_st X2 92 1 (X2 79 0)) 92 2 ((x_st X2 92 1 (X2 79 0)) 79 1)) 77 58)) 92 4 ((x_st (x_st (x_st X2 92 1 (X2 79 0)) 92 2 ((x_st X2 92 1 (X2 79 0)) 79 1)) 92 3 ((x_st (x_st X2 92 1 (X2 79 0)) 92 2 ((x_st X2 92 1 (X2 79 0)) 79 1)) 77 58)) 77 57)) 113 (a0 + 11))) 92 6 ((x_st (x_st (x_st (x_st (x_st X2 92 1 (X2 79 0)) 92 2 ((x_st X2 92 1 (X2 79 0)) 79 1)) 92 3 ((x_st (x_st X2 92 1 (X2 79 0)) 92 2 ((x_st X2 92 1 (X2 79 0)) 79 1)) 77 58)) 92 4 ((x_st (x_st (x_st X2 92 1 (X2 79 0)) 92 2 ((x_st X2 92 1 (X2 79 0)) 79 1)) 92 3 ((x_st (x_st X2 92 1 (X2 79 0)) 92 2 ((x_st X2 92 1 (X2 79 0)) 79 1)) 77 58)) 77 57)) 92 5 ((x_st (x_st (x_st (x_st X2 92 1 (X2 79 0)) 92 2 ((x_st X2 92 1 (X2 79 0)) 79 1)) 92 3 ((x_st (x_st X2 92 1 (X2 79 0)) 92 2 ((x_st X2 92 1 (X2 79 0)) 79 1)) 77 58)) 92 4 ((x_st (x_st (x_st X2 92 1 (X2 79 0)) 92 2 ((x_st X2 92 1 (X2 79 0)) 79 1)) 92 3 ((x_st (x_st X2 92 1 (X2 79 0)) 92 2 ((x_st X2 92 1 (X2 79 0)) 79 1)) 77 58)) 77 57)) 113 (a0 + 11))) 79 6)) 77 60 0) 113 (a0 + 8)) → J52  (x_st (x_st (x_st (x_st (x_st (x_st (x_st X2 92 1 (X2 79 0)) 92 2 ((x_st X2 92 1 (X2 79 0)) 79 1)) 92 3 ((x_st (x_st X2 92 1 (X2 79 0)) 92 2 ((x_st X2 92 1 (X2 79 0)) 79 1)) 77 58)) 92 4 ((x_st (x_st (x_st X2 92 1 (X2 79 0)) 92 2 ((x_st X2 92 1 (X2 79 0)) 79 1)) 92 3 ((x_st (x_st X2 92 1 (X2 79 0)) 92 2 ((x_st X2 92 1 (X2 79 0)) 79 1)) 77 58)) 77 57)) 92 5 ((x_st (x_st (x_st (x_st X2 92 1 (X2 79 0)) 92 2 ((x_st X2 92 1 (X2 79 0)) 79 1)) 92 3 ((x_st (x_st X2 92 1 (X2 79 0)) 92 2 ((x_st X2 92 1 (X2 79 0)) 79 1)) 77 58)) 92 4 ((x_st (x_st (x_st X2 92 1 (X2 79 0)) 92 2 ((x_st X2 92 1 (X2 79 0)) 79 1)) 92 3 ((x_st (x_st X2 92 1 (X2 79 0)) 92 2 ((x_st X2 92 1 (X2 79 0)) 79 1)) 77 58)) 77 57)) 113 (a0 + 11))) 92 6 ((x_st (x_st (x_st (x_st (x_st X2 92 1 (X2 79 0)) 92 2 ((x_st X2 92 1 (X2 79 0)) 79 1)) 92 3 ((x_st (x_st X2 92 1 (X2 79 0)) 92 2 ((x_st X2 92 1 (X2 79 0)) 79 1)) 77 58)) 92 4 ((x_st (x_st (x_st X2 92 1 (X2 79 0)) 92 2 ((x_st X2 92 1 (X2 79 0)) 79 1)) 92 3 ((x_st (x_st X2 92 1 (X2 79 0)) 92 2 ((x_st X2 92 1 (X2 79 0)) 79 1)) 77 58)) 77 57)) 92 5 ((x_st (x_st (x_st (x_st X2 92 1 (X2 79 0)) 92 2 ((x_st X2 92 1 (X2 79 0)) 79 1)) 92 3 ((x_st (x_st X2 92 1 (X2 79 0)) 92 2 ((x_st X2 92 1 (X2 79 0)) 79 1)) 77 58)) 92 4 ((x_st (x_st (x_st X2 92 1 (X2 79 0)) 92 2 ((x_st X2 92 1 (X2 79 0)) 79 1)) 92 3 ((x_st (x_st X2 92 1 (X2 79 0)) 92 2 ((x_st X2 92 1 (X2 79 0)) 79 1)) 77 58)) 77 57)) 113 (a0 + 11))) 79 6)) 77 60 0)) ∧ (¬ ((x_st (x_st (x_st (x_st (x_st (x_st (x_st X2 92 1 (X2 79 0)) 92 2 ((x_st X2 92 1 (X2 79 0)) 79 1)) 92 3 ((x_st (x_st X2 92 1 (X2 79 0)) 92 2 ((x_st X2 92 1 (X2 79 0)) 79 1)) 77 58)) 92 4 ((x_st (x_st (x_st X2 92 1 (X2 79 0)) 92 2 ((x_st X2 92 1 (X2 79 0)) 79 1)) 92 3 ((x_st (x_st X2 92 1 (X2 79 0)) 92 2 ((x_st X2 92 1 (X2 79 0)) 79 1)) 77 58)) 77 57)) 92 5 ((x_st (x_st (x_st (x_st X2 92 1 (X2 79 0)) 92 2 ((x_st X2 92 1 (X2 79 0)) 79 1)) 92 3 ((x_st (x_st X2 92 1 (X2 79 0)) 92 2 ((x_st X2 92 1 (X2 79 0)) 79 1)) 77 58)) 92 4 ((x_st (x_st (x_st X2 92 1 (X2 79 0)) 92 2 ((x_st X2 92 1 (X2 79 0)) 79 1)) 92 3 ((x_st (x_st X2 92 1 (X2 79 0)) 92 2 ((x_st X2 92 1 (X2 79 0)) 79 1)) 77 58)) 77 57)) 113 (a0 + 11))) 92 6 ((x_st (x_st (x_st (x_st (x_st X2 92 1 (X2 79 0)) 92 2 ((x_st X2 92 1 (X2 79 0)) 79 1)) 92 3 ((x_st (x_st X2 92 1 (X2 79 0)) 92 2 ((x_st X2 92 1 (X2 79 0)) 79 1)) 77 58)) 92 4 ((x_st (x_st (x_st X2 92 1 (X2 79 0)) 92 2 ((x_st X2 92 1 (X2 79 0)) 79 1)) 92 3 ((x_st (x_st X2 92 1 (X2 79 0)) 92 2 ((x_st X2 92 1 (X2 79 0)) 79 1)) 77 58)) 77 57)) 92 5 ((x_st (x_st (x_st (x_st X2 92 1 (X2 79 0)) 92 2 ((x_st X2 92 1 (X2 79 0)) 79 1)) 92 3 ((x_st (x_st X2 92 1 (X2 79 0)) 92 2 ((x_st X2 92 1 (X2 79 0)) 79 1)) 77 58)) 92 4 ((x_st (x_st (x_st X2 92 1 (X2 79 0)) 92 2 ((x_st X2 92 1 (X2 79 0)) 79 1)) 92 3 ((x_st (x_st X2 92 1 (X2 79 0)) 92 2 ((x_st X2 92 1 (X2 79 0)) 79 1)) 77 58)) 77 57)) 113 (a0 + 11))) 79 6)) 77 60 0) 113 (a0 + 9)) ≤ ((x_st (x_st (x_st (x_st (x_st (x_st (x_st X2 92 1 (X2 79 0)) 92 2 ((x_st X2 92 1 (X2 79 0)) 79 1)) 92 3 ((x_st (x_st X2 92 1 (X2 79 0)) 92 2 ((x_st X2 92 1 (X2 79 0)) 79 1)) 77 58)) 92 4 ((x_st (x_st (x_st X2 92 1 (X2 79 0)) 92 2 ((x_st X2 92 1 (X2 79 0)) 79 1)) 92 3 ((x_st (x_st X2 92 1 (X2 79 0)) 92 2 ((x_st X2 92 1 (X2 79 0)) 79 1)) 77 58)) 77 57)) 92 5 ((x_st (x_st (x_st (x_st X2 92 1 (X2 79 0)) 92 2 ((x_st X2 92 1 (X2 79 0)) 79 1)) 92 3 ((x_st (x_st X2 92 1 (X2 79 0)) 92 2 ((x_st X2 92 1 (X2 79 0)) 79 1)) 77 58)) 92 4 ((x_st (x_st (x_st X2 92 1 (X2 79 0)) 92 2 ((x_st X2 92 1 (X2 79 0)) 79 1)) 92 3 ((x_st (x_st X2 92 1 (X2 79 0)) 92 2 ((x_st X2 92 1 (X2 79 0)) 79 1)) 77 58)) 77 57)) 113 (a0 + 11))) 92 6 ((x_st (x_st (x_st (x_st (x_st X2 92 1 (X2 79 0)) 92 2 ((x_st X2 92 1 (X2 79 0)) 79 1)) 92 3 ((x_st (x_st X2 92 1 (X2 79 0)) 92 2 ((x_st X2 92 1 (X2 79 0)) 79 1)) 77 58)) 92 4 ((x_st (x_st (x_st X2 92 1 (X2 79 0)) 92 2 ((x_st X2 92 1 (X2 79 0)) 79 1)) 92 3 ((x_st (x_st X2 92 1 (X2 79 0)) 92 2 ((x_st X2 92 1 (X2 79 0)) 79 1)) 77 58)) 77 57)) 92 5 ((x_st (x_st (x_st (x_st X2 92 1 (X2 79 0)) 92 2 ((x_st X2 92 1 (X2 79 0)) 79 1)) 92 3 ((x_st (x_st X2 92 1 (X2 79 0)) 92 2 ((x_st X2 92 1 (X2 79 0)) 79 1)) 77 58)) 92 4 ((x_st (x_st (x_st X2 92 1 (X2 79 0)) 92 2 ((x_st X2 92 1 (X2 79 0)) 79 1)) 92 3 ((x_st (x_st X2 92 1 (X2 79 0)) 92 2 ((x_st X2 92 1 (X2 79 0)) 79 1)) 77 58)) 77 57)) 113 (a0 + 11))) 79 6)) 77 60 0) 113 (a0 + 8)) → w_X12_sumOf  (a0 + 8) (x_st (x_st (x_st (x_st (x_st (x_st (x_st X2 92 1 (X2 79 0)) 92 2 ((x_st X2 92 1 (X2 79 0)) 79 1)) 92 3 ((x_st (x_st X2 92 1 (X2 79 0)) 92 2 ((x_st X2 92 1 (X2 79 0)) 79 1)) 77 58)) 92 4 ((x_st (x_st (x_st X2 92 1 (X2 79 0)) 92 2 ((x_st X2 92 1 (X2 79 0)) 79 1)) 92 3 ((x_st (x_st X2 92 1 (X2 79 0)) 92 2 ((x_st X2 92 1 (X2 79 0)) 79 1)) 77 58)) 77 57)) 92 5 ((x_st (x_st (x_st (x_st X2 92 1 (X2 79 0)) 92 2 ((x_st X2 92 1 (X2 79 0)) 79 1)) 92 3 ((x_st (x_st X2 92 1 (X2 79 0)) 92 2 ((x_st X2 92 1 (X2 79 0)) 79 1)) 77 58)) 92 4 ((x_st (x_st (x_st X2 92 1 (X2 79 0)) 92 2 ((x_st X2 92 1 (X2 79 0)) 79 1)) 92 3 ((x_st (x_st X2 92 1 (X2 79 0)) 92 2 ((x_st X2 92 1 (X2 79 0)) 79 1)) 77 58)) 77 57)) 113 (a0 + 11))) 92 6 ((x_st (x_st (x_st (x_st (x_st X2 92 1 (X2 79 0)) 92 2 ((x_st X2 92 1 (X2 79 0)) 79 1)) 92 3 ((x_st (x_st X2 92 1 (X2 79 0)) 92 2 ((x_st X2 92 1 (X2 79 0)) 79 1)) 77 58)) 92 4 ((x_st (x_st (x_st X2 92 1 (X2 79 0)) 92 2 ((x_st X2 92 1 (X2 79 0)) 79 1)) 92 3 ((x_st (x_st X2 92 1 (X2 79 0)) 92 2 ((x_st X2 92 1 (X2 79 0)) 79 1)) 77 58)) 77 57)) 92 5 ((x_st (x_st (x_st (x_st X2 92 1 (X2 79 0)) 92 2 ((x_st X2 92 1 (X2 79 0)) 79 1)) 92 3 ((x_st (x_st X2 92 1 (X2 79 0)) 92 2 ((x_st X2 92 1 (X2 79 0)) 79 1)) 77 58)) 92 4 ((x_st (x_st (x_st X2 92 1 (X2 79 0)) 92 2 ((x_st X2 92 1 (X2 79 0)) 79 1)) 92 3 ((x_st (x_st X2 92 1 (X2 79 0)) 92 2 ((x_st X2 92 1 (X2 79 0)) 79 1)) 77 58)) 77 57)) 113 (a0 + 11))) 79 6)) 77 60 0) (fun (v111 : Int) (X112 : XT) => R32 (X112 77 60) ∧ (¬ (X112 77 60) = 0 → Q 0 X112) ∧ ((X112 77 60) = 0 → R64 v111 ∧ (¬ v111 = 0 → J52  X112) ∧ (v111 = 0 → Q 0 X112)))))
set_option maxRecDepth 20000 in
theorem so_X12_run {n : Nat} {h : Nat → sE} {X : XT} {a0 : Int} {Q : Int → XT → Prop} (hn : 115 ≤ n) (hp : Pic X h) (w : w_X12_run  a0 X Q) : Sp m_X12_run 10 0 0 [.ref 77, .int (iI a0)] n h (pIw n h Q) := by
  unfold w_X12_run at w
  refine Sp.ofV (by decide +kernel) (Nat.le_of_ble_eq_true rfl) ?_
  have hf : Fr h h := fun _ _ => rfl
  refine v_aload_n dX12_run_0 rfl ?_
  refine v_callVVw dX12_run_1 ml_X12_478 (so_X12_layCorners hn hp  w) ((hp 77 (by decide)).trans (ent_77 _)) rfl (s_lt hn rfl) rfl rfl (Nat.le_of_ble_eq_true rfl) (Nat.le_of_ble_eq_true rfl) (Nat.zero_le _) (Nat.zero_le _) (fun X2 h3 hp5 hf4 w => ?_)
  have hf6 := Fr.trans hf hf4
  refine v_aload_n dX12_run_4 rfl ?_
  refine v_get dX12_run_5 fl_X12_96 ((hp5 77 (by decide)).trans (ent_77 _)) rfl (s_lt hn rfl) ?_
  refine v_iconstI dX12_run_8 ?_
  refine v_aload_n dX12_run_9 rfl ?_
  refine v_get dX12_run_10 fl_X12_13 ((hp5 77 (by decide)).trans (ent_77 _)) rfl (s_lt hn rfl) ?_
  refine v_iconstI dX12_run_13 ?_
  refine v_ialdI dX12_run_14 ((hp5 79 (by decide)).trans (ent_79 _)) (s_lt hn rfl) (by decide) (by decide) (by decide) ?_
  obtain ⟨q7, w⟩ := w
  refine v_i2lI dX12_run_15 q7.1 q7.2 ?_
  refine v_lastI dX12_run_16 ((hp5 92 (by decide)).trans (ent_92 _)) (s_lt hn rfl) (by decide) (by decide) (by decide) (fun h8 E9 F10 => ?_)
  have hp11 := pic_st hp5 (show h8 92 = ent 92 (uI _ 1 (X2 79 0)) from E9) F10
  have hf12 := Fr.up (c := 92) hf6 F10 rfl
  refine v_aload_n dX12_run_17 rfl ?_
  refine v_get dX12_run_18 fl_X12_96 ((hp11 77 (by decide)).trans (ent_77 _)) rfl (s_lt hn rfl) ?_
  refine v_iconstI dX12_run_21 ?_
  refine v_aload_n dX12_run_22 rfl ?_
  refine v_get dX12_run_23 fl_X12_13 ((hp11 77 (by decide)).trans (ent_77 _)) rfl (s_lt hn rfl) ?_
  refine v_iconstI dX12_run_26 ?_
  refine v_ialdI dX12_run_27 ((hp11 79 (by decide)).trans (ent_79 _)) (s_lt hn rfl) (by decide) (by decide) (by decide) ?_
  obtain ⟨q13, w⟩ := w
  refine v_i2lI dX12_run_28 q13.1 q13.2 ?_
  refine v_lastI dX12_run_29 ((hp11 92 (by decide)).trans (ent_92 _)) (s_lt hn rfl) (by decide) (by decide) (by decide) (fun h14 E15 F16 => ?_)
  have hp17 := pic_st hp11 (show h14 92 = ent 92 (uI _ 2 ((x_st X2 92 1 (X2 79 0)) 79 1)) from E15) F16
  have hf18 := Fr.up (c := 92) hf12 F16 rfl
  refine v_aload_n dX12_run_30 rfl ?_
  refine v_get dX12_run_31 fl_X12_96 ((hp17 77 (by decide)).trans (ent_77 _)) rfl (s_lt hn rfl) ?_
  refine v_iconstI dX12_run_34 ?_
  refine v_aload_n dX12_run_35 rfl ?_
  refine v_get dX12_run_36 fl_X12_602 ((hp17 77 (by decide)).trans (ent_77 _)) rfl (s_lt hn rfl) ?_
  obtain ⟨q19, w⟩ := w
  refine v_i2lI dX12_run_39 q19.1 q19.2 ?_
  refine v_lastI dX12_run_40 ((hp17 92 (by decide)).trans (ent_92 _)) (s_lt hn rfl) (by decide) (by decide) (by decide) (fun h20 E21 F22 => ?_)
  have hp23 := pic_st hp17 (show h20 92 = ent 92 (uI _ 3 ((x_st (x_st X2 92 1 (X2 79 0)) 92 2 ((x_st X2 92 1 (X2 79 0)) 79 1)) 77 58)) from E21) F22
  have hf24 := Fr.up (c := 92) hf18 F22 rfl
  refine v_aload_n dX12_run_41 rfl ?_
  refine v_get dX12_run_42 fl_X12_96 ((hp23 77 (by decide)).trans (ent_77 _)) rfl (s_lt hn rfl) ?_
  refine v_iconstI dX12_run_45 ?_
  refine v_aload_n dX12_run_46 rfl ?_
  refine v_get dX12_run_47 fl_X12_605 ((hp23 77 (by decide)).trans (ent_77 _)) rfl (s_lt hn rfl) ?_
  obtain ⟨q25, w⟩ := w
  refine v_i2lI dX12_run_50 q25.1 q25.2 ?_
  refine v_lastI dX12_run_51 ((hp23 92 (by decide)).trans (ent_92 _)) (s_lt hn rfl) (by decide) (by decide) (by decide) (fun h26 E27 F28 => ?_)
  have hp29 := pic_st hp23 (show h26 92 = ent 92 (uI _ 4 ((x_st (x_st (x_st X2 92 1 (X2 79 0)) 92 2 ((x_st X2 92 1 (X2 79 0)) 79 1)) 92 3 ((x_st (x_st X2 92 1 (X2 79 0)) 92 2 ((x_st X2 92 1 (X2 79 0)) 79 1)) 77 58)) 77 57)) from E27) F28
  have hf30 := Fr.up (c := 92) hf24 F28 rfl
  refine v_aload_n dX12_run_52 rfl ?_
  refine v_get dX12_run_53 fl_X12_96 ((hp29 77 (by decide)).trans (ent_77 _)) rfl (s_lt hn rfl) ?_
  refine v_iconstI dX12_run_56 ?_
  refine v_aload_n dX12_run_57 rfl ?_
  refine v_get dX12_run_58 fl_X12_160 ((hp29 77 (by decide)).trans (ent_77 _)) rfl (s_lt hn rfl) ?_
  refine v_iload_n dX12_run_61 rfl ?_
  refine v_bipushI dX12_run_62 rfl ?_
  refine v_iaddI dX12_run_64 ?_
  obtain ⟨q31, w⟩ := w
  refine v_ialdI dX12_run_65 ((hp29 113 (by decide)).trans (ent_113 _)) (s_lt hn rfl) q31.1 q31.2 (ix_le q31.2 (by decide)) ?_
  obtain ⟨q32, w⟩ := w
  refine v_i2lI dX12_run_66 q32.1 q32.2 ?_
  refine v_lastI dX12_run_67 ((hp29 92 (by decide)).trans (ent_92 _)) (s_lt hn rfl) (by decide) (by decide) (by decide) (fun h33 E34 F35 => ?_)
  have hp36 := pic_st hp29 (show h33 92 = ent 92 (uI _ 5 ((x_st (x_st (x_st (x_st X2 92 1 (X2 79 0)) 92 2 ((x_st X2 92 1 (X2 79 0)) 79 1)) 92 3 ((x_st (x_st X2 92 1 (X2 79 0)) 92 2 ((x_st X2 92 1 (X2 79 0)) 79 1)) 77 58)) 92 4 ((x_st (x_st (x_st X2 92 1 (X2 79 0)) 92 2 ((x_st X2 92 1 (X2 79 0)) 79 1)) 92 3 ((x_st (x_st X2 92 1 (X2 79 0)) 92 2 ((x_st X2 92 1 (X2 79 0)) 79 1)) 77 58)) 77 57)) 113 (a0 + 11))) from E34) F35
  have hf37 := Fr.up (c := 92) hf30 F35 rfl
  refine v_aload_n dX12_run_68 rfl ?_
  refine v_get dX12_run_69 fl_X12_96 ((hp36 77 (by decide)).trans (ent_77 _)) rfl (s_lt hn rfl) ?_
  refine v_bipushI dX12_run_72 rfl ?_
  refine v_aload_n dX12_run_74 rfl ?_
  refine v_get dX12_run_75 fl_X12_13 ((hp36 77 (by decide)).trans (ent_77 _)) rfl (s_lt hn rfl) ?_
  refine v_bipushI dX12_run_78 rfl ?_
  refine v_ialdI dX12_run_80 ((hp36 79 (by decide)).trans (ent_79 _)) (s_lt hn rfl) (by decide) (by decide) (by decide) ?_
  obtain ⟨q38, w⟩ := w
  refine v_i2lI dX12_run_81 q38.1 q38.2 ?_
  refine v_lastI dX12_run_82 ((hp36 92 (by decide)).trans (ent_92 _)) (s_lt hn rfl) (by decide) (by decide) (by decide) (fun h39 E40 F41 => ?_)
  have hp42 := pic_st hp36 (show h39 92 = ent 92 (uI _ 6 ((x_st (x_st (x_st (x_st (x_st X2 92 1 (X2 79 0)) 92 2 ((x_st X2 92 1 (X2 79 0)) 79 1)) 92 3 ((x_st (x_st X2 92 1 (X2 79 0)) 92 2 ((x_st X2 92 1 (X2 79 0)) 79 1)) 77 58)) 92 4 ((x_st (x_st (x_st X2 92 1 (X2 79 0)) 92 2 ((x_st X2 92 1 (X2 79 0)) 79 1)) 92 3 ((x_st (x_st X2 92 1 (X2 79 0)) 92 2 ((x_st X2 92 1 (X2 79 0)) 79 1)) 77 58)) 77 57)) 92 5 ((x_st (x_st (x_st (x_st X2 92 1 (X2 79 0)) 92 2 ((x_st X2 92 1 (X2 79 0)) 79 1)) 92 3 ((x_st (x_st X2 92 1 (X2 79 0)) 92 2 ((x_st X2 92 1 (X2 79 0)) 79 1)) 77 58)) 92 4 ((x_st (x_st (x_st X2 92 1 (X2 79 0)) 92 2 ((x_st X2 92 1 (X2 79 0)) 79 1)) 92 3 ((x_st (x_st X2 92 1 (X2 79 0)) 92 2 ((x_st X2 92 1 (X2 79 0)) 79 1)) 77 58)) 77 57)) 113 (a0 + 11))) 79 6)) from E40) F41
  have hf43 := Fr.up (c := 92) hf37 F41 rfl
  refine v_aload_n dX12_run_83 rfl ?_
  refine v_iconstI dX12_run_84 ?_
  refine v_put dX12_run_85 fl_X12_599 ((hp42 77 (by decide)).trans (ent_77 _)) (s_lt hn rfl) (Nat.le_of_ble_eq_true rfl) (fun _ => ⟨iI_nb0, rfl⟩) trivial (fun h44 E45 F46 => ?_)
  have hp47 := pic_st hp42 (show h44 77 = ent 77 (uI _ 60 0) from E45) F46
  have hf48 := Fr.up (c := 77) hf43 F46 rfl
  refine v_aload_n dX12_run_88 rfl ?_
  refine v_get dX12_run_89 fl_X12_160 ((hp47 77 (by decide)).trans (ent_77 _)) rfl (s_lt hn rfl) ?_
  refine v_iload_n dX12_run_92 rfl ?_
  refine v_bipushI dX12_run_93 rfl ?_
  refine v_iaddI dX12_run_95 ?_
  obtain ⟨q49, w⟩ := w
  refine v_ialdI dX12_run_96 ((hp47 113 (by decide)).trans (ent_113 _)) (s_lt hn rfl) q49.1 q49.2 (ix_le q49.2 (by decide)) ?_
  refine v_aload_n dX12_run_97 rfl ?_
  refine v_get dX12_run_98 fl_X12_160 ((hp47 77 (by decide)).trans (ent_77 _)) rfl (s_lt hn rfl) ?_
  refine v_iload_n dX12_run_101 rfl ?_
  refine v_bipushI dX12_run_102 rfl ?_
  refine v_iaddI dX12_run_104 ?_
  obtain ⟨q50, w⟩ := w
  refine v_ialdI dX12_run_105 ((hp47 113 (by decide)).trans (ent_113 _)) (s_lt hn rfl) q50.1 q50.2 (ix_le q50.2 (by decide)) ?_
  replace w := w (fun  (X51 : XT) => ∀ h55 : Nat → sE, Pic X51 h55 → Fr h h55 → V (m_X12_run, 10, 0, 0, n, pIw n h Q, s_G0) 0 0 n h55 133 [(0, .ref 77), (1, .int (iI a0))] []) (by
    intro  X51 w h55 hp53 hf54
    refine v_aload_n dX12_run_133 rfl ?_
    refine v_iload_n dX12_run_134 rfl ?_
    refine v_callVLw dX12_run_135 ml_X12_608 (so_X12_sumOf hn hp53  w) ((hp53 77 (by decide)).trans (ent_77 _)) rfl (s_lt hn rfl) rfl rfl (Nat.le_of_ble_eq_true rfl) (Nat.le_of_ble_eq_true rfl) (Nat.zero_le _) (Nat.zero_le _) (fun v56 X57 h58 hp60 hf59 w => ?_)
    have hf61 := Fr.trans hf54 hf59
    refine v_l2iI dX12_run_138 ?_
    refine v_istore_n dX12_run_139 (Nat.le_of_ble_eq_true rfl) ?_
    refine v_aload_n dX12_run_140 rfl ?_
    refine v_iload_n dX12_run_141 rfl ?_
    refine v_iconstI dX12_run_142 ?_
    refine v_iaddI dX12_run_143 ?_
    refine v_callVLw dX12_run_144 ml_X12_608 (so_X12_sumOf hn hp60  w) ((hp60 77 (by decide)).trans (ent_77 _)) rfl (s_lt hn rfl) rfl rfl (Nat.le_of_ble_eq_true rfl) (Nat.le_of_ble_eq_true rfl) (Nat.zero_le _) (Nat.zero_le _) (fun v62 X63 h64 hp66 hf65 w => ?_)
    have hf67 := Fr.trans hf61 hf65
    refine v_l2iI dX12_run_147 ?_
    refine v_istore_n dX12_run_148 (Nat.le_of_ble_eq_true rfl) ?_
    refine v_aload_n dX12_run_149 rfl ?_
    refine v_iload_n dX12_run_150 rfl ?_
    refine v_iconstI dX12_run_151 ?_
    refine v_iaddI dX12_run_152 ?_
    refine v_callVLw dX12_run_153 ml_X12_608 (so_X12_sumOf hn hp66  w) ((hp66 77 (by decide)).trans (ent_77 _)) rfl (s_lt hn rfl) rfl rfl (Nat.le_of_ble_eq_true rfl) (Nat.le_of_ble_eq_true rfl) (Nat.zero_le _) (Nat.zero_le _) (fun v68 X69 h70 hp72 hf71 w => ?_)
    have hf73 := Fr.trans hf67 hf71
    refine v_lstore dX12_run_156 (Nat.le_of_ble_eq_true rfl) ?_
    refine v_lload dX12_run_158 rfl ?_
    refine v_aload_n dX12_run_160 rfl ?_
    refine v_iload_n dX12_run_161 rfl ?_
    refine v_bipushI dX12_run_162 rfl ?_
    refine v_iaddI dX12_run_164 ?_
    refine v_callVLw dX12_run_165 ml_X12_608 (so_X12_sumOf hn hp72  w) ((hp72 77 (by decide)).trans (ent_77 _)) rfl (s_lt hn rfl) rfl rfl (Nat.le_of_ble_eq_true rfl) (Nat.le_of_ble_eq_true rfl) (Nat.zero_le _) (Nat.zero_le _) (fun v74 X75 h76 hp78 hf77 w => ?_)
    have hf79 := Fr.trans hf73 hf77
    refine v_aload_n dX12_run_168 rfl ?_
    refine v_get dX12_run_169 fl_X12_160 ((hp78 77 (by decide)).trans (ent_77 _)) rfl (s_lt hn rfl) ?_
    refine v_iload_n dX12_run_172 rfl ?_
    refine v_bipushI dX12_run_173 rfl ?_
    refine v_iaddI dX12_run_175 ?_
    refine v_ialdI dX12_run_176 ((hp78 113 (by decide)).trans (ent_113 _)) (s_lt hn rfl) q31.1 q31.2 (ix_le q31.2 (by decide)) ?_
    obtain ⟨q80, w⟩ := w
    refine v_i2lI dX12_run_177 q80.1 q80.2 ?_
    refine v_lmulI dX12_run_178 ?_
    refine v_laddI dX12_run_179 ?_
    refine v_lstore dX12_run_180 (Nat.le_of_ble_eq_true rfl) ?_
    refine v_aload_n dX12_run_182 rfl ?_
    refine v_get dX12_run_183 fl_X12_599 ((hp78 77 (by decide)).trans (ent_77 _)) rfl (s_lt hn rfl) ?_
    obtain ⟨q81, w⟩ := w
    refine v_if_eqI (tgt := 192) dX12_run_186 (by decide) q81.1 q81.2 (fun c82 => ?_) (fun c82 => ?_)
    · replace w := w.1 c82
      refine v_lload dX12_run_192 rfl ?_
      refine v_iconstI dX12_run_194 ?_
      refine v_bipushI dX12_run_195 rfl ?_
      obtain ⟨q83, w⟩ := w
      refine v_callSp dX12_run_197 ml_X12_436 (sp_X12_within (v := (v68 + (v74 * (X75 113 (a0 + 11))))) (a := (-1)) (b := 12) q83 (by decide) (by decide)) rfl rfl (Nat.le_of_ble_eq_true rfl) (Nat.le_of_ble_eq_true rfl) (Nat.zero_le _) (Nat.zero_le _) ?_
      refine v_istore dX12_run_200 (Nat.le_of_ble_eq_true rfl) ?_
      refine v_aload_n dX12_run_202 rfl ?_
      refine v_iload dX12_run_203 rfl ?_
      refine v_iload_n dX12_run_205 rfl ?_
      refine v_iload_n dX12_run_206 rfl ?_
      refine v_callVIw dX12_run_207 ml_X12_232 (so_X12_flag1 hn hp78  w) ((hp78 77 (by decide)).trans (ent_77 _)) rfl (s_lt hn rfl) rfl rfl (Nat.le_of_ble_eq_true rfl) (Nat.le_of_ble_eq_true rfl) (Nat.zero_le _) (Nat.zero_le _) (fun v84 X85 h86 hp88 hf87 w => ?_)
      have hf89 := Fr.trans hf79 hf87
      refine v_istore dX12_run_210 (Nat.le_of_ble_eq_true rfl) ?_
      refine v_iload dX12_run_212 rfl ?_
      obtain ⟨q90, w⟩ := w
      refine v_if_geI (tgt := 232) dX12_run_214 (by decide) q90.1 q90.2 (fun c91 => ?_) (fun c91 => ?_)
      · replace w := w.1 c91
        refine v_aload_n dX12_run_232 rfl ?_
        refine v_get dX12_run_233 fl_X12_160 ((hp88 77 (by decide)).trans (ent_77 _)) rfl (s_lt hn rfl) ?_
        refine v_iload_n dX12_run_236 rfl ?_
        refine v_bipushI dX12_run_237 rfl ?_
        refine v_iaddI dX12_run_239 ?_
        refine v_dup2 dX12_run_240 rfl rfl ?_
        refine v_ialdI dX12_run_241 ((hp88 113 (by decide)).trans (ent_113 _)) (s_lt hn rfl) q31.1 q31.2 (ix_le q31.2 (by decide)) ?_
        refine v_iconstI dX12_run_242 ?_
        refine v_iaddI dX12_run_243 ?_
        refine v_iastI dX12_run_244 ((hp88 113 (by decide)).trans (ent_113 _)) (s_lt hn rfl) q31.1 q31.2 (ix_le q31.2 (by decide)) (fun h92 E93 F94 => ?_)
        have hp95 := pic_st hp88 (show h92 113 = ent 113 (uI _ (a0 + 11) ((X85 113 (a0 + 11)) + 1)) from E93) F94
        have hf96 := Fr.up (c := 113) hf89 F94 rfl
        refine v_aload_n dX12_run_245 rfl ?_
        refine v_iload dX12_run_246 rfl ?_
        refine v_put dX12_run_248 fl_X12_602 ((hp95 77 (by decide)).trans (ent_77 _)) (s_lt hn rfl) (Nat.le_of_ble_eq_true rfl) (fun _ => ⟨rfl, rfl⟩) trivial (fun h97 E98 F99 => ?_)
        have hp100 := pic_st hp95 (show h97 77 = ent 77 (uI _ 58 (if (v68 + (v74 * (X75 113 (a0 + 11)))) < (-1) then (-1) else if 12 < (v68 + (v74 * (X75 113 (a0 + 11)))) then 12 else (v68 + (v74 * (X75 113 (a0 + 11)))))) from E98) F99
        have hf101 := Fr.up (c := 77) hf96 F99 rfl
        refine v_aload_n dX12_run_251 rfl ?_
        refine v_dup dX12_run_252 rfl ?_
        refine v_get dX12_run_253 fl_X12_605 ((hp100 77 (by decide)).trans (ent_77 _)) rfl (s_lt hn rfl) ?_
        refine v_iconstI dX12_run_256 ?_
        refine v_iaddI dX12_run_257 ?_
        refine v_put dX12_run_258 fl_X12_605 ((hp100 77 (by decide)).trans (ent_77 _)) (s_lt hn rfl) (Nat.le_of_ble_eq_true rfl) (fun _ => ⟨rfl, rfl⟩) trivial (fun h102 E103 F104 => ?_)
        have hp105 := pic_st hp100 (show h102 77 = ent 77 (uI _ 57 (((x_st (x_st X85 113 (a0 + 11) ((X85 113 (a0 + 11)) + 1)) 77 58 (if (v68 + (v74 * (X75 113 (a0 + 11)))) < (-1) then (-1) else if 12 < (v68 + (v74 * (X75 113 (a0 + 11)))) then 12 else (v68 + (v74 * (X75 113 (a0 + 11)))))) 77 57) + 1)) from E103) F104
        have hf106 := Fr.up (c := 77) hf101 F104 rfl
        refine v_iconstI dX12_run_261 ?_
        exact v_iret dX12_run_262 rfl (Nat.zero_le _) (Nat.zero_le _) ⟨rfl, hf106, _, _, rfl, hp105, w⟩
      · replace w := w.2 c91
        refine v_iload dX12_run_217 rfl ?_
        refine v_bipushI dX12_run_219 rfl ?_
        refine v_icmp_neI (tgt := 229) dX12_run_221 (by decide) q90.1 q90.2 (by decide) (by decide) (fun c107 => ?_) (fun c107 => ?_)
        · replace w := w.1 c107
          refine v_bipushI dX12_run_229 rfl ?_
          exact v_iret dX12_run_231 rfl (Nat.zero_le _) (Nat.zero_le _) ⟨rfl, hf89, _, _, rfl, hp88, w⟩
        · replace w := w.2 c107
          refine v_bipushI dX12_run_224 rfl ?_
          refine v_goto (tgt := 231) dX12_run_226 (by decide) ?_
          exact v_iret dX12_run_231 rfl (Nat.zero_le _) (Nat.zero_le _) ⟨rfl, hf89, _, _, rfl, hp88, w⟩
    · replace w := w.2 c82
      refine v_bipushI dX12_run_189 rfl ?_
      exact v_iret dX12_run_191 rfl (Nat.zero_le _) (Nat.zero_le _) ⟨rfl, hf79, _, _, rfl, hp78, w⟩
  )
  obtain ⟨q108, q109, w⟩ := w
  refine v_icmp_geI (tgt := 133) dX12_run_106 (by decide) q108.1 q108.2 q109.1 q109.2 (fun c110 => ?_) (fun c110 => ?_)
  · replace w := w.1 c110
    exact w _ hp47 hf48
  · replace w := w.2 c110
    refine v_aload_n dX12_run_109 rfl ?_
    refine v_iload_n dX12_run_110 rfl ?_
    refine v_bipushI dX12_run_111 rfl ?_
    refine v_iaddI dX12_run_113 ?_
    refine v_callVLw dX12_run_114 ml_X12_608 (so_X12_sumOf hn hp47  w) ((hp47 77 (by decide)).trans (ent_77 _)) rfl (s_lt hn rfl) rfl rfl (Nat.le_of_ble_eq_true rfl) (Nat.le_of_ble_eq_true rfl) (Nat.zero_le _) (Nat.zero_le _) (fun v111 X112 h113 hp115 hf114 w => ?_)
    have hf116 := Fr.trans hf48 hf114
    refine v_lstore_n dX12_run_117 (Nat.le_of_ble_eq_true rfl) ?_
    refine v_aload_n dX12_run_118 rfl ?_
    refine v_get dX12_run_119 fl_X12_599 ((hp115 77 (by decide)).trans (ent_77 _)) rfl (s_lt hn rfl) ?_
    obtain ⟨q117, w⟩ := w
    refine v_if_neI (tgt := 131) dX12_run_122 (by decide) q117.1 q117.2 (fun c118 => ?_) (fun c118 => ?_)
    · replace w := w.1 c118
      refine v_iconstI dX12_run_131 ?_
      exact v_iret dX12_run_132 rfl (Nat.zero_le _) (Nat.zero_le _) ⟨rfl, hf116, _, _, rfl, hp115, w⟩
    · replace w := w.2 c118
      refine v_lload_n dX12_run_125 rfl ?_
      refine v_lconstI (w := 0) dX12_run_126 rfl ?_
      obtain ⟨q119, w⟩ := w
      refine v_lcmp_neI (tgt := 133) dX12_run_127 dX12_run_128 (by decide) q119.1 q119.2 (by decide) (by decide) (fun c120 => ?_) (fun c120 => ?_)
      · replace w := w.1 c120
        refine v_pick [1, 2] rfl ?_
        exact w _ hp115 hf116
      · replace w := w.2 c120
        refine v_iconstI dX12_run_131 ?_
        exact v_iret dX12_run_132 rfl (Nat.zero_le _) (Nat.zero_le _) ⟨rfl, hf116, _, _, rfl, hp115, w⟩
theorem dX12_drives_0 : decode cX12_drives 0 = .ok (.aload_n 0, 1) := by decide +kernel
theorem dX12_drives_1 : decode cX12_drives 1 = .ok (.iconst 0, 1) := by decide +kernel
theorem dX12_drives_2 : decode cX12_drives 2 = .ok (.putfield 169, 3) := by decide +kernel
theorem dX12_drives_5 : decode cX12_drives 5 = .ok (.aload_n 0, 1) := by decide +kernel
theorem dX12_drives_6 : decode cX12_drives 6 = .ok (.iconst (-1), 1) := by decide +kernel
theorem dX12_drives_7 : decode cX12_drives 7 = .ok (.putfield 163, 3) := by decide +kernel
theorem dX12_drives_10 : decode cX12_drives 10 = .ok (.aload_n 0, 1) := by decide +kernel
theorem dX12_drives_11 : decode cX12_drives 11 = .ok (.iconst 1, 1) := by decide +kernel
theorem dX12_drives_12 : decode cX12_drives 12 = .ok (.invokevirtual 385, 3) := by decide +kernel
theorem dX12_drives_15 : decode cX12_drives 15 = .ok (.aload_n 0, 1) := by decide +kernel
theorem dX12_drives_16 : decode cX12_drives 16 = .ok (.invokevirtual 612, 3) := by decide +kernel
theorem dX12_drives_19 : decode cX12_drives 19 = .ok (.aload_n 0, 1) := by decide +kernel
theorem dX12_drives_20 : decode cX12_drives 20 = .ok (.getfield 254, 3) := by decide +kernel
theorem dX12_drives_23 : decode cX12_drives 23 = .ok (.ifCond .ne 23, 3) := by decide +kernel
theorem dX12_drives_26 : decode cX12_drives 26 = .ok (.aload_n 0, 1) := by decide +kernel
theorem dX12_drives_27 : decode cX12_drives 27 = .ok (.bipush 59, 2) := by decide +kernel
theorem dX12_drives_29 : decode cX12_drives 29 = .ok (.invokevirtual 319, 3) := by decide +kernel
theorem dX12_drives_32 : decode cX12_drives 32 = .ok (.ifCond .eq 14, 3) := by decide +kernel
theorem dX12_drives_35 : decode cX12_drives 35 = .ok (.aload_n 0, 1) := by decide +kernel
theorem dX12_drives_36 : decode cX12_drives 36 = .ok (.invokevirtual 258, 3) := by decide +kernel
theorem dX12_drives_39 : decode cX12_drives 39 = .ok (.aload_n 0, 1) := by decide +kernel
theorem dX12_drives_40 : decode cX12_drives 40 = .ok (.invokevirtual 612, 3) := by decide +kernel
theorem dX12_drives_43 : decode cX12_drives 43 = .ok (.goto (-24), 3) := by decide +kernel
theorem dX12_drives_46 : decode cX12_drives 46 = .ok (.aload_n 0, 1) := by decide +kernel
theorem dX12_drives_47 : decode cX12_drives 47 = .ok (.invokevirtual 391, 3) := by decide +kernel
theorem dX12_drives_50 : decode cX12_drives 50 = .ok (.aload_n 0, 1) := by decide +kernel
theorem dX12_drives_51 : decode cX12_drives 51 = .ok (.getfield 254, 3) := by decide +kernel
theorem dX12_drives_54 : decode cX12_drives 54 = .ok (.ifCond .eq 10, 3) := by decide +kernel
theorem dX12_drives_57 : decode cX12_drives 57 = .ok (.aload_n 0, 1) := by decide +kernel
theorem dX12_drives_58 : decode cX12_drives 58 = .ok (.bipush (-6), 2) := by decide +kernel
theorem dX12_drives_60 : decode cX12_drives 60 = .ok (.invokevirtual 179, 3) := by decide +kernel
theorem dX12_drives_63 : decode cX12_drives 63 = .ok (.ireturn, 1) := by decide +kernel
theorem dX12_drives_64 : decode cX12_drives 64 = .ok (.aload_n 0, 1) := by decide +kernel
theorem dX12_drives_65 : decode cX12_drives 65 = .ok (.getfield 13, 3) := by decide +kernel
theorem dX12_drives_68 : decode cX12_drives 68 = .ok (.iconst 1, 1) := by decide +kernel
theorem dX12_drives_69 : decode cX12_drives 69 = .ok (.iaload, 1) := by decide +kernel
theorem dX12_drives_70 : decode cX12_drives 70 = .ok (.istore_n 1, 1) := by decide +kernel
theorem dX12_drives_71 : decode cX12_drives 71 = .ok (.aload_n 0, 1) := by decide +kernel
theorem dX12_drives_72 : decode cX12_drives 72 = .ok (.iconst 0, 1) := by decide +kernel
theorem dX12_drives_73 : decode cX12_drives 73 = .ok (.putfield 605, 3) := by decide +kernel
theorem dX12_drives_76 : decode cX12_drives 76 = .ok (.aload_n 0, 1) := by decide +kernel
theorem dX12_drives_77 : decode cX12_drives 77 = .ok (.iconst (-1), 1) := by decide +kernel
theorem dX12_drives_78 : decode cX12_drives 78 = .ok (.putfield 602, 3) := by decide +kernel
theorem dX12_drives_81 : decode cX12_drives 81 = .ok (.iconst 0, 1) := by decide +kernel
theorem dX12_drives_82 : decode cX12_drives 82 = .ok (.istore_n 2, 1) := by decide +kernel
theorem dX12_drives_83 : decode cX12_drives 83 = .ok (.iload_n 2, 1) := by decide +kernel
theorem dX12_drives_84 : decode cX12_drives 84 = .ok (.aload_n 0, 1) := by decide +kernel
theorem dX12_drives_85 : decode cX12_drives 85 = .ok (.getfield 377, 3) := by decide +kernel
theorem dX12_drives_88 : decode cX12_drives 88 = .ok (.if_icmp .ge 67, 3) := by decide +kernel
theorem dX12_drives_91 : decode cX12_drives 91 = .ok (.iconst 0, 1) := by decide +kernel
theorem dX12_drives_92 : decode cX12_drives 92 = .ok (.istore_n 3, 1) := by decide +kernel
theorem dX12_drives_93 : decode cX12_drives 93 = .ok (.iload_n 3, 1) := by decide +kernel
theorem dX12_drives_94 : decode cX12_drives 94 = .ok (.aload_n 0, 1) := by decide +kernel
theorem dX12_drives_95 : decode cX12_drives 95 = .ok (.getfield 160, 3) := by decide +kernel
theorem dX12_drives_98 : decode cX12_drives 98 = .ok (.bipush 12, 2) := by decide +kernel
theorem dX12_drives_100 : decode cX12_drives 100 = .ok (.iload_n 2, 1) := by decide +kernel
theorem dX12_drives_101 : decode cX12_drives 101 = .ok (.imul, 1) := by decide +kernel
theorem dX12_drives_102 : decode cX12_drives 102 = .ok (.bipush 10, 2) := by decide +kernel
theorem dX12_drives_104 : decode cX12_drives 104 = .ok (.iadd, 1) := by decide +kernel
theorem dX12_drives_105 : decode cX12_drives 105 = .ok (.iaload, 1) := by decide +kernel
theorem dX12_drives_106 : decode cX12_drives 106 = .ok (.if_icmp .ge 43, 3) := by decide +kernel
theorem dX12_drives_109 : decode cX12_drives 109 = .ok (.aload_n 0, 1) := by decide +kernel
theorem dX12_drives_110 : decode cX12_drives 110 = .ok (.bipush 12, 2) := by decide +kernel
theorem dX12_drives_112 : decode cX12_drives 112 = .ok (.iload_n 2, 1) := by decide +kernel
theorem dX12_drives_113 : decode cX12_drives 113 = .ok (.imul, 1) := by decide +kernel
theorem dX12_drives_114 : decode cX12_drives 114 = .ok (.invokevirtual 615, 3) := by decide +kernel
theorem dX12_drives_117 : decode cX12_drives 117 = .ok (.istore 4, 2) := by decide +kernel
theorem dX12_drives_119 : decode cX12_drives 119 = .ok (.iload 4, 2) := by decide +kernel
theorem dX12_drives_121 : decode cX12_drives 121 = .ok (.ifCond .ge 22, 3) := by decide +kernel
theorem dX12_drives_124 : decode cX12_drives 124 = .ok (.aload_n 0, 1) := by decide +kernel
theorem dX12_drives_125 : decode cX12_drives 125 = .ok (.getfield 13, 3) := by decide +kernel
theorem dX12_drives_128 : decode cX12_drives 128 = .ok (.iconst 1, 1) := by decide +kernel
theorem dX12_drives_129 : decode cX12_drives 129 = .ok (.iload_n 1, 1) := by decide +kernel
theorem dX12_drives_130 : decode cX12_drives 130 = .ok (.iastore, 1) := by decide +kernel
theorem dX12_drives_131 : decode cX12_drives 131 = .ok (.aload_n 0, 1) := by decide +kernel
theorem dX12_drives_132 : decode cX12_drives 132 = .ok (.iload_n 2, 1) := by decide +kernel
theorem dX12_drives_133 : decode cX12_drives 133 = .ok (.putfield 163, 3) := by decide +kernel
theorem dX12_drives_136 : decode cX12_drives 136 = .ok (.aload_n 0, 1) := by decide +kernel
theorem dX12_drives_137 : decode cX12_drives 137 = .ok (.iload 4, 2) := by decide +kernel
theorem dX12_drives_139 : decode cX12_drives 139 = .ok (.invokevirtual 179, 3) := by decide +kernel
theorem dX12_drives_142 : decode cX12_drives 142 = .ok (.ireturn, 1) := by decide +kernel
theorem dX12_drives_143 : decode cX12_drives 143 = .ok (.iinc 3 1, 3) := by decide +kernel
theorem dX12_drives_146 : decode cX12_drives 146 = .ok (.goto (-53), 3) := by decide +kernel
theorem dX12_drives_149 : decode cX12_drives 149 = .ok (.iinc 2 1, 3) := by decide +kernel
theorem dX12_drives_152 : decode cX12_drives 152 = .ok (.goto (-69), 3) := by decide +kernel
theorem dX12_drives_155 : decode cX12_drives 155 = .ok (.aload_n 0, 1) := by decide +kernel
theorem dX12_drives_156 : decode cX12_drives 156 = .ok (.aload_n 0, 1) := by decide +kernel
theorem dX12_drives_157 : decode cX12_drives 157 = .ok (.getfield 605, 3) := by decide +kernel
theorem dX12_drives_160 : decode cX12_drives 160 = .ok (.invokevirtual 179, 3) := by decide +kernel
theorem dX12_drives_163 : decode cX12_drives 163 = .ok (.ireturn, 1) := by decide +kernel
def w_X12_drives (X : XT) (Q : Int → XT → Prop) : Prop :=
  w_X12_beginText  1 (x_st (x_st X 77 0 0) 77 59 (-1)) (fun (X12 : XT) => w_X12_readDrive   X12 (fun (X18 : XT) => ∃ (I24 : XT → Prop) (m25 : XT → Nat), I24  X18 ∧ ∀  (X23 : XT), I24  X23 → ∀ J36 : Prop, ((w_X12_endText   X23 (fun (X38 : XT) => R32 (X38 77 14) ∧ ((X38 77 14) = 0 → ∃ (I57 : Int → XT → Prop) (m58 : Int → XT → Nat), I57 0 (x_st (x_st X38 77 57 0) 77 58 (-1)) ∧ ∀ (x55 : Int) (X56 : XT), I57 x55 X56 → R32 x55 ∧ R32 (X56 77 16) ∧ ((X56 77 16) ≤ x55 → w_X12_tell  (X56 77 57) X56 (fun (v72 : Int) (X73 : XT) => Q v72 X73)) ∧ (¬ (X56 77 16) ≤ x55 → ∃ (I80 : Int → XT → Prop) (m81 : Int → XT → Nat), I80 0 X56 ∧ ∀ (x78 : Int) (X79 : XT), I80 x78 X79 → (0 ≤ ((12 * x55) + 10) ∧ ((12 * x55) + 10) < 144) ∧ R32 x78 ∧ R32 (X79 113 ((12 * x55) + 10)) ∧ ((X79 113 ((12 * x55) + 10)) ≤ x78 → I57 (x55 + 1) X79 ∧ m58 (x55 + 1) X79 < m58 x55 X56) ∧ (¬ (X79 113 ((12 * x55) + 10)) ≤ x78 → w_X12_run  (12 * x55) X79 (fun (v96 : Int) (X97 : XT) => R32 v96 ∧ (0 ≤ v96 → I80 (x78 + 1) X97 ∧ m81 (x78 + 1) X97 < m81 x78 X79) ∧ (¬ 0 ≤ v96 → w_X12_tell  v96 (x_st (x_st X97 79 1 (X38 79 1)) 77 59 x55) (fun (v114 : Int) (X115 : XT) => Q v114 X115)))))) ∧ (¬ (X38 77 14) = 0 → w_X12_tell  (-6) X38 (fun (v120 : Int) (X121 : XT) => Q v120 X121)))) → J36) → R32 (X23 77 14) ∧ (¬ (X23 77 14) = 0 → J36 ) ∧ ((X23 77 14) = 0 → w_X12_isSign  59 X23 (fun (v128 : Int) => R32 v128 ∧ (v128 = 0 → J36 ) ∧ (¬ v128 = 0 → w_X12_next   X23 (fun (X137 : XT) => w_X12_readDrive   X137 (fun (X143 : XT) => I24  X143 ∧ m25  X143 < m25  X23)))))))
set_option maxRecDepth 20000 in
theorem so_X12_drives {n : Nat} {h : Nat → sE} {X : XT} {Q : Int → XT → Prop} (hn : 115 ≤ n) (hp : Pic X h) (w : w_X12_drives   X Q) : Sp m_X12_drives 11 0 0 [.ref 77] n h (pIw n h Q) := by
  unfold w_X12_drives at w
  refine Sp.ofV (by decide +kernel) (Nat.le_of_ble_eq_true rfl) ?_
  have hf : Fr h h := fun _ _ => rfl
  refine v_aload_n dX12_drives_0 rfl ?_
  refine v_iconstI dX12_drives_1 ?_
  refine v_put dX12_drives_2 fl_X12_169 ((hp 77 (by decide)).trans (ent_77 _)) (s_lt hn rfl) (Nat.le_of_ble_eq_true rfl) (fun _ => ⟨rfl, rfl⟩) trivial (fun h1 E2 F3 => ?_)
  have hp4 := pic_st hp (show h1 77 = ent 77 (uI _ 0 0) from E2) F3
  have hf5 := Fr.up (c := 77) hf F3 rfl
  refine v_aload_n dX12_drives_5 rfl ?_
  refine v_iconstI dX12_drives_6 ?_
  refine v_put dX12_drives_7 fl_X12_163 ((hp4 77 (by decide)).trans (ent_77 _)) (s_lt hn rfl) (Nat.le_of_ble_eq_true rfl) (fun _ => ⟨rfl, rfl⟩) trivial (fun h6 E7 F8 => ?_)
  have hp9 := pic_st hp4 (show h6 77 = ent 77 (uI _ 59 (-1)) from E7) F8
  have hf10 := Fr.up (c := 77) hf5 F8 rfl
  refine v_aload_n dX12_drives_10 rfl ?_
  refine v_iconstI dX12_drives_11 ?_
  refine v_callVVw dX12_drives_12 ml_X12_385 (so_X12_beginText hn hp9  w) ((hp9 77 (by decide)).trans (ent_77 _)) rfl (s_lt hn rfl) rfl rfl (Nat.le_of_ble_eq_true rfl) (Nat.le_of_ble_eq_true rfl) (Nat.zero_le _) (Nat.zero_le _) (fun X12 h13 hp15 hf14 w => ?_)
  have hf16 := Fr.trans hf10 hf14
  refine v_aload_n dX12_drives_15 rfl ?_
  refine v_callVVw dX12_drives_16 ml_X12_612 (so_X12_readDrive hn hp15  w) ((hp15 77 (by decide)).trans (ent_77 _)) rfl (s_lt hn rfl) rfl rfl (Nat.le_of_ble_eq_true rfl) (Nat.le_of_ble_eq_true rfl) (Nat.zero_le _) (Nat.zero_le _) (fun X18 h19 hp21 hf20 w => ?_)
  have hf22 := Fr.trans hf16 hf20
  obtain ⟨I24, m25, wi28, wl27⟩ := w
  have hL29 : ∀ (N32 : Nat)  (X23 : XT) (h33 : Nat → sE), m25  X23 < N32 → I24  X23 → Pic X23 h33 → Fr h h33 → V (m_X12_drives, 11, 0, 0, n, pIw n h Q, s_G0) 0 0 n h33 19 [(0, .ref 77)] [] := by
    intro N32
    induction N32 with
    | zero => intro  X23 h33 hm30; exact absurd hm30 (Nat.not_lt_zero _)
    | succ N32 ih26 =>
      intro  X23 h33 hm30 hI31 hp34 hf35
      have w := wl27  X23 hI31
      refine v_aload_n dX12_drives_19 rfl ?_
      refine v_get dX12_drives_20 fl_X12_254 ((hp34 77 (by decide)).trans (ent_77 _)) rfl (s_lt hn rfl) ?_
      replace w := w (V (m_X12_drives, 11, 0, 0, n, pIw n h Q, s_G0) 0 0 n h33 46 [(0, .ref 77)] []) (by
        intro  w
        refine v_aload_n dX12_drives_46 rfl ?_
        refine v_callVVw dX12_drives_47 ml_X12_391 (so_X12_endText hn hp34  w) ((hp34 77 (by decide)).trans (ent_77 _)) rfl (s_lt hn rfl) rfl rfl (Nat.le_of_ble_eq_true rfl) (Nat.le_of_ble_eq_true rfl) (Nat.zero_le _) (Nat.zero_le _) (fun X38 h39 hp41 hf40 w => ?_)
        have hf42 := Fr.trans hf35 hf40
        refine v_aload_n dX12_drives_50 rfl ?_
        refine v_get dX12_drives_51 fl_X12_254 ((hp41 77 (by decide)).trans (ent_77 _)) rfl (s_lt hn rfl) ?_
        obtain ⟨q43, w⟩ := w
        refine v_if_eqI (tgt := 64) dX12_drives_54 (by decide) q43.1 q43.2 (fun c44 => ?_) (fun c44 => ?_)
        · replace w := w.1 c44
          refine v_aload_n dX12_drives_64 rfl ?_
          refine v_get dX12_drives_65 fl_X12_13 ((hp41 77 (by decide)).trans (ent_77 _)) rfl (s_lt hn rfl) ?_
          refine v_iconstI dX12_drives_68 ?_
          refine v_ialdI dX12_drives_69 ((hp41 79 (by decide)).trans (ent_79 _)) (s_lt hn rfl) (by decide) (by decide) (by decide) ?_
          refine v_istore_n dX12_drives_70 (Nat.le_of_ble_eq_true rfl) ?_
          refine v_aload_n dX12_drives_71 rfl ?_
          refine v_iconstI dX12_drives_72 ?_
          refine v_put dX12_drives_73 fl_X12_605 ((hp41 77 (by decide)).trans (ent_77 _)) (s_lt hn rfl) (Nat.le_of_ble_eq_true rfl) (fun _ => ⟨rfl, rfl⟩) trivial (fun h45 E46 F47 => ?_)
          have hp48 := pic_st hp41 (show h45 77 = ent 77 (uI _ 57 0) from E46) F47
          have hf49 := Fr.up (c := 77) hf42 F47 rfl
          refine v_aload_n dX12_drives_76 rfl ?_
          refine v_iconstI dX12_drives_77 ?_
          refine v_put dX12_drives_78 fl_X12_602 ((hp48 77 (by decide)).trans (ent_77 _)) (s_lt hn rfl) (Nat.le_of_ble_eq_true rfl) (fun _ => ⟨rfl, rfl⟩) trivial (fun h50 E51 F52 => ?_)
          have hp53 := pic_st hp48 (show h50 77 = ent 77 (uI _ 58 (-1)) from E51) F52
          have hf54 := Fr.up (c := 77) hf49 F52 rfl
          refine v_iconstI dX12_drives_81 ?_
          refine v_istore_n dX12_drives_82 (Nat.le_of_ble_eq_true rfl) ?_
          refine v_pick [2, 1, 0] rfl ?_
          obtain ⟨I57, m58, wi61, wl60⟩ := w
          have hL62 : ∀ (N65 : Nat) (x55 : Int) (X56 : XT) (h66 : Nat → sE), m58 x55 X56 < N65 → I57 x55 X56 → Pic X56 h66 → Fr h h66 → V (m_X12_drives, 11, 0, 0, n, pIw n h Q, s_G0) 0 0 n h66 83 [(0, .ref 77), (1, .int (iI (X38 79 1))), (2, .int (iI x55))] [] := by
            intro N65
            induction N65 with
            | zero => intro x55 X56 h66 hm63; exact absurd hm63 (Nat.not_lt_zero _)
            | succ N65 ih59 =>
              intro x55 X56 h66 hm63 hI64 hp67 hf68
              have w := wl60 x55 X56 hI64
              refine v_iload_n dX12_drives_83 rfl ?_
              refine v_aload_n dX12_drives_84 rfl ?_
              refine v_get dX12_drives_85 fl_X12_377 ((hp67 77 (by decide)).trans (ent_77 _)) rfl (s_lt hn rfl) ?_
              obtain ⟨q69, q70, w⟩ := w
              refine v_icmp_geI (tgt := 155) dX12_drives_88 (by decide) q69.1 q69.2 q70.1 q70.2 (fun c71 => ?_) (fun c71 => ?_)
              · replace w := w.1 c71
                refine v_aload_n dX12_drives_155 rfl ?_
                refine v_aload_n dX12_drives_156 rfl ?_
                refine v_get dX12_drives_157 fl_X12_605 ((hp67 77 (by decide)).trans (ent_77 _)) rfl (s_lt hn rfl) ?_
                refine v_callVIw dX12_drives_160 ml_X12_179 (so_X12_tell hn hp67  w) ((hp67 77 (by decide)).trans (ent_77 _)) rfl (s_lt hn rfl) rfl rfl (Nat.le_of_ble_eq_true rfl) (Nat.le_of_ble_eq_true rfl) (Nat.zero_le _) (Nat.zero_le _) (fun v72 X73 h74 hp76 hf75 w => ?_)
                have hf77 := Fr.trans hf68 hf75
                exact v_iret dX12_drives_163 rfl (Nat.zero_le _) (Nat.zero_le _) ⟨rfl, hf77, _, _, rfl, hp76, w⟩
              · replace w := w.2 c71
                refine v_iconstI dX12_drives_91 ?_
                refine v_istore_n dX12_drives_92 (Nat.le_of_ble_eq_true rfl) ?_
                refine v_pick [1, 2, 3, 0] rfl ?_
                obtain ⟨I80, m81, wi84, wl83⟩ := w
                have hL85 : ∀ (N88 : Nat) (x78 : Int) (X79 : XT) (h89 : Nat → sE), m81 x78 X79 < N88 → I80 x78 X79 → Pic X79 h89 → Fr h h89 → V (m_X12_drives, 11, 0, 0, n, pIw n h Q, s_G0) 0 0 n h89 93 [(0, .ref 77), (1, .int (iI (X38 79 1))), (2, .int (iI x55)), (3, .int (iI x78))] [] := by
                  intro N88
                  induction N88 with
                  | zero => intro x78 X79 h89 hm86; exact absurd hm86 (Nat.not_lt_zero _)
                  | succ N88 ih82 =>
                    intro x78 X79 h89 hm86 hI87 hp90 hf91
                    have w := wl83 x78 X79 hI87
                    refine v_iload_n dX12_drives_93 rfl ?_
                    refine v_aload_n dX12_drives_94 rfl ?_
                    refine v_get dX12_drives_95 fl_X12_160 ((hp90 77 (by decide)).trans (ent_77 _)) rfl (s_lt hn rfl) ?_
                    refine v_bipushI dX12_drives_98 rfl ?_
                    refine v_iload_n dX12_drives_100 rfl ?_
                    refine v_imulI dX12_drives_101 ?_
                    refine v_bipushI dX12_drives_102 rfl ?_
                    refine v_iaddI dX12_drives_104 ?_
                    obtain ⟨q92, w⟩ := w
                    refine v_ialdI dX12_drives_105 ((hp90 113 (by decide)).trans (ent_113 _)) (s_lt hn rfl) q92.1 q92.2 (ix_le q92.2 (by decide)) ?_
                    obtain ⟨q93, q94, w⟩ := w
                    refine v_icmp_geI (tgt := 149) dX12_drives_106 (by decide) q93.1 q93.2 q94.1 q94.2 (fun c95 => ?_) (fun c95 => ?_)
                    · replace w := w.1 c95
                      refine v_iincI dX12_drives_149 rfl (Nat.le_of_ble_eq_true rfl) ?_
                      refine v_goto (tgt := 83) dX12_drives_152 (by decide) ?_
                      refine v_pick [1, 2, 0] rfl ?_
                      exact ih59 _ _ _ (Nat.lt_of_lt_of_le w.2 (Nat.le_of_lt_succ hm63)) w.1 hp90 hf91
                    · replace w := w.2 c95
                      refine v_aload_n dX12_drives_109 rfl ?_
                      refine v_bipushI dX12_drives_110 rfl ?_
                      refine v_iload_n dX12_drives_112 rfl ?_
                      refine v_imulI dX12_drives_113 ?_
                      refine v_callVIw dX12_drives_114 ml_X12_615 (so_X12_run hn hp90  w) ((hp90 77 (by decide)).trans (ent_77 _)) rfl (s_lt hn rfl) rfl rfl (Nat.le_of_ble_eq_true rfl) (Nat.le_of_ble_eq_true rfl) (Nat.zero_le _) (Nat.zero_le _) (fun v96 X97 h98 hp100 hf99 w => ?_)
                      have hf101 := Fr.trans hf91 hf99
                      refine v_istore dX12_drives_117 (Nat.le_of_ble_eq_true rfl) ?_
                      refine v_iload dX12_drives_119 rfl ?_
                      obtain ⟨q102, w⟩ := w
                      refine v_if_geI (tgt := 143) dX12_drives_121 (by decide) q102.1 q102.2 (fun c103 => ?_) (fun c103 => ?_)
                      · replace w := w.1 c103
                        refine v_iincI dX12_drives_143 rfl (Nat.le_of_ble_eq_true rfl) ?_
                        refine v_goto (tgt := 93) dX12_drives_146 (by decide) ?_
                        refine v_pick [2, 3, 4, 0] rfl ?_
                        exact ih82 _ _ _ (Nat.lt_of_lt_of_le w.2 (Nat.le_of_lt_succ hm86)) w.1 hp100 hf101
                      · replace w := w.2 c103
                        refine v_aload_n dX12_drives_124 rfl ?_
                        refine v_get dX12_drives_125 fl_X12_13 ((hp100 77 (by decide)).trans (ent_77 _)) rfl (s_lt hn rfl) ?_
                        refine v_iconstI dX12_drives_128 ?_
                        refine v_iload_n dX12_drives_129 rfl ?_
                        refine v_iastI dX12_drives_130 ((hp100 79 (by decide)).trans (ent_79 _)) (s_lt hn rfl) (by decide) (by decide) (by decide) (fun h104 E105 F106 => ?_)
                        have hp107 := pic_st hp100 (show h104 79 = ent 79 (uI _ 1 (X38 79 1)) from E105) F106
                        have hf108 := Fr.up (c := 79) hf101 F106 rfl
                        refine v_aload_n dX12_drives_131 rfl ?_
                        refine v_iload_n dX12_drives_132 rfl ?_
                        refine v_put dX12_drives_133 fl_X12_163 ((hp107 77 (by decide)).trans (ent_77 _)) (s_lt hn rfl) (Nat.le_of_ble_eq_true rfl) (fun _ => ⟨rfl, rfl⟩) trivial (fun h109 E110 F111 => ?_)
                        have hp112 := pic_st hp107 (show h109 77 = ent 77 (uI _ 59 x55) from E110) F111
                        have hf113 := Fr.up (c := 77) hf108 F111 rfl
                        refine v_aload_n dX12_drives_136 rfl ?_
                        refine v_iload dX12_drives_137 rfl ?_
                        refine v_callVIw dX12_drives_139 ml_X12_179 (so_X12_tell hn hp112  w) ((hp112 77 (by decide)).trans (ent_77 _)) rfl (s_lt hn rfl) rfl rfl (Nat.le_of_ble_eq_true rfl) (Nat.le_of_ble_eq_true rfl) (Nat.zero_le _) (Nat.zero_le _) (fun v114 X115 h116 hp118 hf117 w => ?_)
                        have hf119 := Fr.trans hf113 hf117
                        exact v_iret dX12_drives_142 rfl (Nat.zero_le _) (Nat.zero_le _) ⟨rfl, hf119, _, _, rfl, hp118, w⟩
                exact hL85 _ _ _ _ (Nat.lt_succ_self _) wi84 hp67 hf68
          exact hL62 _ _ _ _ (Nat.lt_succ_self _) wi61 hp53 hf54
        · replace w := w.2 c44
          refine v_aload_n dX12_drives_57 rfl ?_
          refine v_bipushI dX12_drives_58 rfl ?_
          refine v_callVIw dX12_drives_60 ml_X12_179 (so_X12_tell hn hp41  w) ((hp41 77 (by decide)).trans (ent_77 _)) rfl (s_lt hn rfl) rfl rfl (Nat.le_of_ble_eq_true rfl) (Nat.le_of_ble_eq_true rfl) (Nat.zero_le _) (Nat.zero_le _) (fun v120 X121 h122 hp124 hf123 w => ?_)
          have hf125 := Fr.trans hf42 hf123
          exact v_iret dX12_drives_63 rfl (Nat.zero_le _) (Nat.zero_le _) ⟨rfl, hf125, _, _, rfl, hp124, w⟩
      )
      obtain ⟨q126, w⟩ := w
      refine v_if_neI (tgt := 46) dX12_drives_23 (by decide) q126.1 q126.2 (fun c127 => ?_) (fun c127 => ?_)
      · replace w := w.1 c127
        exact w
      · replace w := w.2 c127
        refine v_aload_n dX12_drives_26 rfl ?_
        refine v_bipushI dX12_drives_27 rfl ?_
        refine v_callVIr dX12_drives_29 ml_X12_319 (so_X12_isSign hn hp34  w) ((hp34 77 (by decide)).trans (ent_77 _)) rfl (s_lt hn rfl) rfl rfl (Nat.le_of_ble_eq_true rfl) (Nat.le_of_ble_eq_true rfl) (Nat.zero_le _) (Nat.zero_le _) (fun v128 w => ?_)
        obtain ⟨q134, w⟩ := w
        refine v_if_eqI (tgt := 46) dX12_drives_32 (by decide) q134.1 q134.2 (fun c135 => ?_) (fun c135 => ?_)
        · replace w := w.1 c135
          exact w
        · replace w := w.2 c135
          refine v_aload_n dX12_drives_35 rfl ?_
          refine v_callVVw dX12_drives_36 ml_X12_258 (so_X12_next hn hp34  w) ((hp34 77 (by decide)).trans (ent_77 _)) rfl (s_lt hn rfl) rfl rfl (Nat.le_of_ble_eq_true rfl) (Nat.le_of_ble_eq_true rfl) (Nat.zero_le _) (Nat.zero_le _) (fun X137 h138 hp140 hf139 w => ?_)
          have hf141 := Fr.trans hf35 hf139
          refine v_aload_n dX12_drives_39 rfl ?_
          refine v_callVVw dX12_drives_40 ml_X12_612 (so_X12_readDrive hn hp140  w) ((hp140 77 (by decide)).trans (ent_77 _)) rfl (s_lt hn rfl) rfl rfl (Nat.le_of_ble_eq_true rfl) (Nat.le_of_ble_eq_true rfl) (Nat.zero_le _) (Nat.zero_le _) (fun X143 h144 hp146 hf145 w => ?_)
          have hf147 := Fr.trans hf141 hf145
          refine v_goto (tgt := 19) dX12_drives_43 (by decide) ?_
          exact ih26 _ _ (Nat.lt_of_lt_of_le w.2 (Nat.le_of_lt_succ hm30)) w.1 hp146 hf147
  exact hL29 _ _ _ (Nat.lt_succ_self _) wi28 hp21 hf22
theorem dX12_shades_0 : decode cX12_shades 0 = .ok (.aload_n 0, 1) := by decide +kernel
theorem dX12_shades_1 : decode cX12_shades 1 = .ok (.iload_n 1, 1) := by decide +kernel
theorem dX12_shades_2 : decode cX12_shades 2 = .ok (.iconst 0, 1) := by decide +kernel
theorem dX12_shades_3 : decode cX12_shades 3 = .ok (.invokevirtual 224, 3) := by decide +kernel
theorem dX12_shades_6 : decode cX12_shades 6 = .ok (.aload_n 0, 1) := by decide +kernel
theorem dX12_shades_7 : decode cX12_shades 7 = .ok (.iload_n 1, 1) := by decide +kernel
theorem dX12_shades_8 : decode cX12_shades 8 = .ok (.iconst 1, 1) := by decide +kernel
theorem dX12_shades_9 : decode cX12_shades 9 = .ok (.invokevirtual 224, 3) := by decide +kernel
theorem dX12_shades_12 : decode cX12_shades 12 = .ok (.iload_n 2, 1) := by decide +kernel
theorem dX12_shades_13 : decode cX12_shades 13 = .ok (.iload_n 3, 1) := by decide +kernel
theorem dX12_shades_14 : decode cX12_shades 14 = .ok (.invokestatic 471, 3) := by decide +kernel
theorem dX12_shades_17 : decode cX12_shades 17 = .ok (.ireturn, 1) := by decide +kernel
def w_X12_shades (a0 a1 a2 : Int) (X : XT) (Q : Int → Prop) : Prop :=
  (0 ≤ a0 ∧ a0 ≤ 4) ∧ (1 ≤ (X 79 (15 + 5 * a0 + 0)) ∧ (X 79 (15 + 5 * a0 + 0)) ≤ 3) ∧ (1 ≤ (X 79 (15 + 5 * a0 + 1)) ∧ (X 79 (15 + 5 * a0 + 1)) ≤ 3) ∧ (-1 ≤ a1 ∧ a1 ≤ 575) ∧ (0 ≤ a2 ∧ a2 ≤ 63) ∧ Q (if (¬ a1 = -1 ∧ cvB a1 (X 79 (15 + 5 * a0 + 0)) (X 79 (15 + 5 * a0 + 1)) a2) then 1 else 0)
set_option maxRecDepth 20000 in
theorem so_X12_shades {n : Nat} {h : Nat → sE} {X : XT} {a0 a1 a2 : Int} {Q : Int → Prop} (hn : 115 ≤ n) (hp : Pic X h) (w : w_X12_shades  a0 a1 a2 X Q) : Sp m_X12_shades 2 0 0 [.ref 77, .int (iI a0), .int (iI a1), .int (iI a2)] n h (pIr n h Q) := by
  unfold w_X12_shades at w
  refine Sp.ofV (by decide +kernel) (Nat.le_of_ble_eq_true rfl) ?_
  have hf : Fr h h := fun _ _ => rfl
  refine v_aload_n dX12_shades_0 rfl ?_
  refine v_iload_n dX12_shades_1 rfl ?_
  refine v_iconstI dX12_shades_2 ?_
  obtain ⟨q1, w⟩ := w
  refine v_callVp dX12_shades_3 ml_X12_224 (sv_X12_ofCloud (a := a0) (b := 0) (g77 := X 77) (g79 := X 79) hn (hp 77 (by decide)) (hp 79 (by decide)) q1 (by decide)) ((hp 77 (by decide)).trans (ent_77 _)) rfl (s_lt hn rfl) rfl rfl (Nat.le_of_ble_eq_true rfl) (Nat.le_of_ble_eq_true rfl) (Nat.zero_le _) (Nat.zero_le _) ?_
  refine v_aload_n dX12_shades_6 rfl ?_
  refine v_iload_n dX12_shades_7 rfl ?_
  refine v_iconstI dX12_shades_8 ?_
  refine v_callVp dX12_shades_9 ml_X12_224 (sv_X12_ofCloud (a := a0) (b := 1) (g77 := X 77) (g79 := X 79) hn (hp 77 (by decide)) (hp 79 (by decide)) q1 (by decide)) ((hp 77 (by decide)).trans (ent_77 _)) rfl (s_lt hn rfl) rfl rfl (Nat.le_of_ble_eq_true rfl) (Nat.le_of_ble_eq_true rfl) (Nat.zero_le _) (Nat.zero_le _) ?_
  refine v_iload_n dX12_shades_12 rfl ?_
  refine v_iload_n dX12_shades_13 rfl ?_
  obtain ⟨q2, q3, q4, q5, w⟩ := w
  refine v_callSp dX12_shades_14 ml_X12_471 (sp_X12_covers (wd := (X 79 (15 + 5 * a0 + 0))) (tl := (X 79 (15 + 5 * a0 + 1))) (a := a1) (f := a2) q2 q3 q4 q5) rfl rfl (Nat.le_of_ble_eq_true rfl) (Nat.le_of_ble_eq_true rfl) (Nat.zero_le _) (Nat.zero_le _) ?_
  exact v_bretI dX12_shades_17 rfl (Nat.zero_le _) (Nat.zero_le _) ⟨rfl, rfl, _, rfl, w⟩
theorem dX12_shadeOf_0 : decode cX12_shadeOf 0 = .ok (.iconst 0, 1) := by decide +kernel
theorem dX12_shadeOf_1 : decode cX12_shadeOf 1 = .ok (.istore_n 3, 1) := by decide +kernel
theorem dX12_shadeOf_2 : decode cX12_shadeOf 2 = .ok (.iconst 0, 1) := by decide +kernel
theorem dX12_shadeOf_3 : decode cX12_shadeOf 3 = .ok (.istore 4, 2) := by decide +kernel
theorem dX12_shadeOf_5 : decode cX12_shadeOf 5 = .ok (.iload 4, 2) := by decide +kernel
theorem dX12_shadeOf_7 : decode cX12_shadeOf 7 = .ok (.aload_n 0, 1) := by decide +kernel
theorem dX12_shadeOf_8 : decode cX12_shadeOf 8 = .ok (.getfield 13, 3) := by decide +kernel
theorem dX12_shadeOf_11 : decode cX12_shadeOf 11 = .ok (.iconst 0, 1) := by decide +kernel
theorem dX12_shadeOf_12 : decode cX12_shadeOf 12 = .ok (.iaload, 1) := by decide +kernel
theorem dX12_shadeOf_13 : decode cX12_shadeOf 13 = .ok (.if_icmp .ge 39, 3) := by decide +kernel
theorem dX12_shadeOf_16 : decode cX12_shadeOf 16 = .ok (.iload_n 3, 1) := by decide +kernel
theorem dX12_shadeOf_17 : decode cX12_shadeOf 17 = .ok (.aload_n 0, 1) := by decide +kernel
theorem dX12_shadeOf_18 : decode cX12_shadeOf 18 = .ok (.iload 4, 2) := by decide +kernel
theorem dX12_shadeOf_20 : decode cX12_shadeOf 20 = .ok (.aload_n 0, 1) := by decide +kernel
theorem dX12_shadeOf_21 : decode cX12_shadeOf 21 = .ok (.getfield 102, 3) := by decide +kernel
theorem dX12_shadeOf_24 : decode cX12_shadeOf 24 = .ok (.bipush 12, 2) := by decide +kernel
theorem dX12_shadeOf_26 : decode cX12_shadeOf 26 = .ok (.iload 4, 2) := by decide +kernel
theorem dX12_shadeOf_28 : decode cX12_shadeOf 28 = .ok (.imul, 1) := by decide +kernel
theorem dX12_shadeOf_29 : decode cX12_shadeOf 29 = .ok (.iload_n 2, 1) := by decide +kernel
theorem dX12_shadeOf_30 : decode cX12_shadeOf 30 = .ok (.iadd, 1) := by decide +kernel
theorem dX12_shadeOf_31 : decode cX12_shadeOf 31 = .ok (.iaload, 1) := by decide +kernel
theorem dX12_shadeOf_32 : decode cX12_shadeOf 32 = .ok (.iload_n 1, 1) := by decide +kernel
theorem dX12_shadeOf_33 : decode cX12_shadeOf 33 = .ok (.invokevirtual 475, 3) := by decide +kernel
theorem dX12_shadeOf_36 : decode cX12_shadeOf 36 = .ok (.ifCond .eq 7, 3) := by decide +kernel
theorem dX12_shadeOf_39 : decode cX12_shadeOf 39 = .ok (.iconst 1, 1) := by decide +kernel
theorem dX12_shadeOf_40 : decode cX12_shadeOf 40 = .ok (.goto 4, 3) := by decide +kernel
theorem dX12_shadeOf_43 : decode cX12_shadeOf 43 = .ok (.iconst 0, 1) := by decide +kernel
theorem dX12_shadeOf_44 : decode cX12_shadeOf 44 = .ok (.iadd, 1) := by decide +kernel
theorem dX12_shadeOf_45 : decode cX12_shadeOf 45 = .ok (.istore_n 3, 1) := by decide +kernel
theorem dX12_shadeOf_46 : decode cX12_shadeOf 46 = .ok (.iinc 4 1, 3) := by decide +kernel
theorem dX12_shadeOf_49 : decode cX12_shadeOf 49 = .ok (.goto (-44), 3) := by decide +kernel
theorem dX12_shadeOf_52 : decode cX12_shadeOf 52 = .ok (.iload_n 3, 1) := by decide +kernel
theorem dX12_shadeOf_53 : decode cX12_shadeOf 53 = .ok (.ireturn, 1) := by decide +kernel
def w_X12_shadeOf (a0 a1 : Int) (X : XT) (Q : Int → Prop) : Prop :=
  ∃ (I3 : Int → Int → Prop) (m4 : Int → Int → Nat), I3 0 0 ∧ ∀ (x1 : Int) (x2 : Int), I3 x1 x2 → R32 x2 ∧ R32 (X 79 0) ∧ ((X 79 0) ≤ x2 → Q x1) ∧ (¬ (X 79 0) ≤ x2 → (0 ≤ ((12 * x2) + a1) ∧ ((12 * x2) + a1) < 60) ∧ w_X12_shades  x2 (X 94 ((12 * x2) + a1)) a0 X (fun (v16 : Int) => ∀ J23 : Int → Prop, (∀ (v22 : Int), (I3 (x1 + v22) (x2 + 1) ∧ m4 (x1 + v22) (x2 + 1) < m4 x1 x2) → J23 v22) → R32 v16 ∧ (v16 = 0 → J23 0) ∧ (¬ v16 = 0 → J23 1)))
set_option maxRecDepth 20000 in
theorem so_X12_shadeOf {n : Nat} {h : Nat → sE} {X : XT} {a0 a1 : Int} {Q : Int → Prop} (hn : 115 ≤ n) (hp : Pic X h) (w : w_X12_shadeOf  a0 a1 X Q) : Sp m_X12_shadeOf 3 0 0 [.ref 77, .int (iI a0), .int (iI a1)] n h (pIr n h Q) := by
  unfold w_X12_shadeOf at w
  refine Sp.ofV (by decide +kernel) (Nat.le_of_ble_eq_true rfl) ?_
  have hf : Fr h h := fun _ _ => rfl
  refine v_iconstI dX12_shadeOf_0 ?_
  refine v_istore_n dX12_shadeOf_1 (Nat.le_of_ble_eq_true rfl) ?_
  refine v_iconstI dX12_shadeOf_2 ?_
  refine v_istore dX12_shadeOf_3 (Nat.le_of_ble_eq_true rfl) ?_
  refine v_pick [2, 3, 4, 1, 0] rfl ?_
  obtain ⟨I3, m4, wi7, wl6⟩ := w
  have hL8 : ∀ (N11 : Nat) (x1 : Int) (x2 : Int), m4 x1 x2 < N11 → I3 x1 x2 → V (m_X12_shadeOf, 3, 0, 0, n, pIr n h Q, s_G0) 0 0 n h 5 [(0, .ref 77), (1, .int (iI a0)), (2, .int (iI a1)), (3, .int (iI x1)), (4, .int (iI x2))] [] := by
    intro N11
    induction N11 with
    | zero => intro x1 x2  hm9; exact absurd hm9 (Nat.not_lt_zero _)
    | succ N11 ih5 =>
      intro x1 x2  hm9 hI10
      have w := wl6 x1 x2 hI10
      refine v_iload dX12_shadeOf_5 rfl ?_
      refine v_aload_n dX12_shadeOf_7 rfl ?_
      refine v_get dX12_shadeOf_8 fl_X12_13 ((hp 77 (by decide)).trans (ent_77 _)) rfl (s_lt hn rfl) ?_
      refine v_iconstI dX12_shadeOf_11 ?_
      refine v_ialdI dX12_shadeOf_12 ((hp 79 (by decide)).trans (ent_79 _)) (s_lt hn rfl) (by decide) (by decide) (by decide) ?_
      obtain ⟨q12, q13, w⟩ := w
      refine v_icmp_geI (tgt := 52) dX12_shadeOf_13 (by decide) q12.1 q12.2 q13.1 q13.2 (fun c14 => ?_) (fun c14 => ?_)
      · replace w := w.1 c14
        refine v_iload_n dX12_shadeOf_52 rfl ?_
        exact v_iret dX12_shadeOf_53 rfl (Nat.zero_le _) (Nat.zero_le _) ⟨rfl, rfl, _, rfl, w⟩
      · replace w := w.2 c14
        refine v_iload_n dX12_shadeOf_16 rfl ?_
        refine v_aload_n dX12_shadeOf_17 rfl ?_
        refine v_iload dX12_shadeOf_18 rfl ?_
        refine v_aload_n dX12_shadeOf_20 rfl ?_
        refine v_get dX12_shadeOf_21 fl_X12_102 ((hp 77 (by decide)).trans (ent_77 _)) rfl (s_lt hn rfl) ?_
        refine v_bipushI dX12_shadeOf_24 rfl ?_
        refine v_iload dX12_shadeOf_26 rfl ?_
        refine v_imulI dX12_shadeOf_28 ?_
        refine v_iload_n dX12_shadeOf_29 rfl ?_
        refine v_iaddI dX12_shadeOf_30 ?_
        obtain ⟨q15, w⟩ := w
        refine v_ialdI dX12_shadeOf_31 ((hp 94 (by decide)).trans (ent_94 _)) (s_lt hn rfl) q15.1 q15.2 (ix_le q15.2 (by decide)) ?_
        refine v_iload_n dX12_shadeOf_32 rfl ?_
        refine v_callVIr dX12_shadeOf_33 ml_X12_475 (so_X12_shades hn hp  w) ((hp 77 (by decide)).trans (ent_77 _)) rfl (s_lt hn rfl) rfl rfl (Nat.le_of_ble_eq_true rfl) (Nat.le_of_ble_eq_true rfl) (Nat.zero_le _) (Nat.zero_le _) (fun v16 w => ?_)
        replace w := w (fun (v22 : Int) => V (m_X12_shadeOf, 3, 0, 0, n, pIr n h Q, s_G0) 0 0 n h 44 [(0, .ref 77), (1, .int (iI a0)), (2, .int (iI a1)), (4, .int (iI x2))] [.int (iI v22), .int (iI x1)]) (by
          intro v22 w
          refine v_iaddI dX12_shadeOf_44 ?_
          refine v_istore_n dX12_shadeOf_45 (Nat.le_of_ble_eq_true rfl) ?_
          refine v_iincI dX12_shadeOf_46 rfl (Nat.le_of_ble_eq_true rfl) ?_
          refine v_goto (tgt := 5) dX12_shadeOf_49 (by decide) ?_
          refine v_pick [2, 3, 4, 1, 0] rfl ?_
          exact ih5 _ _ (Nat.lt_of_lt_of_le w.2 (Nat.le_of_lt_succ hm9)) w.1
        )
        obtain ⟨q24, w⟩ := w
        refine v_if_eqI (tgt := 43) dX12_shadeOf_36 (by decide) q24.1 q24.2 (fun c25 => ?_) (fun c25 => ?_)
        · replace w := w.1 c25
          refine v_iconstI dX12_shadeOf_43 ?_
          refine v_pick [0, 1, 2, 4] rfl ?_
          exact w
        · replace w := w.2 c25
          refine v_iconstI dX12_shadeOf_39 ?_
          refine v_goto (tgt := 44) dX12_shadeOf_40 (by decide) ?_
          refine v_pick [0, 1, 2, 4] rfl ?_
          exact w
  exact hL8 _ _ _ (Nat.lt_succ_self _) wi7
theorem dX12_fieldTells_0 : decode cX12_fieldTells 0 = .ok (.aload_n 0, 1) := by decide +kernel
theorem dX12_fieldTells_1 : decode cX12_fieldTells 1 = .ok (.iload_n 1, 1) := by decide +kernel
theorem dX12_fieldTells_2 : decode cX12_fieldTells 2 = .ok (.iload_n 2, 1) := by decide +kernel
theorem dX12_fieldTells_3 : decode cX12_fieldTells 3 = .ok (.bipush 8, 2) := by decide +kernel
theorem dX12_fieldTells_5 : decode cX12_fieldTells 5 = .ok (.irem, 1) := by decide +kernel
theorem dX12_fieldTells_6 : decode cX12_fieldTells 6 = .ok (.iload_n 2, 1) := by decide +kernel
theorem dX12_fieldTells_7 : decode cX12_fieldTells 7 = .ok (.bipush 8, 2) := by decide +kernel
theorem dX12_fieldTells_9 : decode cX12_fieldTells 9 = .ok (.idiv, 1) := by decide +kernel
theorem dX12_fieldTells_10 : decode cX12_fieldTells 10 = .ok (.iload_n 3, 1) := by decide +kernel
theorem dX12_fieldTells_11 : decode cX12_fieldTells 11 = .ok (.iconst (-1), 1) := by decide +kernel
theorem dX12_fieldTells_12 : decode cX12_fieldTells 12 = .ok (.iconst (-1), 1) := by decide +kernel
theorem dX12_fieldTells_13 : decode cX12_fieldTells 13 = .ok (.iload 4, 2) := by decide +kernel
theorem dX12_fieldTells_15 : decode cX12_fieldTells 15 = .ok (.lload 5, 2) := by decide +kernel
theorem dX12_fieldTells_17 : decode cX12_fieldTells 17 = .ok (.invokevirtual 432, 3) := by decide +kernel
theorem dX12_fieldTells_20 : decode cX12_fieldTells 20 = .ok (.iconst 0, 1) := by decide +kernel
theorem dX12_fieldTells_21 : decode cX12_fieldTells 21 = .ok (.bipush 99, 2) := by decide +kernel
theorem dX12_fieldTells_23 : decode cX12_fieldTells 23 = .ok (.invokestatic 436, 3) := by decide +kernel
theorem dX12_fieldTells_26 : decode cX12_fieldTells 26 = .ok (.ireturn, 1) := by decide +kernel
def w_X12_fieldTells (a0 a1 a2 a3 a4 : Int) (X : XT) (Q : Int → XT → Prop) : Prop :=
  R32 a1 ∧ (0 ≤ a1) ∧ w_X12_tells  a0 (a1 % 8) (a1 / 8) a2 (-1) (-1) a3 a4 X (fun (v3 : Int) (X4 : XT) => R64 v3 ∧ Q (if v3 < 0 then 0 else if 99 < v3 then 99 else v3) X4)
set_option maxRecDepth 20000 in
theorem so_X12_fieldTells {n : Nat} {h : Nat → sE} {X : XT} {a0 a1 a2 a3 a4 : Int} {Q : Int → XT → Prop} (hn : 115 ≤ n) (hp : Pic X h) (w : w_X12_fieldTells  a0 a1 a2 a3 a4 X Q) : Sp m_X12_fieldTells 6 0 0 [.ref 77, .int (iI a0), .int (iI a1), .int (iI a2), .int (iI a3), .long (jJ a4)] n h (pIw n h Q) := by
  unfold w_X12_fieldTells at w
  refine Sp.ofV (by decide +kernel) (Nat.le_of_ble_eq_true rfl) ?_
  have hf : Fr h h := fun _ _ => rfl
  refine v_aload_n dX12_fieldTells_0 rfl ?_
  refine v_iload_n dX12_fieldTells_1 rfl ?_
  refine v_iload_n dX12_fieldTells_2 rfl ?_
  refine v_bipushI dX12_fieldTells_3 rfl ?_
  obtain ⟨q1, q2, w⟩ := w
  refine v_iremI dX12_fieldTells_5 q2 q1.2 (by decide) (by decide) ?_
  refine v_iload_n dX12_fieldTells_6 rfl ?_
  refine v_bipushI dX12_fieldTells_7 rfl ?_
  refine v_idivI dX12_fieldTells_9 q2 q1.2 (by decide) (by decide) ?_
  refine v_iload_n dX12_fieldTells_10 rfl ?_
  refine v_iconstI dX12_fieldTells_11 ?_
  refine v_iconstI dX12_fieldTells_12 ?_
  refine v_iload dX12_fieldTells_13 rfl ?_
  refine v_lload dX12_fieldTells_15 rfl ?_
  refine v_callVLw dX12_fieldTells_17 ml_X12_432 (so_X12_tells hn hp  w) ((hp 77 (by decide)).trans (ent_77 _)) rfl (s_lt hn rfl) rfl rfl (Nat.le_of_ble_eq_true rfl) (Nat.le_of_ble_eq_true rfl) (Nat.zero_le _) (Nat.zero_le _) (fun v3 X4 h5 hp7 hf6 w => ?_)
  have hf8 := Fr.trans hf hf6
  refine v_iconstI dX12_fieldTells_20 ?_
  refine v_bipushI dX12_fieldTells_21 rfl ?_
  obtain ⟨q9, w⟩ := w
  refine v_callSp dX12_fieldTells_23 ml_X12_436 (sp_X12_within (v := v3) (a := 0) (b := 99) q9 (by decide) (by decide)) rfl rfl (Nat.le_of_ble_eq_true rfl) (Nat.le_of_ble_eq_true rfl) (Nat.zero_le _) (Nat.zero_le _) ?_
  exact v_iret dX12_fieldTells_26 rfl (Nat.zero_le _) (Nat.zero_le _) ⟨rfl, hf8, _, _, rfl, hp7, w⟩
theorem dX12_asks_0 : decode cX12_asks 0 = .ok (.aload_n 0, 1) := by decide +kernel
theorem dX12_asks_1 : decode cX12_asks 1 = .ok (.iconst 0, 1) := by decide +kernel
theorem dX12_asks_2 : decode cX12_asks 2 = .ok (.putfield 169, 3) := by decide +kernel
theorem dX12_asks_5 : decode cX12_asks 5 = .ok (.iload_n 1, 1) := by decide +kernel
theorem dX12_asks_6 : decode cX12_asks 6 = .ok (.invokestatic 195, 3) := by decide +kernel
theorem dX12_asks_9 : decode cX12_asks 9 = .ok (.ifCond .eq 22, 3) := by decide +kernel
theorem dX12_asks_12 : decode cX12_asks 12 = .ok (.iload_n 2, 1) := by decide +kernel
theorem dX12_asks_13 : decode cX12_asks 13 = .ok (.invokestatic 236, 3) := by decide +kernel
theorem dX12_asks_16 : decode cX12_asks 16 = .ok (.ifCond .eq 15, 3) := by decide +kernel
theorem dX12_asks_19 : decode cX12_asks 19 = .ok (.iload_n 3, 1) := by decide +kernel
theorem dX12_asks_20 : decode cX12_asks 20 = .ok (.i2l, 1) := by decide +kernel
theorem dX12_asks_21 : decode cX12_asks 21 = .ok (.lconst 0, 1) := by decide +kernel
theorem dX12_asks_22 : decode cX12_asks 22 = .ok (.ldc2_w 210, 3) := by decide +kernel
theorem dX12_asks_25 : decode cX12_asks 25 = .ok (.invokestatic 175, 3) := by decide +kernel
theorem dX12_asks_28 : decode cX12_asks 28 = .ok (.ifCond .ne 5, 3) := by decide +kernel
theorem dX12_asks_31 : decode cX12_asks 31 = .ok (.iconst (-1), 1) := by decide +kernel
theorem dX12_asks_32 : decode cX12_asks 32 = .ok (.ireturn, 1) := by decide +kernel
theorem dX12_asks_33 : decode cX12_asks 33 = .ok (.aload_n 0, 1) := by decide +kernel
theorem dX12_asks_34 : decode cX12_asks 34 = .ok (.invokevirtual 478, 3) := by decide +kernel
theorem dX12_asks_37 : decode cX12_asks 37 = .ok (.aload_n 0, 1) := by decide +kernel
theorem dX12_asks_38 : decode cX12_asks 38 = .ok (.iload_n 1, 1) := by decide +kernel
theorem dX12_asks_39 : decode cX12_asks 39 = .ok (.iload_n 2, 1) := by decide +kernel
theorem dX12_asks_40 : decode cX12_asks 40 = .ok (.invokevirtual 481, 3) := by decide +kernel
theorem dX12_asks_43 : decode cX12_asks 43 = .ok (.istore 4, 2) := by decide +kernel
theorem dX12_asks_45 : decode cX12_asks 45 = .ok (.iload_n 3, 1) := by decide +kernel
theorem dX12_asks_46 : decode cX12_asks 46 = .ok (.tableswitch 55 0 2 #[26, 29, 42], 26) := by decide +kernel
theorem dX12_asks_72 : decode cX12_asks 72 = .ok (.iload 4, 2) := by decide +kernel
theorem dX12_asks_74 : decode cX12_asks 74 = .ok (.ireturn, 1) := by decide +kernel
theorem dX12_asks_75 : decode cX12_asks 75 = .ok (.aload_n 0, 1) := by decide +kernel
theorem dX12_asks_76 : decode cX12_asks 76 = .ok (.iconst 0, 1) := by decide +kernel
theorem dX12_asks_77 : decode cX12_asks 77 = .ok (.iload_n 1, 1) := by decide +kernel
theorem dX12_asks_78 : decode cX12_asks 78 = .ok (.iload_n 2, 1) := by decide +kernel
theorem dX12_asks_79 : decode cX12_asks 79 = .ok (.iload 4, 2) := by decide +kernel
theorem dX12_asks_81 : decode cX12_asks 81 = .ok (.ldc2_w 484, 3) := by decide +kernel
theorem dX12_asks_84 : decode cX12_asks 84 = .ok (.invokevirtual 486, 3) := by decide +kernel
theorem dX12_asks_87 : decode cX12_asks 87 = .ok (.ireturn, 1) := by decide +kernel
theorem dX12_asks_88 : decode cX12_asks 88 = .ok (.aload_n 0, 1) := by decide +kernel
theorem dX12_asks_89 : decode cX12_asks 89 = .ok (.iconst 1, 1) := by decide +kernel
theorem dX12_asks_90 : decode cX12_asks 90 = .ok (.iload_n 1, 1) := by decide +kernel
theorem dX12_asks_91 : decode cX12_asks 91 = .ok (.iload_n 2, 1) := by decide +kernel
theorem dX12_asks_92 : decode cX12_asks 92 = .ok (.iload 4, 2) := by decide +kernel
theorem dX12_asks_94 : decode cX12_asks 94 = .ok (.ldc2_w 210, 3) := by decide +kernel
theorem dX12_asks_97 : decode cX12_asks 97 = .ok (.invokevirtual 486, 3) := by decide +kernel
theorem dX12_asks_100 : decode cX12_asks 100 = .ok (.ireturn, 1) := by decide +kernel
theorem dX12_asks_101 : decode cX12_asks 101 = .ok (.aload_n 0, 1) := by decide +kernel
theorem dX12_asks_102 : decode cX12_asks 102 = .ok (.iconst 2, 1) := by decide +kernel
theorem dX12_asks_103 : decode cX12_asks 103 = .ok (.iload_n 1, 1) := by decide +kernel
theorem dX12_asks_104 : decode cX12_asks 104 = .ok (.iload_n 2, 1) := by decide +kernel
theorem dX12_asks_105 : decode cX12_asks 105 = .ok (.iconst (-1), 1) := by decide +kernel
theorem dX12_asks_106 : decode cX12_asks 106 = .ok (.lconst 1, 1) := by decide +kernel
theorem dX12_asks_107 : decode cX12_asks 107 = .ok (.invokevirtual 486, 3) := by decide +kernel
theorem dX12_asks_110 : decode cX12_asks 110 = .ok (.ireturn, 1) := by decide +kernel
def w_X12_asks (a0 a1 a2 : Int) (X : XT) (Q : Int → XT → Prop) : Prop :=
  R32 a0 ∧ (¬ (0 ≤ a0 ∧ a0 ≤ 63) → Q (-1) (x_st X 77 0 0)) ∧ ((0 ≤ a0 ∧ a0 ≤ 63) → R32 a1 ∧ (¬ (0 ≤ a1 ∧ a1 ≤ 11) → Q (-1) (x_st X 77 0 0)) ∧ ((0 ≤ a1 ∧ a1 ≤ 11) → R32 a2 ∧ ((0 ≤ a2 ∧ a2 ≤ 3) → w_X12_layCorners   (x_st X 77 0 0) (fun (X13 : XT) => w_X12_shadeOf  a0 a1 X13 (fun (v18 : Int) => (a2 = 0 → Q v18 X13) ∧ (a2 = 1 → w_X12_fieldTells  0 a0 a1 v18 5 X13 (fun (v26 : Int) (X27 : XT) => Q v26 X27)) ∧ (a2 = 2 → w_X12_fieldTells  1 a0 a1 v18 3 X13 (fun (v33 : Int) (X34 : XT) => Q v33 X34)) ∧ (¬ a2 = 0 ∧ ¬ a2 = 1 ∧ ¬ a2 = 2 → w_X12_fieldTells  2 a0 a1 (-1) 1 X13 (fun (v39 : Int) (X40 : XT) => Q v39 X40))))) ∧ (¬ (0 ≤ a2 ∧ a2 ≤ 3) → Q (-1) (x_st X 77 0 0))))
set_option maxRecDepth 20000 in
theorem so_X12_asks {n : Nat} {h : Nat → sE} {X : XT} {a0 a1 a2 : Int} {Q : Int → XT → Prop} (hn : 115 ≤ n) (hp : Pic X h) (w : w_X12_asks  a0 a1 a2 X Q) : Sp m_X12_asks 10 0 0 [.ref 77, .int (iI a0), .int (iI a1), .int (iI a2)] n h (pIw n h Q) := by
  unfold w_X12_asks at w
  refine Sp.ofV (by decide +kernel) (Nat.le_of_ble_eq_true rfl) ?_
  have hf : Fr h h := fun _ _ => rfl
  refine v_aload_n dX12_asks_0 rfl ?_
  refine v_iconstI dX12_asks_1 ?_
  refine v_put dX12_asks_2 fl_X12_169 ((hp 77 (by decide)).trans (ent_77 _)) (s_lt hn rfl) (Nat.le_of_ble_eq_true rfl) (fun _ => ⟨rfl, rfl⟩) trivial (fun h1 E2 F3 => ?_)
  have hp4 := pic_st hp (show h1 77 = ent 77 (uI _ 0 0) from E2) F3
  have hf5 := Fr.up (c := 77) hf F3 rfl
  refine v_iload_n dX12_asks_5 rfl ?_
  obtain ⟨q6, w⟩ := w
  refine v_callSp dX12_asks_6 ml_X12_195 (sp_X12_isField (a := a0) q6) rfl rfl (Nat.le_of_ble_eq_true rfl) (Nat.le_of_ble_eq_true rfl) (Nat.zero_le _) (Nat.zero_le _) ?_
  refine v_ifeqB (tgt := 31) dX12_asks_9 (by decide) (fun c7 => ?_) (fun c7 => ?_)
  · replace w := w.1 c7
    refine v_iconstI dX12_asks_31 ?_
    exact v_iret dX12_asks_32 rfl (Nat.zero_le _) (Nat.zero_le _) ⟨rfl, hf5, _, _, rfl, hp4, w⟩
  · replace w := w.2 c7
    refine v_iload_n dX12_asks_12 rfl ?_
    obtain ⟨q8, w⟩ := w
    refine v_callSp dX12_asks_13 ml_X12_236 (sp_X12_isHour (a := a1) q8) rfl rfl (Nat.le_of_ble_eq_true rfl) (Nat.le_of_ble_eq_true rfl) (Nat.zero_le _) (Nat.zero_le _) ?_
    refine v_ifeqB (tgt := 31) dX12_asks_16 (by decide) (fun c9 => ?_) (fun c9 => ?_)
    · replace w := w.1 c9
      refine v_iconstI dX12_asks_31 ?_
      exact v_iret dX12_asks_32 rfl (Nat.zero_le _) (Nat.zero_le _) ⟨rfl, hf5, _, _, rfl, hp4, w⟩
    · replace w := w.2 c9
      refine v_iload_n dX12_asks_19 rfl ?_
      obtain ⟨q10, w⟩ := w
      refine v_i2lI dX12_asks_20 q10.1 q10.2 ?_
      refine v_lconstI (w := 0) dX12_asks_21 rfl ?_
      refine v_ldc2I 3 dX12_asks_22 k_X12_210 rfl ?_
      refine v_callSp dX12_asks_25 ml_X12_175 (sp_X12_in (v := a2) (lo := 0) (hi := 3) (r32_64 q10) (by decide) (by decide)) rfl rfl (Nat.le_of_ble_eq_true rfl) (Nat.le_of_ble_eq_true rfl) (Nat.zero_le _) (Nat.zero_le _) ?_
      refine v_ifneB (tgt := 33) dX12_asks_28 (by decide) (fun c11 => ?_) (fun c11 => ?_)
      · replace w := w.1 c11
        refine v_aload_n dX12_asks_33 rfl ?_
        refine v_callVVw dX12_asks_34 ml_X12_478 (so_X12_layCorners hn hp4  w) ((hp4 77 (by decide)).trans (ent_77 _)) rfl (s_lt hn rfl) rfl rfl (Nat.le_of_ble_eq_true rfl) (Nat.le_of_ble_eq_true rfl) (Nat.zero_le _) (Nat.zero_le _) (fun X13 h14 hp16 hf15 w => ?_)
        have hf17 := Fr.trans hf5 hf15
        refine v_aload_n dX12_asks_37 rfl ?_
        refine v_iload_n dX12_asks_38 rfl ?_
        refine v_iload_n dX12_asks_39 rfl ?_
        refine v_callVIr dX12_asks_40 ml_X12_481 (so_X12_shadeOf hn hp16  w) ((hp16 77 (by decide)).trans (ent_77 _)) rfl (s_lt hn rfl) rfl rfl (Nat.le_of_ble_eq_true rfl) (Nat.le_of_ble_eq_true rfl) (Nat.zero_le _) (Nat.zero_le _) (fun v18 w => ?_)
        refine v_istore dX12_asks_43 (Nat.le_of_ble_eq_true rfl) ?_
        refine v_iload_n dX12_asks_45 rfl ?_
        by_cases c24 : a2 = 0
        · refine v_tabInI (tgt := 72) 0 dX12_asks_46 c24 (by decide) (by decide) (by decide) (by decide) rfl (by decide) ?_
          replace w := w.1 c24
          refine v_iload dX12_asks_72 rfl ?_
          exact v_iret dX12_asks_74 rfl (Nat.zero_le _) (Nat.zero_le _) ⟨rfl, hf17, _, _, rfl, hp16, w⟩
        by_cases c25 : a2 = 1
        · refine v_tabInI (tgt := 75) 1 dX12_asks_46 c25 (by decide) (by decide) (by decide) (by decide) rfl (by decide) ?_
          replace w := w.2.1 c25
          refine v_aload_n dX12_asks_75 rfl ?_
          refine v_iconstI dX12_asks_76 ?_
          refine v_iload_n dX12_asks_77 rfl ?_
          refine v_iload_n dX12_asks_78 rfl ?_
          refine v_iload dX12_asks_79 rfl ?_
          refine v_ldc2I 5 dX12_asks_81 k_X12_484 rfl ?_
          refine v_callVIw dX12_asks_84 ml_X12_486 (so_X12_fieldTells hn hp16  w) ((hp16 77 (by decide)).trans (ent_77 _)) rfl (s_lt hn rfl) rfl rfl (Nat.le_of_ble_eq_true rfl) (Nat.le_of_ble_eq_true rfl) (Nat.zero_le _) (Nat.zero_le _) (fun v26 X27 h28 hp30 hf29 w => ?_)
          have hf31 := Fr.trans hf17 hf29
          exact v_iret dX12_asks_87 rfl (Nat.zero_le _) (Nat.zero_le _) ⟨rfl, hf31, _, _, rfl, hp30, w⟩
        by_cases c32 : a2 = 2
        · refine v_tabInI (tgt := 88) 2 dX12_asks_46 c32 (by decide) (by decide) (by decide) (by decide) rfl (by decide) ?_
          replace w := w.2.2.1 c32
          refine v_aload_n dX12_asks_88 rfl ?_
          refine v_iconstI dX12_asks_89 ?_
          refine v_iload_n dX12_asks_90 rfl ?_
          refine v_iload_n dX12_asks_91 rfl ?_
          refine v_iload dX12_asks_92 rfl ?_
          refine v_ldc2I 3 dX12_asks_94 k_X12_210 rfl ?_
          refine v_callVIw dX12_asks_97 ml_X12_486 (so_X12_fieldTells hn hp16  w) ((hp16 77 (by decide)).trans (ent_77 _)) rfl (s_lt hn rfl) rfl rfl (Nat.le_of_ble_eq_true rfl) (Nat.le_of_ble_eq_true rfl) (Nat.zero_le _) (Nat.zero_le _) (fun v33 X34 h35 hp37 hf36 w => ?_)
          have hf38 := Fr.trans hf17 hf36
          exact v_iret dX12_asks_100 rfl (Nat.zero_le _) (Nat.zero_le _) ⟨rfl, hf38, _, _, rfl, hp37, w⟩
        replace w := w.2.2.2 ⟨c24, c25, c32⟩
        refine v_tabOutI (tgt := 101) dX12_asks_46 q10.1 q10.2 (by omega) (by decide) ?_
        refine v_aload_n dX12_asks_101 rfl ?_
        refine v_iconstI dX12_asks_102 ?_
        refine v_iload_n dX12_asks_103 rfl ?_
        refine v_iload_n dX12_asks_104 rfl ?_
        refine v_iconstI dX12_asks_105 ?_
        refine v_lconstI (w := 1) dX12_asks_106 rfl ?_
        refine v_callVIw dX12_asks_107 ml_X12_486 (so_X12_fieldTells hn hp16  w) ((hp16 77 (by decide)).trans (ent_77 _)) rfl (s_lt hn rfl) rfl rfl (Nat.le_of_ble_eq_true rfl) (Nat.le_of_ble_eq_true rfl) (Nat.zero_le _) (Nat.zero_le _) (fun v39 X40 h41 hp43 hf42 w => ?_)
        have hf44 := Fr.trans hf17 hf42
        exact v_iret dX12_asks_110 rfl (Nat.zero_le _) (Nat.zero_le _) ⟨rfl, hf44, _, _, rfl, hp43, w⟩
      · replace w := w.2 c11
        refine v_iconstI dX12_asks_31 ?_
        exact v_iret dX12_asks_32 rfl (Nat.zero_le _) (Nat.zero_le _) ⟨rfl, hf5, _, _, rfl, hp4, w⟩
theorem dX12_cornerOf_0 : decode cX12_cornerOf 0 = .ok (.aload_n 0, 1) := by decide +kernel
theorem dX12_cornerOf_1 : decode cX12_cornerOf 1 = .ok (.iload_n 1, 1) := by decide +kernel
theorem dX12_cornerOf_2 : decode cX12_cornerOf 2 = .ok (.invokevirtual 464, 3) := by decide +kernel
theorem dX12_cornerOf_5 : decode cX12_cornerOf 5 = .ok (.istore_n 3, 1) := by decide +kernel
theorem dX12_cornerOf_6 : decode cX12_cornerOf 6 = .ok (.iconst 0, 1) := by decide +kernel
theorem dX12_cornerOf_7 : decode cX12_cornerOf 7 = .ok (.istore 4, 2) := by decide +kernel
theorem dX12_cornerOf_9 : decode cX12_cornerOf 9 = .ok (.iload 4, 2) := by decide +kernel
theorem dX12_cornerOf_11 : decode cX12_cornerOf 11 = .ok (.iload_n 2, 1) := by decide +kernel
theorem dX12_cornerOf_12 : decode cX12_cornerOf 12 = .ok (.if_icmp .ge 31, 3) := by decide +kernel
theorem dX12_cornerOf_15 : decode cX12_cornerOf 15 = .ok (.iload_n 3, 1) := by decide +kernel
theorem dX12_cornerOf_16 : decode cX12_cornerOf 16 = .ok (.iconst (-1), 1) := by decide +kernel
theorem dX12_cornerOf_17 : decode cX12_cornerOf 17 = .ok (.if_icmp .eq 26, 3) := by decide +kernel
theorem dX12_cornerOf_20 : decode cX12_cornerOf 20 = .ok (.aload_n 0, 1) := by decide +kernel
theorem dX12_cornerOf_21 : decode cX12_cornerOf 21 = .ok (.iload_n 1, 1) := by decide +kernel
theorem dX12_cornerOf_22 : decode cX12_cornerOf 22 = .ok (.iload_n 3, 1) := by decide +kernel
theorem dX12_cornerOf_23 : decode cX12_cornerOf 23 = .ok (.iload 4, 2) := by decide +kernel
theorem dX12_cornerOf_25 : decode cX12_cornerOf 25 = .ok (.iconst 0, 1) := by decide +kernel
theorem dX12_cornerOf_26 : decode cX12_cornerOf 26 = .ok (.aload_n 0, 1) := by decide +kernel
theorem dX12_cornerOf_27 : decode cX12_cornerOf 27 = .ok (.iload_n 1, 1) := by decide +kernel
theorem dX12_cornerOf_28 : decode cX12_cornerOf 28 = .ok (.iload 4, 2) := by decide +kernel
theorem dX12_cornerOf_30 : decode cX12_cornerOf 30 = .ok (.invokevirtual 229, 3) := by decide +kernel
theorem dX12_cornerOf_33 : decode cX12_cornerOf 33 = .ok (.invokevirtual 467, 3) := by decide +kernel
theorem dX12_cornerOf_36 : decode cX12_cornerOf 36 = .ok (.istore_n 3, 1) := by decide +kernel
theorem dX12_cornerOf_37 : decode cX12_cornerOf 37 = .ok (.iinc 4 1, 3) := by decide +kernel
theorem dX12_cornerOf_40 : decode cX12_cornerOf 40 = .ok (.goto (-31), 3) := by decide +kernel
theorem dX12_cornerOf_43 : decode cX12_cornerOf 43 = .ok (.iload_n 3, 1) := by decide +kernel
theorem dX12_cornerOf_44 : decode cX12_cornerOf 44 = .ok (.ireturn, 1) := by decide +kernel
def w_X12_cornerOf (a0 a1 : Int) (X : XT) (Q : Int → XT → Prop) : Prop :=
  w_X12_beginsAt  a0 X (fun (v1 : Int) => ∃ (I10 : Int → Int → XT → Prop) (m11 : Int → Int → XT → Nat), I10 v1 0 X ∧ ∀ (x7 : Int) (x8 : Int) (X9 : XT), I10 x7 x8 X9 → R32 x8 ∧ R32 a1 ∧ (a1 ≤ x8 → Q x7 X9) ∧ (¬ a1 ≤ x8 → R32 x7 ∧ (x7 = (-1) → Q x7 X9) ∧ (¬ x7 = (-1) → R32 a0 ∧ (FLK (X9 79)) ∧ w_X12_goOn  a0 x7 x8 0 (fRw (X9 79) a0 x8) X9 (fun (v29 : Int) (X30 : XT) => I10 v29 (x8 + 1) X30 ∧ m11 v29 (x8 + 1) X30 < m11 x7 x8 X9))))
set_option maxRecDepth 20000 in
theorem so_X12_cornerOf {n : Nat} {h : Nat → sE} {X : XT} {a0 a1 : Int} {Q : Int → XT → Prop} (hn : 115 ≤ n) (hp : Pic X h) (w : w_X12_cornerOf  a0 a1 X Q) : Sp m_X12_cornerOf 9 0 0 [.ref 77, .int (iI a0), .int (iI a1)] n h (pIw n h Q) := by
  unfold w_X12_cornerOf at w
  refine Sp.ofV (by decide +kernel) (Nat.le_of_ble_eq_true rfl) ?_
  have hf : Fr h h := fun _ _ => rfl
  refine v_aload_n dX12_cornerOf_0 rfl ?_
  refine v_iload_n dX12_cornerOf_1 rfl ?_
  refine v_callVIr dX12_cornerOf_2 ml_X12_464 (so_X12_beginsAt hn hp  w) ((hp 77 (by decide)).trans (ent_77 _)) rfl (s_lt hn rfl) rfl rfl (Nat.le_of_ble_eq_true rfl) (Nat.le_of_ble_eq_true rfl) (Nat.zero_le _) (Nat.zero_le _) (fun v1 w => ?_)
  refine v_istore_n dX12_cornerOf_5 (Nat.le_of_ble_eq_true rfl) ?_
  refine v_iconstI dX12_cornerOf_6 ?_
  refine v_istore dX12_cornerOf_7 (Nat.le_of_ble_eq_true rfl) ?_
  refine v_pick [2, 3, 4, 1, 0] rfl ?_
  obtain ⟨I10, m11, wi14, wl13⟩ := w
  have hL15 : ∀ (N18 : Nat) (x7 : Int) (x8 : Int) (X9 : XT) (h19 : Nat → sE), m11 x7 x8 X9 < N18 → I10 x7 x8 X9 → Pic X9 h19 → Fr h h19 → V (m_X12_cornerOf, 9, 0, 0, n, pIw n h Q, s_G0) 0 0 n h19 9 [(0, .ref 77), (1, .int (iI a0)), (2, .int (iI a1)), (3, .int (iI x7)), (4, .int (iI x8))] [] := by
    intro N18
    induction N18 with
    | zero => intro x7 x8 X9 h19 hm16; exact absurd hm16 (Nat.not_lt_zero _)
    | succ N18 ih12 =>
      intro x7 x8 X9 h19 hm16 hI17 hp20 hf21
      have w := wl13 x7 x8 X9 hI17
      refine v_iload dX12_cornerOf_9 rfl ?_
      refine v_iload_n dX12_cornerOf_11 rfl ?_
      obtain ⟨q22, q23, w⟩ := w
      refine v_icmp_geI (tgt := 43) dX12_cornerOf_12 (by decide) q22.1 q22.2 q23.1 q23.2 (fun c24 => ?_) (fun c24 => ?_)
      · replace w := w.1 c24
        refine v_iload_n dX12_cornerOf_43 rfl ?_
        exact v_iret dX12_cornerOf_44 rfl (Nat.zero_le _) (Nat.zero_le _) ⟨rfl, hf21, _, _, rfl, hp20, w⟩
      · replace w := w.2 c24
        refine v_iload_n dX12_cornerOf_15 rfl ?_
        refine v_iconstI dX12_cornerOf_16 ?_
        obtain ⟨q25, w⟩ := w
        refine v_icmp_eqI (tgt := 43) dX12_cornerOf_17 (by decide) q25.1 q25.2 (by decide) (by decide) (fun c26 => ?_) (fun c26 => ?_)
        · replace w := w.1 c26
          refine v_iload_n dX12_cornerOf_43 rfl ?_
          exact v_iret dX12_cornerOf_44 rfl (Nat.zero_le _) (Nat.zero_le _) ⟨rfl, hf21, _, _, rfl, hp20, w⟩
        · replace w := w.2 c26
          refine v_aload_n dX12_cornerOf_20 rfl ?_
          refine v_iload_n dX12_cornerOf_21 rfl ?_
          refine v_iload_n dX12_cornerOf_22 rfl ?_
          refine v_iload dX12_cornerOf_23 rfl ?_
          refine v_iconstI dX12_cornerOf_25 ?_
          refine v_aload_n dX12_cornerOf_26 rfl ?_
          refine v_iload_n dX12_cornerOf_27 rfl ?_
          refine v_iload dX12_cornerOf_28 rfl ?_
          obtain ⟨q27, q28, w⟩ := w
          refine v_callVp dX12_cornerOf_30 ml_X12_229 (sv_X12_flagOf (a := a0) (b := x8) (g77 := X9 77) (g79 := X9 79) hn (hp20 77 (by decide)) (hp20 79 (by decide)) q27 q22 q28) ((hp20 77 (by decide)).trans (ent_77 _)) rfl (s_lt hn rfl) rfl rfl (Nat.le_of_ble_eq_true rfl) (Nat.le_of_ble_eq_true rfl) (Nat.zero_le _) (Nat.zero_le _) ?_
          refine v_callVIw dX12_cornerOf_33 ml_X12_467 (so_X12_goOn hn hp20  w) ((hp20 77 (by decide)).trans (ent_77 _)) rfl (s_lt hn rfl) rfl rfl (Nat.le_of_ble_eq_true rfl) (Nat.le_of_ble_eq_true rfl) (Nat.zero_le _) (Nat.zero_le _) (fun v29 X30 h31 hp33 hf32 w => ?_)
          have hf34 := Fr.trans hf21 hf32
          refine v_istore_n dX12_cornerOf_36 (Nat.le_of_ble_eq_true rfl) ?_
          refine v_iincI dX12_cornerOf_37 rfl (Nat.le_of_ble_eq_true rfl) ?_
          refine v_goto (tgt := 9) dX12_cornerOf_40 (by decide) ?_
          refine v_pick [2, 3, 4, 1, 0] rfl ?_
          exact ih12 _ _ _ _ (Nat.lt_of_lt_of_le w.2 (Nat.le_of_lt_succ hm16)) w.1 hp33 hf34
  exact hL15 _ _ _ _ _ (Nat.lt_succ_self _) wi14 hp hf
theorem dX12_at_0 : decode cX12_at 0 = .ok (.aload_n 0, 1) := by decide +kernel
theorem dX12_at_1 : decode cX12_at 1 = .ok (.iconst 0, 1) := by decide +kernel
theorem dX12_at_2 : decode cX12_at 2 = .ok (.putfield 169, 3) := by decide +kernel
theorem dX12_at_5 : decode cX12_at 5 = .ok (.aload_n 0, 1) := by decide +kernel
theorem dX12_at_6 : decode cX12_at 6 = .ok (.iload_n 1, 1) := by decide +kernel
theorem dX12_at_7 : decode cX12_at 7 = .ok (.invokevirtual 219, 3) := by decide +kernel
theorem dX12_at_10 : decode cX12_at 10 = .ok (.ifCond .eq 22, 3) := by decide +kernel
theorem dX12_at_13 : decode cX12_at 13 = .ok (.iload_n 2, 1) := by decide +kernel
theorem dX12_at_14 : decode cX12_at 14 = .ok (.invokestatic 236, 3) := by decide +kernel
theorem dX12_at_17 : decode cX12_at 17 = .ok (.ifCond .eq 15, 3) := by decide +kernel
theorem dX12_at_20 : decode cX12_at 20 = .ok (.iload_n 3, 1) := by decide +kernel
theorem dX12_at_21 : decode cX12_at 21 = .ok (.i2l, 1) := by decide +kernel
theorem dX12_at_22 : decode cX12_at 22 = .ok (.lconst 0, 1) := by decide +kernel
theorem dX12_at_23 : decode cX12_at 23 = .ok (.ldc2_w 203, 3) := by decide +kernel
theorem dX12_at_26 : decode cX12_at 26 = .ok (.invokestatic 175, 3) := by decide +kernel
theorem dX12_at_29 : decode cX12_at 29 = .ok (.ifCond .ne 7, 3) := by decide +kernel
theorem dX12_at_32 : decode cX12_at 32 = .ok (.sipush (-1000), 3) := by decide +kernel
theorem dX12_at_35 : decode cX12_at 35 = .ok (.ireturn, 1) := by decide +kernel
theorem dX12_at_36 : decode cX12_at 36 = .ok (.aload_n 0, 1) := by decide +kernel
theorem dX12_at_37 : decode cX12_at 37 = .ok (.iload_n 1, 1) := by decide +kernel
theorem dX12_at_38 : decode cX12_at 38 = .ok (.iload_n 2, 1) := by decide +kernel
theorem dX12_at_39 : decode cX12_at 39 = .ok (.invokevirtual 490, 3) := by decide +kernel
theorem dX12_at_42 : decode cX12_at 42 = .ok (.istore 4, 2) := by decide +kernel
theorem dX12_at_44 : decode cX12_at 44 = .ok (.iload 4, 2) := by decide +kernel
theorem dX12_at_46 : decode cX12_at 46 = .ok (.iconst (-1), 1) := by decide +kernel
theorem dX12_at_47 : decode cX12_at 47 = .ok (.if_icmp .ne 7, 3) := by decide +kernel
theorem dX12_at_50 : decode cX12_at 50 = .ok (.sipush (-1000), 3) := by decide +kernel
theorem dX12_at_53 : decode cX12_at 53 = .ok (.ireturn, 1) := by decide +kernel
theorem dX12_at_54 : decode cX12_at 54 = .ok (.iload_n 3, 1) := by decide +kernel
theorem dX12_at_55 : decode cX12_at 55 = .ok (.ifCond .ne 11, 3) := by decide +kernel
theorem dX12_at_58 : decode cX12_at 58 = .ok (.iload 4, 2) := by decide +kernel
theorem dX12_at_60 : decode cX12_at 60 = .ok (.invokestatic 417, 3) := by decide +kernel
theorem dX12_at_63 : decode cX12_at 63 = .ok (.goto 45, 3) := by decide +kernel
theorem dX12_at_66 : decode cX12_at 66 = .ok (.iload_n 3, 1) := by decide +kernel
theorem dX12_at_67 : decode cX12_at 67 = .ok (.iconst 1, 1) := by decide +kernel
theorem dX12_at_68 : decode cX12_at 68 = .ok (.if_icmp .ne 11, 3) := by decide +kernel
theorem dX12_at_71 : decode cX12_at 71 = .ok (.iload 4, 2) := by decide +kernel
theorem dX12_at_73 : decode cX12_at 73 = .ok (.invokestatic 420, 3) := by decide +kernel
theorem dX12_at_76 : decode cX12_at 76 = .ok (.goto 32, 3) := by decide +kernel
theorem dX12_at_79 : decode cX12_at 79 = .ok (.aload_n 0, 1) := by decide +kernel
theorem dX12_at_80 : decode cX12_at 80 = .ok (.iload_n 1, 1) := by decide +kernel
theorem dX12_at_81 : decode cX12_at 81 = .ok (.iload 4, 2) := by decide +kernel
theorem dX12_at_83 : decode cX12_at 83 = .ok (.iload_n 2, 1) := by decide +kernel
theorem dX12_at_84 : decode cX12_at 84 = .ok (.invokevirtual 445, 3) := by decide +kernel
theorem dX12_at_87 : decode cX12_at 87 = .ok (.ifCond .eq 7, 3) := by decide +kernel
theorem dX12_at_90 : decode cX12_at 90 = .ok (.iconst 1, 1) := by decide +kernel
theorem dX12_at_91 : decode cX12_at 91 = .ok (.goto 17, 3) := by decide +kernel
theorem dX12_at_94 : decode cX12_at 94 = .ok (.aload_n 0, 1) := by decide +kernel
theorem dX12_at_95 : decode cX12_at 95 = .ok (.iload 4, 2) := by decide +kernel
theorem dX12_at_97 : decode cX12_at 97 = .ok (.invokevirtual 442, 3) := by decide +kernel
theorem dX12_at_100 : decode cX12_at 100 = .ok (.ifCond .eq 7, 3) := by decide +kernel
theorem dX12_at_103 : decode cX12_at 103 = .ok (.iconst 2, 1) := by decide +kernel
theorem dX12_at_104 : decode cX12_at 104 = .ok (.goto 4, 3) := by decide +kernel
theorem dX12_at_107 : decode cX12_at 107 = .ok (.iconst 0, 1) := by decide +kernel
theorem dX12_at_108 : decode cX12_at 108 = .ok (.ireturn, 1) := by decide +kernel
def w_X12_at (a0 a1 a2 : Int) (X : XT) (Q : Int → XT → Prop) : Prop :=
  R32 a0 ∧ (0 ≤ (x_st X 77 0 0) 79 0 ∧ (x_st X 77 0 0) 79 0 ≤ 5) ∧ (¬ (0 ≤ a0 ∧ a0 ≤ (x_st X 77 0 0) 79 0 - 1) → Q (-1000) (x_st X 77 0 0)) ∧ ((0 ≤ a0 ∧ a0 ≤ (x_st X 77 0 0) 79 0 - 1) → R32 a1 ∧ (¬ (0 ≤ a1 ∧ a1 ≤ 11) → Q (-1000) (x_st X 77 0 0)) ∧ ((0 ≤ a1 ∧ a1 ≤ 11) → R32 a2 ∧ ((0 ≤ a2 ∧ a2 ≤ 2) → w_X12_cornerOf  a0 a1 (x_st X 77 0 0) (fun (v13 : Int) (X14 : XT) => R32 v13 ∧ (¬ v13 = (-1) → (¬ a2 = 0 → (¬ a2 = 1 → w_X12_isBarred  a0 v13 a1 X14 (fun (v23 : Int) (X24 : XT) => R32 v23 ∧ (v23 = 0 → w_X12_isWet  v13 X24 (fun (v31 : Int) => R32 v31 ∧ (v31 = 0 → Q 0 X24) ∧ (¬ v31 = 0 → Q 2 X24))) ∧ (¬ v23 = 0 → Q 1 X24))) ∧ (a2 = 1 → (0 ≤ v13 ∧ v13 ≤ 2147483647) ∧ Q (v13 / 24 - 8) X14)) ∧ (a2 = 0 → (0 ≤ v13 ∧ v13 ≤ 2147483647) ∧ Q (v13 % 24 - 8) X14)) ∧ (v13 = (-1) → Q (-1000) X14))) ∧ (¬ (0 ≤ a2 ∧ a2 ≤ 2) → Q (-1000) (x_st X 77 0 0))))
set_option maxRecDepth 20000 in
theorem so_X12_at {n : Nat} {h : Nat → sE} {X : XT} {a0 a1 a2 : Int} {Q : Int → XT → Prop} (hn : 115 ≤ n) (hp : Pic X h) (w : w_X12_at  a0 a1 a2 X Q) : Sp m_X12_at 10 0 0 [.ref 77, .int (iI a0), .int (iI a1), .int (iI a2)] n h (pIw n h Q) := by
  unfold w_X12_at at w
  refine Sp.ofV (by decide +kernel) (Nat.le_of_ble_eq_true rfl) ?_
  have hf : Fr h h := fun _ _ => rfl
  refine v_aload_n dX12_at_0 rfl ?_
  refine v_iconstI dX12_at_1 ?_
  refine v_put dX12_at_2 fl_X12_169 ((hp 77 (by decide)).trans (ent_77 _)) (s_lt hn rfl) (Nat.le_of_ble_eq_true rfl) (fun _ => ⟨rfl, rfl⟩) trivial (fun h1 E2 F3 => ?_)
  have hp4 := pic_st hp (show h1 77 = ent 77 (uI _ 0 0) from E2) F3
  have hf5 := Fr.up (c := 77) hf F3 rfl
  refine v_aload_n dX12_at_5 rfl ?_
  refine v_iload_n dX12_at_6 rfl ?_
  obtain ⟨q6, q7, w⟩ := w
  refine v_callVp dX12_at_7 ml_X12_219 (sp_X12_isCloud (a := a0) (g77 := (x_st X 77 0 0) 77) (g79 := (x_st X 77 0 0) 79) hn (hp4 77 (by decide)) (hp4 79 (by decide)) q6 q7) ((hp4 77 (by decide)).trans (ent_77 _)) rfl (s_lt hn rfl) rfl rfl (Nat.le_of_ble_eq_true rfl) (Nat.le_of_ble_eq_true rfl) (Nat.zero_le _) (Nat.zero_le _) ?_
  refine v_ifeqB (tgt := 32) dX12_at_10 (by decide) (fun c8 => ?_) (fun c8 => ?_)
  · replace w := w.1 c8
    refine v_sipushI dX12_at_32 rfl ?_
    exact v_iret dX12_at_35 rfl (Nat.zero_le _) (Nat.zero_le _) ⟨rfl, hf5, _, _, rfl, hp4, w⟩
  · replace w := w.2 c8
    refine v_iload_n dX12_at_13 rfl ?_
    obtain ⟨q9, w⟩ := w
    refine v_callSp dX12_at_14 ml_X12_236 (sp_X12_isHour (a := a1) q9) rfl rfl (Nat.le_of_ble_eq_true rfl) (Nat.le_of_ble_eq_true rfl) (Nat.zero_le _) (Nat.zero_le _) ?_
    refine v_ifeqB (tgt := 32) dX12_at_17 (by decide) (fun c10 => ?_) (fun c10 => ?_)
    · replace w := w.1 c10
      refine v_sipushI dX12_at_32 rfl ?_
      exact v_iret dX12_at_35 rfl (Nat.zero_le _) (Nat.zero_le _) ⟨rfl, hf5, _, _, rfl, hp4, w⟩
    · replace w := w.2 c10
      refine v_iload_n dX12_at_20 rfl ?_
      obtain ⟨q11, w⟩ := w
      refine v_i2lI dX12_at_21 q11.1 q11.2 ?_
      refine v_lconstI (w := 0) dX12_at_22 rfl ?_
      refine v_ldc2I 2 dX12_at_23 k_X12_203 rfl ?_
      refine v_callSp dX12_at_26 ml_X12_175 (sp_X12_in (v := a2) (lo := 0) (hi := 2) (r32_64 q11) (by decide) (by decide)) rfl rfl (Nat.le_of_ble_eq_true rfl) (Nat.le_of_ble_eq_true rfl) (Nat.zero_le _) (Nat.zero_le _) ?_
      refine v_ifneB (tgt := 36) dX12_at_29 (by decide) (fun c12 => ?_) (fun c12 => ?_)
      · replace w := w.1 c12
        refine v_aload_n dX12_at_36 rfl ?_
        refine v_iload_n dX12_at_37 rfl ?_
        refine v_iload_n dX12_at_38 rfl ?_
        refine v_callVIw dX12_at_39 ml_X12_490 (so_X12_cornerOf hn hp4  w) ((hp4 77 (by decide)).trans (ent_77 _)) rfl (s_lt hn rfl) rfl rfl (Nat.le_of_ble_eq_true rfl) (Nat.le_of_ble_eq_true rfl) (Nat.zero_le _) (Nat.zero_le _) (fun v13 X14 h15 hp17 hf16 w => ?_)
        have hf18 := Fr.trans hf5 hf16
        refine v_istore dX12_at_42 (Nat.le_of_ble_eq_true rfl) ?_
        refine v_iload dX12_at_44 rfl ?_
        refine v_iconstI dX12_at_46 ?_
        obtain ⟨q19, w⟩ := w
        refine v_icmp_neI (tgt := 54) dX12_at_47 (by decide) q19.1 q19.2 (by decide) (by decide) (fun c20 => ?_) (fun c20 => ?_)
        · replace w := w.1 c20
          refine v_iload_n dX12_at_54 rfl ?_
          refine v_if_neI (tgt := 66) dX12_at_55 (by decide) q11.1 q11.2 (fun c21 => ?_) (fun c21 => ?_)
          · replace w := w.1 c21
            refine v_iload_n dX12_at_66 rfl ?_
            refine v_iconstI dX12_at_67 ?_
            refine v_icmp_neI (tgt := 79) dX12_at_68 (by decide) q11.1 q11.2 (by decide) (by decide) (fun c22 => ?_) (fun c22 => ?_)
            · replace w := w.1 c22
              refine v_aload_n dX12_at_79 rfl ?_
              refine v_iload_n dX12_at_80 rfl ?_
              refine v_iload dX12_at_81 rfl ?_
              refine v_iload_n dX12_at_83 rfl ?_
              refine v_callVIw dX12_at_84 ml_X12_445 (so_X12_isBarred hn hp17  w) ((hp17 77 (by decide)).trans (ent_77 _)) rfl (s_lt hn rfl) rfl rfl (Nat.le_of_ble_eq_true rfl) (Nat.le_of_ble_eq_true rfl) (Nat.zero_le _) (Nat.zero_le _) (fun v23 X24 h25 hp27 hf26 w => ?_)
              have hf28 := Fr.trans hf18 hf26
              obtain ⟨q29, w⟩ := w
              refine v_if_eqI (tgt := 94) dX12_at_87 (by decide) q29.1 q29.2 (fun c30 => ?_) (fun c30 => ?_)
              · replace w := w.1 c30
                refine v_aload_n dX12_at_94 rfl ?_
                refine v_iload dX12_at_95 rfl ?_
                refine v_callVIr dX12_at_97 ml_X12_442 (so_X12_isWet hn hp27  w) ((hp27 77 (by decide)).trans (ent_77 _)) rfl (s_lt hn rfl) rfl rfl (Nat.le_of_ble_eq_true rfl) (Nat.le_of_ble_eq_true rfl) (Nat.zero_le _) (Nat.zero_le _) (fun v31 w => ?_)
                obtain ⟨q37, w⟩ := w
                refine v_if_eqI (tgt := 107) dX12_at_100 (by decide) q37.1 q37.2 (fun c38 => ?_) (fun c38 => ?_)
                · replace w := w.1 c38
                  refine v_iconstI dX12_at_107 ?_
                  exact v_iret dX12_at_108 rfl (Nat.zero_le _) (Nat.zero_le _) ⟨rfl, hf28, _, _, rfl, hp27, w⟩
                · replace w := w.2 c38
                  refine v_iconstI dX12_at_103 ?_
                  refine v_goto (tgt := 108) dX12_at_104 (by decide) ?_
                  exact v_iret dX12_at_108 rfl (Nat.zero_le _) (Nat.zero_le _) ⟨rfl, hf28, _, _, rfl, hp27, w⟩
              · replace w := w.2 c30
                refine v_iconstI dX12_at_90 ?_
                refine v_goto (tgt := 108) dX12_at_91 (by decide) ?_
                exact v_iret dX12_at_108 rfl (Nat.zero_le _) (Nat.zero_le _) ⟨rfl, hf28, _, _, rfl, hp27, w⟩
            · replace w := w.2 c22
              refine v_iload dX12_at_71 rfl ?_
              obtain ⟨q39, w⟩ := w
              refine v_callSp dX12_at_73 ml_X12_420 (sp_X12_yOf (a := v13) q39) rfl rfl (Nat.le_of_ble_eq_true rfl) (Nat.le_of_ble_eq_true rfl) (Nat.zero_le _) (Nat.zero_le _) ?_
              refine v_goto (tgt := 108) dX12_at_76 (by decide) ?_
              exact v_iret dX12_at_108 rfl (Nat.zero_le _) (Nat.zero_le _) ⟨rfl, hf18, _, _, rfl, hp17, w⟩
          · replace w := w.2 c21
            refine v_iload dX12_at_58 rfl ?_
            obtain ⟨q40, w⟩ := w
            refine v_callSp dX12_at_60 ml_X12_417 (sp_X12_xOf (a := v13) q40) rfl rfl (Nat.le_of_ble_eq_true rfl) (Nat.le_of_ble_eq_true rfl) (Nat.zero_le _) (Nat.zero_le _) ?_
            refine v_goto (tgt := 108) dX12_at_63 (by decide) ?_
            exact v_iret dX12_at_108 rfl (Nat.zero_le _) (Nat.zero_le _) ⟨rfl, hf18, _, _, rfl, hp17, w⟩
        · replace w := w.2 c20
          refine v_sipushI dX12_at_50 rfl ?_
          exact v_iret dX12_at_53 rfl (Nat.zero_le _) (Nat.zero_le _) ⟨rfl, hf18, _, _, rfl, hp17, w⟩
      · replace w := w.2 c12
        refine v_sipushI dX12_at_32 rfl ?_
        exact v_iret dX12_at_35 rfl (Nat.zero_le _) (Nat.zero_le _) ⟨rfl, hf5, _, _, rfl, hp4, w⟩
theorem dX12_dark_0 : decode cX12_dark 0 = .ok (.aload_n 0, 1) := by decide +kernel
theorem dX12_dark_1 : decode cX12_dark 1 = .ok (.iconst 0, 1) := by decide +kernel
theorem dX12_dark_2 : decode cX12_dark 2 = .ok (.putfield 169, 3) := by decide +kernel
theorem dX12_dark_5 : decode cX12_dark 5 = .ok (.iload_n 1, 1) := by decide +kernel
theorem dX12_dark_6 : decode cX12_dark 6 = .ok (.invokestatic 236, 3) := by decide +kernel
theorem dX12_dark_9 : decode cX12_dark 9 = .ok (.ifCond .ne 5, 3) := by decide +kernel
theorem dX12_dark_12 : decode cX12_dark 12 = .ok (.iconst (-1), 1) := by decide +kernel
theorem dX12_dark_13 : decode cX12_dark 13 = .ok (.ireturn, 1) := by decide +kernel
theorem dX12_dark_14 : decode cX12_dark 14 = .ok (.aload_n 0, 1) := by decide +kernel
theorem dX12_dark_15 : decode cX12_dark 15 = .ok (.invokevirtual 478, 3) := by decide +kernel
theorem dX12_dark_18 : decode cX12_dark 18 = .ok (.iconst 0, 1) := by decide +kernel
theorem dX12_dark_19 : decode cX12_dark 19 = .ok (.istore_n 2, 1) := by decide +kernel
theorem dX12_dark_20 : decode cX12_dark 20 = .ok (.iconst 0, 1) := by decide +kernel
theorem dX12_dark_21 : decode cX12_dark 21 = .ok (.istore_n 3, 1) := by decide +kernel
theorem dX12_dark_22 : decode cX12_dark 22 = .ok (.iload_n 3, 1) := by decide +kernel
theorem dX12_dark_23 : decode cX12_dark 23 = .ok (.bipush 64, 2) := by decide +kernel
theorem dX12_dark_25 : decode cX12_dark 25 = .ok (.if_icmp .ge 26, 3) := by decide +kernel
theorem dX12_dark_28 : decode cX12_dark 28 = .ok (.iload_n 2, 1) := by decide +kernel
theorem dX12_dark_29 : decode cX12_dark 29 = .ok (.aload_n 0, 1) := by decide +kernel
theorem dX12_dark_30 : decode cX12_dark 30 = .ok (.iload_n 3, 1) := by decide +kernel
theorem dX12_dark_31 : decode cX12_dark 31 = .ok (.iload_n 1, 1) := by decide +kernel
theorem dX12_dark_32 : decode cX12_dark 32 = .ok (.invokevirtual 481, 3) := by decide +kernel
theorem dX12_dark_35 : decode cX12_dark 35 = .ok (.ifCond .le 7, 3) := by decide +kernel
theorem dX12_dark_38 : decode cX12_dark 38 = .ok (.iconst 1, 1) := by decide +kernel
theorem dX12_dark_39 : decode cX12_dark 39 = .ok (.goto 4, 3) := by decide +kernel
theorem dX12_dark_42 : decode cX12_dark 42 = .ok (.iconst 0, 1) := by decide +kernel
theorem dX12_dark_43 : decode cX12_dark 43 = .ok (.iadd, 1) := by decide +kernel
theorem dX12_dark_44 : decode cX12_dark 44 = .ok (.istore_n 2, 1) := by decide +kernel
theorem dX12_dark_45 : decode cX12_dark 45 = .ok (.iinc 3 1, 3) := by decide +kernel
theorem dX12_dark_48 : decode cX12_dark 48 = .ok (.goto (-26), 3) := by decide +kernel
theorem dX12_dark_51 : decode cX12_dark 51 = .ok (.iload_n 2, 1) := by decide +kernel
theorem dX12_dark_52 : decode cX12_dark 52 = .ok (.ireturn, 1) := by decide +kernel
def w_X12_dark (a0 : Int) (X : XT) (Q : Int → XT → Prop) : Prop :=
  R32 a0 ∧ ((0 ≤ a0 ∧ a0 ≤ 11) → w_X12_layCorners   (x_st X 77 0 0) (fun (X9 : XT) => ∃ (I16 : Int → Int → Prop) (m17 : Int → Int → Nat), I16 0 0 ∧ ∀ (x14 : Int) (x15 : Int), I16 x14 x15 → R32 x15 ∧ (64 ≤ x15 → Q x14 X9) ∧ (¬ 64 ≤ x15 → w_X12_shadeOf  x15 a0 X9 (fun (v27 : Int) => ∀ J34 : Int → Prop, (∀ (v33 : Int), (I16 (x14 + v33) (x15 + 1) ∧ m17 (x14 + v33) (x15 + 1) < m17 x14 x15) → J34 v33) → R32 v27 ∧ (v27 ≤ 0 → J34 0) ∧ (¬ v27 ≤ 0 → J34 1))))) ∧ (¬ (0 ≤ a0 ∧ a0 ≤ 11) → Q (-1) (x_st X 77 0 0))
set_option maxRecDepth 20000 in
theorem so_X12_dark {n : Nat} {h : Nat → sE} {X : XT} {a0 : Int} {Q : Int → XT → Prop} (hn : 115 ≤ n) (hp : Pic X h) (w : w_X12_dark  a0 X Q) : Sp m_X12_dark 10 0 0 [.ref 77, .int (iI a0)] n h (pIw n h Q) := by
  unfold w_X12_dark at w
  refine Sp.ofV (by decide +kernel) (Nat.le_of_ble_eq_true rfl) ?_
  have hf : Fr h h := fun _ _ => rfl
  refine v_aload_n dX12_dark_0 rfl ?_
  refine v_iconstI dX12_dark_1 ?_
  refine v_put dX12_dark_2 fl_X12_169 ((hp 77 (by decide)).trans (ent_77 _)) (s_lt hn rfl) (Nat.le_of_ble_eq_true rfl) (fun _ => ⟨rfl, rfl⟩) trivial (fun h1 E2 F3 => ?_)
  have hp4 := pic_st hp (show h1 77 = ent 77 (uI _ 0 0) from E2) F3
  have hf5 := Fr.up (c := 77) hf F3 rfl
  refine v_iload_n dX12_dark_5 rfl ?_
  obtain ⟨q6, w⟩ := w
  refine v_callSp dX12_dark_6 ml_X12_236 (sp_X12_isHour (a := a0) q6) rfl rfl (Nat.le_of_ble_eq_true rfl) (Nat.le_of_ble_eq_true rfl) (Nat.zero_le _) (Nat.zero_le _) ?_
  refine v_ifneB (tgt := 14) dX12_dark_9 (by decide) (fun c7 => ?_) (fun c7 => ?_)
  · replace w := w.1 c7
    refine v_aload_n dX12_dark_14 rfl ?_
    refine v_callVVw dX12_dark_15 ml_X12_478 (so_X12_layCorners hn hp4  w) ((hp4 77 (by decide)).trans (ent_77 _)) rfl (s_lt hn rfl) rfl rfl (Nat.le_of_ble_eq_true rfl) (Nat.le_of_ble_eq_true rfl) (Nat.zero_le _) (Nat.zero_le _) (fun X9 h10 hp12 hf11 w => ?_)
    have hf13 := Fr.trans hf5 hf11
    refine v_iconstI dX12_dark_18 ?_
    refine v_istore_n dX12_dark_19 (Nat.le_of_ble_eq_true rfl) ?_
    refine v_iconstI dX12_dark_20 ?_
    refine v_istore_n dX12_dark_21 (Nat.le_of_ble_eq_true rfl) ?_
    refine v_pick [2, 3, 1, 0] rfl ?_
    obtain ⟨I16, m17, wi20, wl19⟩ := w
    have hL21 : ∀ (N24 : Nat) (x14 : Int) (x15 : Int), m17 x14 x15 < N24 → I16 x14 x15 → V (m_X12_dark, 10, 0, 0, n, pIw n h Q, s_G0) 0 0 n h10 22 [(0, .ref 77), (1, .int (iI a0)), (2, .int (iI x14)), (3, .int (iI x15))] [] := by
      intro N24
      induction N24 with
      | zero => intro x14 x15  hm22; exact absurd hm22 (Nat.not_lt_zero _)
      | succ N24 ih18 =>
        intro x14 x15  hm22 hI23
        have w := wl19 x14 x15 hI23
        refine v_iload_n dX12_dark_22 rfl ?_
        refine v_bipushI dX12_dark_23 rfl ?_
        obtain ⟨q25, w⟩ := w
        refine v_icmp_geI (tgt := 51) dX12_dark_25 (by decide) q25.1 q25.2 (by decide) (by decide) (fun c26 => ?_) (fun c26 => ?_)
        · replace w := w.1 c26
          refine v_iload_n dX12_dark_51 rfl ?_
          exact v_iret dX12_dark_52 rfl (Nat.zero_le _) (Nat.zero_le _) ⟨rfl, hf13, _, _, rfl, hp12, w⟩
        · replace w := w.2 c26
          refine v_iload_n dX12_dark_28 rfl ?_
          refine v_aload_n dX12_dark_29 rfl ?_
          refine v_iload_n dX12_dark_30 rfl ?_
          refine v_iload_n dX12_dark_31 rfl ?_
          refine v_callVIr dX12_dark_32 ml_X12_481 (so_X12_shadeOf hn hp12  w) ((hp12 77 (by decide)).trans (ent_77 _)) rfl (s_lt hn rfl) rfl rfl (Nat.le_of_ble_eq_true rfl) (Nat.le_of_ble_eq_true rfl) (Nat.zero_le _) (Nat.zero_le _) (fun v27 w => ?_)
          replace w := w (fun (v33 : Int) => V (m_X12_dark, 10, 0, 0, n, pIw n h Q, s_G0) 0 0 n h10 43 [(0, .ref 77), (1, .int (iI a0)), (3, .int (iI x15))] [.int (iI v33), .int (iI x14)]) (by
            intro v33 w
            refine v_iaddI dX12_dark_43 ?_
            refine v_istore_n dX12_dark_44 (Nat.le_of_ble_eq_true rfl) ?_
            refine v_iincI dX12_dark_45 rfl (Nat.le_of_ble_eq_true rfl) ?_
            refine v_goto (tgt := 22) dX12_dark_48 (by decide) ?_
            refine v_pick [2, 3, 1, 0] rfl ?_
            exact ih18 _ _ (Nat.lt_of_lt_of_le w.2 (Nat.le_of_lt_succ hm22)) w.1
          )
          obtain ⟨q35, w⟩ := w
          refine v_if_leI (tgt := 42) dX12_dark_35 (by decide) q35.1 q35.2 (fun c36 => ?_) (fun c36 => ?_)
          · replace w := w.1 c36
            refine v_iconstI dX12_dark_42 ?_
            refine v_pick [0, 1, 3] rfl ?_
            exact w
          · replace w := w.2 c36
            refine v_iconstI dX12_dark_38 ?_
            refine v_goto (tgt := 43) dX12_dark_39 (by decide) ?_
            refine v_pick [0, 1, 3] rfl ?_
            exact w
    exact hL21 _ _ _ (Nat.lt_succ_self _) wi20
  · replace w := w.2 c7
    refine v_iconstI dX12_dark_12 ?_
    exact v_iret dX12_dark_13 rfl (Nat.zero_le _) (Nat.zero_le _) ⟨rfl, hf5, _, _, rfl, hp4, w⟩

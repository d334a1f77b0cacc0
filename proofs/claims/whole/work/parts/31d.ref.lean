/-! THE REFERENCE'S METHODS, 4 of 5: texts over the picture, by program (tools/wp.py) -/
theorem dX12_likely_0 : decode cX12_likely 0 = .ok (.aload_n 0, 1) := by decide +kernel
theorem dX12_likely_1 : decode cX12_likely 1 = .ok (.iconst 0, 1) := by decide +kernel
theorem dX12_likely_2 : decode cX12_likely 2 = .ok (.putfield 169, 3) := by decide +kernel
theorem dX12_likely_5 : decode cX12_likely 5 = .ok (.aload_n 0, 1) := by decide +kernel
theorem dX12_likely_6 : decode cX12_likely 6 = .ok (.iload_n 1, 1) := by decide +kernel
theorem dX12_likely_7 : decode cX12_likely 7 = .ok (.invokevirtual 219, 3) := by decide +kernel
theorem dX12_likely_10 : decode cX12_likely 10 = .ok (.ifCond .eq 17, 3) := by decide +kernel
theorem dX12_likely_13 : decode cX12_likely 13 = .ok (.iload_n 2, 1) := by decide +kernel
theorem dX12_likely_14 : decode cX12_likely 14 = .ok (.invokestatic 195, 3) := by decide +kernel
theorem dX12_likely_17 : decode cX12_likely 17 = .ok (.ifCond .eq 10, 3) := by decide +kernel
theorem dX12_likely_20 : decode cX12_likely 20 = .ok (.iload_n 3, 1) := by decide +kernel
theorem dX12_likely_21 : decode cX12_likely 21 = .ok (.invokestatic 236, 3) := by decide +kernel
theorem dX12_likely_24 : decode cX12_likely 24 = .ok (.ifCond .ne 7, 3) := by decide +kernel
theorem dX12_likely_27 : decode cX12_likely 27 = .ok (.ldc2_w 208, 3) := by decide +kernel
theorem dX12_likely_30 : decode cX12_likely 30 = .ok (.lreturn, 1) := by decide +kernel
theorem dX12_likely_31 : decode cX12_likely 31 = .ok (.aload_n 0, 1) := by decide +kernel
theorem dX12_likely_32 : decode cX12_likely 32 = .ok (.getfield 13, 3) := by decide +kernel
theorem dX12_likely_35 : decode cX12_likely 35 = .ok (.bipush 7, 2) := by decide +kernel
theorem dX12_likely_37 : decode cX12_likely 37 = .ok (.iaload, 1) := by decide +kernel
theorem dX12_likely_38 : decode cX12_likely 38 = .ok (.istore 4, 2) := by decide +kernel
theorem dX12_likely_40 : decode cX12_likely 40 = .ok (.iconst 0, 1) := by decide +kernel
theorem dX12_likely_41 : decode cX12_likely 41 = .ok (.istore 5, 2) := by decide +kernel
theorem dX12_likely_43 : decode cX12_likely 43 = .ok (.iload 5, 2) := by decide +kernel
theorem dX12_likely_45 : decode cX12_likely 45 = .ok (.sipush 576, 3) := by decide +kernel
theorem dX12_likely_48 : decode cX12_likely 48 = .ok (.if_icmp .ge 33, 3) := by decide +kernel
theorem dX12_likely_51 : decode cX12_likely 51 = .ok (.aload_n 0, 1) := by decide +kernel
theorem dX12_likely_52 : decode cX12_likely 52 = .ok (.getfield 127, 3) := by decide +kernel
theorem dX12_likely_55 : decode cX12_likely 55 = .ok (.iload 5, 2) := by decide +kernel
theorem dX12_likely_57 : decode cX12_likely 57 = .ok (.iload 5, 2) := by decide +kernel
theorem dX12_likely_59 : decode cX12_likely 59 = .ok (.aload_n 0, 1) := by decide +kernel
theorem dX12_likely_60 : decode cX12_likely 60 = .ok (.iload_n 1, 1) := by decide +kernel
theorem dX12_likely_61 : decode cX12_likely 61 = .ok (.invokevirtual 464, 3) := by decide +kernel
theorem dX12_likely_64 : decode cX12_likely 64 = .ok (.if_icmp .ne 9, 3) := by decide +kernel
theorem dX12_likely_67 : decode cX12_likely 67 = .ok (.ldc2_w 548, 3) := by decide +kernel
theorem dX12_likely_70 : decode cX12_likely 70 = .ok (.goto 4, 3) := by decide +kernel
theorem dX12_likely_73 : decode cX12_likely 73 = .ok (.lconst 0, 1) := by decide +kernel
theorem dX12_likely_74 : decode cX12_likely 74 = .ok (.lastore, 1) := by decide +kernel
theorem dX12_likely_75 : decode cX12_likely 75 = .ok (.iinc 5 1, 3) := by decide +kernel
theorem dX12_likely_78 : decode cX12_likely 78 = .ok (.goto (-35), 3) := by decide +kernel
theorem dX12_likely_81 : decode cX12_likely 81 = .ok (.iconst 0, 1) := by decide +kernel
theorem dX12_likely_82 : decode cX12_likely 82 = .ok (.istore 5, 2) := by decide +kernel
theorem dX12_likely_84 : decode cX12_likely 84 = .ok (.iload 5, 2) := by decide +kernel
theorem dX12_likely_86 : decode cX12_likely 86 = .ok (.iload_n 3, 1) := by decide +kernel
theorem dX12_likely_87 : decode cX12_likely 87 = .ok (.if_icmp .ge 191, 3) := by decide +kernel
theorem dX12_likely_90 : decode cX12_likely 90 = .ok (.iconst 0, 1) := by decide +kernel
theorem dX12_likely_91 : decode cX12_likely 91 = .ok (.istore 6, 2) := by decide +kernel
theorem dX12_likely_93 : decode cX12_likely 93 = .ok (.iload 6, 2) := by decide +kernel
theorem dX12_likely_95 : decode cX12_likely 95 = .ok (.sipush 576, 3) := by decide +kernel
theorem dX12_likely_98 : decode cX12_likely 98 = .ok (.if_icmp .ge 17, 3) := by decide +kernel
theorem dX12_likely_101 : decode cX12_likely 101 = .ok (.aload_n 0, 1) := by decide +kernel
theorem dX12_likely_102 : decode cX12_likely 102 = .ok (.getfield 130, 3) := by decide +kernel
theorem dX12_likely_105 : decode cX12_likely 105 = .ok (.iload 6, 2) := by decide +kernel
theorem dX12_likely_107 : decode cX12_likely 107 = .ok (.lconst 0, 1) := by decide +kernel
theorem dX12_likely_108 : decode cX12_likely 108 = .ok (.lastore, 1) := by decide +kernel
theorem dX12_likely_109 : decode cX12_likely 109 = .ok (.iinc 6 1, 3) := by decide +kernel
theorem dX12_likely_112 : decode cX12_likely 112 = .ok (.goto (-19), 3) := by decide +kernel
theorem dX12_likely_115 : decode cX12_likely 115 = .ok (.aload_n 0, 1) := by decide +kernel
theorem dX12_likely_116 : decode cX12_likely 116 = .ok (.iload_n 1, 1) := by decide +kernel
theorem dX12_likely_117 : decode cX12_likely 117 = .ok (.iload 5, 2) := by decide +kernel
theorem dX12_likely_119 : decode cX12_likely 119 = .ok (.invokevirtual 229, 3) := by decide +kernel
theorem dX12_likely_122 : decode cX12_likely 122 = .ok (.istore 6, 2) := by decide +kernel
theorem dX12_likely_124 : decode cX12_likely 124 = .ok (.iconst 0, 1) := by decide +kernel
theorem dX12_likely_125 : decode cX12_likely 125 = .ok (.istore 7, 2) := by decide +kernel
theorem dX12_likely_127 : decode cX12_likely 127 = .ok (.iload 7, 2) := by decide +kernel
theorem dX12_likely_129 : decode cX12_likely 129 = .ok (.sipush 576, 3) := by decide +kernel
theorem dX12_likely_132 : decode cX12_likely 132 = .ok (.if_icmp .ge 109, 3) := by decide +kernel
theorem dX12_likely_135 : decode cX12_likely 135 = .ok (.aload_n 0, 1) := by decide +kernel
theorem dX12_likely_136 : decode cX12_likely 136 = .ok (.getfield 127, 3) := by decide +kernel
theorem dX12_likely_139 : decode cX12_likely 139 = .ok (.iload 7, 2) := by decide +kernel
theorem dX12_likely_141 : decode cX12_likely 141 = .ok (.laload, 1) := by decide +kernel
theorem dX12_likely_142 : decode cX12_likely 142 = .ok (.lconst 0, 1) := by decide +kernel
theorem dX12_likely_143 : decode cX12_likely 143 = .ok (.lcmp, 1) := by decide +kernel
theorem dX12_likely_144 : decode cX12_likely 144 = .ok (.ifCond .le 91, 3) := by decide +kernel
theorem dX12_likely_147 : decode cX12_likely 147 = .ok (.aload_n 0, 1) := by decide +kernel
theorem dX12_likely_148 : decode cX12_likely 148 = .ok (.iload_n 1, 1) := by decide +kernel
theorem dX12_likely_149 : decode cX12_likely 149 = .ok (.iload 7, 2) := by decide +kernel
theorem dX12_likely_151 : decode cX12_likely 151 = .ok (.iload 5, 2) := by decide +kernel
theorem dX12_likely_153 : decode cX12_likely 153 = .ok (.iconst 0, 1) := by decide +kernel
theorem dX12_likely_154 : decode cX12_likely 154 = .ok (.iload 6, 2) := by decide +kernel
theorem dX12_likely_156 : decode cX12_likely 156 = .ok (.invokevirtual 467, 3) := by decide +kernel
theorem dX12_likely_159 : decode cX12_likely 159 = .ok (.istore 8, 2) := by decide +kernel
theorem dX12_likely_161 : decode cX12_likely 161 = .ok (.aload_n 0, 1) := by decide +kernel
theorem dX12_likely_162 : decode cX12_likely 162 = .ok (.iload_n 1, 1) := by decide +kernel
theorem dX12_likely_163 : decode cX12_likely 163 = .ok (.iload 7, 2) := by decide +kernel
theorem dX12_likely_165 : decode cX12_likely 165 = .ok (.iload 5, 2) := by decide +kernel
theorem dX12_likely_167 : decode cX12_likely 167 = .ok (.iconst 1, 1) := by decide +kernel
theorem dX12_likely_168 : decode cX12_likely 168 = .ok (.iload 6, 2) := by decide +kernel
theorem dX12_likely_170 : decode cX12_likely 170 = .ok (.invokevirtual 467, 3) := by decide +kernel
theorem dX12_likely_173 : decode cX12_likely 173 = .ok (.istore 9, 2) := by decide +kernel
theorem dX12_likely_175 : decode cX12_likely 175 = .ok (.aload_n 0, 1) := by decide +kernel
theorem dX12_likely_176 : decode cX12_likely 176 = .ok (.getfield 127, 3) := by decide +kernel
theorem dX12_likely_179 : decode cX12_likely 179 = .ok (.iload 7, 2) := by decide +kernel
theorem dX12_likely_181 : decode cX12_likely 181 = .ok (.laload, 1) := by decide +kernel
theorem dX12_likely_182 : decode cX12_likely 182 = .ok (.ldc2_w 227, 3) := by decide +kernel
theorem dX12_likely_185 : decode cX12_likely 185 = .ok (.ldiv, 1) := by decide +kernel
theorem dX12_likely_186 : decode cX12_likely 186 = .ok (.lstore 10, 2) := by decide +kernel
theorem dX12_likely_188 : decode cX12_likely 188 = .ok (.iload 8, 2) := by decide +kernel
theorem dX12_likely_190 : decode cX12_likely 190 = .ok (.iconst (-1), 1) := by decide +kernel
theorem dX12_likely_191 : decode cX12_likely 191 = .ok (.if_icmp .eq 22, 3) := by decide +kernel
theorem dX12_likely_194 : decode cX12_likely 194 = .ok (.aload_n 0, 1) := by decide +kernel
theorem dX12_likely_195 : decode cX12_likely 195 = .ok (.getfield 130, 3) := by decide +kernel
theorem dX12_likely_198 : decode cX12_likely 198 = .ok (.iload 8, 2) := by decide +kernel
theorem dX12_likely_200 : decode cX12_likely 200 = .ok (.dup2, 1) := by decide +kernel
theorem dX12_likely_201 : decode cX12_likely 201 = .ok (.laload, 1) := by decide +kernel
theorem dX12_likely_202 : decode cX12_likely 202 = .ok (.lload 10, 2) := by decide +kernel
theorem dX12_likely_204 : decode cX12_likely 204 = .ok (.bipush 10, 2) := by decide +kernel
theorem dX12_likely_206 : decode cX12_likely 206 = .ok (.iload 4, 2) := by decide +kernel
theorem dX12_likely_208 : decode cX12_likely 208 = .ok (.isub, 1) := by decide +kernel
theorem dX12_likely_209 : decode cX12_likely 209 = .ok (.i2l, 1) := by decide +kernel
theorem dX12_likely_210 : decode cX12_likely 210 = .ok (.lmul, 1) := by decide +kernel
theorem dX12_likely_211 : decode cX12_likely 211 = .ok (.ladd, 1) := by decide +kernel
theorem dX12_likely_212 : decode cX12_likely 212 = .ok (.lastore, 1) := by decide +kernel
theorem dX12_likely_213 : decode cX12_likely 213 = .ok (.iload 9, 2) := by decide +kernel
theorem dX12_likely_215 : decode cX12_likely 215 = .ok (.iconst (-1), 1) := by decide +kernel
theorem dX12_likely_216 : decode cX12_likely 216 = .ok (.if_icmp .eq 19, 3) := by decide +kernel
theorem dX12_likely_219 : decode cX12_likely 219 = .ok (.aload_n 0, 1) := by decide +kernel
theorem dX12_likely_220 : decode cX12_likely 220 = .ok (.getfield 130, 3) := by decide +kernel
theorem dX12_likely_223 : decode cX12_likely 223 = .ok (.iload 9, 2) := by decide +kernel
theorem dX12_likely_225 : decode cX12_likely 225 = .ok (.dup2, 1) := by decide +kernel
theorem dX12_likely_226 : decode cX12_likely 226 = .ok (.laload, 1) := by decide +kernel
theorem dX12_likely_227 : decode cX12_likely 227 = .ok (.lload 10, 2) := by decide +kernel
theorem dX12_likely_229 : decode cX12_likely 229 = .ok (.iload 4, 2) := by decide +kernel
theorem dX12_likely_231 : decode cX12_likely 231 = .ok (.i2l, 1) := by decide +kernel
theorem dX12_likely_232 : decode cX12_likely 232 = .ok (.lmul, 1) := by decide +kernel
theorem dX12_likely_233 : decode cX12_likely 233 = .ok (.ladd, 1) := by decide +kernel
theorem dX12_likely_234 : decode cX12_likely 234 = .ok (.lastore, 1) := by decide +kernel
theorem dX12_likely_235 : decode cX12_likely 235 = .ok (.iinc 7 1, 3) := by decide +kernel
theorem dX12_likely_238 : decode cX12_likely 238 = .ok (.goto (-111), 3) := by decide +kernel
theorem dX12_likely_241 : decode cX12_likely 241 = .ok (.iconst 0, 1) := by decide +kernel
theorem dX12_likely_242 : decode cX12_likely 242 = .ok (.istore 7, 2) := by decide +kernel
theorem dX12_likely_244 : decode cX12_likely 244 = .ok (.iload 7, 2) := by decide +kernel
theorem dX12_likely_246 : decode cX12_likely 246 = .ok (.sipush 576, 3) := by decide +kernel
theorem dX12_likely_249 : decode cX12_likely 249 = .ok (.if_icmp .ge 23, 3) := by decide +kernel
theorem dX12_likely_252 : decode cX12_likely 252 = .ok (.aload_n 0, 1) := by decide +kernel
theorem dX12_likely_253 : decode cX12_likely 253 = .ok (.getfield 127, 3) := by decide +kernel
theorem dX12_likely_256 : decode cX12_likely 256 = .ok (.iload 7, 2) := by decide +kernel
theorem dX12_likely_258 : decode cX12_likely 258 = .ok (.aload_n 0, 1) := by decide +kernel
theorem dX12_likely_259 : decode cX12_likely 259 = .ok (.getfield 130, 3) := by decide +kernel
theorem dX12_likely_262 : decode cX12_likely 262 = .ok (.iload 7, 2) := by decide +kernel
theorem dX12_likely_264 : decode cX12_likely 264 = .ok (.laload, 1) := by decide +kernel
theorem dX12_likely_265 : decode cX12_likely 265 = .ok (.lastore, 1) := by decide +kernel
theorem dX12_likely_266 : decode cX12_likely 266 = .ok (.iinc 7 1, 3) := by decide +kernel
theorem dX12_likely_269 : decode cX12_likely 269 = .ok (.goto (-25), 3) := by decide +kernel
theorem dX12_likely_272 : decode cX12_likely 272 = .ok (.iinc 5 1, 3) := by decide +kernel
theorem dX12_likely_275 : decode cX12_likely 275 = .ok (.goto (-191), 3) := by decide +kernel
theorem dX12_likely_278 : decode cX12_likely 278 = .ok (.lconst 0, 1) := by decide +kernel
theorem dX12_likely_279 : decode cX12_likely 279 = .ok (.lstore 5, 2) := by decide +kernel
theorem dX12_likely_281 : decode cX12_likely 281 = .ok (.iconst 0, 1) := by decide +kernel
theorem dX12_likely_282 : decode cX12_likely 282 = .ok (.istore 7, 2) := by decide +kernel
theorem dX12_likely_284 : decode cX12_likely 284 = .ok (.iload 7, 2) := by decide +kernel
theorem dX12_likely_286 : decode cX12_likely 286 = .ok (.sipush 576, 3) := by decide +kernel
theorem dX12_likely_289 : decode cX12_likely 289 = .ok (.if_icmp .ge 36, 3) := by decide +kernel
theorem dX12_likely_292 : decode cX12_likely 292 = .ok (.lload 5, 2) := by decide +kernel
theorem dX12_likely_294 : decode cX12_likely 294 = .ok (.aload_n 0, 1) := by decide +kernel
theorem dX12_likely_295 : decode cX12_likely 295 = .ok (.iload_n 1, 1) := by decide +kernel
theorem dX12_likely_296 : decode cX12_likely 296 = .ok (.iload 7, 2) := by decide +kernel
theorem dX12_likely_298 : decode cX12_likely 298 = .ok (.iload_n 2, 1) := by decide +kernel
theorem dX12_likely_299 : decode cX12_likely 299 = .ok (.invokevirtual 475, 3) := by decide +kernel
theorem dX12_likely_302 : decode cX12_likely 302 = .ok (.ifCond .eq 13, 3) := by decide +kernel
theorem dX12_likely_305 : decode cX12_likely 305 = .ok (.aload_n 0, 1) := by decide +kernel
theorem dX12_likely_306 : decode cX12_likely 306 = .ok (.getfield 127, 3) := by decide +kernel
theorem dX12_likely_309 : decode cX12_likely 309 = .ok (.iload 7, 2) := by decide +kernel
theorem dX12_likely_311 : decode cX12_likely 311 = .ok (.laload, 1) := by decide +kernel
theorem dX12_likely_312 : decode cX12_likely 312 = .ok (.goto 4, 3) := by decide +kernel
theorem dX12_likely_315 : decode cX12_likely 315 = .ok (.lconst 0, 1) := by decide +kernel
theorem dX12_likely_316 : decode cX12_likely 316 = .ok (.ladd, 1) := by decide +kernel
theorem dX12_likely_317 : decode cX12_likely 317 = .ok (.lstore 5, 2) := by decide +kernel
theorem dX12_likely_319 : decode cX12_likely 319 = .ok (.iinc 7 1, 3) := by decide +kernel
theorem dX12_likely_322 : decode cX12_likely 322 = .ok (.goto (-38), 3) := by decide +kernel
theorem dX12_likely_325 : decode cX12_likely 325 = .ok (.lload 5, 2) := by decide +kernel
theorem dX12_likely_327 : decode cX12_likely 327 = .ok (.lreturn, 1) := by decide +kernel
def w_X12_likely (a0 a1 a2 : Int) (X : XT) (Q : Int → XT → Prop) : Prop :=
  R32 a0 ∧ (0 ≤ (x_st X 77 0 0) 79 0 ∧ (x_st X 77 0 0) 79 0 ≤ 5) ∧ (¬ (0 ≤ a0 ∧ a0 ≤ (x_st X 77 0 0) 79 0 - 1) → Q (-1) (x_st X 77 0 0)) ∧ ((0 ≤ a0 ∧ a0 ≤ (x_st X 77 0 0) 79 0 - 1) → R32 a1 ∧ (¬ (0 ≤ a1 ∧ a1 ≤ 63) → Q (-1) (x_st X 77 0 0)) ∧ ((0 ≤ a1 ∧ a1 ≤ 63) → R32 a2 ∧ ((0 ≤ a2 ∧ a2 ≤ 11) → ∃ (I15 : Int → XT → Prop) (m16 : Int → XT → Nat), I15 0 (x_st X 77 0 0) ∧ ∀ (x13 : Int) (X14 : XT), I15 x13 X14 → R32 x13 ∧ (576 ≤ x13 → ∃ (I31 : Int → XT → Prop) (m32 : Int → XT → Nat), I31 0 X14 ∧ ∀ (x29 : Int) (X30 : XT), I31 x29 X30 → R32 x29 ∧ (a2 ≤ x29 → ∃ (I47 : Int → Int → Prop) (m48 : Int → Int → Nat), I47 0 0 ∧ ∀ (x45 : Int) (x46 : Int), I47 x45 x46 → R32 x46 ∧ (576 ≤ x46 → Q x45 X30) ∧ (¬ 576 ≤ x46 → w_X12_shades  a0 x46 a1 X30 (fun (v58 : Int) => ∀ J65 : Int → Prop, (∀ (v64 : Int), (I47 (x45 + v64) (x46 + 1) ∧ m48 (x45 + v64) (x46 + 1) < m48 x45 x46) → J65 v64) → R32 v58 ∧ (v58 = 0 → J65 0) ∧ (¬ v58 = 0 → (0 ≤ x46 ∧ x46 < 576) ∧ J65 (X30 102 x46))))) ∧ (¬ a2 ≤ x29 → ∃ (I71 : Int → XT → Prop) (m72 : Int → XT → Nat), I71 0 X30 ∧ ∀ (x69 : Int) (X70 : XT), I71 x69 X70 → R32 x69 ∧ (576 ≤ x69 → (FLK (X70 79)) ∧ ∃ (I88 : Int → XT → Prop) (m89 : Int → XT → Nat), I88 0 X70 ∧ ∀ (x86 : Int) (X87 : XT), I88 x86 X87 → R32 x86 ∧ (576 ≤ x86 → ∃ (I104 : Int → XT → Prop) (m105 : Int → XT → Nat), I104 0 X87 ∧ ∀ (x102 : Int) (X103 : XT), I104 x102 X103 → R32 x102 ∧ (576 ≤ x102 → I31 (x29 + 1) X103 ∧ m32 (x29 + 1) X103 < m32 x29 X30) ∧ (¬ 576 ≤ x102 → (0 ≤ x102 ∧ x102 < 576) ∧ I104 (x102 + 1) (x_st X103 102 x102 (X103 103 x102)) ∧ m105 (x102 + 1) (x_st X103 102 x102 (X103 103 x102)) < m105 x102 X103)) ∧ (¬ 576 ≤ x86 → (0 ≤ x86 ∧ x86 < 576) ∧ R64 (X87 102 x86) ∧ ((X87 102 x86) ≤ 0 → I88 (x86 + 1) X87 ∧ m89 (x86 + 1) X87 < m89 x86 X87) ∧ (¬ (X87 102 x86) ≤ 0 → w_X12_goOn  a0 x86 x29 0 (fRw (X70 79) a0 x29) X87 (fun (v127 : Int) (X128 : XT) => w_X12_goOn  a0 x86 x29 1 (fRw (X70 79) a0 x29) X128 (fun (v133 : Int) (X134 : XT) => R64 (X134 102 x86) ∧ (0 ≤ (X134 102 x86)) ∧ ∀ J142 : XT → Prop, (∀  (X141 : XT), (R32 v133 ∧ (v133 = (-1) → I88 (x86 + 1) X141 ∧ m89 (x86 + 1) X141 < m89 x86 X87) ∧ (¬ v133 = (-1) → (0 ≤ v133 ∧ v133 < 576) ∧ R32 ((x_st X 77 0 0) 79 7) ∧ I88 (x86 + 1) (x_st X141 103 v133 ((X141 103 v133) + (((X134 102 x86) / 10) * ((x_st X 77 0 0) 79 7)))) ∧ m89 (x86 + 1) (x_st X141 103 v133 ((X141 103 v133) + (((X134 102 x86) / 10) * ((x_st X 77 0 0) 79 7)))) < m89 x86 X87)) → J142  X141) → R32 v127 ∧ (v127 = (-1) → J142  X134) ∧ (¬ v127 = (-1) → (0 ≤ v127 ∧ v127 < 576) ∧ R32 (10 - ((x_st X 77 0 0) 79 7)) ∧ J142  (x_st X134 103 v127 ((X134 103 v127) + (((X134 102 x86) / 10) * (10 - ((x_st X 77 0 0) 79 7))))))))))) ∧ (¬ 576 ≤ x69 → (0 ≤ x69 ∧ x69 < 576) ∧ I71 (x69 + 1) (x_st X70 103 x69 0) ∧ m72 (x69 + 1) (x_st X70 103 x69 0) < m72 x69 X70))) ∧ (¬ 576 ≤ x13 → w_X12_beginsAt  a0 X14 (fun (v170 : Int) => R32 v170 ∧ (¬ x13 = v170 → (0 ≤ x13 ∧ x13 < 576) ∧ I15 (x13 + 1) (x_st X14 102 x13 0) ∧ m16 (x13 + 1) (x_st X14 102 x13 0) < m16 x13 X14) ∧ (x13 = v170 → (0 ≤ x13 ∧ x13 < 576) ∧ I15 (x13 + 1) (x_st X14 102 x13 1000000000000) ∧ m16 (x13 + 1) (x_st X14 102 x13 1000000000000) < m16 x13 X14)))) ∧ (¬ (0 ≤ a2 ∧ a2 ≤ 11) → Q (-1) (x_st X 77 0 0))))
set_option maxRecDepth 20000 in
theorem so_X12_likely {n : Nat} {h : Nat → sE} {X : XT} {a0 a1 a2 : Int} {Q : Int → XT → Prop} (hn : 115 ≤ n) (hp : Pic X h) (w : w_X12_likely  a0 a1 a2 X Q) : Sp m_X12_likely 9 0 0 [.ref 77, .int (iI a0), .int (iI a1), .int (iI a2)] n h (pLw n h Q) := by
  unfold w_X12_likely at w
  refine Sp.ofV (by decide +kernel) (Nat.le_of_ble_eq_true rfl) ?_
  have hf : Fr h h := fun _ _ => rfl
  refine v_aload_n dX12_likely_0 rfl ?_
  refine v_iconstI dX12_likely_1 ?_
  refine v_put dX12_likely_2 fl_X12_169 ((hp 77 (by decide)).trans (ent_77 _)) (s_lt hn rfl) (Nat.le_of_ble_eq_true rfl) (fun _ => ⟨rfl, rfl⟩) trivial (fun h1 E2 F3 => ?_)
  have hp4 := pic_st hp (show h1 77 = ent 77 (uI _ 0 0) from E2) F3
  have hf5 := Fr.up (c := 77) hf F3 rfl
  refine v_aload_n dX12_likely_5 rfl ?_
  refine v_iload_n dX12_likely_6 rfl ?_
  obtain ⟨q6, q7, w⟩ := w
  refine v_callVp dX12_likely_7 ml_X12_219 (sp_X12_isCloud (a := a0) (g77 := (x_st X 77 0 0) 77) (g79 := (x_st X 77 0 0) 79) hn (hp4 77 (by decide)) (hp4 79 (by decide)) q6 q7) ((hp4 77 (by decide)).trans (ent_77 _)) rfl (s_lt hn rfl) rfl rfl (Nat.le_of_ble_eq_true rfl) (Nat.le_of_ble_eq_true rfl) (Nat.zero_le _) (Nat.zero_le _) ?_
  refine v_ifeqB (tgt := 27) dX12_likely_10 (by decide) (fun c8 => ?_) (fun c8 => ?_)
  · replace w := w.1 c8
    refine v_ldc2I (-1) dX12_likely_27 k_X12_208 rfl ?_
    exact v_lret dX12_likely_30 rfl (Nat.zero_le _) (Nat.zero_le _) ⟨rfl, hf5, _, _, rfl, hp4, w⟩
  · replace w := w.2 c8
    refine v_iload_n dX12_likely_13 rfl ?_
    obtain ⟨q9, w⟩ := w
    refine v_callSp dX12_likely_14 ml_X12_195 (sp_X12_isField (a := a1) q9) rfl rfl (Nat.le_of_ble_eq_true rfl) (Nat.le_of_ble_eq_true rfl) (Nat.zero_le _) (Nat.zero_le _) ?_
    refine v_ifeqB (tgt := 27) dX12_likely_17 (by decide) (fun c10 => ?_) (fun c10 => ?_)
    · replace w := w.1 c10
      refine v_ldc2I (-1) dX12_likely_27 k_X12_208 rfl ?_
      exact v_lret dX12_likely_30 rfl (Nat.zero_le _) (Nat.zero_le _) ⟨rfl, hf5, _, _, rfl, hp4, w⟩
    · replace w := w.2 c10
      refine v_iload_n dX12_likely_20 rfl ?_
      obtain ⟨q11, w⟩ := w
      refine v_callSp dX12_likely_21 ml_X12_236 (sp_X12_isHour (a := a2) q11) rfl rfl (Nat.le_of_ble_eq_true rfl) (Nat.le_of_ble_eq_true rfl) (Nat.zero_le _) (Nat.zero_le _) ?_
      refine v_ifneB (tgt := 31) dX12_likely_24 (by decide) (fun c12 => ?_) (fun c12 => ?_)
      · replace w := w.1 c12
        refine v_aload_n dX12_likely_31 rfl ?_
        refine v_get dX12_likely_32 fl_X12_13 ((hp4 77 (by decide)).trans (ent_77 _)) rfl (s_lt hn rfl) ?_
        refine v_bipushI dX12_likely_35 rfl ?_
        refine v_ialdI dX12_likely_37 ((hp4 79 (by decide)).trans (ent_79 _)) (s_lt hn rfl) (by decide) (by decide) (by decide) ?_
        refine v_istore dX12_likely_38 (Nat.le_of_ble_eq_true rfl) ?_
        refine v_iconstI dX12_likely_40 ?_
        refine v_istore dX12_likely_41 (Nat.le_of_ble_eq_true rfl) ?_
        refine v_pick [2, 3, 4, 5, 1, 0] rfl ?_
        obtain ⟨I15, m16, wi19, wl18⟩ := w
        have hL20 : ∀ (N23 : Nat) (x13 : Int) (X14 : XT) (h24 : Nat → sE), m16 x13 X14 < N23 → I15 x13 X14 → Pic X14 h24 → Fr h h24 → V (m_X12_likely, 9, 0, 0, n, pLw n h Q, s_G0) 0 0 n h24 43 [(0, .ref 77), (1, .int (iI a0)), (2, .int (iI a1)), (3, .int (iI a2)), (4, .int (iI ((x_st X 77 0 0) 79 7))), (5, .int (iI x13))] [] := by
          intro N23
          induction N23 with
          | zero => intro x13 X14 h24 hm21; exact absurd hm21 (Nat.not_lt_zero _)
          | succ N23 ih17 =>
            intro x13 X14 h24 hm21 hI22 hp25 hf26
            have w := wl18 x13 X14 hI22
            refine v_iload dX12_likely_43 rfl ?_
            refine v_sipushI dX12_likely_45 rfl ?_
            obtain ⟨q27, w⟩ := w
            refine v_icmp_geI (tgt := 81) dX12_likely_48 (by decide) q27.1 q27.2 (by decide) (by decide) (fun c28 => ?_) (fun c28 => ?_)
            · replace w := w.1 c28
              refine v_iconstI dX12_likely_81 ?_
              refine v_istore dX12_likely_82 (Nat.le_of_ble_eq_true rfl) ?_
              refine v_pick [1, 2, 3, 4, 5, 0] rfl ?_
              obtain ⟨I31, m32, wi35, wl34⟩ := w
              have hL36 : ∀ (N39 : Nat) (x29 : Int) (X30 : XT) (h40 : Nat → sE), m32 x29 X30 < N39 → I31 x29 X30 → Pic X30 h40 → Fr h h40 → V (m_X12_likely, 9, 0, 0, n, pLw n h Q, s_G0) 0 0 n h40 84 [(0, .ref 77), (1, .int (iI a0)), (2, .int (iI a1)), (3, .int (iI a2)), (4, .int (iI ((x_st X 77 0 0) 79 7))), (5, .int (iI x29))] [] := by
                intro N39
                induction N39 with
                | zero => intro x29 X30 h40 hm37; exact absurd hm37 (Nat.not_lt_zero _)
                | succ N39 ih33 =>
                  intro x29 X30 h40 hm37 hI38 hp41 hf42
                  have w := wl34 x29 X30 hI38
                  refine v_iload dX12_likely_84 rfl ?_
                  refine v_iload_n dX12_likely_86 rfl ?_
                  obtain ⟨q43, w⟩ := w
                  refine v_icmp_geI (tgt := 278) dX12_likely_87 (by decide) q43.1 q43.2 q11.1 q11.2 (fun c44 => ?_) (fun c44 => ?_)
                  · replace w := w.1 c44
                    refine v_lconstI (w := 0) dX12_likely_278 rfl ?_
                    refine v_lstore dX12_likely_279 (Nat.le_of_ble_eq_true rfl) ?_
                    refine v_iconstI dX12_likely_281 ?_
                    refine v_istore dX12_likely_282 (Nat.le_of_ble_eq_true rfl) ?_
                    refine v_pick [2, 3, 4, 1, 0] rfl ?_
                    obtain ⟨I47, m48, wi51, wl50⟩ := w
                    have hL52 : ∀ (N55 : Nat) (x45 : Int) (x46 : Int), m48 x45 x46 < N55 → I47 x45 x46 → V (m_X12_likely, 9, 0, 0, n, pLw n h Q, s_G0) 0 0 n h40 284 [(0, .ref 77), (1, .int (iI a0)), (2, .int (iI a1)), (5, .long (jJ x45)), (7, .int (iI x46))] [] := by
                      intro N55
                      induction N55 with
                      | zero => intro x45 x46  hm53; exact absurd hm53 (Nat.not_lt_zero _)
                      | succ N55 ih49 =>
                        intro x45 x46  hm53 hI54
                        have w := wl50 x45 x46 hI54
                        refine v_iload dX12_likely_284 rfl ?_
                        refine v_sipushI dX12_likely_286 rfl ?_
                        obtain ⟨q56, w⟩ := w
                        refine v_icmp_geI (tgt := 325) dX12_likely_289 (by decide) q56.1 q56.2 (by decide) (by decide) (fun c57 => ?_) (fun c57 => ?_)
                        · replace w := w.1 c57
                          refine v_lload dX12_likely_325 rfl ?_
                          exact v_lret dX12_likely_327 rfl (Nat.zero_le _) (Nat.zero_le _) ⟨rfl, hf42, _, _, rfl, hp41, w⟩
                        · replace w := w.2 c57
                          refine v_lload dX12_likely_292 rfl ?_
                          refine v_aload_n dX12_likely_294 rfl ?_
                          refine v_iload_n dX12_likely_295 rfl ?_
                          refine v_iload dX12_likely_296 rfl ?_
                          refine v_iload_n dX12_likely_298 rfl ?_
                          refine v_callVIr dX12_likely_299 ml_X12_475 (so_X12_shades hn hp41  w) ((hp41 77 (by decide)).trans (ent_77 _)) rfl (s_lt hn rfl) rfl rfl (Nat.le_of_ble_eq_true rfl) (Nat.le_of_ble_eq_true rfl) (Nat.zero_le _) (Nat.zero_le _) (fun v58 w => ?_)
                          replace w := w (fun (v64 : Int) => V (m_X12_likely, 9, 0, 0, n, pLw n h Q, s_G0) 0 0 n h40 316 [(0, .ref 77), (1, .int (iI a0)), (2, .int (iI a1)), (7, .int (iI x46))] [.long (jJ v64), .long (jJ x45)]) (by
                            intro v64 w
                            refine v_laddI dX12_likely_316 ?_
                            refine v_lstore dX12_likely_317 (Nat.le_of_ble_eq_true rfl) ?_
                            refine v_iincI dX12_likely_319 rfl (Nat.le_of_ble_eq_true rfl) ?_
                            refine v_goto (tgt := 284) dX12_likely_322 (by decide) ?_
                            refine v_pick [2, 3, 4, 1, 0] rfl ?_
                            exact ih49 _ _ (Nat.lt_of_lt_of_le w.2 (Nat.le_of_lt_succ hm53)) w.1
                          )
                          obtain ⟨q66, w⟩ := w
                          refine v_if_eqI (tgt := 315) dX12_likely_302 (by decide) q66.1 q66.2 (fun c67 => ?_) (fun c67 => ?_)
                          · replace w := w.1 c67
                            refine v_lconstI (w := 0) dX12_likely_315 rfl ?_
                            refine v_pick [0, 1, 2, 4] rfl ?_
                            exact w
                          · replace w := w.2 c67
                            refine v_aload_n dX12_likely_305 rfl ?_
                            refine v_get dX12_likely_306 fl_X12_127 ((hp41 77 (by decide)).trans (ent_77 _)) rfl (s_lt hn rfl) ?_
                            refine v_iload dX12_likely_309 rfl ?_
                            obtain ⟨q68, w⟩ := w
                            refine v_laldI dX12_likely_311 ((hp41 102 (by decide)).trans (ent_102 _)) (s_lt hn rfl) q68.1 q68.2 (ix_le q68.2 (by decide)) ?_
                            refine v_goto (tgt := 316) dX12_likely_312 (by decide) ?_
                            refine v_pick [0, 1, 2, 4] rfl ?_
                            exact w
                    exact hL52 _ _ _ (Nat.lt_succ_self _) wi51
                  · replace w := w.2 c44
                    refine v_iconstI dX12_likely_90 ?_
                    refine v_istore dX12_likely_91 (Nat.le_of_ble_eq_true rfl) ?_
                    refine v_pick [1, 2, 3, 4, 5, 6, 0] rfl ?_
                    obtain ⟨I71, m72, wi75, wl74⟩ := w
                    have hL76 : ∀ (N79 : Nat) (x69 : Int) (X70 : XT) (h80 : Nat → sE), m72 x69 X70 < N79 → I71 x69 X70 → Pic X70 h80 → Fr h h80 → V (m_X12_likely, 9, 0, 0, n, pLw n h Q, s_G0) 0 0 n h80 93 [(0, .ref 77), (1, .int (iI a0)), (2, .int (iI a1)), (3, .int (iI a2)), (4, .int (iI ((x_st X 77 0 0) 79 7))), (5, .int (iI x29)), (6, .int (iI x69))] [] := by
                      intro N79
                      induction N79 with
                      | zero => intro x69 X70 h80 hm77; exact absurd hm77 (Nat.not_lt_zero _)
                      | succ N79 ih73 =>
                        intro x69 X70 h80 hm77 hI78 hp81 hf82
                        have w := wl74 x69 X70 hI78
                        refine v_iload dX12_likely_93 rfl ?_
                        refine v_sipushI dX12_likely_95 rfl ?_
                        obtain ⟨q83, w⟩ := w
                        refine v_icmp_geI (tgt := 115) dX12_likely_98 (by decide) q83.1 q83.2 (by decide) (by decide) (fun c84 => ?_) (fun c84 => ?_)
                        · replace w := w.1 c84
                          refine v_aload_n dX12_likely_115 rfl ?_
                          refine v_iload_n dX12_likely_116 rfl ?_
                          refine v_iload dX12_likely_117 rfl ?_
                          obtain ⟨q85, w⟩ := w
                          refine v_callVp dX12_likely_119 ml_X12_229 (sv_X12_flagOf (a := a0) (b := x29) (g77 := X70 77) (g79 := X70 79) hn (hp81 77 (by decide)) (hp81 79 (by decide)) q6 q43 q85) ((hp81 77 (by decide)).trans (ent_77 _)) rfl (s_lt hn rfl) rfl rfl (Nat.le_of_ble_eq_true rfl) (Nat.le_of_ble_eq_true rfl) (Nat.zero_le _) (Nat.zero_le _) ?_
                          refine v_istore dX12_likely_122 (Nat.le_of_ble_eq_true rfl) ?_
                          refine v_iconstI dX12_likely_124 ?_
                          refine v_istore dX12_likely_125 (Nat.le_of_ble_eq_true rfl) ?_
                          refine v_pick [2, 3, 4, 5, 6, 7, 1, 0] rfl ?_
                          obtain ⟨I88, m89, wi92, wl91⟩ := w
                          have hL93 : ∀ (N96 : Nat) (x86 : Int) (X87 : XT) (h97 : Nat → sE), m89 x86 X87 < N96 → I88 x86 X87 → Pic X87 h97 → Fr h h97 → V (m_X12_likely, 9, 0, 0, n, pLw n h Q, s_G0) 0 0 n h97 127 [(0, .ref 77), (1, .int (iI a0)), (2, .int (iI a1)), (3, .int (iI a2)), (4, .int (iI ((x_st X 77 0 0) 79 7))), (5, .int (iI x29)), (6, .int (iI (fRw (X70 79) a0 x29))), (7, .int (iI x86))] [] := by
                            intro N96
                            induction N96 with
                            | zero => intro x86 X87 h97 hm94; exact absurd hm94 (Nat.not_lt_zero _)
                            | succ N96 ih90 =>
                              intro x86 X87 h97 hm94 hI95 hp98 hf99
                              have w := wl91 x86 X87 hI95
                              refine v_iload dX12_likely_127 rfl ?_
                              refine v_sipushI dX12_likely_129 rfl ?_
                              obtain ⟨q100, w⟩ := w
                              refine v_icmp_geI (tgt := 241) dX12_likely_132 (by decide) q100.1 q100.2 (by decide) (by decide) (fun c101 => ?_) (fun c101 => ?_)
                              · replace w := w.1 c101
                                refine v_iconstI dX12_likely_241 ?_
                                refine v_istore dX12_likely_242 (Nat.le_of_ble_eq_true rfl) ?_
                                refine v_pick [1, 2, 3, 4, 5, 6, 0] rfl ?_
                                obtain ⟨I104, m105, wi108, wl107⟩ := w
                                have hL109 : ∀ (N112 : Nat) (x102 : Int) (X103 : XT) (h113 : Nat → sE), m105 x102 X103 < N112 → I104 x102 X103 → Pic X103 h113 → Fr h h113 → V (m_X12_likely, 9, 0, 0, n, pLw n h Q, s_G0) 0 0 n h113 244 [(0, .ref 77), (1, .int (iI a0)), (2, .int (iI a1)), (3, .int (iI a2)), (4, .int (iI ((x_st X 77 0 0) 79 7))), (5, .int (iI x29)), (7, .int (iI x102))] [] := by
                                  intro N112
                                  induction N112 with
                                  | zero => intro x102 X103 h113 hm110; exact absurd hm110 (Nat.not_lt_zero _)
                                  | succ N112 ih106 =>
                                    intro x102 X103 h113 hm110 hI111 hp114 hf115
                                    have w := wl107 x102 X103 hI111
                                    refine v_iload dX12_likely_244 rfl ?_
                                    refine v_sipushI dX12_likely_246 rfl ?_
                                    obtain ⟨q116, w⟩ := w
                                    refine v_icmp_geI (tgt := 272) dX12_likely_249 (by decide) q116.1 q116.2 (by decide) (by decide) (fun c117 => ?_) (fun c117 => ?_)
                                    · replace w := w.1 c117
                                      refine v_iincI dX12_likely_272 rfl (Nat.le_of_ble_eq_true rfl) ?_
                                      refine v_goto (tgt := 84) dX12_likely_275 (by decide) ?_
                                      refine v_pick [1, 2, 3, 4, 5, 0] rfl ?_
                                      exact ih33 _ _ _ (Nat.lt_of_lt_of_le w.2 (Nat.le_of_lt_succ hm37)) w.1 hp114 hf115
                                    · replace w := w.2 c117
                                      refine v_aload_n dX12_likely_252 rfl ?_
                                      refine v_get dX12_likely_253 fl_X12_127 ((hp114 77 (by decide)).trans (ent_77 _)) rfl (s_lt hn rfl) ?_
                                      refine v_iload dX12_likely_256 rfl ?_
                                      refine v_aload_n dX12_likely_258 rfl ?_
                                      refine v_get dX12_likely_259 fl_X12_130 ((hp114 77 (by decide)).trans (ent_77 _)) rfl (s_lt hn rfl) ?_
                                      refine v_iload dX12_likely_262 rfl ?_
                                      obtain ⟨q118, w⟩ := w
                                      refine v_laldI dX12_likely_264 ((hp114 103 (by decide)).trans (ent_103 _)) (s_lt hn rfl) q118.1 q118.2 (ix_le q118.2 (by decide)) ?_
                                      refine v_lastI dX12_likely_265 ((hp114 102 (by decide)).trans (ent_102 _)) (s_lt hn rfl) q118.1 q118.2 (ix_le q118.2 (by decide)) (fun h119 E120 F121 => ?_)
                                      have hp122 := pic_st hp114 (show h119 102 = ent 102 (uI _ x102 (X103 103 x102)) from E120) F121
                                      have hf123 := Fr.up (c := 102) hf115 F121 rfl
                                      refine v_iincI dX12_likely_266 rfl (Nat.le_of_ble_eq_true rfl) ?_
                                      refine v_goto (tgt := 244) dX12_likely_269 (by decide) ?_
                                      refine v_pick [1, 2, 3, 4, 5, 6, 0] rfl ?_
                                      exact ih106 _ _ _ (Nat.lt_of_lt_of_le w.2 (Nat.le_of_lt_succ hm110)) w.1 hp122 hf123
                                exact hL109 _ _ _ _ (Nat.lt_succ_self _) wi108 hp98 hf99
                              · replace w := w.2 c101
                                refine v_aload_n dX12_likely_135 rfl ?_
                                refine v_get dX12_likely_136 fl_X12_127 ((hp98 77 (by decide)).trans (ent_77 _)) rfl (s_lt hn rfl) ?_
                                refine v_iload dX12_likely_139 rfl ?_
                                obtain ⟨q124, w⟩ := w
                                refine v_laldI dX12_likely_141 ((hp98 102 (by decide)).trans (ent_102 _)) (s_lt hn rfl) q124.1 q124.2 (ix_le q124.2 (by decide)) ?_
                                refine v_lconstI (w := 0) dX12_likely_142 rfl ?_
                                obtain ⟨q125, w⟩ := w
                                refine v_lcmp_leI (tgt := 235) dX12_likely_143 dX12_likely_144 (by decide) q125.1 q125.2 (by decide) (by decide) (fun c126 => ?_) (fun c126 => ?_)
                                · replace w := w.1 c126
                                  refine v_iincI dX12_likely_235 rfl (Nat.le_of_ble_eq_true rfl) ?_
                                  refine v_goto (tgt := 127) dX12_likely_238 (by decide) ?_
                                  refine v_pick [1, 2, 3, 4, 5, 6, 7, 0] rfl ?_
                                  exact ih90 _ _ _ (Nat.lt_of_lt_of_le w.2 (Nat.le_of_lt_succ hm94)) w.1 hp98 hf99
                                · replace w := w.2 c126
                                  refine v_aload_n dX12_likely_147 rfl ?_
                                  refine v_iload_n dX12_likely_148 rfl ?_
                                  refine v_iload dX12_likely_149 rfl ?_
                                  refine v_iload dX12_likely_151 rfl ?_
                                  refine v_iconstI dX12_likely_153 ?_
                                  refine v_iload dX12_likely_154 rfl ?_
                                  refine v_callVIw dX12_likely_156 ml_X12_467 (so_X12_goOn hn hp98  w) ((hp98 77 (by decide)).trans (ent_77 _)) rfl (s_lt hn rfl) rfl rfl (Nat.le_of_ble_eq_true rfl) (Nat.le_of_ble_eq_true rfl) (Nat.zero_le _) (Nat.zero_le _) (fun v127 X128 h129 hp131 hf130 w => ?_)
                                  have hf132 := Fr.trans hf99 hf130
                                  refine v_istore dX12_likely_159 (Nat.le_of_ble_eq_true rfl) ?_
                                  refine v_aload_n dX12_likely_161 rfl ?_
                                  refine v_iload_n dX12_likely_162 rfl ?_
                                  refine v_iload dX12_likely_163 rfl ?_
                                  refine v_iload dX12_likely_165 rfl ?_
                                  refine v_iconstI dX12_likely_167 ?_
                                  refine v_iload dX12_likely_168 rfl ?_
                                  refine v_callVIw dX12_likely_170 ml_X12_467 (so_X12_goOn hn hp131  w) ((hp131 77 (by decide)).trans (ent_77 _)) rfl (s_lt hn rfl) rfl rfl (Nat.le_of_ble_eq_true rfl) (Nat.le_of_ble_eq_true rfl) (Nat.zero_le _) (Nat.zero_le _) (fun v133 X134 h135 hp137 hf136 w => ?_)
                                  have hf138 := Fr.trans hf132 hf136
                                  refine v_istore dX12_likely_173 (Nat.le_of_ble_eq_true rfl) ?_
                                  refine v_aload_n dX12_likely_175 rfl ?_
                                  refine v_get dX12_likely_176 fl_X12_127 ((hp137 77 (by decide)).trans (ent_77 _)) rfl (s_lt hn rfl) ?_
                                  refine v_iload dX12_likely_179 rfl ?_
                                  refine v_laldI dX12_likely_181 ((hp137 102 (by decide)).trans (ent_102 _)) (s_lt hn rfl) q124.1 q124.2 (ix_le q124.2 (by decide)) ?_
                                  refine v_ldc2I 10 dX12_likely_182 k_X12_227 rfl ?_
                                  obtain ⟨q139, q140, w⟩ := w
                                  refine v_ldivI dX12_likely_185 q140 q139.2 (by decide) (by decide) ?_
                                  refine v_lstore dX12_likely_186 (Nat.le_of_ble_eq_true rfl) ?_
                                  refine v_iload dX12_likely_188 rfl ?_
                                  refine v_iconstI dX12_likely_190 ?_
                                  replace w := w (fun  (X141 : XT) => ∀ h145 : Nat → sE, Pic X141 h145 → Fr h h145 → V (m_X12_likely, 9, 0, 0, n, pLw n h Q, s_G0) 0 0 n h145 213 [(0, .ref 77), (1, .int (iI a0)), (2, .int (iI a1)), (3, .int (iI a2)), (4, .int (iI ((x_st X 77 0 0) 79 7))), (5, .int (iI x29)), (6, .int (iI (fRw (X70 79) a0 x29))), (7, .int (iI x86)), (9, .int (iI v133)), (10, .long (jJ ((X134 102 x86) / 10)))] []) (by
                                    intro  X141 w h145 hp143 hf144
                                    refine v_iload dX12_likely_213 rfl ?_
                                    refine v_iconstI dX12_likely_215 ?_
                                    obtain ⟨q146, w⟩ := w
                                    refine v_icmp_eqI (tgt := 235) dX12_likely_216 (by decide) q146.1 q146.2 (by decide) (by decide) (fun c147 => ?_) (fun c147 => ?_)
                                    · replace w := w.1 c147
                                      refine v_iincI dX12_likely_235 rfl (Nat.le_of_ble_eq_true rfl) ?_
                                      refine v_goto (tgt := 127) dX12_likely_238 (by decide) ?_
                                      refine v_pick [1, 2, 3, 4, 5, 6, 7, 0] rfl ?_
                                      exact ih90 _ _ _ (Nat.lt_of_lt_of_le w.2 (Nat.le_of_lt_succ hm94)) w.1 hp143 hf144
                                    · replace w := w.2 c147
                                      refine v_aload_n dX12_likely_219 rfl ?_
                                      refine v_get dX12_likely_220 fl_X12_130 ((hp143 77 (by decide)).trans (ent_77 _)) rfl (s_lt hn rfl) ?_
                                      refine v_iload dX12_likely_223 rfl ?_
                                      refine v_dup2 dX12_likely_225 rfl rfl ?_
                                      obtain ⟨q148, w⟩ := w
                                      refine v_laldI dX12_likely_226 ((hp143 103 (by decide)).trans (ent_103 _)) (s_lt hn rfl) q148.1 q148.2 (ix_le q148.2 (by decide)) ?_
                                      refine v_lload dX12_likely_227 rfl ?_
                                      refine v_iload dX12_likely_229 rfl ?_
                                      obtain ⟨q149, w⟩ := w
                                      refine v_i2lI dX12_likely_231 q149.1 q149.2 ?_
                                      refine v_lmulI dX12_likely_232 ?_
                                      refine v_laddI dX12_likely_233 ?_
                                      refine v_lastI dX12_likely_234 ((hp143 103 (by decide)).trans (ent_103 _)) (s_lt hn rfl) q148.1 q148.2 (ix_le q148.2 (by decide)) (fun h150 E151 F152 => ?_)
                                      have hp153 := pic_st hp143 (show h150 103 = ent 103 (uI _ v133 ((X141 103 v133) + (((X134 102 x86) / 10) * ((x_st X 77 0 0) 79 7)))) from E151) F152
                                      have hf154 := Fr.up (c := 103) hf144 F152 rfl
                                      refine v_iincI dX12_likely_235 rfl (Nat.le_of_ble_eq_true rfl) ?_
                                      refine v_goto (tgt := 127) dX12_likely_238 (by decide) ?_
                                      refine v_pick [1, 2, 3, 4, 5, 6, 7, 0] rfl ?_
                                      exact ih90 _ _ _ (Nat.lt_of_lt_of_le w.2 (Nat.le_of_lt_succ hm94)) w.1 hp153 hf154
                                  )
                                  obtain ⟨q155, w⟩ := w
                                  refine v_icmp_eqI (tgt := 213) dX12_likely_191 (by decide) q155.1 q155.2 (by decide) (by decide) (fun c156 => ?_) (fun c156 => ?_)
                                  · replace w := w.1 c156
                                    refine v_pick [3, 4, 5, 6, 7, 8, 9, 10, 1, 0] rfl ?_
                                    exact w _ hp137 hf138
                                  · replace w := w.2 c156
                                    refine v_aload_n dX12_likely_194 rfl ?_
                                    refine v_get dX12_likely_195 fl_X12_130 ((hp137 77 (by decide)).trans (ent_77 _)) rfl (s_lt hn rfl) ?_
                                    refine v_iload dX12_likely_198 rfl ?_
                                    refine v_dup2 dX12_likely_200 rfl rfl ?_
                                    obtain ⟨q157, w⟩ := w
                                    refine v_laldI dX12_likely_201 ((hp137 103 (by decide)).trans (ent_103 _)) (s_lt hn rfl) q157.1 q157.2 (ix_le q157.2 (by decide)) ?_
                                    refine v_lload dX12_likely_202 rfl ?_
                                    refine v_bipushI dX12_likely_204 rfl ?_
                                    refine v_iload dX12_likely_206 rfl ?_
                                    refine v_isubI dX12_likely_208 ?_
                                    obtain ⟨q158, w⟩ := w
                                    refine v_i2lI dX12_likely_209 q158.1 q158.2 ?_
                                    refine v_lmulI dX12_likely_210 ?_
                                    refine v_laddI dX12_likely_211 ?_
                                    refine v_lastI dX12_likely_212 ((hp137 103 (by decide)).trans (ent_103 _)) (s_lt hn rfl) q157.1 q157.2 (ix_le q157.2 (by decide)) (fun h159 E160 F161 => ?_)
                                    have hp162 := pic_st hp137 (show h159 103 = ent 103 (uI _ v127 ((X134 103 v127) + (((X134 102 x86) / 10) * (10 - ((x_st X 77 0 0) 79 7))))) from E160) F161
                                    have hf163 := Fr.up (c := 103) hf138 F161 rfl
                                    refine v_pick [3, 4, 5, 6, 7, 8, 9, 10, 1, 0] rfl ?_
                                    exact w _ hp162 hf163
                          exact hL93 _ _ _ _ (Nat.lt_succ_self _) wi92 hp81 hf82
                        · replace w := w.2 c84
                          refine v_aload_n dX12_likely_101 rfl ?_
                          refine v_get dX12_likely_102 fl_X12_130 ((hp81 77 (by decide)).trans (ent_77 _)) rfl (s_lt hn rfl) ?_
                          refine v_iload dX12_likely_105 rfl ?_
                          refine v_lconstI (w := 0) dX12_likely_107 rfl ?_
                          obtain ⟨q164, w⟩ := w
                          refine v_lastI dX12_likely_108 ((hp81 103 (by decide)).trans (ent_103 _)) (s_lt hn rfl) q164.1 q164.2 (ix_le q164.2 (by decide)) (fun h165 E166 F167 => ?_)
                          have hp168 := pic_st hp81 (show h165 103 = ent 103 (uI _ x69 0) from E166) F167
                          have hf169 := Fr.up (c := 103) hf82 F167 rfl
                          refine v_iincI dX12_likely_109 rfl (Nat.le_of_ble_eq_true rfl) ?_
                          refine v_goto (tgt := 93) dX12_likely_112 (by decide) ?_
                          refine v_pick [1, 2, 3, 4, 5, 6, 0] rfl ?_
                          exact ih73 _ _ _ (Nat.lt_of_lt_of_le w.2 (Nat.le_of_lt_succ hm77)) w.1 hp168 hf169
                    exact hL76 _ _ _ _ (Nat.lt_succ_self _) wi75 hp41 hf42
              exact hL36 _ _ _ _ (Nat.lt_succ_self _) wi35 hp25 hf26
            · replace w := w.2 c28
              refine v_aload_n dX12_likely_51 rfl ?_
              refine v_get dX12_likely_52 fl_X12_127 ((hp25 77 (by decide)).trans (ent_77 _)) rfl (s_lt hn rfl) ?_
              refine v_iload dX12_likely_55 rfl ?_
              refine v_iload dX12_likely_57 rfl ?_
              refine v_aload_n dX12_likely_59 rfl ?_
              refine v_iload_n dX12_likely_60 rfl ?_
              refine v_callVIr dX12_likely_61 ml_X12_464 (so_X12_beginsAt hn hp25  w) ((hp25 77 (by decide)).trans (ent_77 _)) rfl (s_lt hn rfl) rfl rfl (Nat.le_of_ble_eq_true rfl) (Nat.le_of_ble_eq_true rfl) (Nat.zero_le _) (Nat.zero_le _) (fun v170 w => ?_)
              obtain ⟨q176, w⟩ := w
              refine v_icmp_neI (tgt := 73) dX12_likely_64 (by decide) q27.1 q27.2 q176.1 q176.2 (fun c177 => ?_) (fun c177 => ?_)
              · replace w := w.1 c177
                refine v_lconstI (w := 0) dX12_likely_73 rfl ?_
                obtain ⟨q178, w⟩ := w
                refine v_lastI dX12_likely_74 ((hp25 102 (by decide)).trans (ent_102 _)) (s_lt hn rfl) q178.1 q178.2 (ix_le q178.2 (by decide)) (fun h179 E180 F181 => ?_)
                have hp182 := pic_st hp25 (show h179 102 = ent 102 (uI _ x13 0) from E180) F181
                have hf183 := Fr.up (c := 102) hf26 F181 rfl
                refine v_iincI dX12_likely_75 rfl (Nat.le_of_ble_eq_true rfl) ?_
                refine v_goto (tgt := 43) dX12_likely_78 (by decide) ?_
                refine v_pick [1, 2, 3, 4, 5, 0] rfl ?_
                exact ih17 _ _ _ (Nat.lt_of_lt_of_le w.2 (Nat.le_of_lt_succ hm21)) w.1 hp182 hf183
              · replace w := w.2 c177
                refine v_ldc2I 1000000000000 dX12_likely_67 k_X12_548 rfl ?_
                refine v_goto (tgt := 74) dX12_likely_70 (by decide) ?_
                obtain ⟨q184, w⟩ := w
                refine v_lastI dX12_likely_74 ((hp25 102 (by decide)).trans (ent_102 _)) (s_lt hn rfl) q184.1 q184.2 (ix_le q184.2 (by decide)) (fun h185 E186 F187 => ?_)
                have hp188 := pic_st hp25 (show h185 102 = ent 102 (uI _ x13 1000000000000) from E186) F187
                have hf189 := Fr.up (c := 102) hf26 F187 rfl
                refine v_iincI dX12_likely_75 rfl (Nat.le_of_ble_eq_true rfl) ?_
                refine v_goto (tgt := 43) dX12_likely_78 (by decide) ?_
                refine v_pick [1, 2, 3, 4, 5, 0] rfl ?_
                exact ih17 _ _ _ (Nat.lt_of_lt_of_le w.2 (Nat.le_of_lt_succ hm21)) w.1 hp188 hf189
        exact hL20 _ _ _ _ (Nat.lt_succ_self _) wi19 hp4 hf5
      · replace w := w.2 c12
        refine v_ldc2I (-1) dX12_likely_27 k_X12_208 rfl ?_
        exact v_lret dX12_likely_30 rfl (Nat.zero_le _) (Nat.zero_le _) ⟨rfl, hf5, _, _, rfl, hp4, w⟩
theorem dX12_chanceBy_0 : decode cX12_chanceBy 0 = .ok (.aload_n 0, 1) := by decide +kernel
theorem dX12_chanceBy_1 : decode cX12_chanceBy 1 = .ok (.getfield 13, 3) := by decide +kernel
theorem dX12_chanceBy_4 : decode cX12_chanceBy 4 = .ok (.bipush 7, 2) := by decide +kernel
theorem dX12_chanceBy_6 : decode cX12_chanceBy 6 = .ok (.iaload, 1) := by decide +kernel
theorem dX12_chanceBy_7 : decode cX12_chanceBy 7 = .ok (.istore 5, 2) := by decide +kernel
theorem dX12_chanceBy_9 : decode cX12_chanceBy 9 = .ok (.aload_n 0, 1) := by decide +kernel
theorem dX12_chanceBy_10 : decode cX12_chanceBy 10 = .ok (.iload_n 1, 1) := by decide +kernel
theorem dX12_chanceBy_11 : decode cX12_chanceBy 11 = .ok (.iload_n 2, 1) := by decide +kernel
theorem dX12_chanceBy_12 : decode cX12_chanceBy 12 = .ok (.iload_n 3, 1) := by decide +kernel
theorem dX12_chanceBy_13 : decode cX12_chanceBy 13 = .ok (.iconst 0, 1) := by decide +kernel
theorem dX12_chanceBy_14 : decode cX12_chanceBy 14 = .ok (.iload 4, 2) := by decide +kernel
theorem dX12_chanceBy_16 : decode cX12_chanceBy 16 = .ok (.invokevirtual 508, 3) := by decide +kernel
theorem dX12_chanceBy_19 : decode cX12_chanceBy 19 = .ok (.istore 6, 2) := by decide +kernel
theorem dX12_chanceBy_21 : decode cX12_chanceBy 21 = .ok (.aload_n 0, 1) := by decide +kernel
theorem dX12_chanceBy_22 : decode cX12_chanceBy 22 = .ok (.iload_n 1, 1) := by decide +kernel
theorem dX12_chanceBy_23 : decode cX12_chanceBy 23 = .ok (.iload_n 2, 1) := by decide +kernel
theorem dX12_chanceBy_24 : decode cX12_chanceBy 24 = .ok (.iload_n 3, 1) := by decide +kernel
theorem dX12_chanceBy_25 : decode cX12_chanceBy 25 = .ok (.iconst 1, 1) := by decide +kernel
theorem dX12_chanceBy_26 : decode cX12_chanceBy 26 = .ok (.iload 4, 2) := by decide +kernel
theorem dX12_chanceBy_28 : decode cX12_chanceBy 28 = .ok (.invokevirtual 508, 3) := by decide +kernel
theorem dX12_chanceBy_31 : decode cX12_chanceBy 31 = .ok (.istore 7, 2) := by decide +kernel
theorem dX12_chanceBy_33 : decode cX12_chanceBy 33 = .ok (.iload 6, 2) := by decide +kernel
theorem dX12_chanceBy_35 : decode cX12_chanceBy 35 = .ok (.iconst (-1), 1) := by decide +kernel
theorem dX12_chanceBy_36 : decode cX12_chanceBy 36 = .ok (.if_icmp .ne 7, 3) := by decide +kernel
theorem dX12_chanceBy_39 : decode cX12_chanceBy 39 = .ok (.lconst 0, 1) := by decide +kernel
theorem dX12_chanceBy_40 : decode cX12_chanceBy 40 = .ok (.goto 25, 3) := by decide +kernel
theorem dX12_chanceBy_43 : decode cX12_chanceBy 43 = .ok (.aload_n 0, 1) := by decide +kernel
theorem dX12_chanceBy_44 : decode cX12_chanceBy 44 = .ok (.getfield 133, 3) := by decide +kernel
theorem dX12_chanceBy_47 : decode cX12_chanceBy 47 = .ok (.sipush 576, 3) := by decide +kernel
theorem dX12_chanceBy_50 : decode cX12_chanceBy 50 = .ok (.iload_n 2, 1) := by decide +kernel
theorem dX12_chanceBy_51 : decode cX12_chanceBy 51 = .ok (.iconst 1, 1) := by decide +kernel
theorem dX12_chanceBy_52 : decode cX12_chanceBy 52 = .ok (.iadd, 1) := by decide +kernel
theorem dX12_chanceBy_53 : decode cX12_chanceBy 53 = .ok (.imul, 1) := by decide +kernel
theorem dX12_chanceBy_54 : decode cX12_chanceBy 54 = .ok (.iload 6, 2) := by decide +kernel
theorem dX12_chanceBy_56 : decode cX12_chanceBy 56 = .ok (.iadd, 1) := by decide +kernel
theorem dX12_chanceBy_57 : decode cX12_chanceBy 57 = .ok (.laload, 1) := by decide +kernel
theorem dX12_chanceBy_58 : decode cX12_chanceBy 58 = .ok (.bipush 10, 2) := by decide +kernel
theorem dX12_chanceBy_60 : decode cX12_chanceBy 60 = .ok (.iload 5, 2) := by decide +kernel
theorem dX12_chanceBy_62 : decode cX12_chanceBy 62 = .ok (.isub, 1) := by decide +kernel
theorem dX12_chanceBy_63 : decode cX12_chanceBy 63 = .ok (.i2l, 1) := by decide +kernel
theorem dX12_chanceBy_64 : decode cX12_chanceBy 64 = .ok (.lmul, 1) := by decide +kernel
theorem dX12_chanceBy_65 : decode cX12_chanceBy 65 = .ok (.iload 7, 2) := by decide +kernel
theorem dX12_chanceBy_67 : decode cX12_chanceBy 67 = .ok (.iconst (-1), 1) := by decide +kernel
theorem dX12_chanceBy_68 : decode cX12_chanceBy 68 = .ok (.if_icmp .ne 7, 3) := by decide +kernel
theorem dX12_chanceBy_71 : decode cX12_chanceBy 71 = .ok (.lconst 0, 1) := by decide +kernel
theorem dX12_chanceBy_72 : decode cX12_chanceBy 72 = .ok (.goto 22, 3) := by decide +kernel
theorem dX12_chanceBy_75 : decode cX12_chanceBy 75 = .ok (.aload_n 0, 1) := by decide +kernel
theorem dX12_chanceBy_76 : decode cX12_chanceBy 76 = .ok (.getfield 133, 3) := by decide +kernel
theorem dX12_chanceBy_79 : decode cX12_chanceBy 79 = .ok (.sipush 576, 3) := by decide +kernel
theorem dX12_chanceBy_82 : decode cX12_chanceBy 82 = .ok (.iload_n 2, 1) := by decide +kernel
theorem dX12_chanceBy_83 : decode cX12_chanceBy 83 = .ok (.iconst 1, 1) := by decide +kernel
theorem dX12_chanceBy_84 : decode cX12_chanceBy 84 = .ok (.iadd, 1) := by decide +kernel
theorem dX12_chanceBy_85 : decode cX12_chanceBy 85 = .ok (.imul, 1) := by decide +kernel
theorem dX12_chanceBy_86 : decode cX12_chanceBy 86 = .ok (.iload 7, 2) := by decide +kernel
theorem dX12_chanceBy_88 : decode cX12_chanceBy 88 = .ok (.iadd, 1) := by decide +kernel
theorem dX12_chanceBy_89 : decode cX12_chanceBy 89 = .ok (.laload, 1) := by decide +kernel
theorem dX12_chanceBy_90 : decode cX12_chanceBy 90 = .ok (.iload 5, 2) := by decide +kernel
theorem dX12_chanceBy_92 : decode cX12_chanceBy 92 = .ok (.i2l, 1) := by decide +kernel
theorem dX12_chanceBy_93 : decode cX12_chanceBy 93 = .ok (.lmul, 1) := by decide +kernel
theorem dX12_chanceBy_94 : decode cX12_chanceBy 94 = .ok (.ladd, 1) := by decide +kernel
theorem dX12_chanceBy_95 : decode cX12_chanceBy 95 = .ok (.lreturn, 1) := by decide +kernel
def w_X12_chanceBy (a0 a1 a2 a3 : Int) (X : XT) (Q : Int → Prop) : Prop :=
  w_X12_nextOf  a0 a1 a2 0 a3 X (fun (v1 : Int) => w_X12_nextOf  a0 a1 a2 1 a3 X (fun (v7 : Int) => ∀ J14 : Int → Prop, (∀ (v13 : Int), (R32 v7 ∧ (¬ v7 = (-1) → (0 ≤ ((576 * (a1 + 1)) + v7) ∧ ((576 * (a1 + 1)) + v7) < 6912) ∧ R32 (X 79 7) ∧ Q (v13 + ((X 104 ((576 * (a1 + 1)) + v7)) * (X 79 7)))) ∧ (v7 = (-1) → Q (v13 + 0))) → J14 v13) → R32 v1 ∧ (¬ v1 = (-1) → (0 ≤ ((576 * (a1 + 1)) + v1) ∧ ((576 * (a1 + 1)) + v1) < 6912) ∧ R32 (10 - (X 79 7)) ∧ J14 ((X 104 ((576 * (a1 + 1)) + v1)) * (10 - (X 79 7)))) ∧ (v1 = (-1) → J14 0)))
set_option maxRecDepth 20000 in
theorem so_X12_chanceBy {n : Nat} {h : Nat → sE} {X : XT} {a0 a1 a2 a3 : Int} {Q : Int → Prop} (hn : 115 ≤ n) (hp : Pic X h) (w : w_X12_chanceBy  a0 a1 a2 a3 X Q) : Sp m_X12_chanceBy 5 0 0 [.ref 77, .int (iI a0), .int (iI a1), .int (iI a2), .int (iI a3)] n h (pLr n h Q) := by
  unfold w_X12_chanceBy at w
  refine Sp.ofV (by decide +kernel) (Nat.le_of_ble_eq_true rfl) ?_
  have hf : Fr h h := fun _ _ => rfl
  refine v_aload_n dX12_chanceBy_0 rfl ?_
  refine v_get dX12_chanceBy_1 fl_X12_13 ((hp 77 (by decide)).trans (ent_77 _)) rfl (s_lt hn rfl) ?_
  refine v_bipushI dX12_chanceBy_4 rfl ?_
  refine v_ialdI dX12_chanceBy_6 ((hp 79 (by decide)).trans (ent_79 _)) (s_lt hn rfl) (by decide) (by decide) (by decide) ?_
  refine v_istore dX12_chanceBy_7 (Nat.le_of_ble_eq_true rfl) ?_
  refine v_aload_n dX12_chanceBy_9 rfl ?_
  refine v_iload_n dX12_chanceBy_10 rfl ?_
  refine v_iload_n dX12_chanceBy_11 rfl ?_
  refine v_iload_n dX12_chanceBy_12 rfl ?_
  refine v_iconstI dX12_chanceBy_13 ?_
  refine v_iload dX12_chanceBy_14 rfl ?_
  refine v_callVIr dX12_chanceBy_16 ml_X12_508 (so_X12_nextOf hn hp  w) ((hp 77 (by decide)).trans (ent_77 _)) rfl (s_lt hn rfl) rfl rfl (Nat.le_of_ble_eq_true rfl) (Nat.le_of_ble_eq_true rfl) (Nat.zero_le _) (Nat.zero_le _) (fun v1 w => ?_)
  refine v_istore dX12_chanceBy_19 (Nat.le_of_ble_eq_true rfl) ?_
  refine v_aload_n dX12_chanceBy_21 rfl ?_
  refine v_iload_n dX12_chanceBy_22 rfl ?_
  refine v_iload_n dX12_chanceBy_23 rfl ?_
  refine v_iload_n dX12_chanceBy_24 rfl ?_
  refine v_iconstI dX12_chanceBy_25 ?_
  refine v_iload dX12_chanceBy_26 rfl ?_
  refine v_callVIr dX12_chanceBy_28 ml_X12_508 (so_X12_nextOf hn hp  w) ((hp 77 (by decide)).trans (ent_77 _)) rfl (s_lt hn rfl) rfl rfl (Nat.le_of_ble_eq_true rfl) (Nat.le_of_ble_eq_true rfl) (Nat.zero_le _) (Nat.zero_le _) (fun v7 w => ?_)
  refine v_istore dX12_chanceBy_31 (Nat.le_of_ble_eq_true rfl) ?_
  refine v_iload dX12_chanceBy_33 rfl ?_
  refine v_iconstI dX12_chanceBy_35 ?_
  replace w := w (fun (v13 : Int) => V (m_X12_chanceBy, 5, 0, 0, n, pLr n h Q, s_G0) 0 0 n h 65 [(0, .ref 77), (2, .int (iI a1)), (5, .int (iI (X 79 7))), (7, .int (iI v7))] [.long (jJ v13)]) (by
    intro v13 w
    refine v_iload dX12_chanceBy_65 rfl ?_
    refine v_iconstI dX12_chanceBy_67 ?_
    obtain ⟨q15, w⟩ := w
    refine v_icmp_neI (tgt := 75) dX12_chanceBy_68 (by decide) q15.1 q15.2 (by decide) (by decide) (fun c16 => ?_) (fun c16 => ?_)
    · replace w := w.1 c16
      refine v_aload_n dX12_chanceBy_75 rfl ?_
      refine v_get dX12_chanceBy_76 fl_X12_133 ((hp 77 (by decide)).trans (ent_77 _)) rfl (s_lt hn rfl) ?_
      refine v_sipushI dX12_chanceBy_79 rfl ?_
      refine v_iload_n dX12_chanceBy_82 rfl ?_
      refine v_iconstI dX12_chanceBy_83 ?_
      refine v_iaddI dX12_chanceBy_84 ?_
      refine v_imulI dX12_chanceBy_85 ?_
      refine v_iload dX12_chanceBy_86 rfl ?_
      refine v_iaddI dX12_chanceBy_88 ?_
      obtain ⟨q17, w⟩ := w
      refine v_laldI dX12_chanceBy_89 ((hp 104 (by decide)).trans (ent_104 _)) (s_lt hn rfl) q17.1 q17.2 (ix_le q17.2 (by decide)) ?_
      refine v_iload dX12_chanceBy_90 rfl ?_
      obtain ⟨q18, w⟩ := w
      refine v_i2lI dX12_chanceBy_92 q18.1 q18.2 ?_
      refine v_lmulI dX12_chanceBy_93 ?_
      refine v_laddI dX12_chanceBy_94 ?_
      exact v_lret dX12_chanceBy_95 rfl (Nat.zero_le _) (Nat.zero_le _) ⟨rfl, rfl, _, rfl, w⟩
    · replace w := w.2 c16
      refine v_lconstI (w := 0) dX12_chanceBy_71 rfl ?_
      refine v_goto (tgt := 94) dX12_chanceBy_72 (by decide) ?_
      refine v_laddI dX12_chanceBy_94 ?_
      exact v_lret dX12_chanceBy_95 rfl (Nat.zero_le _) (Nat.zero_le _) ⟨rfl, rfl, _, rfl, w⟩
  )
  obtain ⟨q19, w⟩ := w
  refine v_icmp_neI (tgt := 43) dX12_chanceBy_36 (by decide) q19.1 q19.2 (by decide) (by decide) (fun c20 => ?_) (fun c20 => ?_)
  · replace w := w.1 c20
    refine v_aload_n dX12_chanceBy_43 rfl ?_
    refine v_get dX12_chanceBy_44 fl_X12_133 ((hp 77 (by decide)).trans (ent_77 _)) rfl (s_lt hn rfl) ?_
    refine v_sipushI dX12_chanceBy_47 rfl ?_
    refine v_iload_n dX12_chanceBy_50 rfl ?_
    refine v_iconstI dX12_chanceBy_51 ?_
    refine v_iaddI dX12_chanceBy_52 ?_
    refine v_imulI dX12_chanceBy_53 ?_
    refine v_iload dX12_chanceBy_54 rfl ?_
    refine v_iaddI dX12_chanceBy_56 ?_
    obtain ⟨q21, w⟩ := w
    refine v_laldI dX12_chanceBy_57 ((hp 104 (by decide)).trans (ent_104 _)) (s_lt hn rfl) q21.1 q21.2 (ix_le q21.2 (by decide)) ?_
    refine v_bipushI dX12_chanceBy_58 rfl ?_
    refine v_iload dX12_chanceBy_60 rfl ?_
    refine v_isubI dX12_chanceBy_62 ?_
    obtain ⟨q22, w⟩ := w
    refine v_i2lI dX12_chanceBy_63 q22.1 q22.2 ?_
    refine v_lmulI dX12_chanceBy_64 ?_
    refine v_pick [3, 5, 2, 0] rfl ?_
    exact w
  · replace w := w.2 c20
    refine v_lconstI (w := 0) dX12_chanceBy_39 rfl ?_
    refine v_goto (tgt := 65) dX12_chanceBy_40 (by decide) ?_
    refine v_pick [3, 5, 2, 0] rfl ?_
    exact w
theorem dX12_findSurest_0 : decode cX12_findSurest 0 = .ok (.aload_n 0, 1) := by decide +kernel
theorem dX12_findSurest_1 : decode cX12_findSurest 1 = .ok (.iload_n 1, 1) := by decide +kernel
theorem dX12_findSurest_2 : decode cX12_findSurest 2 = .ok (.invokevirtual 515, 3) := by decide +kernel
theorem dX12_findSurest_5 : decode cX12_findSurest 5 = .ok (.iload_n 3, 1) := by decide +kernel
theorem dX12_findSurest_6 : decode cX12_findSurest 6 = .ok (.istore 4, 2) := by decide +kernel
theorem dX12_findSurest_8 : decode cX12_findSurest 8 = .ok (.iload 4, 2) := by decide +kernel
theorem dX12_findSurest_10 : decode cX12_findSurest 10 = .ok (.ifCond .lt 117, 3) := by decide +kernel
theorem dX12_findSurest_13 : decode cX12_findSurest 13 = .ok (.iconst 0, 1) := by decide +kernel
theorem dX12_findSurest_14 : decode cX12_findSurest 14 = .ok (.istore 5, 2) := by decide +kernel
theorem dX12_findSurest_16 : decode cX12_findSurest 16 = .ok (.iload 5, 2) := by decide +kernel
theorem dX12_findSurest_18 : decode cX12_findSurest 18 = .ok (.sipush 576, 3) := by decide +kernel
theorem dX12_findSurest_21 : decode cX12_findSurest 21 = .ok (.if_icmp .ge 100, 3) := by decide +kernel
theorem dX12_findSurest_24 : decode cX12_findSurest 24 = .ok (.iload 4, 2) := by decide +kernel
theorem dX12_findSurest_26 : decode cX12_findSurest 26 = .ok (.iload_n 3, 1) := by decide +kernel
theorem dX12_findSurest_27 : decode cX12_findSurest 27 = .ok (.if_icmp .ne 18, 3) := by decide +kernel
theorem dX12_findSurest_30 : decode cX12_findSurest 30 = .ok (.aload_n 0, 1) := by decide +kernel
theorem dX12_findSurest_31 : decode cX12_findSurest 31 = .ok (.iload_n 1, 1) := by decide +kernel
theorem dX12_findSurest_32 : decode cX12_findSurest 32 = .ok (.iload 5, 2) := by decide +kernel
theorem dX12_findSurest_34 : decode cX12_findSurest 34 = .ok (.iload_n 2, 1) := by decide +kernel
theorem dX12_findSurest_35 : decode cX12_findSurest 35 = .ok (.invokevirtual 475, 3) := by decide +kernel
theorem dX12_findSurest_38 : decode cX12_findSurest 38 = .ok (.ifCond .eq 7, 3) := by decide +kernel
theorem dX12_findSurest_41 : decode cX12_findSurest 41 = .ok (.lconst 1, 1) := by decide +kernel
theorem dX12_findSurest_42 : decode cX12_findSurest 42 = .ok (.goto 4, 3) := by decide +kernel
theorem dX12_findSurest_45 : decode cX12_findSurest 45 = .ok (.lconst 0, 1) := by decide +kernel
theorem dX12_findSurest_46 : decode cX12_findSurest 46 = .ok (.lstore 6, 2) := by decide +kernel
theorem dX12_findSurest_48 : decode cX12_findSurest 48 = .ok (.iconst 0, 1) := by decide +kernel
theorem dX12_findSurest_49 : decode cX12_findSurest 49 = .ok (.istore 8, 2) := by decide +kernel
theorem dX12_findSurest_51 : decode cX12_findSurest 51 = .ok (.iload 8, 2) := by decide +kernel
theorem dX12_findSurest_53 : decode cX12_findSurest 53 = .ok (.iconst 5, 1) := by decide +kernel
theorem dX12_findSurest_54 : decode cX12_findSurest 54 = .ok (.if_icmp .ge 45, 3) := by decide +kernel
theorem dX12_findSurest_57 : decode cX12_findSurest 57 = .ok (.iload 4, 2) := by decide +kernel
theorem dX12_findSurest_59 : decode cX12_findSurest 59 = .ok (.iload_n 3, 1) := by decide +kernel
theorem dX12_findSurest_60 : decode cX12_findSurest 60 = .ok (.if_icmp .ge 39, 3) := by decide +kernel
theorem dX12_findSurest_63 : decode cX12_findSurest 63 = .ok (.aload_n 0, 1) := by decide +kernel
theorem dX12_findSurest_64 : decode cX12_findSurest 64 = .ok (.iload_n 1, 1) := by decide +kernel
theorem dX12_findSurest_65 : decode cX12_findSurest 65 = .ok (.iload 4, 2) := by decide +kernel
theorem dX12_findSurest_67 : decode cX12_findSurest 67 = .ok (.iload 5, 2) := by decide +kernel
theorem dX12_findSurest_69 : decode cX12_findSurest 69 = .ok (.iload 8, 2) := by decide +kernel
theorem dX12_findSurest_71 : decode cX12_findSurest 71 = .ok (.invokevirtual 550, 3) := by decide +kernel
theorem dX12_findSurest_74 : decode cX12_findSurest 74 = .ok (.lstore 9, 2) := by decide +kernel
theorem dX12_findSurest_76 : decode cX12_findSurest 76 = .ok (.lload 9, 2) := by decide +kernel
theorem dX12_findSurest_78 : decode cX12_findSurest 78 = .ok (.lload 6, 2) := by decide +kernel
theorem dX12_findSurest_80 : decode cX12_findSurest 80 = .ok (.lcmp, 1) := by decide +kernel
theorem dX12_findSurest_81 : decode cX12_findSurest 81 = .ok (.ifCond .le 8, 3) := by decide +kernel
theorem dX12_findSurest_84 : decode cX12_findSurest 84 = .ok (.lload 9, 2) := by decide +kernel
theorem dX12_findSurest_86 : decode cX12_findSurest 86 = .ok (.goto 5, 3) := by decide +kernel
theorem dX12_findSurest_89 : decode cX12_findSurest 89 = .ok (.lload 6, 2) := by decide +kernel
theorem dX12_findSurest_91 : decode cX12_findSurest 91 = .ok (.lstore 6, 2) := by decide +kernel
theorem dX12_findSurest_93 : decode cX12_findSurest 93 = .ok (.iinc 8 1, 3) := by decide +kernel
theorem dX12_findSurest_96 : decode cX12_findSurest 96 = .ok (.goto (-45), 3) := by decide +kernel
theorem dX12_findSurest_99 : decode cX12_findSurest 99 = .ok (.aload_n 0, 1) := by decide +kernel
theorem dX12_findSurest_100 : decode cX12_findSurest 100 = .ok (.getfield 133, 3) := by decide +kernel
theorem dX12_findSurest_103 : decode cX12_findSurest 103 = .ok (.sipush 576, 3) := by decide +kernel
theorem dX12_findSurest_106 : decode cX12_findSurest 106 = .ok (.iload 4, 2) := by decide +kernel
theorem dX12_findSurest_108 : decode cX12_findSurest 108 = .ok (.imul, 1) := by decide +kernel
theorem dX12_findSurest_109 : decode cX12_findSurest 109 = .ok (.iload 5, 2) := by decide +kernel
theorem dX12_findSurest_111 : decode cX12_findSurest 111 = .ok (.iadd, 1) := by decide +kernel
theorem dX12_findSurest_112 : decode cX12_findSurest 112 = .ok (.lload 6, 2) := by decide +kernel
theorem dX12_findSurest_114 : decode cX12_findSurest 114 = .ok (.lastore, 1) := by decide +kernel
theorem dX12_findSurest_115 : decode cX12_findSurest 115 = .ok (.iinc 5 1, 3) := by decide +kernel
theorem dX12_findSurest_118 : decode cX12_findSurest 118 = .ok (.goto (-102), 3) := by decide +kernel
theorem dX12_findSurest_121 : decode cX12_findSurest 121 = .ok (.iinc 4 (-1), 3) := by decide +kernel
theorem dX12_findSurest_124 : decode cX12_findSurest 124 = .ok (.goto (-116), 3) := by decide +kernel
theorem dX12_findSurest_127 : decode cX12_findSurest 127 = .ok (.return_, 1) := by decide +kernel
def w_X12_findSurest (a0 a1 a2 : Int) (X : XT) (Q : XT → Prop) : Prop :=
  w_X12_layWorks  a0 X (fun (X2 : XT) => ∃ (I9 : Int → XT → Prop) (m10 : Int → XT → Nat), I9 a2 X2 ∧ ∀ (x7 : Int) (X8 : XT), I9 x7 X8 → R32 x7 ∧ (x7 < 0 → Q X8) ∧ (¬ x7 < 0 → ∃ (I25 : Int → XT → Prop) (m26 : Int → XT → Nat), I25 0 X8 ∧ ∀ (x23 : Int) (X24 : XT), I25 x23 X24 → R32 x23 ∧ (576 ≤ x23 → I9 (x7 + (-1)) X24 ∧ m10 (x7 + (-1)) X24 < m10 x7 X8) ∧ (¬ 576 ≤ x23 → ∀ J40 : Int → Prop, (∀ (v39 : Int), (∃ (I43 : Int → Int → Prop) (m44 : Int → Int → Nat), I43 v39 0 ∧ ∀ (x41 : Int) (x42 : Int), I43 x41 x42 → ∀ J52 : Prop, (((0 ≤ ((576 * x7) + x23) ∧ ((576 * x7) + x23) < 6912) ∧ I25 (x23 + 1) (x_st X24 104 ((576 * x7) + x23) x41) ∧ m26 (x23 + 1) (x_st X24 104 ((576 * x7) + x23) x41) < m26 x23 X24) → J52) → R32 x42 ∧ (5 ≤ x42 → J52 ) ∧ (¬ 5 ≤ x42 → R32 a2 ∧ (a2 ≤ x7 → J52 ) ∧ (¬ a2 ≤ x7 → w_X12_chanceBy  a0 x7 x23 x42 X24 (fun (v63 : Int) => R64 v63 ∧ R64 x41 ∧ (v63 ≤ x41 → I43 x41 (x42 + 1) ∧ m44 x41 (x42 + 1) < m44 x41 x42) ∧ (¬ v63 ≤ x41 → I43 v63 (x42 + 1) ∧ m44 v63 (x42 + 1) < m44 x41 x42))))) → J40 v39) → R32 a2 ∧ (¬ x7 = a2 → J40 0) ∧ (x7 = a2 → w_X12_shades  a0 x23 a1 X24 (fun (v74 : Int) => R32 v74 ∧ (v74 = 0 → J40 0) ∧ (¬ v74 = 0 → J40 1))))))
set_option maxRecDepth 20000 in
theorem so_X12_findSurest {n : Nat} {h : Nat → sE} {X : XT} {a0 a1 a2 : Int} {Q : XT → Prop} (hn : 115 ≤ n) (hp : Pic X h) (w : w_X12_findSurest  a0 a1 a2 X Q) : Sp m_X12_findSurest 9 0 0 [.ref 77, .int (iI a0), .int (iI a1), .int (iI a2)] n h (pVw n h Q) := by
  unfold w_X12_findSurest at w
  refine Sp.ofV (by decide +kernel) (Nat.le_of_ble_eq_true rfl) ?_
  have hf : Fr h h := fun _ _ => rfl
  refine v_aload_n dX12_findSurest_0 rfl ?_
  refine v_iload_n dX12_findSurest_1 rfl ?_
  refine v_callVVw dX12_findSurest_2 ml_X12_515 (so_X12_layWorks hn hp  w) ((hp 77 (by decide)).trans (ent_77 _)) rfl (s_lt hn rfl) rfl rfl (Nat.le_of_ble_eq_true rfl) (Nat.le_of_ble_eq_true rfl) (Nat.zero_le _) (Nat.zero_le _) (fun X2 h3 hp5 hf4 w => ?_)
  have hf6 := Fr.trans hf hf4
  refine v_iload_n dX12_findSurest_5 rfl ?_
  refine v_istore dX12_findSurest_6 (Nat.le_of_ble_eq_true rfl) ?_
  refine v_pick [1, 2, 3, 4, 0] rfl ?_
  obtain ⟨I9, m10, wi13, wl12⟩ := w
  have hL14 : ∀ (N17 : Nat) (x7 : Int) (X8 : XT) (h18 : Nat → sE), m10 x7 X8 < N17 → I9 x7 X8 → Pic X8 h18 → Fr h h18 → V (m_X12_findSurest, 9, 0, 0, n, pVw n h Q, s_G0) 0 0 n h18 8 [(0, .ref 77), (1, .int (iI a0)), (2, .int (iI a1)), (3, .int (iI a2)), (4, .int (iI x7))] [] := by
    intro N17
    induction N17 with
    | zero => intro x7 X8 h18 hm15; exact absurd hm15 (Nat.not_lt_zero _)
    | succ N17 ih11 =>
      intro x7 X8 h18 hm15 hI16 hp19 hf20
      have w := wl12 x7 X8 hI16
      refine v_iload dX12_findSurest_8 rfl ?_
      obtain ⟨q21, w⟩ := w
      refine v_if_ltI (tgt := 127) dX12_findSurest_10 (by decide) q21.1 q21.2 (fun c22 => ?_) (fun c22 => ?_)
      · replace w := w.1 c22
        exact v_vret dX12_findSurest_127 rfl (Nat.zero_le _) (Nat.zero_le _) ⟨rfl, hf20, _, rfl, hp19, w⟩
      · replace w := w.2 c22
        refine v_iconstI dX12_findSurest_13 ?_
        refine v_istore dX12_findSurest_14 (Nat.le_of_ble_eq_true rfl) ?_
        refine v_pick [1, 2, 3, 4, 5, 0] rfl ?_
        obtain ⟨I25, m26, wi29, wl28⟩ := w
        have hL30 : ∀ (N33 : Nat) (x23 : Int) (X24 : XT) (h34 : Nat → sE), m26 x23 X24 < N33 → I25 x23 X24 → Pic X24 h34 → Fr h h34 → V (m_X12_findSurest, 9, 0, 0, n, pVw n h Q, s_G0) 0 0 n h34 16 [(0, .ref 77), (1, .int (iI a0)), (2, .int (iI a1)), (3, .int (iI a2)), (4, .int (iI x7)), (5, .int (iI x23))] [] := by
          intro N33
          induction N33 with
          | zero => intro x23 X24 h34 hm31; exact absurd hm31 (Nat.not_lt_zero _)
          | succ N33 ih27 =>
            intro x23 X24 h34 hm31 hI32 hp35 hf36
            have w := wl28 x23 X24 hI32
            refine v_iload dX12_findSurest_16 rfl ?_
            refine v_sipushI dX12_findSurest_18 rfl ?_
            obtain ⟨q37, w⟩ := w
            refine v_icmp_geI (tgt := 121) dX12_findSurest_21 (by decide) q37.1 q37.2 (by decide) (by decide) (fun c38 => ?_) (fun c38 => ?_)
            · replace w := w.1 c38
              refine v_iincI dX12_findSurest_121 rfl (Nat.le_of_ble_eq_true rfl) ?_
              refine v_goto (tgt := 8) dX12_findSurest_124 (by decide) ?_
              refine v_pick [1, 2, 3, 4, 0] rfl ?_
              exact ih11 _ _ _ (Nat.lt_of_lt_of_le w.2 (Nat.le_of_lt_succ hm15)) w.1 hp35 hf36
            · replace w := w.2 c38
              refine v_iload dX12_findSurest_24 rfl ?_
              refine v_iload_n dX12_findSurest_26 rfl ?_
              replace w := w (fun (v39 : Int) => V (m_X12_findSurest, 9, 0, 0, n, pVw n h Q, s_G0) 0 0 n h34 46 [(0, .ref 77), (1, .int (iI a0)), (2, .int (iI a1)), (3, .int (iI a2)), (4, .int (iI x7)), (5, .int (iI x23))] [.long (jJ v39)]) (by
                intro v39 w
                refine v_lstore dX12_findSurest_46 (Nat.le_of_ble_eq_true rfl) ?_
                refine v_iconstI dX12_findSurest_48 ?_
                refine v_istore dX12_findSurest_49 (Nat.le_of_ble_eq_true rfl) ?_
                refine v_pick [2, 3, 4, 5, 6, 7, 1, 0] rfl ?_
                obtain ⟨I43, m44, wi47, wl46⟩ := w
                have hL48 : ∀ (N51 : Nat) (x41 : Int) (x42 : Int), m44 x41 x42 < N51 → I43 x41 x42 → V (m_X12_findSurest, 9, 0, 0, n, pVw n h Q, s_G0) 0 0 n h34 51 [(0, .ref 77), (1, .int (iI a0)), (2, .int (iI a1)), (3, .int (iI a2)), (4, .int (iI x7)), (5, .int (iI x23)), (6, .long (jJ x41)), (8, .int (iI x42))] [] := by
                  intro N51
                  induction N51 with
                  | zero => intro x41 x42  hm49; exact absurd hm49 (Nat.not_lt_zero _)
                  | succ N51 ih45 =>
                    intro x41 x42  hm49 hI50
                    have w := wl46 x41 x42 hI50
                    refine v_iload dX12_findSurest_51 rfl ?_
                    refine v_iconstI dX12_findSurest_53 ?_
                    replace w := w (V (m_X12_findSurest, 9, 0, 0, n, pVw n h Q, s_G0) 0 0 n h34 99 [(0, .ref 77), (1, .int (iI a0)), (2, .int (iI a1)), (3, .int (iI a2)), (4, .int (iI x7)), (5, .int (iI x23)), (6, .long (jJ x41))] []) (by
                      intro  w
                      refine v_aload_n dX12_findSurest_99 rfl ?_
                      refine v_get dX12_findSurest_100 fl_X12_133 ((hp35 77 (by decide)).trans (ent_77 _)) rfl (s_lt hn rfl) ?_
                      refine v_sipushI dX12_findSurest_103 rfl ?_
                      refine v_iload dX12_findSurest_106 rfl ?_
                      refine v_imulI dX12_findSurest_108 ?_
                      refine v_iload dX12_findSurest_109 rfl ?_
                      refine v_iaddI dX12_findSurest_111 ?_
                      refine v_lload dX12_findSurest_112 rfl ?_
                      obtain ⟨q53, w⟩ := w
                      refine v_lastI dX12_findSurest_114 ((hp35 104 (by decide)).trans (ent_104 _)) (s_lt hn rfl) q53.1 q53.2 (ix_le q53.2 (by decide)) (fun h54 E55 F56 => ?_)
                      have hp57 := pic_st hp35 (show h54 104 = ent 104 (uI _ ((576 * x7) + x23) x41) from E55) F56
                      have hf58 := Fr.up (c := 104) hf36 F56 rfl
                      refine v_iincI dX12_findSurest_115 rfl (Nat.le_of_ble_eq_true rfl) ?_
                      refine v_goto (tgt := 16) dX12_findSurest_118 (by decide) ?_
                      refine v_pick [1, 2, 3, 4, 5, 0] rfl ?_
                      exact ih27 _ _ _ (Nat.lt_of_lt_of_le w.2 (Nat.le_of_lt_succ hm31)) w.1 hp57 hf58
                    )
                    obtain ⟨q59, w⟩ := w
                    refine v_icmp_geI (tgt := 99) dX12_findSurest_54 (by decide) q59.1 q59.2 (by decide) (by decide) (fun c60 => ?_) (fun c60 => ?_)
                    · replace w := w.1 c60
                      refine v_pick [0, 1, 2, 3, 4, 5, 6] rfl ?_
                      exact w
                    · replace w := w.2 c60
                      refine v_iload dX12_findSurest_57 rfl ?_
                      refine v_iload_n dX12_findSurest_59 rfl ?_
                      obtain ⟨q61, w⟩ := w
                      refine v_icmp_geI (tgt := 99) dX12_findSurest_60 (by decide) q21.1 q21.2 q61.1 q61.2 (fun c62 => ?_) (fun c62 => ?_)
                      · replace w := w.1 c62
                        refine v_pick [0, 1, 2, 3, 4, 5, 6] rfl ?_
                        exact w
                      · replace w := w.2 c62
                        refine v_aload_n dX12_findSurest_63 rfl ?_
                        refine v_iload_n dX12_findSurest_64 rfl ?_
                        refine v_iload dX12_findSurest_65 rfl ?_
                        refine v_iload dX12_findSurest_67 rfl ?_
                        refine v_iload dX12_findSurest_69 rfl ?_
                        refine v_callVLr dX12_findSurest_71 ml_X12_550 (so_X12_chanceBy hn hp35  w) ((hp35 77 (by decide)).trans (ent_77 _)) rfl (s_lt hn rfl) rfl rfl (Nat.le_of_ble_eq_true rfl) (Nat.le_of_ble_eq_true rfl) (Nat.zero_le _) (Nat.zero_le _) (fun v63 w => ?_)
                        refine v_lstore dX12_findSurest_74 (Nat.le_of_ble_eq_true rfl) ?_
                        refine v_lload dX12_findSurest_76 rfl ?_
                        refine v_lload dX12_findSurest_78 rfl ?_
                        obtain ⟨q69, q70, w⟩ := w
                        refine v_lcmp_leI (tgt := 89) dX12_findSurest_80 dX12_findSurest_81 (by decide) q69.1 q69.2 q70.1 q70.2 (fun c71 => ?_) (fun c71 => ?_)
                        · replace w := w.1 c71
                          refine v_lload dX12_findSurest_89 rfl ?_
                          refine v_lstore dX12_findSurest_91 (Nat.le_of_ble_eq_true rfl) ?_
                          refine v_iincI dX12_findSurest_93 rfl (Nat.le_of_ble_eq_true rfl) ?_
                          refine v_goto (tgt := 51) dX12_findSurest_96 (by decide) ?_
                          refine v_pick [3, 4, 5, 6, 7, 8, 1, 0] rfl ?_
                          exact ih45 _ _ (Nat.lt_of_lt_of_le w.2 (Nat.le_of_lt_succ hm49)) w.1
                        · replace w := w.2 c71
                          refine v_lload dX12_findSurest_84 rfl ?_
                          refine v_goto (tgt := 91) dX12_findSurest_86 (by decide) ?_
                          refine v_lstore dX12_findSurest_91 (Nat.le_of_ble_eq_true rfl) ?_
                          refine v_iincI dX12_findSurest_93 rfl (Nat.le_of_ble_eq_true rfl) ?_
                          refine v_goto (tgt := 51) dX12_findSurest_96 (by decide) ?_
                          refine v_pick [3, 4, 5, 6, 7, 8, 1, 0] rfl ?_
                          exact ih45 _ _ (Nat.lt_of_lt_of_le w.2 (Nat.le_of_lt_succ hm49)) w.1
                exact hL48 _ _ _ (Nat.lt_succ_self _) wi47
              )
              obtain ⟨q72, w⟩ := w
              refine v_icmp_neI (tgt := 45) dX12_findSurest_27 (by decide) q21.1 q21.2 q72.1 q72.2 (fun c73 => ?_) (fun c73 => ?_)
              · replace w := w.1 c73
                refine v_lconstI (w := 0) dX12_findSurest_45 rfl ?_
                exact w
              · replace w := w.2 c73
                refine v_aload_n dX12_findSurest_30 rfl ?_
                refine v_iload_n dX12_findSurest_31 rfl ?_
                refine v_iload dX12_findSurest_32 rfl ?_
                refine v_iload_n dX12_findSurest_34 rfl ?_
                refine v_callVIr dX12_findSurest_35 ml_X12_475 (so_X12_shades hn hp35  w) ((hp35 77 (by decide)).trans (ent_77 _)) rfl (s_lt hn rfl) rfl rfl (Nat.le_of_ble_eq_true rfl) (Nat.le_of_ble_eq_true rfl) (Nat.zero_le _) (Nat.zero_le _) (fun v74 w => ?_)
                obtain ⟨q80, w⟩ := w
                refine v_if_eqI (tgt := 45) dX12_findSurest_38 (by decide) q80.1 q80.2 (fun c81 => ?_) (fun c81 => ?_)
                · replace w := w.1 c81
                  refine v_lconstI (w := 0) dX12_findSurest_45 rfl ?_
                  exact w
                · replace w := w.2 c81
                  refine v_lconstI (w := 1) dX12_findSurest_41 rfl ?_
                  refine v_goto (tgt := 46) dX12_findSurest_42 (by decide) ?_
                  exact w
        exact hL30 _ _ _ _ (Nat.lt_succ_self _) wi29 hp19 hf20
  exact hL14 _ _ _ _ (Nat.lt_succ_self _) wi13 hp5 hf6
theorem dX12_surest_0 : decode cX12_surest 0 = .ok (.aload_n 0, 1) := by decide +kernel
theorem dX12_surest_1 : decode cX12_surest 1 = .ok (.iconst 0, 1) := by decide +kernel
theorem dX12_surest_2 : decode cX12_surest 2 = .ok (.putfield 169, 3) := by decide +kernel
theorem dX12_surest_5 : decode cX12_surest 5 = .ok (.aload_n 0, 1) := by decide +kernel
theorem dX12_surest_6 : decode cX12_surest 6 = .ok (.iload_n 1, 1) := by decide +kernel
theorem dX12_surest_7 : decode cX12_surest 7 = .ok (.invokevirtual 219, 3) := by decide +kernel
theorem dX12_surest_10 : decode cX12_surest 10 = .ok (.ifCond .eq 17, 3) := by decide +kernel
theorem dX12_surest_13 : decode cX12_surest 13 = .ok (.iload_n 2, 1) := by decide +kernel
theorem dX12_surest_14 : decode cX12_surest 14 = .ok (.invokestatic 195, 3) := by decide +kernel
theorem dX12_surest_17 : decode cX12_surest 17 = .ok (.ifCond .eq 10, 3) := by decide +kernel
theorem dX12_surest_20 : decode cX12_surest 20 = .ok (.iload_n 3, 1) := by decide +kernel
theorem dX12_surest_21 : decode cX12_surest 21 = .ok (.invokestatic 236, 3) := by decide +kernel
theorem dX12_surest_24 : decode cX12_surest 24 = .ok (.ifCond .ne 7, 3) := by decide +kernel
theorem dX12_surest_27 : decode cX12_surest 27 = .ok (.ldc2_w 208, 3) := by decide +kernel
theorem dX12_surest_30 : decode cX12_surest 30 = .ok (.lreturn, 1) := by decide +kernel
theorem dX12_surest_31 : decode cX12_surest 31 = .ok (.aload_n 0, 1) := by decide +kernel
theorem dX12_surest_32 : decode cX12_surest 32 = .ok (.iload_n 1, 1) := by decide +kernel
theorem dX12_surest_33 : decode cX12_surest 33 = .ok (.iload_n 2, 1) := by decide +kernel
theorem dX12_surest_34 : decode cX12_surest 34 = .ok (.iload_n 3, 1) := by decide +kernel
theorem dX12_surest_35 : decode cX12_surest 35 = .ok (.invokevirtual 554, 3) := by decide +kernel
theorem dX12_surest_38 : decode cX12_surest 38 = .ok (.aload_n 0, 1) := by decide +kernel
theorem dX12_surest_39 : decode cX12_surest 39 = .ok (.getfield 133, 3) := by decide +kernel
theorem dX12_surest_42 : decode cX12_surest 42 = .ok (.aload_n 0, 1) := by decide +kernel
theorem dX12_surest_43 : decode cX12_surest 43 = .ok (.iload_n 1, 1) := by decide +kernel
theorem dX12_surest_44 : decode cX12_surest 44 = .ok (.invokevirtual 464, 3) := by decide +kernel
theorem dX12_surest_47 : decode cX12_surest 47 = .ok (.laload, 1) := by decide +kernel
theorem dX12_surest_48 : decode cX12_surest 48 = .ok (.lstore 4, 2) := by decide +kernel
theorem dX12_surest_50 : decode cX12_surest 50 = .ok (.iload_n 3, 1) := by decide +kernel
theorem dX12_surest_51 : decode cX12_surest 51 = .ok (.istore 6, 2) := by decide +kernel
theorem dX12_surest_53 : decode cX12_surest 53 = .ok (.iload 6, 2) := by decide +kernel
theorem dX12_surest_55 : decode cX12_surest 55 = .ok (.bipush 12, 2) := by decide +kernel
theorem dX12_surest_57 : decode cX12_surest 57 = .ok (.if_icmp .ge 17, 3) := by decide +kernel
theorem dX12_surest_60 : decode cX12_surest 60 = .ok (.lload 4, 2) := by decide +kernel
theorem dX12_surest_62 : decode cX12_surest 62 = .ok (.ldc2_w 227, 3) := by decide +kernel
theorem dX12_surest_65 : decode cX12_surest 65 = .ok (.lmul, 1) := by decide +kernel
theorem dX12_surest_66 : decode cX12_surest 66 = .ok (.lstore 4, 2) := by decide +kernel
theorem dX12_surest_68 : decode cX12_surest 68 = .ok (.iinc 6 1, 3) := by decide +kernel
theorem dX12_surest_71 : decode cX12_surest 71 = .ok (.goto (-18), 3) := by decide +kernel
theorem dX12_surest_74 : decode cX12_surest 74 = .ok (.lload 4, 2) := by decide +kernel
theorem dX12_surest_76 : decode cX12_surest 76 = .ok (.lreturn, 1) := by decide +kernel
def w_X12_surest (a0 a1 a2 : Int) (X : XT) (Q : Int → XT → Prop) : Prop :=
  R32 a0 ∧ (0 ≤ (x_st X 77 0 0) 79 0 ∧ (x_st X 77 0 0) 79 0 ≤ 5) ∧ (¬ (0 ≤ a0 ∧ a0 ≤ (x_st X 77 0 0) 79 0 - 1) → Q (-1) (x_st X 77 0 0)) ∧ ((0 ≤ a0 ∧ a0 ≤ (x_st X 77 0 0) 79 0 - 1) → R32 a1 ∧ (¬ (0 ≤ a1 ∧ a1 ≤ 63) → Q (-1) (x_st X 77 0 0)) ∧ ((0 ≤ a1 ∧ a1 ≤ 63) → R32 a2 ∧ ((0 ≤ a2 ∧ a2 ≤ 11) → w_X12_findSurest  a0 a1 a2 (x_st X 77 0 0) (fun (X14 : XT) => w_X12_beginsAt  a0 X14 (fun (v19 : Int) => (0 ≤ v19 ∧ v19 < 6912) ∧ ∃ (I28 : Int → Int → Prop) (m29 : Int → Int → Nat), I28 (X14 104 v19) a2 ∧ ∀ (x26 : Int) (x27 : Int), I28 x26 x27 → R32 x27 ∧ (12 ≤ x27 → Q x26 X14) ∧ (¬ 12 ≤ x27 → I28 (x26 * 10) (x27 + 1) ∧ m29 (x26 * 10) (x27 + 1) < m29 x26 x27)))) ∧ (¬ (0 ≤ a2 ∧ a2 ≤ 11) → Q (-1) (x_st X 77 0 0))))
set_option maxRecDepth 20000 in
theorem so_X12_surest {n : Nat} {h : Nat → sE} {X : XT} {a0 a1 a2 : Int} {Q : Int → XT → Prop} (hn : 115 ≤ n) (hp : Pic X h) (w : w_X12_surest  a0 a1 a2 X Q) : Sp m_X12_surest 10 0 0 [.ref 77, .int (iI a0), .int (iI a1), .int (iI a2)] n h (pLw n h Q) := by
  unfold w_X12_surest at w
  refine Sp.ofV (by decide +kernel) (Nat.le_of_ble_eq_true rfl) ?_
  have hf : Fr h h := fun _ _ => rfl
  refine v_aload_n dX12_surest_0 rfl ?_
  refine v_iconstI dX12_surest_1 ?_
  refine v_put dX12_surest_2 fl_X12_169 ((hp 77 (by decide)).trans (ent_77 _)) (s_lt hn rfl) (Nat.le_of_ble_eq_true rfl) (fun _ => ⟨rfl, rfl⟩) trivial (fun h1 E2 F3 => ?_)
  have hp4 := pic_st hp (show h1 77 = ent 77 (uI _ 0 0) from E2) F3
  have hf5 := Fr.up (c := 77) hf F3 rfl
  refine v_aload_n dX12_surest_5 rfl ?_
  refine v_iload_n dX12_surest_6 rfl ?_
  obtain ⟨q6, q7, w⟩ := w
  refine v_callVp dX12_surest_7 ml_X12_219 (sp_X12_isCloud (a := a0) (g77 := (x_st X 77 0 0) 77) (g79 := (x_st X 77 0 0) 79) hn (hp4 77 (by decide)) (hp4 79 (by decide)) q6 q7) ((hp4 77 (by decide)).trans (ent_77 _)) rfl (s_lt hn rfl) rfl rfl (Nat.le_of_ble_eq_true rfl) (Nat.le_of_ble_eq_true rfl) (Nat.zero_le _) (Nat.zero_le _) ?_
  refine v_ifeqB (tgt := 27) dX12_surest_10 (by decide) (fun c8 => ?_) (fun c8 => ?_)
  · replace w := w.1 c8
    refine v_ldc2I (-1) dX12_surest_27 k_X12_208 rfl ?_
    exact v_lret dX12_surest_30 rfl (Nat.zero_le _) (Nat.zero_le _) ⟨rfl, hf5, _, _, rfl, hp4, w⟩
  · replace w := w.2 c8
    refine v_iload_n dX12_surest_13 rfl ?_
    obtain ⟨q9, w⟩ := w
    refine v_callSp dX12_surest_14 ml_X12_195 (sp_X12_isField (a := a1) q9) rfl rfl (Nat.le_of_ble_eq_true rfl) (Nat.le_of_ble_eq_true rfl) (Nat.zero_le _) (Nat.zero_le _) ?_
    refine v_ifeqB (tgt := 27) dX12_surest_17 (by decide) (fun c10 => ?_) (fun c10 => ?_)
    · replace w := w.1 c10
      refine v_ldc2I (-1) dX12_surest_27 k_X12_208 rfl ?_
      exact v_lret dX12_surest_30 rfl (Nat.zero_le _) (Nat.zero_le _) ⟨rfl, hf5, _, _, rfl, hp4, w⟩
    · replace w := w.2 c10
      refine v_iload_n dX12_surest_20 rfl ?_
      obtain ⟨q11, w⟩ := w
      refine v_callSp dX12_surest_21 ml_X12_236 (sp_X12_isHour (a := a2) q11) rfl rfl (Nat.le_of_ble_eq_true rfl) (Nat.le_of_ble_eq_true rfl) (Nat.zero_le _) (Nat.zero_le _) ?_
      refine v_ifneB (tgt := 31) dX12_surest_24 (by decide) (fun c12 => ?_) (fun c12 => ?_)
      · replace w := w.1 c12
        refine v_aload_n dX12_surest_31 rfl ?_
        refine v_iload_n dX12_surest_32 rfl ?_
        refine v_iload_n dX12_surest_33 rfl ?_
        refine v_iload_n dX12_surest_34 rfl ?_
        refine v_callVVw dX12_surest_35 ml_X12_554 (so_X12_findSurest hn hp4  w) ((hp4 77 (by decide)).trans (ent_77 _)) rfl (s_lt hn rfl) rfl rfl (Nat.le_of_ble_eq_true rfl) (Nat.le_of_ble_eq_true rfl) (Nat.zero_le _) (Nat.zero_le _) (fun X14 h15 hp17 hf16 w => ?_)
        have hf18 := Fr.trans hf5 hf16
        refine v_aload_n dX12_surest_38 rfl ?_
        refine v_get dX12_surest_39 fl_X12_133 ((hp17 77 (by decide)).trans (ent_77 _)) rfl (s_lt hn rfl) ?_
        refine v_aload_n dX12_surest_42 rfl ?_
        refine v_iload_n dX12_surest_43 rfl ?_
        refine v_callVIr dX12_surest_44 ml_X12_464 (so_X12_beginsAt hn hp17  w) ((hp17 77 (by decide)).trans (ent_77 _)) rfl (s_lt hn rfl) rfl rfl (Nat.le_of_ble_eq_true rfl) (Nat.le_of_ble_eq_true rfl) (Nat.zero_le _) (Nat.zero_le _) (fun v19 w => ?_)
        obtain ⟨q25, w⟩ := w
        refine v_laldI dX12_surest_47 ((hp17 104 (by decide)).trans (ent_104 _)) (s_lt hn rfl) q25.1 q25.2 (ix_le q25.2 (by decide)) ?_
        refine v_lstore dX12_surest_48 (Nat.le_of_ble_eq_true rfl) ?_
        refine v_iload_n dX12_surest_50 rfl ?_
        refine v_istore dX12_surest_51 (Nat.le_of_ble_eq_true rfl) ?_
        refine v_pick [1, 0] rfl ?_
        obtain ⟨I28, m29, wi32, wl31⟩ := w
        have hL33 : ∀ (N36 : Nat) (x26 : Int) (x27 : Int), m29 x26 x27 < N36 → I28 x26 x27 → V (m_X12_surest, 10, 0, 0, n, pLw n h Q, s_G0) 0 0 n h15 53 [(4, .long (jJ x26)), (6, .int (iI x27))] [] := by
          intro N36
          induction N36 with
          | zero => intro x26 x27  hm34; exact absurd hm34 (Nat.not_lt_zero _)
          | succ N36 ih30 =>
            intro x26 x27  hm34 hI35
            have w := wl31 x26 x27 hI35
            refine v_iload dX12_surest_53 rfl ?_
            refine v_bipushI dX12_surest_55 rfl ?_
            obtain ⟨q37, w⟩ := w
            refine v_icmp_geI (tgt := 74) dX12_surest_57 (by decide) q37.1 q37.2 (by decide) (by decide) (fun c38 => ?_) (fun c38 => ?_)
            · replace w := w.1 c38
              refine v_lload dX12_surest_74 rfl ?_
              exact v_lret dX12_surest_76 rfl (Nat.zero_le _) (Nat.zero_le _) ⟨rfl, hf18, _, _, rfl, hp17, w⟩
            · replace w := w.2 c38
              refine v_lload dX12_surest_60 rfl ?_
              refine v_ldc2I 10 dX12_surest_62 k_X12_227 rfl ?_
              refine v_lmulI dX12_surest_65 ?_
              refine v_lstore dX12_surest_66 (Nat.le_of_ble_eq_true rfl) ?_
              refine v_iincI dX12_surest_68 rfl (Nat.le_of_ble_eq_true rfl) ?_
              refine v_goto (tgt := 53) dX12_surest_71 (by decide) ?_
              refine v_pick [1, 0] rfl ?_
              exact ih30 _ _ (Nat.lt_of_lt_of_le w.2 (Nat.le_of_lt_succ hm34)) w.1
        exact hL33 _ _ _ (Nat.lt_succ_self _) wi32
      · replace w := w.2 c12
        refine v_ldc2I (-1) dX12_surest_27 k_X12_208 rfl ?_
        exact v_lret dX12_surest_30 rfl (Nat.zero_le _) (Nat.zero_le _) ⟨rfl, hf5, _, _, rfl, hp4, w⟩
theorem dX12_steer_0 : decode cX12_steer 0 = .ok (.aload_n 0, 1) := by decide +kernel
theorem dX12_steer_1 : decode cX12_steer 1 = .ok (.iconst 0, 1) := by decide +kernel
theorem dX12_steer_2 : decode cX12_steer 2 = .ok (.putfield 169, 3) := by decide +kernel
theorem dX12_steer_5 : decode cX12_steer 5 = .ok (.aload_n 0, 1) := by decide +kernel
theorem dX12_steer_6 : decode cX12_steer 6 = .ok (.iload_n 1, 1) := by decide +kernel
theorem dX12_steer_7 : decode cX12_steer 7 = .ok (.invokevirtual 219, 3) := by decide +kernel
theorem dX12_steer_10 : decode cX12_steer 10 = .ok (.ifCond .eq 47, 3) := by decide +kernel
theorem dX12_steer_13 : decode cX12_steer 13 = .ok (.iload_n 2, 1) := by decide +kernel
theorem dX12_steer_14 : decode cX12_steer 14 = .ok (.invokestatic 195, 3) := by decide +kernel
theorem dX12_steer_17 : decode cX12_steer 17 = .ok (.ifCond .eq 40, 3) := by decide +kernel
theorem dX12_steer_20 : decode cX12_steer 20 = .ok (.iload_n 3, 1) := by decide +kernel
theorem dX12_steer_21 : decode cX12_steer 21 = .ok (.invokestatic 236, 3) := by decide +kernel
theorem dX12_steer_24 : decode cX12_steer 24 = .ok (.ifCond .eq 33, 3) := by decide +kernel
theorem dX12_steer_27 : decode cX12_steer 27 = .ok (.iload 4, 2) := by decide +kernel
theorem dX12_steer_29 : decode cX12_steer 29 = .ok (.i2l, 1) := by decide +kernel
theorem dX12_steer_30 : decode cX12_steer 30 = .ok (.lconst 0, 1) := by decide +kernel
theorem dX12_steer_31 : decode cX12_steer 31 = .ok (.iload_n 3, 1) := by decide +kernel
theorem dX12_steer_32 : decode cX12_steer 32 = .ok (.i2l, 1) := by decide +kernel
theorem dX12_steer_33 : decode cX12_steer 33 = .ok (.lconst 1, 1) := by decide +kernel
theorem dX12_steer_34 : decode cX12_steer 34 = .ok (.lsub, 1) := by decide +kernel
theorem dX12_steer_35 : decode cX12_steer 35 = .ok (.invokestatic 175, 3) := by decide +kernel
theorem dX12_steer_38 : decode cX12_steer 38 = .ok (.ifCond .eq 19, 3) := by decide +kernel
theorem dX12_steer_41 : decode cX12_steer 41 = .ok (.iload 5, 2) := by decide +kernel
theorem dX12_steer_43 : decode cX12_steer 43 = .ok (.invokestatic 216, 3) := by decide +kernel
theorem dX12_steer_46 : decode cX12_steer 46 = .ok (.ifCond .eq 11, 3) := by decide +kernel
theorem dX12_steer_49 : decode cX12_steer 49 = .ok (.iload 6, 2) := by decide +kernel
theorem dX12_steer_51 : decode cX12_steer 51 = .ok (.invokestatic 216, 3) := by decide +kernel
theorem dX12_steer_54 : decode cX12_steer 54 = .ok (.ifCond .ne 5, 3) := by decide +kernel
theorem dX12_steer_57 : decode cX12_steer 57 = .ok (.iconst (-1), 1) := by decide +kernel
theorem dX12_steer_58 : decode cX12_steer 58 = .ok (.ireturn, 1) := by decide +kernel
theorem dX12_steer_59 : decode cX12_steer 59 = .ok (.aload_n 0, 1) := by decide +kernel
theorem dX12_steer_60 : decode cX12_steer 60 = .ok (.iload_n 1, 1) := by decide +kernel
theorem dX12_steer_61 : decode cX12_steer 61 = .ok (.iload_n 2, 1) := by decide +kernel
theorem dX12_steer_62 : decode cX12_steer 62 = .ok (.iload_n 3, 1) := by decide +kernel
theorem dX12_steer_63 : decode cX12_steer 63 = .ok (.invokevirtual 554, 3) := by decide +kernel
theorem dX12_steer_66 : decode cX12_steer 66 = .ok (.iload 5, 2) := by decide +kernel
theorem dX12_steer_68 : decode cX12_steer 68 = .ok (.iload 6, 2) := by decide +kernel
theorem dX12_steer_70 : decode cX12_steer 70 = .ok (.invokestatic 454, 3) := by decide +kernel
theorem dX12_steer_73 : decode cX12_steer 73 = .ok (.istore 7, 2) := by decide +kernel
theorem dX12_steer_75 : decode cX12_steer 75 = .ok (.iconst 0, 1) := by decide +kernel
theorem dX12_steer_76 : decode cX12_steer 76 = .ok (.istore 8, 2) := by decide +kernel
theorem dX12_steer_78 : decode cX12_steer 78 = .ok (.aload_n 0, 1) := by decide +kernel
theorem dX12_steer_79 : decode cX12_steer 79 = .ok (.iload_n 1, 1) := by decide +kernel
theorem dX12_steer_80 : decode cX12_steer 80 = .ok (.iload 4, 2) := by decide +kernel
theorem dX12_steer_82 : decode cX12_steer 82 = .ok (.iload 7, 2) := by decide +kernel
theorem dX12_steer_84 : decode cX12_steer 84 = .ok (.iload 8, 2) := by decide +kernel
theorem dX12_steer_86 : decode cX12_steer 86 = .ok (.invokevirtual 550, 3) := by decide +kernel
theorem dX12_steer_89 : decode cX12_steer 89 = .ok (.aload_n 0, 1) := by decide +kernel
theorem dX12_steer_90 : decode cX12_steer 90 = .ok (.getfield 133, 3) := by decide +kernel
theorem dX12_steer_93 : decode cX12_steer 93 = .ok (.sipush 576, 3) := by decide +kernel
theorem dX12_steer_96 : decode cX12_steer 96 = .ok (.iload 4, 2) := by decide +kernel
theorem dX12_steer_98 : decode cX12_steer 98 = .ok (.imul, 1) := by decide +kernel
theorem dX12_steer_99 : decode cX12_steer 99 = .ok (.iload 7, 2) := by decide +kernel
theorem dX12_steer_101 : decode cX12_steer 101 = .ok (.iadd, 1) := by decide +kernel
theorem dX12_steer_102 : decode cX12_steer 102 = .ok (.laload, 1) := by decide +kernel
theorem dX12_steer_103 : decode cX12_steer 103 = .ok (.lcmp, 1) := by decide +kernel
theorem dX12_steer_104 : decode cX12_steer 104 = .ok (.ifCond .eq 9, 3) := by decide +kernel
theorem dX12_steer_107 : decode cX12_steer 107 = .ok (.iinc 8 1, 3) := by decide +kernel
theorem dX12_steer_110 : decode cX12_steer 110 = .ok (.goto (-32), 3) := by decide +kernel
theorem dX12_steer_113 : decode cX12_steer 113 = .ok (.iload 8, 2) := by decide +kernel
theorem dX12_steer_115 : decode cX12_steer 115 = .ok (.ireturn, 1) := by decide +kernel
def w_X12_steer (a0 a1 a2 a3 a4 a5 : Int) (X : XT) (Q : Int → XT → Prop) : Prop :=
  R32 a0 ∧ (0 ≤ (x_st X 77 0 0) 79 0 ∧ (x_st X 77 0 0) 79 0 ≤ 5) ∧ (¬ (0 ≤ a0 ∧ a0 ≤ (x_st X 77 0 0) 79 0 - 1) → Q (-1) (x_st X 77 0 0)) ∧ ((0 ≤ a0 ∧ a0 ≤ (x_st X 77 0 0) 79 0 - 1) → R32 a1 ∧ (¬ (0 ≤ a1 ∧ a1 ≤ 63) → Q (-1) (x_st X 77 0 0)) ∧ ((0 ≤ a1 ∧ a1 ≤ 63) → R32 a2 ∧ (¬ (0 ≤ a2 ∧ a2 ≤ 11) → Q (-1) (x_st X 77 0 0)) ∧ ((0 ≤ a2 ∧ a2 ≤ 11) → R32 a3 ∧ R64 (a2 - 1) ∧ (¬ (0 ≤ a3 ∧ a3 ≤ (a2 - 1)) → Q (-1) (x_st X 77 0 0)) ∧ ((0 ≤ a3 ∧ a3 ≤ (a2 - 1)) → R32 a4 ∧ (¬ (-8 ≤ a4 ∧ a4 ≤ 15) → Q (-1) (x_st X 77 0 0)) ∧ ((-8 ≤ a4 ∧ a4 ≤ 15) → R32 a5 ∧ ((-8 ≤ a5 ∧ a5 ≤ 15) → w_X12_findSurest  a0 a1 a2 (x_st X 77 0 0) (fun (X21 : XT) => ∃ (I27 : Int → Prop) (m28 : Int → Nat), I27 0 ∧ ∀ (x26 : Int), I27 x26 → w_X12_chanceBy  a0 a3 (caF a4 a5) x26 X21 (fun (v36 : Int) => (0 ≤ ((576 * a3) + (caF a4 a5)) ∧ ((576 * a3) + (caF a4 a5)) < 6912) ∧ R64 v36 ∧ R64 (X21 104 ((576 * a3) + (caF a4 a5))) ∧ (v36 = (X21 104 ((576 * a3) + (caF a4 a5))) → Q x26 X21) ∧ (¬ v36 = (X21 104 ((576 * a3) + (caF a4 a5))) → I27 (x26 + 1) ∧ m28 (x26 + 1) < m28 x26)))) ∧ (¬ (-8 ≤ a5 ∧ a5 ≤ 15) → Q (-1) (x_st X 77 0 0)))))))
set_option maxRecDepth 20000 in
theorem so_X12_steer {n : Nat} {h : Nat → sE} {X : XT} {a0 a1 a2 a3 a4 a5 : Int} {Q : Int → XT → Prop} (hn : 115 ≤ n) (hp : Pic X h) (w : w_X12_steer  a0 a1 a2 a3 a4 a5 X Q) : Sp m_X12_steer 10 0 0 [.ref 77, .int (iI a0), .int (iI a1), .int (iI a2), .int (iI a3), .int (iI a4), .int (iI a5)] n h (pIw n h Q) := by
  unfold w_X12_steer at w
  refine Sp.ofV (by decide +kernel) (Nat.le_of_ble_eq_true rfl) ?_
  have hf : Fr h h := fun _ _ => rfl
  refine v_aload_n dX12_steer_0 rfl ?_
  refine v_iconstI dX12_steer_1 ?_
  refine v_put dX12_steer_2 fl_X12_169 ((hp 77 (by decide)).trans (ent_77 _)) (s_lt hn rfl) (Nat.le_of_ble_eq_true rfl) (fun _ => ⟨rfl, rfl⟩) trivial (fun h1 E2 F3 => ?_)
  have hp4 := pic_st hp (show h1 77 = ent 77 (uI _ 0 0) from E2) F3
  have hf5 := Fr.up (c := 77) hf F3 rfl
  refine v_aload_n dX12_steer_5 rfl ?_
  refine v_iload_n dX12_steer_6 rfl ?_
  obtain ⟨q6, q7, w⟩ := w
  refine v_callVp dX12_steer_7 ml_X12_219 (sp_X12_isCloud (a := a0) (g77 := (x_st X 77 0 0) 77) (g79 := (x_st X 77 0 0) 79) hn (hp4 77 (by decide)) (hp4 79 (by decide)) q6 q7) ((hp4 77 (by decide)).trans (ent_77 _)) rfl (s_lt hn rfl) rfl rfl (Nat.le_of_ble_eq_true rfl) (Nat.le_of_ble_eq_true rfl) (Nat.zero_le _) (Nat.zero_le _) ?_
  refine v_ifeqB (tgt := 57) dX12_steer_10 (by decide) (fun c8 => ?_) (fun c8 => ?_)
  · replace w := w.1 c8
    refine v_iconstI dX12_steer_57 ?_
    exact v_iret dX12_steer_58 rfl (Nat.zero_le _) (Nat.zero_le _) ⟨rfl, hf5, _, _, rfl, hp4, w⟩
  · replace w := w.2 c8
    refine v_iload_n dX12_steer_13 rfl ?_
    obtain ⟨q9, w⟩ := w
    refine v_callSp dX12_steer_14 ml_X12_195 (sp_X12_isField (a := a1) q9) rfl rfl (Nat.le_of_ble_eq_true rfl) (Nat.le_of_ble_eq_true rfl) (Nat.zero_le _) (Nat.zero_le _) ?_
    refine v_ifeqB (tgt := 57) dX12_steer_17 (by decide) (fun c10 => ?_) (fun c10 => ?_)
    · replace w := w.1 c10
      refine v_iconstI dX12_steer_57 ?_
      exact v_iret dX12_steer_58 rfl (Nat.zero_le _) (Nat.zero_le _) ⟨rfl, hf5, _, _, rfl, hp4, w⟩
    · replace w := w.2 c10
      refine v_iload_n dX12_steer_20 rfl ?_
      obtain ⟨q11, w⟩ := w
      refine v_callSp dX12_steer_21 ml_X12_236 (sp_X12_isHour (a := a2) q11) rfl rfl (Nat.le_of_ble_eq_true rfl) (Nat.le_of_ble_eq_true rfl) (Nat.zero_le _) (Nat.zero_le _) ?_
      refine v_ifeqB (tgt := 57) dX12_steer_24 (by decide) (fun c12 => ?_) (fun c12 => ?_)
      · replace w := w.1 c12
        refine v_iconstI dX12_steer_57 ?_
        exact v_iret dX12_steer_58 rfl (Nat.zero_le _) (Nat.zero_le _) ⟨rfl, hf5, _, _, rfl, hp4, w⟩
      · replace w := w.2 c12
        refine v_iload dX12_steer_27 rfl ?_
        obtain ⟨q13, w⟩ := w
        refine v_i2lI dX12_steer_29 q13.1 q13.2 ?_
        refine v_lconstI (w := 0) dX12_steer_30 rfl ?_
        refine v_iload_n dX12_steer_31 rfl ?_
        refine v_i2lI dX12_steer_32 q11.1 q11.2 ?_
        refine v_lconstI (w := 1) dX12_steer_33 rfl ?_
        refine v_lsubI dX12_steer_34 ?_
        obtain ⟨q14, w⟩ := w
        refine v_callSp dX12_steer_35 ml_X12_175 (sp_X12_in (v := a3) (lo := 0) (hi := (a2 - 1)) (r32_64 q13) (by decide) q14) rfl rfl (Nat.le_of_ble_eq_true rfl) (Nat.le_of_ble_eq_true rfl) (Nat.zero_le _) (Nat.zero_le _) ?_
        refine v_ifeqB (tgt := 57) dX12_steer_38 (by decide) (fun c15 => ?_) (fun c15 => ?_)
        · replace w := w.1 c15
          refine v_iconstI dX12_steer_57 ?_
          exact v_iret dX12_steer_58 rfl (Nat.zero_le _) (Nat.zero_le _) ⟨rfl, hf5, _, _, rfl, hp4, w⟩
        · replace w := w.2 c15
          refine v_iload dX12_steer_41 rfl ?_
          obtain ⟨q16, w⟩ := w
          refine v_callSp dX12_steer_43 ml_X12_216 (sp_X12_isPlace (a := a4) q16) rfl rfl (Nat.le_of_ble_eq_true rfl) (Nat.le_of_ble_eq_true rfl) (Nat.zero_le _) (Nat.zero_le _) ?_
          refine v_ifeqB (tgt := 57) dX12_steer_46 (by decide) (fun c17 => ?_) (fun c17 => ?_)
          · replace w := w.1 c17
            refine v_iconstI dX12_steer_57 ?_
            exact v_iret dX12_steer_58 rfl (Nat.zero_le _) (Nat.zero_le _) ⟨rfl, hf5, _, _, rfl, hp4, w⟩
          · replace w := w.2 c17
            refine v_iload dX12_steer_49 rfl ?_
            obtain ⟨q18, w⟩ := w
            refine v_callSp dX12_steer_51 ml_X12_216 (sp_X12_isPlace (a := a5) q18) rfl rfl (Nat.le_of_ble_eq_true rfl) (Nat.le_of_ble_eq_true rfl) (Nat.zero_le _) (Nat.zero_le _) ?_
            refine v_ifneB (tgt := 59) dX12_steer_54 (by decide) (fun c19 => ?_) (fun c19 => ?_)
            · replace w := w.1 c19
              refine v_aload_n dX12_steer_59 rfl ?_
              refine v_iload_n dX12_steer_60 rfl ?_
              refine v_iload_n dX12_steer_61 rfl ?_
              refine v_iload_n dX12_steer_62 rfl ?_
              refine v_callVVw dX12_steer_63 ml_X12_554 (so_X12_findSurest hn hp4  w) ((hp4 77 (by decide)).trans (ent_77 _)) rfl (s_lt hn rfl) rfl rfl (Nat.le_of_ble_eq_true rfl) (Nat.le_of_ble_eq_true rfl) (Nat.zero_le _) (Nat.zero_le _) (fun X21 h22 hp24 hf23 w => ?_)
              have hf25 := Fr.trans hf5 hf23
              refine v_iload dX12_steer_66 rfl ?_
              refine v_iload dX12_steer_68 rfl ?_
              refine v_callSp dX12_steer_70 ml_X12_454 (sp_X12_cornerAt (x := a4) (y := a5) q16 q18) rfl rfl (Nat.le_of_ble_eq_true rfl) (Nat.le_of_ble_eq_true rfl) (Nat.zero_le _) (Nat.zero_le _) ?_
              refine v_istore dX12_steer_73 (Nat.le_of_ble_eq_true rfl) ?_
              refine v_iconstI dX12_steer_75 ?_
              refine v_istore dX12_steer_76 (Nat.le_of_ble_eq_true rfl) ?_
              refine v_pick [2, 3, 6, 1, 0] rfl ?_
              obtain ⟨I27, m28, wi31, wl30⟩ := w
              have hL32 : ∀ (N35 : Nat) (x26 : Int), m28 x26 < N35 → I27 x26 → V (m_X12_steer, 10, 0, 0, n, pIw n h Q, s_G0) 0 0 n h22 78 [(0, .ref 77), (1, .int (iI a0)), (4, .int (iI a3)), (7, .int (iI (caF a4 a5))), (8, .int (iI x26))] [] := by
                intro N35
                induction N35 with
                | zero => intro x26  hm33; exact absurd hm33 (Nat.not_lt_zero _)
                | succ N35 ih29 =>
                  intro x26  hm33 hI34
                  have w := wl30 x26 hI34
                  refine v_aload_n dX12_steer_78 rfl ?_
                  refine v_iload_n dX12_steer_79 rfl ?_
                  refine v_iload dX12_steer_80 rfl ?_
                  refine v_iload dX12_steer_82 rfl ?_
                  refine v_iload dX12_steer_84 rfl ?_
                  refine v_callVLr dX12_steer_86 ml_X12_550 (so_X12_chanceBy hn hp24  w) ((hp24 77 (by decide)).trans (ent_77 _)) rfl (s_lt hn rfl) rfl rfl (Nat.le_of_ble_eq_true rfl) (Nat.le_of_ble_eq_true rfl) (Nat.zero_le _) (Nat.zero_le _) (fun v36 w => ?_)
                  refine v_aload_n dX12_steer_89 rfl ?_
                  refine v_get dX12_steer_90 fl_X12_133 ((hp24 77 (by decide)).trans (ent_77 _)) rfl (s_lt hn rfl) ?_
                  refine v_sipushI dX12_steer_93 rfl ?_
                  refine v_iload dX12_steer_96 rfl ?_
                  refine v_imulI dX12_steer_98 ?_
                  refine v_iload dX12_steer_99 rfl ?_
                  refine v_iaddI dX12_steer_101 ?_
                  obtain ⟨q42, w⟩ := w
                  refine v_laldI dX12_steer_102 ((hp24 104 (by decide)).trans (ent_104 _)) (s_lt hn rfl) q42.1 q42.2 (ix_le q42.2 (by decide)) ?_
                  obtain ⟨q43, q44, w⟩ := w
                  refine v_lcmp_eqI (tgt := 113) dX12_steer_103 dX12_steer_104 (by decide) q43.1 q43.2 q44.1 q44.2 (fun c45 => ?_) (fun c45 => ?_)
                  · replace w := w.1 c45
                    refine v_iload dX12_steer_113 rfl ?_
                    exact v_iret dX12_steer_115 rfl (Nat.zero_le _) (Nat.zero_le _) ⟨rfl, hf25, _, _, rfl, hp24, w⟩
                  · replace w := w.2 c45
                    refine v_iincI dX12_steer_107 rfl (Nat.le_of_ble_eq_true rfl) ?_
                    refine v_goto (tgt := 78) dX12_steer_110 (by decide) ?_
                    refine v_pick [1, 2, 3, 4, 0] rfl ?_
                    exact ih29 _ (Nat.lt_of_lt_of_le w.2 (Nat.le_of_lt_succ hm33)) w.1
              exact hL32 _ _ (Nat.lt_succ_self _) wi31
            · replace w := w.2 c19
              refine v_iconstI dX12_steer_57 ?_
              exact v_iret dX12_steer_58 rfl (Nat.zero_le _) (Nat.zero_le _) ⟨rfl, hf5, _, _, rfl, hp4, w⟩
theorem dX12_isStray_0 : decode cX12_isStray 0 = .ok (.iload 4, 2) := by decide +kernel
theorem dX12_isStray_2 : decode cX12_isStray 2 = .ok (.istore 5, 2) := by decide +kernel
theorem dX12_isStray_4 : decode cX12_isStray 4 = .ok (.iconst 0, 1) := by decide +kernel
theorem dX12_isStray_5 : decode cX12_isStray 5 = .ok (.istore 6, 2) := by decide +kernel
theorem dX12_isStray_7 : decode cX12_isStray 7 = .ok (.iload 6, 2) := by decide +kernel
theorem dX12_isStray_9 : decode cX12_isStray 9 = .ok (.bipush 12, 2) := by decide +kernel
theorem dX12_isStray_11 : decode cX12_isStray 11 = .ok (.if_icmp .ge 40, 3) := by decide +kernel
theorem dX12_isStray_14 : decode cX12_isStray 14 = .ok (.aload_n 0, 1) := by decide +kernel
theorem dX12_isStray_15 : decode cX12_isStray 15 = .ok (.getfield 136, 3) := by decide +kernel
theorem dX12_isStray_18 : decode cX12_isStray 18 = .ok (.iload 6, 2) := by decide +kernel
theorem dX12_isStray_20 : decode cX12_isStray 20 = .ok (.iload 5, 2) := by decide +kernel
theorem dX12_isStray_22 : decode cX12_isStray 22 = .ok (.iastore, 1) := by decide +kernel
theorem dX12_isStray_23 : decode cX12_isStray 23 = .ok (.iload 5, 2) := by decide +kernel
theorem dX12_isStray_25 : decode cX12_isStray 25 = .ok (.iconst (-1), 1) := by decide +kernel
theorem dX12_isStray_26 : decode cX12_isStray 26 = .ok (.if_icmp .ne 7, 3) := by decide +kernel
theorem dX12_isStray_29 : decode cX12_isStray 29 = .ok (.iconst (-1), 1) := by decide +kernel
theorem dX12_isStray_30 : decode cX12_isStray 30 = .ok (.goto 13, 3) := by decide +kernel
theorem dX12_isStray_33 : decode cX12_isStray 33 = .ok (.aload_n 0, 1) := by decide +kernel
theorem dX12_isStray_34 : decode cX12_isStray 34 = .ok (.iload_n 3, 1) := by decide +kernel
theorem dX12_isStray_35 : decode cX12_isStray 35 = .ok (.iload 5, 2) := by decide +kernel
theorem dX12_isStray_37 : decode cX12_isStray 37 = .ok (.iconst 0, 1) := by decide +kernel
theorem dX12_isStray_38 : decode cX12_isStray 38 = .ok (.iconst 4, 1) := by decide +kernel
theorem dX12_isStray_39 : decode cX12_isStray 39 = .ok (.iconst 4, 1) := by decide +kernel
theorem dX12_isStray_40 : decode cX12_isStray 40 = .ok (.invokevirtual 460, 3) := by decide +kernel
theorem dX12_isStray_43 : decode cX12_isStray 43 = .ok (.istore 5, 2) := by decide +kernel
theorem dX12_isStray_45 : decode cX12_isStray 45 = .ok (.iinc 6 1, 3) := by decide +kernel
theorem dX12_isStray_48 : decode cX12_isStray 48 = .ok (.goto (-41), 3) := by decide +kernel
theorem dX12_isStray_51 : decode cX12_isStray 51 = .ok (.iconst 1, 1) := by decide +kernel
theorem dX12_isStray_52 : decode cX12_isStray 52 = .ok (.istore 6, 2) := by decide +kernel
theorem dX12_isStray_54 : decode cX12_isStray 54 = .ok (.iconst 0, 1) := by decide +kernel
theorem dX12_isStray_55 : decode cX12_isStray 55 = .ok (.istore 7, 2) := by decide +kernel
theorem dX12_isStray_57 : decode cX12_isStray 57 = .ok (.iload 7, 2) := by decide +kernel
theorem dX12_isStray_59 : decode cX12_isStray 59 = .ok (.aload_n 0, 1) := by decide +kernel
theorem dX12_isStray_60 : decode cX12_isStray 60 = .ok (.getfield 13, 3) := by decide +kernel
theorem dX12_isStray_63 : decode cX12_isStray 63 = .ok (.iconst 3, 1) := by decide +kernel
theorem dX12_isStray_64 : decode cX12_isStray 64 = .ok (.iaload, 1) := by decide +kernel
theorem dX12_isStray_65 : decode cX12_isStray 65 = .ok (.if_icmp .ge 78, 3) := by decide +kernel
theorem dX12_isStray_68 : decode cX12_isStray 68 = .ok (.sipush 344, 3) := by decide +kernel
theorem dX12_isStray_71 : decode cX12_isStray 71 = .ok (.iconst 3, 1) := by decide +kernel
theorem dX12_isStray_72 : decode cX12_isStray 72 = .ok (.iload 7, 2) := by decide +kernel
theorem dX12_isStray_74 : decode cX12_isStray 74 = .ok (.imul, 1) := by decide +kernel
theorem dX12_isStray_75 : decode cX12_isStray 75 = .ok (.iadd, 1) := by decide +kernel
theorem dX12_isStray_76 : decode cX12_isStray 76 = .ok (.istore 8, 2) := by decide +kernel
theorem dX12_isStray_78 : decode cX12_isStray 78 = .ok (.iload 6, 2) := by decide +kernel
theorem dX12_isStray_80 : decode cX12_isStray 80 = .ok (.ifCond .eq 54, 3) := by decide +kernel
theorem dX12_isStray_83 : decode cX12_isStray 83 = .ok (.iload_n 1, 1) := by decide +kernel
theorem dX12_isStray_84 : decode cX12_isStray 84 = .ok (.iload_n 2, 1) := by decide +kernel
theorem dX12_isStray_85 : decode cX12_isStray 85 = .ok (.aload_n 0, 1) := by decide +kernel
theorem dX12_isStray_86 : decode cX12_isStray 86 = .ok (.getfield 136, 3) := by decide +kernel
theorem dX12_isStray_89 : decode cX12_isStray 89 = .ok (.aload_n 0, 1) := by decide +kernel
theorem dX12_isStray_90 : decode cX12_isStray 90 = .ok (.getfield 13, 3) := by decide +kernel
theorem dX12_isStray_93 : decode cX12_isStray 93 = .ok (.iload 8, 2) := by decide +kernel
theorem dX12_isStray_95 : decode cX12_isStray 95 = .ok (.iaload, 1) := by decide +kernel
theorem dX12_isStray_96 : decode cX12_isStray 96 = .ok (.iaload, 1) := by decide +kernel
theorem dX12_isStray_97 : decode cX12_isStray 97 = .ok (.aload_n 0, 1) := by decide +kernel
theorem dX12_isStray_98 : decode cX12_isStray 98 = .ok (.getfield 13, 3) := by decide +kernel
theorem dX12_isStray_101 : decode cX12_isStray 101 = .ok (.iload 8, 2) := by decide +kernel
theorem dX12_isStray_103 : decode cX12_isStray 103 = .ok (.iconst 1, 1) := by decide +kernel
theorem dX12_isStray_104 : decode cX12_isStray 104 = .ok (.iadd, 1) := by decide +kernel
theorem dX12_isStray_105 : decode cX12_isStray 105 = .ok (.iaload, 1) := by decide +kernel
theorem dX12_isStray_106 : decode cX12_isStray 106 = .ok (.invokestatic 471, 3) := by decide +kernel
theorem dX12_isStray_109 : decode cX12_isStray 109 = .ok (.aload_n 0, 1) := by decide +kernel
theorem dX12_isStray_110 : decode cX12_isStray 110 = .ok (.getfield 13, 3) := by decide +kernel
theorem dX12_isStray_113 : decode cX12_isStray 113 = .ok (.iload 8, 2) := by decide +kernel
theorem dX12_isStray_115 : decode cX12_isStray 115 = .ok (.iconst 2, 1) := by decide +kernel
theorem dX12_isStray_116 : decode cX12_isStray 116 = .ok (.iadd, 1) := by decide +kernel
theorem dX12_isStray_117 : decode cX12_isStray 117 = .ok (.iaload, 1) := by decide +kernel
theorem dX12_isStray_118 : decode cX12_isStray 118 = .ok (.iconst 1, 1) := by decide +kernel
theorem dX12_isStray_119 : decode cX12_isStray 119 = .ok (.if_icmp .ne 7, 3) := by decide +kernel
theorem dX12_isStray_122 : decode cX12_isStray 122 = .ok (.iconst 1, 1) := by decide +kernel
theorem dX12_isStray_123 : decode cX12_isStray 123 = .ok (.goto 4, 3) := by decide +kernel
theorem dX12_isStray_126 : decode cX12_isStray 126 = .ok (.iconst 0, 1) := by decide +kernel
theorem dX12_isStray_127 : decode cX12_isStray 127 = .ok (.if_icmp .ne 7, 3) := by decide +kernel
theorem dX12_isStray_130 : decode cX12_isStray 130 = .ok (.iconst 1, 1) := by decide +kernel
theorem dX12_isStray_131 : decode cX12_isStray 131 = .ok (.goto 4, 3) := by decide +kernel
theorem dX12_isStray_134 : decode cX12_isStray 134 = .ok (.iconst 0, 1) := by decide +kernel
theorem dX12_isStray_135 : decode cX12_isStray 135 = .ok (.istore 6, 2) := by decide +kernel
theorem dX12_isStray_137 : decode cX12_isStray 137 = .ok (.iinc 7 1, 3) := by decide +kernel
theorem dX12_isStray_140 : decode cX12_isStray 140 = .ok (.goto (-83), 3) := by decide +kernel
theorem dX12_isStray_143 : decode cX12_isStray 143 = .ok (.iload 6, 2) := by decide +kernel
theorem dX12_isStray_145 : decode cX12_isStray 145 = .ok (.ireturn, 1) := by decide +kernel
def w_X12_isStray (a0 a1 a2 a3 : Int) (X : XT) (Q : Int → XT → Prop) : Prop :=
  ∃ (I4 : Int → Int → XT → Prop) (m5 : Int → Int → XT → Nat), I4 a3 0 X ∧ ∀ (x1 : Int) (x2 : Int) (X3 : XT), I4 x1 x2 X3 → R32 x2 ∧ (12 ≤ x2 → ∃ (I20 : Int → Int → Prop) (m21 : Int → Int → Nat), I20 1 0 ∧ ∀ (x18 : Int) (x19 : Int), I20 x18 x19 → R32 x19 ∧ R32 (X3 79 3) ∧ ((X3 79 3) ≤ x19 → (x18 = 0 ∨ x18 = 1) ∧ Q x18 X3) ∧ (¬ (X3 79 3) ≤ x19 → ∀ J33 : Prop, ((I20 0 (x19 + 1) ∧ m21 0 (x19 + 1) < m21 x18 x19) → J33) → R32 x18 ∧ (x18 = 0 → J33 ) ∧ (¬ x18 = 0 → (0 ≤ (344 + (3 * x19)) ∧ (344 + (3 * x19)) < 5780) ∧ (0 ≤ (X3 79 (344 + (3 * x19))) ∧ (X3 79 (344 + (3 * x19))) < 12) ∧ (0 ≤ ((344 + (3 * x19)) + 1) ∧ ((344 + (3 * x19)) + 1) < 5780) ∧ (1 ≤ a0 ∧ a0 ≤ 3) ∧ (1 ≤ a1 ∧ a1 ≤ 3) ∧ (-1 ≤ (X3 105 (X3 79 (344 + (3 * x19)))) ∧ (X3 105 (X3 79 (344 + (3 * x19)))) ≤ 575) ∧ (0 ≤ (X3 79 ((344 + (3 * x19)) + 1)) ∧ (X3 79 ((344 + (3 * x19)) + 1)) ≤ 63) ∧ (0 ≤ ((344 + (3 * x19)) + 2) ∧ ((344 + (3 * x19)) + 2) < 5780) ∧ ∀ J45 : Int → Prop, (∀ (v44 : Int), (R32 (if (¬ (X3 105 (X3 79 (344 + (3 * x19)))) = -1 ∧ cvB (X3 105 (X3 79 (344 + (3 * x19)))) a0 a1 (X3 79 ((344 + (3 * x19)) + 1))) then 1 else 0) ∧ R32 v44 ∧ (¬ (if (¬ (X3 105 (X3 79 (344 + (3 * x19)))) = -1 ∧ cvB (X3 105 (X3 79 (344 + (3 * x19)))) a0 a1 (X3 79 ((344 + (3 * x19)) + 1))) then 1 else 0) = v44 → J33 ) ∧ ((if (¬ (X3 105 (X3 79 (344 + (3 * x19)))) = -1 ∧ cvB (X3 105 (X3 79 (344 + (3 * x19)))) a0 a1 (X3 79 ((344 + (3 * x19)) + 1))) then 1 else 0) = v44 → I20 1 (x19 + 1) ∧ m21 1 (x19 + 1) < m21 x18 x19)) → J45 v44) → R32 (X3 79 ((344 + (3 * x19)) + 2)) ∧ (¬ (X3 79 ((344 + (3 * x19)) + 2)) = 1 → J45 0) ∧ ((X3 79 ((344 + (3 * x19)) + 2)) = 1 → J45 1)))) ∧ (¬ 12 ≤ x2 → (0 ≤ x2 ∧ x2 < 12) ∧ R32 x1 ∧ (¬ x1 = (-1) → w_X12_goes  a2 x1 0 4 4 (x_st X3 105 x2 x1) (fun (v59 : Int) => I4 v59 (x2 + 1) (x_st X3 105 x2 x1) ∧ m5 v59 (x2 + 1) (x_st X3 105 x2 x1) < m5 x1 x2 X3)) ∧ (x1 = (-1) → I4 (-1) (x2 + 1) (x_st X3 105 x2 x1) ∧ m5 (-1) (x2 + 1) (x_st X3 105 x2 x1) < m5 x1 x2 X3))
set_option maxRecDepth 20000 in
theorem so_X12_isStray {n : Nat} {h : Nat → sE} {X : XT} {a0 a1 a2 a3 : Int} {Q : Int → XT → Prop} (hn : 115 ≤ n) (hp : Pic X h) (w : w_X12_isStray  a0 a1 a2 a3 X Q) : Sp m_X12_isStray 4 0 0 [.ref 77, .int (iI a0), .int (iI a1), .int (iI a2), .int (iI a3)] n h (pIw n h Q) := by
  unfold w_X12_isStray at w
  refine Sp.ofV (by decide +kernel) (Nat.le_of_ble_eq_true rfl) ?_
  have hf : Fr h h := fun _ _ => rfl
  refine v_iload dX12_isStray_0 rfl ?_
  refine v_istore dX12_isStray_2 (Nat.le_of_ble_eq_true rfl) ?_
  refine v_iconstI dX12_isStray_4 ?_
  refine v_istore dX12_isStray_5 (Nat.le_of_ble_eq_true rfl) ?_
  refine v_pick [2, 3, 4, 5, 1, 0] rfl ?_
  obtain ⟨I4, m5, wi8, wl7⟩ := w
  have hL9 : ∀ (N12 : Nat) (x1 : Int) (x2 : Int) (X3 : XT) (h13 : Nat → sE), m5 x1 x2 X3 < N12 → I4 x1 x2 X3 → Pic X3 h13 → Fr h h13 → V (m_X12_isStray, 4, 0, 0, n, pIw n h Q, s_G0) 0 0 n h13 7 [(0, .ref 77), (1, .int (iI a0)), (2, .int (iI a1)), (3, .int (iI a2)), (5, .int (iI x1)), (6, .int (iI x2))] [] := by
    intro N12
    induction N12 with
    | zero => intro x1 x2 X3 h13 hm10; exact absurd hm10 (Nat.not_lt_zero _)
    | succ N12 ih6 =>
      intro x1 x2 X3 h13 hm10 hI11 hp14 hf15
      have w := wl7 x1 x2 X3 hI11
      refine v_iload dX12_isStray_7 rfl ?_
      refine v_bipushI dX12_isStray_9 rfl ?_
      obtain ⟨q16, w⟩ := w
      refine v_icmp_geI (tgt := 51) dX12_isStray_11 (by decide) q16.1 q16.2 (by decide) (by decide) (fun c17 => ?_) (fun c17 => ?_)
      · replace w := w.1 c17
        refine v_iconstI dX12_isStray_51 ?_
        refine v_istore dX12_isStray_52 (Nat.le_of_ble_eq_true rfl) ?_
        refine v_iconstI dX12_isStray_54 ?_
        refine v_istore dX12_isStray_55 (Nat.le_of_ble_eq_true rfl) ?_
        refine v_pick [2, 3, 4, 1, 0] rfl ?_
        obtain ⟨I20, m21, wi24, wl23⟩ := w
        have hL25 : ∀ (N28 : Nat) (x18 : Int) (x19 : Int), m21 x18 x19 < N28 → I20 x18 x19 → V (m_X12_isStray, 4, 0, 0, n, pIw n h Q, s_G0) 0 0 n h13 57 [(0, .ref 77), (1, .int (iI a0)), (2, .int (iI a1)), (6, .int (iI x18)), (7, .int (iI x19))] [] := by
          intro N28
          induction N28 with
          | zero => intro x18 x19  hm26; exact absurd hm26 (Nat.not_lt_zero _)
          | succ N28 ih22 =>
            intro x18 x19  hm26 hI27
            have w := wl23 x18 x19 hI27
            refine v_iload dX12_isStray_57 rfl ?_
            refine v_aload_n dX12_isStray_59 rfl ?_
            refine v_get dX12_isStray_60 fl_X12_13 ((hp14 77 (by decide)).trans (ent_77 _)) rfl (s_lt hn rfl) ?_
            refine v_iconstI dX12_isStray_63 ?_
            refine v_ialdI dX12_isStray_64 ((hp14 79 (by decide)).trans (ent_79 _)) (s_lt hn rfl) (by decide) (by decide) (by decide) ?_
            obtain ⟨q29, q30, w⟩ := w
            refine v_icmp_geI (tgt := 143) dX12_isStray_65 (by decide) q29.1 q29.2 q30.1 q30.2 (fun c31 => ?_) (fun c31 => ?_)
            · replace w := w.1 c31
              refine v_iload dX12_isStray_143 rfl ?_
              obtain ⟨q32, w⟩ := w
              exact v_zretZ dX12_isStray_145 rfl q32 (Nat.zero_le _) (Nat.zero_le _) ⟨rfl, hf15, _, _, rfl, hp14, w⟩
            · replace w := w.2 c31
              refine v_sipushI dX12_isStray_68 rfl ?_
              refine v_iconstI dX12_isStray_71 ?_
              refine v_iload dX12_isStray_72 rfl ?_
              refine v_imulI dX12_isStray_74 ?_
              refine v_iaddI dX12_isStray_75 ?_
              refine v_istore dX12_isStray_76 (Nat.le_of_ble_eq_true rfl) ?_
              refine v_iload dX12_isStray_78 rfl ?_
              replace w := w (V (m_X12_isStray, 4, 0, 0, n, pIw n h Q, s_G0) 0 0 n h13 134 [(0, .ref 77), (1, .int (iI a0)), (2, .int (iI a1)), (7, .int (iI x19))] []) (by
                intro  w
                refine v_iconstI dX12_isStray_134 ?_
                refine v_istore dX12_isStray_135 (Nat.le_of_ble_eq_true rfl) ?_
                refine v_iincI dX12_isStray_137 rfl (Nat.le_of_ble_eq_true rfl) ?_
                refine v_goto (tgt := 57) dX12_isStray_140 (by decide) ?_
                refine v_pick [2, 3, 4, 1, 0] rfl ?_
                exact ih22 _ _ (Nat.lt_of_lt_of_le w.2 (Nat.le_of_lt_succ hm26)) w.1
              )
              obtain ⟨q34, w⟩ := w
              refine v_if_eqI (tgt := 134) dX12_isStray_80 (by decide) q34.1 q34.2 (fun c35 => ?_) (fun c35 => ?_)
              · replace w := w.1 c35
                refine v_pick [1, 2, 3, 5] rfl ?_
                exact w
              · replace w := w.2 c35
                refine v_iload_n dX12_isStray_83 rfl ?_
                refine v_iload_n dX12_isStray_84 rfl ?_
                refine v_aload_n dX12_isStray_85 rfl ?_
                refine v_get dX12_isStray_86 fl_X12_136 ((hp14 77 (by decide)).trans (ent_77 _)) rfl (s_lt hn rfl) ?_
                refine v_aload_n dX12_isStray_89 rfl ?_
                refine v_get dX12_isStray_90 fl_X12_13 ((hp14 77 (by decide)).trans (ent_77 _)) rfl (s_lt hn rfl) ?_
                refine v_iload dX12_isStray_93 rfl ?_
                obtain ⟨q36, w⟩ := w
                refine v_ialdI dX12_isStray_95 ((hp14 79 (by decide)).trans (ent_79 _)) (s_lt hn rfl) q36.1 q36.2 (ix_le q36.2 (by decide)) ?_
                obtain ⟨q37, w⟩ := w
                refine v_ialdI dX12_isStray_96 ((hp14 105 (by decide)).trans (ent_105 _)) (s_lt hn rfl) q37.1 q37.2 (ix_le q37.2 (by decide)) ?_
                refine v_aload_n dX12_isStray_97 rfl ?_
                refine v_get dX12_isStray_98 fl_X12_13 ((hp14 77 (by decide)).trans (ent_77 _)) rfl (s_lt hn rfl) ?_
                refine v_iload dX12_isStray_101 rfl ?_
                refine v_iconstI dX12_isStray_103 ?_
                refine v_iaddI dX12_isStray_104 ?_
                obtain ⟨q38, w⟩ := w
                refine v_ialdI dX12_isStray_105 ((hp14 79 (by decide)).trans (ent_79 _)) (s_lt hn rfl) q38.1 q38.2 (ix_le q38.2 (by decide)) ?_
                obtain ⟨q39, q40, q41, q42, w⟩ := w
                refine v_callSp dX12_isStray_106 ml_X12_471 (sp_X12_covers (wd := a0) (tl := a1) (a := (X3 105 (X3 79 (344 + (3 * x19))))) (f := (X3 79 ((344 + (3 * x19)) + 1))) q39 q40 q41 q42) rfl rfl (Nat.le_of_ble_eq_true rfl) (Nat.le_of_ble_eq_true rfl) (Nat.zero_le _) (Nat.zero_le _) ?_
                refine v_aload_n dX12_isStray_109 rfl ?_
                refine v_get dX12_isStray_110 fl_X12_13 ((hp14 77 (by decide)).trans (ent_77 _)) rfl (s_lt hn rfl) ?_
                refine v_iload dX12_isStray_113 rfl ?_
                refine v_iconstI dX12_isStray_115 ?_
                refine v_iaddI dX12_isStray_116 ?_
                obtain ⟨q43, w⟩ := w
                refine v_ialdI dX12_isStray_117 ((hp14 79 (by decide)).trans (ent_79 _)) (s_lt hn rfl) q43.1 q43.2 (ix_le q43.2 (by decide)) ?_
                refine v_iconstI dX12_isStray_118 ?_
                replace w := w (fun (v44 : Int) => V (m_X12_isStray, 4, 0, 0, n, pIw n h Q, s_G0) 0 0 n h13 127 [(0, .ref 77), (1, .int (iI a0)), (2, .int (iI a1)), (7, .int (iI x19))] [.int (iI v44), .int (bI (¬ (X3 105 (X3 79 (344 + (3 * x19)))) = -1 ∧ cvB (X3 105 (X3 79 (344 + (3 * x19)))) a0 a1 (X3 79 ((344 + (3 * x19)) + 1))))]) (by
                  intro v44 w
                  obtain ⟨q46, q47, w⟩ := w
                  refine v_icmp_neI (tgt := 134) dX12_isStray_127 (by decide) q46.1 q46.2 q47.1 q47.2 (fun c48 => ?_) (fun c48 => ?_)
                  · replace w := w.1 c48
                    exact w
                  · replace w := w.2 c48
                    refine v_iconstI dX12_isStray_130 ?_
                    refine v_goto (tgt := 135) dX12_isStray_131 (by decide) ?_
                    refine v_istore dX12_isStray_135 (Nat.le_of_ble_eq_true rfl) ?_
                    refine v_iincI dX12_isStray_137 rfl (Nat.le_of_ble_eq_true rfl) ?_
                    refine v_goto (tgt := 57) dX12_isStray_140 (by decide) ?_
                    refine v_pick [2, 3, 4, 1, 0] rfl ?_
                    exact ih22 _ _ (Nat.lt_of_lt_of_le w.2 (Nat.le_of_lt_succ hm26)) w.1
                )
                obtain ⟨q49, w⟩ := w
                refine v_icmp_neI (tgt := 126) dX12_isStray_119 (by decide) q49.1 q49.2 (by decide) (by decide) (fun c50 => ?_) (fun c50 => ?_)
                · replace w := w.1 c50
                  refine v_iconstI dX12_isStray_126 ?_
                  refine v_pick [1, 2, 3, 5] rfl ?_
                  exact w
                · replace w := w.2 c50
                  refine v_iconstI dX12_isStray_122 ?_
                  refine v_goto (tgt := 127) dX12_isStray_123 (by decide) ?_
                  refine v_pick [1, 2, 3, 5] rfl ?_
                  exact w
        exact hL25 _ _ _ (Nat.lt_succ_self _) wi24
      · replace w := w.2 c17
        refine v_aload_n dX12_isStray_14 rfl ?_
        refine v_get dX12_isStray_15 fl_X12_136 ((hp14 77 (by decide)).trans (ent_77 _)) rfl (s_lt hn rfl) ?_
        refine v_iload dX12_isStray_18 rfl ?_
        refine v_iload dX12_isStray_20 rfl ?_
        obtain ⟨q51, w⟩ := w
        refine v_iastI dX12_isStray_22 ((hp14 105 (by decide)).trans (ent_105 _)) (s_lt hn rfl) q51.1 q51.2 (ix_le q51.2 (by decide)) (fun h52 E53 F54 => ?_)
        have hp55 := pic_st hp14 (show h52 105 = ent 105 (uI _ x2 x1) from E53) F54
        have hf56 := Fr.up (c := 105) hf15 F54 rfl
        refine v_iload dX12_isStray_23 rfl ?_
        refine v_iconstI dX12_isStray_25 ?_
        obtain ⟨q57, w⟩ := w
        refine v_icmp_neI (tgt := 33) dX12_isStray_26 (by decide) q57.1 q57.2 (by decide) (by decide) (fun c58 => ?_) (fun c58 => ?_)
        · replace w := w.1 c58
          refine v_aload_n dX12_isStray_33 rfl ?_
          refine v_iload_n dX12_isStray_34 rfl ?_
          refine v_iload dX12_isStray_35 rfl ?_
          refine v_iconstI dX12_isStray_37 ?_
          refine v_iconstI dX12_isStray_38 ?_
          refine v_iconstI dX12_isStray_39 ?_
          refine v_callVIr dX12_isStray_40 ml_X12_460 (so_X12_goes hn hp55  w) ((hp55 77 (by decide)).trans (ent_77 _)) rfl (s_lt hn rfl) rfl rfl (Nat.le_of_ble_eq_true rfl) (Nat.le_of_ble_eq_true rfl) (Nat.zero_le _) (Nat.zero_le _) (fun v59 w => ?_)
          refine v_istore dX12_isStray_43 (Nat.le_of_ble_eq_true rfl) ?_
          refine v_iincI dX12_isStray_45 rfl (Nat.le_of_ble_eq_true rfl) ?_
          refine v_goto (tgt := 7) dX12_isStray_48 (by decide) ?_
          refine v_pick [2, 3, 4, 5, 1, 0] rfl ?_
          exact ih6 _ _ _ _ (Nat.lt_of_lt_of_le w.2 (Nat.le_of_lt_succ hm10)) w.1 hp55 hf56
        · replace w := w.2 c58
          refine v_iconstI dX12_isStray_29 ?_
          refine v_goto (tgt := 43) dX12_isStray_30 (by decide) ?_
          refine v_istore dX12_isStray_43 (Nat.le_of_ble_eq_true rfl) ?_
          refine v_iincI dX12_isStray_45 rfl (Nat.le_of_ble_eq_true rfl) ?_
          refine v_goto (tgt := 7) dX12_isStray_48 (by decide) ?_
          refine v_pick [2, 3, 4, 5, 1, 0] rfl ?_
          exact ih6 _ _ _ _ (Nat.lt_of_lt_of_le w.2 (Nat.le_of_lt_succ hm10)) w.1 hp55 hf56
  exact hL9 _ _ _ _ _ (Nat.lt_succ_self _) wi8 hp hf
theorem dX12_stray_0 : decode cX12_stray 0 = .ok (.aload_n 0, 1) := by decide +kernel
theorem dX12_stray_1 : decode cX12_stray 1 = .ok (.iconst 0, 1) := by decide +kernel
theorem dX12_stray_2 : decode cX12_stray 2 = .ok (.putfield 169, 3) := by decide +kernel
theorem dX12_stray_5 : decode cX12_stray 5 = .ok (.iload_n 1, 1) := by decide +kernel
theorem dX12_stray_6 : decode cX12_stray 6 = .ok (.iload_n 2, 1) := by decide +kernel
theorem dX12_stray_7 : decode cX12_stray 7 = .ok (.iload_n 3, 1) := by decide +kernel
theorem dX12_stray_8 : decode cX12_stray 8 = .ok (.invokestatic 212, 3) := by decide +kernel
theorem dX12_stray_11 : decode cX12_stray 11 = .ok (.ifCond .ne 5, 3) := by decide +kernel
theorem dX12_stray_14 : decode cX12_stray 14 = .ok (.iconst (-1), 1) := by decide +kernel
theorem dX12_stray_15 : decode cX12_stray 15 = .ok (.ireturn, 1) := by decide +kernel
theorem dX12_stray_16 : decode cX12_stray 16 = .ok (.iconst 0, 1) := by decide +kernel
theorem dX12_stray_17 : decode cX12_stray 17 = .ok (.istore 5, 2) := by decide +kernel
theorem dX12_stray_19 : decode cX12_stray 19 = .ok (.iconst 0, 1) := by decide +kernel
theorem dX12_stray_20 : decode cX12_stray 20 = .ok (.istore 6, 2) := by decide +kernel
theorem dX12_stray_22 : decode cX12_stray 22 = .ok (.iload 6, 2) := by decide +kernel
theorem dX12_stray_24 : decode cX12_stray 24 = .ok (.sipush 576, 3) := by decide +kernel
theorem dX12_stray_27 : decode cX12_stray 27 = .ok (.if_icmp .ge 34, 3) := by decide +kernel
theorem dX12_stray_30 : decode cX12_stray 30 = .ok (.aload_n 0, 1) := by decide +kernel
theorem dX12_stray_31 : decode cX12_stray 31 = .ok (.iload_n 1, 1) := by decide +kernel
theorem dX12_stray_32 : decode cX12_stray 32 = .ok (.iload_n 2, 1) := by decide +kernel
theorem dX12_stray_33 : decode cX12_stray 33 = .ok (.iload_n 3, 1) := by decide +kernel
theorem dX12_stray_34 : decode cX12_stray 34 = .ok (.iload 6, 2) := by decide +kernel
theorem dX12_stray_36 : decode cX12_stray 36 = .ok (.invokevirtual 558, 3) := by decide +kernel
theorem dX12_stray_39 : decode cX12_stray 39 = .ok (.ifCond .eq 16, 3) := by decide +kernel
theorem dX12_stray_42 : decode cX12_stray 42 = .ok (.iload 5, 2) := by decide +kernel
theorem dX12_stray_44 : decode cX12_stray 44 = .ok (.iload 4, 2) := by decide +kernel
theorem dX12_stray_46 : decode cX12_stray 46 = .ok (.if_icmp .ne 6, 3) := by decide +kernel
theorem dX12_stray_49 : decode cX12_stray 49 = .ok (.iload 6, 2) := by decide +kernel
theorem dX12_stray_51 : decode cX12_stray 51 = .ok (.ireturn, 1) := by decide +kernel
theorem dX12_stray_52 : decode cX12_stray 52 = .ok (.iinc 5 1, 3) := by decide +kernel
theorem dX12_stray_55 : decode cX12_stray 55 = .ok (.iinc 6 1, 3) := by decide +kernel
theorem dX12_stray_58 : decode cX12_stray 58 = .ok (.goto (-36), 3) := by decide +kernel
theorem dX12_stray_61 : decode cX12_stray 61 = .ok (.iload 4, 2) := by decide +kernel
theorem dX12_stray_63 : decode cX12_stray 63 = .ok (.iconst (-1), 1) := by decide +kernel
theorem dX12_stray_64 : decode cX12_stray 64 = .ok (.if_icmp .ne 8, 3) := by decide +kernel
theorem dX12_stray_67 : decode cX12_stray 67 = .ok (.iload 5, 2) := by decide +kernel
theorem dX12_stray_69 : decode cX12_stray 69 = .ok (.goto 4, 3) := by decide +kernel
theorem dX12_stray_72 : decode cX12_stray 72 = .ok (.iconst (-1), 1) := by decide +kernel
theorem dX12_stray_73 : decode cX12_stray 73 = .ok (.ireturn, 1) := by decide +kernel
def w_X12_stray (a0 a1 a2 a3 : Int) (X : XT) (Q : Int → XT → Prop) : Prop :=
  R32 a0 ∧ R32 a1 ∧ R32 a2 ∧ ((1 ≤ a0 ∧ a0 ≤ 3 ∧ 1 ≤ a1 ∧ a1 ≤ 3 ∧ 0 ≤ a2 ∧ a2 ≤ 2) → ∃ (I13 : Int → Int → XT → Prop) (m14 : Int → Int → XT → Nat), I13 0 0 (x_st X 77 0 0) ∧ ∀ (x10 : Int) (x11 : Int) (X12 : XT), I13 x10 x11 X12 → R32 x11 ∧ (576 ≤ x11 → R32 a3 ∧ (¬ a3 = (-1) → Q (-1) X12) ∧ (a3 = (-1) → Q x10 X12)) ∧ (¬ 576 ≤ x11 → w_X12_isStray  a0 a1 a2 x11 X12 (fun (v29 : Int) (X30 : XT) => R32 v29 ∧ (v29 = 0 → I13 x10 (x11 + 1) X30 ∧ m14 x10 (x11 + 1) X30 < m14 x10 x11 X12) ∧ (¬ v29 = 0 → R32 x10 ∧ R32 a3 ∧ (¬ x10 = a3 → I13 (x10 + 1) (x11 + 1) X30 ∧ m14 (x10 + 1) (x11 + 1) X30 < m14 x10 x11 X12) ∧ (x10 = a3 → Q x11 X30))))) ∧ (¬ (1 ≤ a0 ∧ a0 ≤ 3 ∧ 1 ≤ a1 ∧ a1 ≤ 3 ∧ 0 ≤ a2 ∧ a2 ≤ 2) → Q (-1) (x_st X 77 0 0))
set_option maxRecDepth 20000 in
theorem so_X12_stray {n : Nat} {h : Nat → sE} {X : XT} {a0 a1 a2 a3 : Int} {Q : Int → XT → Prop} (hn : 115 ≤ n) (hp : Pic X h) (w : w_X12_stray  a0 a1 a2 a3 X Q) : Sp m_X12_stray 5 0 0 [.ref 77, .int (iI a0), .int (iI a1), .int (iI a2), .int (iI a3)] n h (pIw n h Q) := by
  unfold w_X12_stray at w
  refine Sp.ofV (by decide +kernel) (Nat.le_of_ble_eq_true rfl) ?_
  have hf : Fr h h := fun _ _ => rfl
  refine v_aload_n dX12_stray_0 rfl ?_
  refine v_iconstI dX12_stray_1 ?_
  refine v_put dX12_stray_2 fl_X12_169 ((hp 77 (by decide)).trans (ent_77 _)) (s_lt hn rfl) (Nat.le_of_ble_eq_true rfl) (fun _ => ⟨rfl, rfl⟩) trivial (fun h1 E2 F3 => ?_)
  have hp4 := pic_st hp (show h1 77 = ent 77 (uI _ 0 0) from E2) F3
  have hf5 := Fr.up (c := 77) hf F3 rfl
  refine v_iload_n dX12_stray_5 rfl ?_
  refine v_iload_n dX12_stray_6 rfl ?_
  refine v_iload_n dX12_stray_7 rfl ?_
  obtain ⟨q6, q7, q8, w⟩ := w
  refine v_callSp dX12_stray_8 ml_X12_212 (sp_X12_isShape (a := a0) (b := a1) (c := a2) q6 q7 q8) rfl rfl (Nat.le_of_ble_eq_true rfl) (Nat.le_of_ble_eq_true rfl) (Nat.zero_le _) (Nat.zero_le _) ?_
  refine v_ifneB (tgt := 16) dX12_stray_11 (by decide) (fun c9 => ?_) (fun c9 => ?_)
  · replace w := w.1 c9
    refine v_iconstI dX12_stray_16 ?_
    refine v_istore dX12_stray_17 (Nat.le_of_ble_eq_true rfl) ?_
    refine v_iconstI dX12_stray_19 ?_
    refine v_istore dX12_stray_20 (Nat.le_of_ble_eq_true rfl) ?_
    refine v_pick [2, 3, 4, 5, 6, 1, 0] rfl ?_
    obtain ⟨I13, m14, wi17, wl16⟩ := w
    have hL18 : ∀ (N21 : Nat) (x10 : Int) (x11 : Int) (X12 : XT) (h22 : Nat → sE), m14 x10 x11 X12 < N21 → I13 x10 x11 X12 → Pic X12 h22 → Fr h h22 → V (m_X12_stray, 5, 0, 0, n, pIw n h Q, s_G0) 0 0 n h22 22 [(0, .ref 77), (1, .int (iI a0)), (2, .int (iI a1)), (3, .int (iI a2)), (4, .int (iI a3)), (5, .int (iI x10)), (6, .int (iI x11))] [] := by
      intro N21
      induction N21 with
      | zero => intro x10 x11 X12 h22 hm19; exact absurd hm19 (Nat.not_lt_zero _)
      | succ N21 ih15 =>
        intro x10 x11 X12 h22 hm19 hI20 hp23 hf24
        have w := wl16 x10 x11 X12 hI20
        refine v_iload dX12_stray_22 rfl ?_
        refine v_sipushI dX12_stray_24 rfl ?_
        obtain ⟨q25, w⟩ := w
        refine v_icmp_geI (tgt := 61) dX12_stray_27 (by decide) q25.1 q25.2 (by decide) (by decide) (fun c26 => ?_) (fun c26 => ?_)
        · replace w := w.1 c26
          refine v_iload dX12_stray_61 rfl ?_
          refine v_iconstI dX12_stray_63 ?_
          obtain ⟨q27, w⟩ := w
          refine v_icmp_neI (tgt := 72) dX12_stray_64 (by decide) q27.1 q27.2 (by decide) (by decide) (fun c28 => ?_) (fun c28 => ?_)
          · replace w := w.1 c28
            refine v_iconstI dX12_stray_72 ?_
            exact v_iret dX12_stray_73 rfl (Nat.zero_le _) (Nat.zero_le _) ⟨rfl, hf24, _, _, rfl, hp23, w⟩
          · replace w := w.2 c28
            refine v_iload dX12_stray_67 rfl ?_
            refine v_goto (tgt := 73) dX12_stray_69 (by decide) ?_
            exact v_iret dX12_stray_73 rfl (Nat.zero_le _) (Nat.zero_le _) ⟨rfl, hf24, _, _, rfl, hp23, w⟩
        · replace w := w.2 c26
          refine v_aload_n dX12_stray_30 rfl ?_
          refine v_iload_n dX12_stray_31 rfl ?_
          refine v_iload_n dX12_stray_32 rfl ?_
          refine v_iload_n dX12_stray_33 rfl ?_
          refine v_iload dX12_stray_34 rfl ?_
          refine v_callVIw dX12_stray_36 ml_X12_558 (so_X12_isStray hn hp23  w) ((hp23 77 (by decide)).trans (ent_77 _)) rfl (s_lt hn rfl) rfl rfl (Nat.le_of_ble_eq_true rfl) (Nat.le_of_ble_eq_true rfl) (Nat.zero_le _) (Nat.zero_le _) (fun v29 X30 h31 hp33 hf32 w => ?_)
          have hf34 := Fr.trans hf24 hf32
          obtain ⟨q35, w⟩ := w
          refine v_if_eqI (tgt := 55) dX12_stray_39 (by decide) q35.1 q35.2 (fun c36 => ?_) (fun c36 => ?_)
          · replace w := w.1 c36
            refine v_iincI dX12_stray_55 rfl (Nat.le_of_ble_eq_true rfl) ?_
            refine v_goto (tgt := 22) dX12_stray_58 (by decide) ?_
            refine v_pick [1, 2, 3, 4, 5, 6, 0] rfl ?_
            exact ih15 _ _ _ _ (Nat.lt_of_lt_of_le w.2 (Nat.le_of_lt_succ hm19)) w.1 hp33 hf34
          · replace w := w.2 c36
            refine v_iload dX12_stray_42 rfl ?_
            refine v_iload dX12_stray_44 rfl ?_
            obtain ⟨q37, q38, w⟩ := w
            refine v_icmp_neI (tgt := 52) dX12_stray_46 (by decide) q37.1 q37.2 q38.1 q38.2 (fun c39 => ?_) (fun c39 => ?_)
            · replace w := w.1 c39
              refine v_iincI dX12_stray_52 rfl (Nat.le_of_ble_eq_true rfl) ?_
              refine v_iincI dX12_stray_55 rfl (Nat.le_of_ble_eq_true rfl) ?_
              refine v_goto (tgt := 22) dX12_stray_58 (by decide) ?_
              refine v_pick [2, 3, 4, 5, 6, 1, 0] rfl ?_
              exact ih15 _ _ _ _ (Nat.lt_of_lt_of_le w.2 (Nat.le_of_lt_succ hm19)) w.1 hp33 hf34
            · replace w := w.2 c39
              refine v_iload dX12_stray_49 rfl ?_
              exact v_iret dX12_stray_51 rfl (Nat.zero_le _) (Nat.zero_le _) ⟨rfl, hf34, _, _, rfl, hp33, w⟩
    exact hL18 _ _ _ _ _ (Nat.lt_succ_self _) wi17 hp4 hf5
  · replace w := w.2 c9
    refine v_iconstI dX12_stray_14 ?_
    exact v_iret dX12_stray_15 rfl (Nat.zero_le _) (Nat.zero_le _) ⟨rfl, hf5, _, _, rfl, hp4, w⟩
theorem dX12_layWith_0 : decode cX12_layWith 0 = .ok (.aload_n 0, 1) := by decide +kernel
theorem dX12_layWith_1 : decode cX12_layWith 1 = .ok (.iload_n 1, 1) := by decide +kernel
theorem dX12_layWith_2 : decode cX12_layWith 2 = .ok (.invokevirtual 464, 3) := by decide +kernel
theorem dX12_layWith_5 : decode cX12_layWith 5 = .ok (.istore 4, 2) := by decide +kernel
theorem dX12_layWith_7 : decode cX12_layWith 7 = .ok (.iconst 0, 1) := by decide +kernel
theorem dX12_layWith_8 : decode cX12_layWith 8 = .ok (.istore 5, 2) := by decide +kernel
theorem dX12_layWith_10 : decode cX12_layWith 10 = .ok (.iload 5, 2) := by decide +kernel
theorem dX12_layWith_12 : decode cX12_layWith 12 = .ok (.bipush 12, 2) := by decide +kernel
theorem dX12_layWith_14 : decode cX12_layWith 14 = .ok (.if_icmp .ge 62, 3) := by decide +kernel
theorem dX12_layWith_17 : decode cX12_layWith 17 = .ok (.aload_n 0, 1) := by decide +kernel
theorem dX12_layWith_18 : decode cX12_layWith 18 = .ok (.getfield 102, 3) := by decide +kernel
theorem dX12_layWith_21 : decode cX12_layWith 21 = .ok (.bipush 12, 2) := by decide +kernel
theorem dX12_layWith_23 : decode cX12_layWith 23 = .ok (.iload_n 1, 1) := by decide +kernel
theorem dX12_layWith_24 : decode cX12_layWith 24 = .ok (.imul, 1) := by decide +kernel
theorem dX12_layWith_25 : decode cX12_layWith 25 = .ok (.iload 5, 2) := by decide +kernel
theorem dX12_layWith_27 : decode cX12_layWith 27 = .ok (.iadd, 1) := by decide +kernel
theorem dX12_layWith_28 : decode cX12_layWith 28 = .ok (.iload 4, 2) := by decide +kernel
theorem dX12_layWith_30 : decode cX12_layWith 30 = .ok (.iastore, 1) := by decide +kernel
theorem dX12_layWith_31 : decode cX12_layWith 31 = .ok (.iload 4, 2) := by decide +kernel
theorem dX12_layWith_33 : decode cX12_layWith 33 = .ok (.iconst (-1), 1) := by decide +kernel
theorem dX12_layWith_34 : decode cX12_layWith 34 = .ok (.if_icmp .ne 7, 3) := by decide +kernel
theorem dX12_layWith_37 : decode cX12_layWith 37 = .ok (.iconst (-1), 1) := by decide +kernel
theorem dX12_layWith_38 : decode cX12_layWith 38 = .ok (.goto 30, 3) := by decide +kernel
theorem dX12_layWith_41 : decode cX12_layWith 41 = .ok (.aload_n 0, 1) := by decide +kernel
theorem dX12_layWith_42 : decode cX12_layWith 42 = .ok (.iload_n 1, 1) := by decide +kernel
theorem dX12_layWith_43 : decode cX12_layWith 43 = .ok (.iload 4, 2) := by decide +kernel
theorem dX12_layWith_45 : decode cX12_layWith 45 = .ok (.iload 5, 2) := by decide +kernel
theorem dX12_layWith_47 : decode cX12_layWith 47 = .ok (.iconst 0, 1) := by decide +kernel
theorem dX12_layWith_48 : decode cX12_layWith 48 = .ok (.iload 5, 2) := by decide +kernel
theorem dX12_layWith_50 : decode cX12_layWith 50 = .ok (.iload_n 2, 1) := by decide +kernel
theorem dX12_layWith_51 : decode cX12_layWith 51 = .ok (.if_icmp .ne 7, 3) := by decide +kernel
theorem dX12_layWith_54 : decode cX12_layWith 54 = .ok (.iload_n 3, 1) := by decide +kernel
theorem dX12_layWith_55 : decode cX12_layWith 55 = .ok (.goto 10, 3) := by decide +kernel
theorem dX12_layWith_58 : decode cX12_layWith 58 = .ok (.aload_n 0, 1) := by decide +kernel
theorem dX12_layWith_59 : decode cX12_layWith 59 = .ok (.iload_n 1, 1) := by decide +kernel
theorem dX12_layWith_60 : decode cX12_layWith 60 = .ok (.iload 5, 2) := by decide +kernel
theorem dX12_layWith_62 : decode cX12_layWith 62 = .ok (.invokevirtual 229, 3) := by decide +kernel
theorem dX12_layWith_65 : decode cX12_layWith 65 = .ok (.invokevirtual 467, 3) := by decide +kernel
theorem dX12_layWith_68 : decode cX12_layWith 68 = .ok (.istore 4, 2) := by decide +kernel
theorem dX12_layWith_70 : decode cX12_layWith 70 = .ok (.iinc 5 1, 3) := by decide +kernel
theorem dX12_layWith_73 : decode cX12_layWith 73 = .ok (.goto (-63), 3) := by decide +kernel
theorem dX12_layWith_76 : decode cX12_layWith 76 = .ok (.return_, 1) := by decide +kernel
def w_X12_layWith (a0 a1 a2 : Int) (X : XT) (Q : XT → Prop) : Prop :=
  w_X12_beginsAt  a0 X (fun (v1 : Int) => ∃ (I10 : Int → Int → XT → Prop) (m11 : Int → Int → XT → Nat), I10 v1 0 X ∧ ∀ (x7 : Int) (x8 : Int) (X9 : XT), I10 x7 x8 X9 → R32 x8 ∧ (12 ≤ x8 → Q X9) ∧ (¬ 12 ≤ x8 → (0 ≤ ((12 * a0) + x8) ∧ ((12 * a0) + x8) < 60) ∧ R32 x7 ∧ (¬ x7 = (-1) → ∀ J33 : Int → Prop, (∀ (v32 : Int), (w_X12_goOn  a0 x7 x8 0 v32 (x_st X9 94 ((12 * a0) + x8) x7) (fun (v34 : Int) (X35 : XT) => I10 v34 (x8 + 1) X35 ∧ m11 v34 (x8 + 1) X35 < m11 x7 x8 X9)) → J33 v32) → R32 a1 ∧ (¬ x8 = a1 → R32 a0 ∧ (FLK ((x_st X9 94 ((12 * a0) + x8) x7) 79)) ∧ J33 (fRw ((x_st X9 94 ((12 * a0) + x8) x7) 79) a0 x8)) ∧ (x8 = a1 → J33 a2)) ∧ (x7 = (-1) → I10 (-1) (x8 + 1) (x_st X9 94 ((12 * a0) + x8) x7) ∧ m11 (-1) (x8 + 1) (x_st X9 94 ((12 * a0) + x8) x7) < m11 x7 x8 X9)))
set_option maxRecDepth 20000 in
theorem so_X12_layWith {n : Nat} {h : Nat → sE} {X : XT} {a0 a1 a2 : Int} {Q : XT → Prop} (hn : 115 ≤ n) (hp : Pic X h) (w : w_X12_layWith  a0 a1 a2 X Q) : Sp m_X12_layWith 9 0 0 [.ref 77, .int (iI a0), .int (iI a1), .int (iI a2)] n h (pVw n h Q) := by
  unfold w_X12_layWith at w
  refine Sp.ofV (by decide +kernel) (Nat.le_of_ble_eq_true rfl) ?_
  have hf : Fr h h := fun _ _ => rfl
  refine v_aload_n dX12_layWith_0 rfl ?_
  refine v_iload_n dX12_layWith_1 rfl ?_
  refine v_callVIr dX12_layWith_2 ml_X12_464 (so_X12_beginsAt hn hp  w) ((hp 77 (by decide)).trans (ent_77 _)) rfl (s_lt hn rfl) rfl rfl (Nat.le_of_ble_eq_true rfl) (Nat.le_of_ble_eq_true rfl) (Nat.zero_le _) (Nat.zero_le _) (fun v1 w => ?_)
  refine v_istore dX12_layWith_5 (Nat.le_of_ble_eq_true rfl) ?_
  refine v_iconstI dX12_layWith_7 ?_
  refine v_istore dX12_layWith_8 (Nat.le_of_ble_eq_true rfl) ?_
  refine v_pick [2, 3, 4, 5, 1, 0] rfl ?_
  obtain ⟨I10, m11, wi14, wl13⟩ := w
  have hL15 : ∀ (N18 : Nat) (x7 : Int) (x8 : Int) (X9 : XT) (h19 : Nat → sE), m11 x7 x8 X9 < N18 → I10 x7 x8 X9 → Pic X9 h19 → Fr h h19 → V (m_X12_layWith, 9, 0, 0, n, pVw n h Q, s_G0) 0 0 n h19 10 [(0, .ref 77), (1, .int (iI a0)), (2, .int (iI a1)), (3, .int (iI a2)), (4, .int (iI x7)), (5, .int (iI x8))] [] := by
    intro N18
    induction N18 with
    | zero => intro x7 x8 X9 h19 hm16; exact absurd hm16 (Nat.not_lt_zero _)
    | succ N18 ih12 =>
      intro x7 x8 X9 h19 hm16 hI17 hp20 hf21
      have w := wl13 x7 x8 X9 hI17
      refine v_iload dX12_layWith_10 rfl ?_
      refine v_bipushI dX12_layWith_12 rfl ?_
      obtain ⟨q22, w⟩ := w
      refine v_icmp_geI (tgt := 76) dX12_layWith_14 (by decide) q22.1 q22.2 (by decide) (by decide) (fun c23 => ?_) (fun c23 => ?_)
      · replace w := w.1 c23
        exact v_vret dX12_layWith_76 rfl (Nat.zero_le _) (Nat.zero_le _) ⟨rfl, hf21, _, rfl, hp20, w⟩
      · replace w := w.2 c23
        refine v_aload_n dX12_layWith_17 rfl ?_
        refine v_get dX12_layWith_18 fl_X12_102 ((hp20 77 (by decide)).trans (ent_77 _)) rfl (s_lt hn rfl) ?_
        refine v_bipushI dX12_layWith_21 rfl ?_
        refine v_iload_n dX12_layWith_23 rfl ?_
        refine v_imulI dX12_layWith_24 ?_
        refine v_iload dX12_layWith_25 rfl ?_
        refine v_iaddI dX12_layWith_27 ?_
        refine v_iload dX12_layWith_28 rfl ?_
        obtain ⟨q24, w⟩ := w
        refine v_iastI dX12_layWith_30 ((hp20 94 (by decide)).trans (ent_94 _)) (s_lt hn rfl) q24.1 q24.2 (ix_le q24.2 (by decide)) (fun h25 E26 F27 => ?_)
        have hp28 := pic_st hp20 (show h25 94 = ent 94 (uI _ ((12 * a0) + x8) x7) from E26) F27
        have hf29 := Fr.up (c := 94) hf21 F27 rfl
        refine v_iload dX12_layWith_31 rfl ?_
        refine v_iconstI dX12_layWith_33 ?_
        obtain ⟨q30, w⟩ := w
        refine v_icmp_neI (tgt := 41) dX12_layWith_34 (by decide) q30.1 q30.2 (by decide) (by decide) (fun c31 => ?_) (fun c31 => ?_)
        · replace w := w.1 c31
          refine v_aload_n dX12_layWith_41 rfl ?_
          refine v_iload_n dX12_layWith_42 rfl ?_
          refine v_iload dX12_layWith_43 rfl ?_
          refine v_iload dX12_layWith_45 rfl ?_
          refine v_iconstI dX12_layWith_47 ?_
          refine v_iload dX12_layWith_48 rfl ?_
          refine v_iload_n dX12_layWith_50 rfl ?_
          replace w := w (fun (v32 : Int) => V (m_X12_layWith, 9, 0, 0, n, pVw n h Q, s_G0) 0 0 n h25 65 [(0, .ref 77), (1, .int (iI a0)), (2, .int (iI a1)), (3, .int (iI a2)), (5, .int (iI x8))] [.int (iI v32), .int (iI 0), .int (iI x8), .int (iI x7), .int (iI a0), .ref 77]) (by
            intro v32 w
            refine v_callVIw dX12_layWith_65 ml_X12_467 (so_X12_goOn hn hp28  w) ((hp28 77 (by decide)).trans (ent_77 _)) rfl (s_lt hn rfl) rfl rfl (Nat.le_of_ble_eq_true rfl) (Nat.le_of_ble_eq_true rfl) (Nat.zero_le _) (Nat.zero_le _) (fun v34 X35 h36 hp38 hf37 w => ?_)
            have hf39 := Fr.trans hf29 hf37
            refine v_istore dX12_layWith_68 (Nat.le_of_ble_eq_true rfl) ?_
            refine v_iincI dX12_layWith_70 rfl (Nat.le_of_ble_eq_true rfl) ?_
            refine v_goto (tgt := 10) dX12_layWith_73 (by decide) ?_
            refine v_pick [2, 3, 4, 5, 1, 0] rfl ?_
            exact ih12 _ _ _ _ (Nat.lt_of_lt_of_le w.2 (Nat.le_of_lt_succ hm16)) w.1 hp38 hf39
          )
          obtain ⟨q40, w⟩ := w
          refine v_icmp_neI (tgt := 58) dX12_layWith_51 (by decide) q22.1 q22.2 q40.1 q40.2 (fun c41 => ?_) (fun c41 => ?_)
          · replace w := w.1 c41
            refine v_aload_n dX12_layWith_58 rfl ?_
            refine v_iload_n dX12_layWith_59 rfl ?_
            refine v_iload dX12_layWith_60 rfl ?_
            obtain ⟨q42, q43, w⟩ := w
            refine v_callVp dX12_layWith_62 ml_X12_229 (sv_X12_flagOf (a := a0) (b := x8) (g77 := (x_st X9 94 ((12 * a0) + x8) x7) 77) (g79 := (x_st X9 94 ((12 * a0) + x8) x7) 79) hn (hp28 77 (by decide)) (hp28 79 (by decide)) q42 q22 q43) ((hp28 77 (by decide)).trans (ent_77 _)) rfl (s_lt hn rfl) rfl rfl (Nat.le_of_ble_eq_true rfl) (Nat.le_of_ble_eq_true rfl) (Nat.zero_le _) (Nat.zero_le _) ?_
            refine v_pick [0, 1, 2, 3, 5] rfl ?_
            exact w
          · replace w := w.2 c41
            refine v_iload_n dX12_layWith_54 rfl ?_
            refine v_goto (tgt := 65) dX12_layWith_55 (by decide) ?_
            refine v_pick [0, 1, 2, 3, 5] rfl ?_
            exact w
        · replace w := w.2 c31
          refine v_iconstI dX12_layWith_37 ?_
          refine v_goto (tgt := 68) dX12_layWith_38 (by decide) ?_
          refine v_istore dX12_layWith_68 (Nat.le_of_ble_eq_true rfl) ?_
          refine v_iincI dX12_layWith_70 rfl (Nat.le_of_ble_eq_true rfl) ?_
          refine v_goto (tgt := 10) dX12_layWith_73 (by decide) ?_
          refine v_pick [2, 3, 4, 5, 1, 0] rfl ?_
          exact ih12 _ _ _ _ (Nat.lt_of_lt_of_le w.2 (Nat.le_of_lt_succ hm16)) w.1 hp28 hf29
  exact hL15 _ _ _ _ _ (Nat.lt_succ_self _) wi14 hp hf
theorem dX12_areSo_0 : decode cX12_areSo 0 = .ok (.iconst 1, 1) := by decide +kernel
theorem dX12_areSo_1 : decode cX12_areSo 1 = .ok (.istore_n 1, 1) := by decide +kernel
theorem dX12_areSo_2 : decode cX12_areSo 2 = .ok (.iconst 0, 1) := by decide +kernel
theorem dX12_areSo_3 : decode cX12_areSo 3 = .ok (.istore_n 2, 1) := by decide +kernel
theorem dX12_areSo_4 : decode cX12_areSo 4 = .ok (.iload_n 2, 1) := by decide +kernel
theorem dX12_areSo_5 : decode cX12_areSo 5 = .ok (.aload_n 0, 1) := by decide +kernel
theorem dX12_areSo_6 : decode cX12_areSo 6 = .ok (.getfield 13, 3) := by decide +kernel
theorem dX12_areSo_9 : decode cX12_areSo 9 = .ok (.iconst 3, 1) := by decide +kernel
theorem dX12_areSo_10 : decode cX12_areSo 10 = .ok (.iaload, 1) := by decide +kernel
theorem dX12_areSo_11 : decode cX12_areSo 11 = .ok (.if_icmp .ge 73, 3) := by decide +kernel
theorem dX12_areSo_14 : decode cX12_areSo 14 = .ok (.sipush 344, 3) := by decide +kernel
theorem dX12_areSo_17 : decode cX12_areSo 17 = .ok (.iconst 3, 1) := by decide +kernel
theorem dX12_areSo_18 : decode cX12_areSo 18 = .ok (.iload_n 2, 1) := by decide +kernel
theorem dX12_areSo_19 : decode cX12_areSo 19 = .ok (.imul, 1) := by decide +kernel
theorem dX12_areSo_20 : decode cX12_areSo 20 = .ok (.iadd, 1) := by decide +kernel
theorem dX12_areSo_21 : decode cX12_areSo 21 = .ok (.istore_n 3, 1) := by decide +kernel
theorem dX12_areSo_22 : decode cX12_areSo 22 = .ok (.iload_n 1, 1) := by decide +kernel
theorem dX12_areSo_23 : decode cX12_areSo 23 = .ok (.ifCond .eq 53, 3) := by decide +kernel
theorem dX12_areSo_26 : decode cX12_areSo 26 = .ok (.aload_n 0, 1) := by decide +kernel
theorem dX12_areSo_27 : decode cX12_areSo 27 = .ok (.aload_n 0, 1) := by decide +kernel
theorem dX12_areSo_28 : decode cX12_areSo 28 = .ok (.getfield 13, 3) := by decide +kernel
theorem dX12_areSo_31 : decode cX12_areSo 31 = .ok (.iload_n 3, 1) := by decide +kernel
theorem dX12_areSo_32 : decode cX12_areSo 32 = .ok (.iconst 1, 1) := by decide +kernel
theorem dX12_areSo_33 : decode cX12_areSo 33 = .ok (.iadd, 1) := by decide +kernel
theorem dX12_areSo_34 : decode cX12_areSo 34 = .ok (.iaload, 1) := by decide +kernel
theorem dX12_areSo_35 : decode cX12_areSo 35 = .ok (.aload_n 0, 1) := by decide +kernel
theorem dX12_areSo_36 : decode cX12_areSo 36 = .ok (.getfield 13, 3) := by decide +kernel
theorem dX12_areSo_39 : decode cX12_areSo 39 = .ok (.iload_n 3, 1) := by decide +kernel
theorem dX12_areSo_40 : decode cX12_areSo 40 = .ok (.iaload, 1) := by decide +kernel
theorem dX12_areSo_41 : decode cX12_areSo 41 = .ok (.invokevirtual 481, 3) := by decide +kernel
theorem dX12_areSo_44 : decode cX12_areSo 44 = .ok (.ifCond .le 7, 3) := by decide +kernel
theorem dX12_areSo_47 : decode cX12_areSo 47 = .ok (.iconst 1, 1) := by decide +kernel
theorem dX12_areSo_48 : decode cX12_areSo 48 = .ok (.goto 4, 3) := by decide +kernel
theorem dX12_areSo_51 : decode cX12_areSo 51 = .ok (.iconst 0, 1) := by decide +kernel
theorem dX12_areSo_52 : decode cX12_areSo 52 = .ok (.aload_n 0, 1) := by decide +kernel
theorem dX12_areSo_53 : decode cX12_areSo 53 = .ok (.getfield 13, 3) := by decide +kernel
theorem dX12_areSo_56 : decode cX12_areSo 56 = .ok (.iload_n 3, 1) := by decide +kernel
theorem dX12_areSo_57 : decode cX12_areSo 57 = .ok (.iconst 2, 1) := by decide +kernel
theorem dX12_areSo_58 : decode cX12_areSo 58 = .ok (.iadd, 1) := by decide +kernel
theorem dX12_areSo_59 : decode cX12_areSo 59 = .ok (.iaload, 1) := by decide +kernel
theorem dX12_areSo_60 : decode cX12_areSo 60 = .ok (.iconst 1, 1) := by decide +kernel
theorem dX12_areSo_61 : decode cX12_areSo 61 = .ok (.if_icmp .ne 7, 3) := by decide +kernel
theorem dX12_areSo_64 : decode cX12_areSo 64 = .ok (.iconst 1, 1) := by decide +kernel
theorem dX12_areSo_65 : decode cX12_areSo 65 = .ok (.goto 4, 3) := by decide +kernel
theorem dX12_areSo_68 : decode cX12_areSo 68 = .ok (.iconst 0, 1) := by decide +kernel
theorem dX12_areSo_69 : decode cX12_areSo 69 = .ok (.if_icmp .ne 7, 3) := by decide +kernel
theorem dX12_areSo_72 : decode cX12_areSo 72 = .ok (.iconst 1, 1) := by decide +kernel
theorem dX12_areSo_73 : decode cX12_areSo 73 = .ok (.goto 4, 3) := by decide +kernel
theorem dX12_areSo_76 : decode cX12_areSo 76 = .ok (.iconst 0, 1) := by decide +kernel
theorem dX12_areSo_77 : decode cX12_areSo 77 = .ok (.istore_n 1, 1) := by decide +kernel
theorem dX12_areSo_78 : decode cX12_areSo 78 = .ok (.iinc 2 1, 3) := by decide +kernel
theorem dX12_areSo_81 : decode cX12_areSo 81 = .ok (.goto (-77), 3) := by decide +kernel
theorem dX12_areSo_84 : decode cX12_areSo 84 = .ok (.iload_n 1, 1) := by decide +kernel
theorem dX12_areSo_85 : decode cX12_areSo 85 = .ok (.ireturn, 1) := by decide +kernel
def w_X12_areSo (X : XT) (Q : Int → Prop) : Prop :=
  ∃ (I3 : Int → Int → Prop) (m4 : Int → Int → Nat), I3 1 0 ∧ ∀ (x1 : Int) (x2 : Int), I3 x1 x2 → R32 x2 ∧ R32 (X 79 3) ∧ ((X 79 3) ≤ x2 → (x1 = 0 ∨ x1 = 1) ∧ Q x1) ∧ (¬ (X 79 3) ≤ x2 → ∀ J16 : Prop, ((I3 0 (x2 + 1) ∧ m4 0 (x2 + 1) < m4 x1 x2) → J16) → R32 x1 ∧ (x1 = 0 → J16 ) ∧ (¬ x1 = 0 → (0 ≤ ((344 + (3 * x2)) + 1) ∧ ((344 + (3 * x2)) + 1) < 5780) ∧ (0 ≤ (344 + (3 * x2)) ∧ (344 + (3 * x2)) < 5780) ∧ w_X12_shadeOf  (X 79 ((344 + (3 * x2)) + 1)) (X 79 (344 + (3 * x2))) X (fun (v21 : Int) => ∀ J28 : Int → Prop, (∀ (v27 : Int), ((0 ≤ ((344 + (3 * x2)) + 2) ∧ ((344 + (3 * x2)) + 2) < 5780) ∧ ∀ J31 : Int → Prop, (∀ (v30 : Int), (R32 v27 ∧ R32 v30 ∧ (¬ v27 = v30 → J16 ) ∧ (v27 = v30 → I3 1 (x2 + 1) ∧ m4 1 (x2 + 1) < m4 x1 x2)) → J31 v30) → R32 (X 79 ((344 + (3 * x2)) + 2)) ∧ (¬ (X 79 ((344 + (3 * x2)) + 2)) = 1 → J31 0) ∧ ((X 79 ((344 + (3 * x2)) + 2)) = 1 → J31 1)) → J28 v27) → R32 v21 ∧ (v21 ≤ 0 → J28 0) ∧ (¬ v21 ≤ 0 → J28 1))))
set_option maxRecDepth 20000 in
theorem so_X12_areSo {n : Nat} {h : Nat → sE} {X : XT} {Q : Int → Prop} (hn : 115 ≤ n) (hp : Pic X h) (w : w_X12_areSo   X Q) : Sp m_X12_areSo 4 0 0 [.ref 77] n h (pIr n h Q) := by
  unfold w_X12_areSo at w
  refine Sp.ofV (by decide +kernel) (Nat.le_of_ble_eq_true rfl) ?_
  have hf : Fr h h := fun _ _ => rfl
  refine v_iconstI dX12_areSo_0 ?_
  refine v_istore_n dX12_areSo_1 (Nat.le_of_ble_eq_true rfl) ?_
  refine v_iconstI dX12_areSo_2 ?_
  refine v_istore_n dX12_areSo_3 (Nat.le_of_ble_eq_true rfl) ?_
  refine v_pick [2, 1, 0] rfl ?_
  obtain ⟨I3, m4, wi7, wl6⟩ := w
  have hL8 : ∀ (N11 : Nat) (x1 : Int) (x2 : Int), m4 x1 x2 < N11 → I3 x1 x2 → V (m_X12_areSo, 4, 0, 0, n, pIr n h Q, s_G0) 0 0 n h 4 [(0, .ref 77), (1, .int (iI x1)), (2, .int (iI x2))] [] := by
    intro N11
    induction N11 with
    | zero => intro x1 x2  hm9; exact absurd hm9 (Nat.not_lt_zero _)
    | succ N11 ih5 =>
      intro x1 x2  hm9 hI10
      have w := wl6 x1 x2 hI10
      refine v_iload_n dX12_areSo_4 rfl ?_
      refine v_aload_n dX12_areSo_5 rfl ?_
      refine v_get dX12_areSo_6 fl_X12_13 ((hp 77 (by decide)).trans (ent_77 _)) rfl (s_lt hn rfl) ?_
      refine v_iconstI dX12_areSo_9 ?_
      refine v_ialdI dX12_areSo_10 ((hp 79 (by decide)).trans (ent_79 _)) (s_lt hn rfl) (by decide) (by decide) (by decide) ?_
      obtain ⟨q12, q13, w⟩ := w
      refine v_icmp_geI (tgt := 84) dX12_areSo_11 (by decide) q12.1 q12.2 q13.1 q13.2 (fun c14 => ?_) (fun c14 => ?_)
      · replace w := w.1 c14
        refine v_iload_n dX12_areSo_84 rfl ?_
        obtain ⟨q15, w⟩ := w
        exact v_zretZ dX12_areSo_85 rfl q15 (Nat.zero_le _) (Nat.zero_le _) ⟨rfl, rfl, _, rfl, w⟩
      · replace w := w.2 c14
        refine v_sipushI dX12_areSo_14 rfl ?_
        refine v_iconstI dX12_areSo_17 ?_
        refine v_iload_n dX12_areSo_18 rfl ?_
        refine v_imulI dX12_areSo_19 ?_
        refine v_iaddI dX12_areSo_20 ?_
        refine v_istore_n dX12_areSo_21 (Nat.le_of_ble_eq_true rfl) ?_
        refine v_iload_n dX12_areSo_22 rfl ?_
        replace w := w (V (m_X12_areSo, 4, 0, 0, n, pIr n h Q, s_G0) 0 0 n h 76 [(0, .ref 77), (2, .int (iI x2))] []) (by
          intro  w
          refine v_iconstI dX12_areSo_76 ?_
          refine v_istore_n dX12_areSo_77 (Nat.le_of_ble_eq_true rfl) ?_
          refine v_iincI dX12_areSo_78 rfl (Nat.le_of_ble_eq_true rfl) ?_
          refine v_goto (tgt := 4) dX12_areSo_81 (by decide) ?_
          refine v_pick [2, 1, 0] rfl ?_
          exact ih5 _ _ (Nat.lt_of_lt_of_le w.2 (Nat.le_of_lt_succ hm9)) w.1
        )
        obtain ⟨q17, w⟩ := w
        refine v_if_eqI (tgt := 76) dX12_areSo_23 (by decide) q17.1 q17.2 (fun c18 => ?_) (fun c18 => ?_)
        · replace w := w.1 c18
          refine v_pick [1, 3] rfl ?_
          exact w
        · replace w := w.2 c18
          refine v_aload_n dX12_areSo_26 rfl ?_
          refine v_aload_n dX12_areSo_27 rfl ?_
          refine v_get dX12_areSo_28 fl_X12_13 ((hp 77 (by decide)).trans (ent_77 _)) rfl (s_lt hn rfl) ?_
          refine v_iload_n dX12_areSo_31 rfl ?_
          refine v_iconstI dX12_areSo_32 ?_
          refine v_iaddI dX12_areSo_33 ?_
          obtain ⟨q19, w⟩ := w
          refine v_ialdI dX12_areSo_34 ((hp 79 (by decide)).trans (ent_79 _)) (s_lt hn rfl) q19.1 q19.2 (ix_le q19.2 (by decide)) ?_
          refine v_aload_n dX12_areSo_35 rfl ?_
          refine v_get dX12_areSo_36 fl_X12_13 ((hp 77 (by decide)).trans (ent_77 _)) rfl (s_lt hn rfl) ?_
          refine v_iload_n dX12_areSo_39 rfl ?_
          obtain ⟨q20, w⟩ := w
          refine v_ialdI dX12_areSo_40 ((hp 79 (by decide)).trans (ent_79 _)) (s_lt hn rfl) q20.1 q20.2 (ix_le q20.2 (by decide)) ?_
          refine v_callVIr dX12_areSo_41 ml_X12_481 (so_X12_shadeOf hn hp  w) ((hp 77 (by decide)).trans (ent_77 _)) rfl (s_lt hn rfl) rfl rfl (Nat.le_of_ble_eq_true rfl) (Nat.le_of_ble_eq_true rfl) (Nat.zero_le _) (Nat.zero_le _) (fun v21 w => ?_)
          replace w := w (fun (v27 : Int) => V (m_X12_areSo, 4, 0, 0, n, pIr n h Q, s_G0) 0 0 n h 52 [(0, .ref 77), (2, .int (iI x2)), (3, .int (iI (344 + (3 * x2))))] [.int (iI v27)]) (by
            intro v27 w
            refine v_aload_n dX12_areSo_52 rfl ?_
            refine v_get dX12_areSo_53 fl_X12_13 ((hp 77 (by decide)).trans (ent_77 _)) rfl (s_lt hn rfl) ?_
            refine v_iload_n dX12_areSo_56 rfl ?_
            refine v_iconstI dX12_areSo_57 ?_
            refine v_iaddI dX12_areSo_58 ?_
            obtain ⟨q29, w⟩ := w
            refine v_ialdI dX12_areSo_59 ((hp 79 (by decide)).trans (ent_79 _)) (s_lt hn rfl) q29.1 q29.2 (ix_le q29.2 (by decide)) ?_
            refine v_iconstI dX12_areSo_60 ?_
            replace w := w (fun (v30 : Int) => V (m_X12_areSo, 4, 0, 0, n, pIr n h Q, s_G0) 0 0 n h 69 [(0, .ref 77), (2, .int (iI x2))] [.int (iI v30), .int (iI v27)]) (by
              intro v30 w
              obtain ⟨q32, q33, w⟩ := w
              refine v_icmp_neI (tgt := 76) dX12_areSo_69 (by decide) q32.1 q32.2 q33.1 q33.2 (fun c34 => ?_) (fun c34 => ?_)
              · replace w := w.1 c34
                exact w
              · replace w := w.2 c34
                refine v_iconstI dX12_areSo_72 ?_
                refine v_goto (tgt := 77) dX12_areSo_73 (by decide) ?_
                refine v_istore_n dX12_areSo_77 (Nat.le_of_ble_eq_true rfl) ?_
                refine v_iincI dX12_areSo_78 rfl (Nat.le_of_ble_eq_true rfl) ?_
                refine v_goto (tgt := 4) dX12_areSo_81 (by decide) ?_
                refine v_pick [2, 1, 0] rfl ?_
                exact ih5 _ _ (Nat.lt_of_lt_of_le w.2 (Nat.le_of_lt_succ hm9)) w.1
            )
            obtain ⟨q35, w⟩ := w
            refine v_icmp_neI (tgt := 68) dX12_areSo_61 (by decide) q35.1 q35.2 (by decide) (by decide) (fun c36 => ?_) (fun c36 => ?_)
            · replace w := w.1 c36
              refine v_iconstI dX12_areSo_68 ?_
              refine v_pick [0, 1] rfl ?_
              exact w
            · replace w := w.2 c36
              refine v_iconstI dX12_areSo_64 ?_
              refine v_goto (tgt := 69) dX12_areSo_65 (by decide) ?_
              refine v_pick [0, 1] rfl ?_
              exact w
          )
          obtain ⟨q37, w⟩ := w
          refine v_if_leI (tgt := 51) dX12_areSo_44 (by decide) q37.1 q37.2 (fun c38 => ?_) (fun c38 => ?_)
          · replace w := w.1 c38
            refine v_iconstI dX12_areSo_51 ?_
            refine v_pick [1, 3, 0] rfl ?_
            exact w
          · replace w := w.2 c38
            refine v_iconstI dX12_areSo_47 ?_
            refine v_goto (tgt := 52) dX12_areSo_48 (by decide) ?_
            refine v_pick [1, 3, 0] rfl ?_
            exact w
  exact hL8 _ _ _ (Nat.lt_succ_self _) wi7
theorem dX12_rustled_0 : decode cX12_rustled 0 = .ok (.aload_n 0, 1) := by decide +kernel
theorem dX12_rustled_1 : decode cX12_rustled 1 = .ok (.iconst 0, 1) := by decide +kernel
theorem dX12_rustled_2 : decode cX12_rustled 2 = .ok (.putfield 169, 3) := by decide +kernel
theorem dX12_rustled_5 : decode cX12_rustled 5 = .ok (.aload_n 0, 1) := by decide +kernel
theorem dX12_rustled_6 : decode cX12_rustled 6 = .ok (.invokevirtual 478, 3) := by decide +kernel
theorem dX12_rustled_9 : decode cX12_rustled 9 = .ok (.iconst 0, 1) := by decide +kernel
theorem dX12_rustled_10 : decode cX12_rustled 10 = .ok (.istore_n 2, 1) := by decide +kernel
theorem dX12_rustled_11 : decode cX12_rustled 11 = .ok (.iconst 0, 1) := by decide +kernel
theorem dX12_rustled_12 : decode cX12_rustled 12 = .ok (.istore_n 3, 1) := by decide +kernel
theorem dX12_rustled_13 : decode cX12_rustled 13 = .ok (.iload_n 3, 1) := by decide +kernel
theorem dX12_rustled_14 : decode cX12_rustled 14 = .ok (.sipush 220, 3) := by decide +kernel
theorem dX12_rustled_17 : decode cX12_rustled 17 = .ok (.if_icmp .ge 83, 3) := by decide +kernel
theorem dX12_rustled_20 : decode cX12_rustled 20 = .ok (.iload_n 3, 1) := by decide +kernel
theorem dX12_rustled_21 : decode cX12_rustled 21 = .ok (.bipush 20, 2) := by decide +kernel
theorem dX12_rustled_23 : decode cX12_rustled 23 = .ok (.idiv, 1) := by decide +kernel
theorem dX12_rustled_24 : decode cX12_rustled 24 = .ok (.istore 4, 2) := by decide +kernel
theorem dX12_rustled_26 : decode cX12_rustled 26 = .ok (.iload_n 3, 1) := by decide +kernel
theorem dX12_rustled_27 : decode cX12_rustled 27 = .ok (.iconst 4, 1) := by decide +kernel
theorem dX12_rustled_28 : decode cX12_rustled 28 = .ok (.idiv, 1) := by decide +kernel
theorem dX12_rustled_29 : decode cX12_rustled 29 = .ok (.iconst 5, 1) := by decide +kernel
theorem dX12_rustled_30 : decode cX12_rustled 30 = .ok (.irem, 1) := by decide +kernel
theorem dX12_rustled_31 : decode cX12_rustled 31 = .ok (.istore 5, 2) := by decide +kernel
theorem dX12_rustled_33 : decode cX12_rustled 33 = .ok (.aload_n 0, 1) := by decide +kernel
theorem dX12_rustled_34 : decode cX12_rustled 34 = .ok (.iload 5, 2) := by decide +kernel
theorem dX12_rustled_36 : decode cX12_rustled 36 = .ok (.invokevirtual 219, 3) := by decide +kernel
theorem dX12_rustled_39 : decode cX12_rustled 39 = .ok (.ifCond .eq 55, 3) := by decide +kernel
theorem dX12_rustled_42 : decode cX12_rustled 42 = .ok (.aload_n 0, 1) := by decide +kernel
theorem dX12_rustled_43 : decode cX12_rustled 43 = .ok (.iload 5, 2) := by decide +kernel
theorem dX12_rustled_45 : decode cX12_rustled 45 = .ok (.iload 4, 2) := by decide +kernel
theorem dX12_rustled_47 : decode cX12_rustled 47 = .ok (.invokevirtual 229, 3) := by decide +kernel
theorem dX12_rustled_50 : decode cX12_rustled 50 = .ok (.iconst (-1), 1) := by decide +kernel
theorem dX12_rustled_51 : decode cX12_rustled 51 = .ok (.if_icmp .ne 43, 3) := by decide +kernel
theorem dX12_rustled_54 : decode cX12_rustled 54 = .ok (.aload_n 0, 1) := by decide +kernel
theorem dX12_rustled_55 : decode cX12_rustled 55 = .ok (.iload 5, 2) := by decide +kernel
theorem dX12_rustled_57 : decode cX12_rustled 57 = .ok (.iload 4, 2) := by decide +kernel
theorem dX12_rustled_59 : decode cX12_rustled 59 = .ok (.iload_n 3, 1) := by decide +kernel
theorem dX12_rustled_60 : decode cX12_rustled 60 = .ok (.iconst 4, 1) := by decide +kernel
theorem dX12_rustled_61 : decode cX12_rustled 61 = .ok (.irem, 1) := by decide +kernel
theorem dX12_rustled_62 : decode cX12_rustled 62 = .ok (.invokevirtual 561, 3) := by decide +kernel
theorem dX12_rustled_65 : decode cX12_rustled 65 = .ok (.aload_n 0, 1) := by decide +kernel
theorem dX12_rustled_66 : decode cX12_rustled 66 = .ok (.invokevirtual 564, 3) := by decide +kernel
theorem dX12_rustled_69 : decode cX12_rustled 69 = .ok (.istore 6, 2) := by decide +kernel
theorem dX12_rustled_71 : decode cX12_rustled 71 = .ok (.aload_n 0, 1) := by decide +kernel
theorem dX12_rustled_72 : decode cX12_rustled 72 = .ok (.iload 5, 2) := by decide +kernel
theorem dX12_rustled_74 : decode cX12_rustled 74 = .ok (.iconst (-1), 1) := by decide +kernel
theorem dX12_rustled_75 : decode cX12_rustled 75 = .ok (.iconst (-1), 1) := by decide +kernel
theorem dX12_rustled_76 : decode cX12_rustled 76 = .ok (.invokevirtual 561, 3) := by decide +kernel
theorem dX12_rustled_79 : decode cX12_rustled 79 = .ok (.iload 6, 2) := by decide +kernel
theorem dX12_rustled_81 : decode cX12_rustled 81 = .ok (.ifCond .eq 13, 3) := by decide +kernel
theorem dX12_rustled_84 : decode cX12_rustled 84 = .ok (.iload_n 2, 1) := by decide +kernel
theorem dX12_rustled_85 : decode cX12_rustled 85 = .ok (.iload_n 1, 1) := by decide +kernel
theorem dX12_rustled_86 : decode cX12_rustled 86 = .ok (.if_icmp .ne 5, 3) := by decide +kernel
theorem dX12_rustled_89 : decode cX12_rustled 89 = .ok (.iload_n 3, 1) := by decide +kernel
theorem dX12_rustled_90 : decode cX12_rustled 90 = .ok (.ireturn, 1) := by decide +kernel
theorem dX12_rustled_91 : decode cX12_rustled 91 = .ok (.iinc 2 1, 3) := by decide +kernel
theorem dX12_rustled_94 : decode cX12_rustled 94 = .ok (.iinc 3 1, 3) := by decide +kernel
theorem dX12_rustled_97 : decode cX12_rustled 97 = .ok (.goto (-84), 3) := by decide +kernel
theorem dX12_rustled_100 : decode cX12_rustled 100 = .ok (.iload_n 1, 1) := by decide +kernel
theorem dX12_rustled_101 : decode cX12_rustled 101 = .ok (.iconst (-1), 1) := by decide +kernel
theorem dX12_rustled_102 : decode cX12_rustled 102 = .ok (.if_icmp .ne 7, 3) := by decide +kernel
theorem dX12_rustled_105 : decode cX12_rustled 105 = .ok (.iload_n 2, 1) := by decide +kernel
theorem dX12_rustled_106 : decode cX12_rustled 106 = .ok (.goto 4, 3) := by decide +kernel
theorem dX12_rustled_109 : decode cX12_rustled 109 = .ok (.iconst (-1), 1) := by decide +kernel
theorem dX12_rustled_110 : decode cX12_rustled 110 = .ok (.ireturn, 1) := by decide +kernel
def w_X12_rustled (a0 : Int) (X : XT) (Q : Int → XT → Prop) : Prop :=
  w_X12_layCorners   (x_st X 77 0 0) (fun (X7 : XT) => ∃ (I15 : Int → Int → XT → Prop) (m16 : Int → Int → XT → Nat), I15 0 0 X7 ∧ ∀ (x12 : Int) (x13 : Int) (X14 : XT), I15 x12 x13 X14 → R32 x13 ∧ (220 ≤ x13 → R32 a0 ∧ (¬ a0 = (-1) → Q (-1) X14) ∧ (a0 = (-1) → Q x12 X14)) ∧ (¬ 220 ≤ x13 → (0 ≤ x13) ∧ R32 (x13 / 4) ∧ (0 ≤ (x13 / 4)) ∧ R32 ((x13 / 4) % 5) ∧ (0 ≤ X14 79 0 ∧ X14 79 0 ≤ 5) ∧ (¬ (0 ≤ ((x13 / 4) % 5) ∧ ((x13 / 4) % 5) ≤ X14 79 0 - 1) → I15 x12 (x13 + 1) X14 ∧ m16 x12 (x13 + 1) X14 < m16 x12 x13 X14) ∧ ((0 ≤ ((x13 / 4) % 5) ∧ ((x13 / 4) % 5) ≤ X14 79 0 - 1) → R32 (x13 / 20) ∧ (FLK (X14 79)) ∧ R32 (fRw (X14 79) ((x13 / 4) % 5) (x13 / 20)) ∧ (¬ (fRw (X14 79) ((x13 / 4) % 5) (x13 / 20)) = (-1) → I15 x12 (x13 + 1) X14 ∧ m16 x12 (x13 + 1) X14 < m16 x12 x13 X14) ∧ ((fRw (X14 79) ((x13 / 4) % 5) (x13 / 20)) = (-1) → w_X12_layWith  ((x13 / 4) % 5) (x13 / 20) (x13 % 4) X14 (fun (X42 : XT) => w_X12_areSo   X42 (fun (v47 : Int) => w_X12_layWith  ((x13 / 4) % 5) (-1) (-1) X42 (fun (X54 : XT) => R32 v47 ∧ (v47 = 0 → I15 x12 (x13 + 1) X54 ∧ m16 x12 (x13 + 1) X54 < m16 x12 x13 X14) ∧ (¬ v47 = 0 → R32 x12 ∧ R32 a0 ∧ (¬ x12 = a0 → I15 (x12 + 1) (x13 + 1) X54 ∧ m16 (x12 + 1) (x13 + 1) X54 < m16 x12 x13 X14) ∧ (x12 = a0 → Q x13 X54)))))))))
set_option maxRecDepth 20000 in
theorem so_X12_rustled {n : Nat} {h : Nat → sE} {X : XT} {a0 : Int} {Q : Int → XT → Prop} (hn : 115 ≤ n) (hp : Pic X h) (w : w_X12_rustled  a0 X Q) : Sp m_X12_rustled 10 0 0 [.ref 77, .int (iI a0)] n h (pIw n h Q) := by
  unfold w_X12_rustled at w
  refine Sp.ofV (by decide +kernel) (Nat.le_of_ble_eq_true rfl) ?_
  have hf : Fr h h := fun _ _ => rfl
  refine v_aload_n dX12_rustled_0 rfl ?_
  refine v_iconstI dX12_rustled_1 ?_
  refine v_put dX12_rustled_2 fl_X12_169 ((hp 77 (by decide)).trans (ent_77 _)) (s_lt hn rfl) (Nat.le_of_ble_eq_true rfl) (fun _ => ⟨rfl, rfl⟩) trivial (fun h1 E2 F3 => ?_)
  have hp4 := pic_st hp (show h1 77 = ent 77 (uI _ 0 0) from E2) F3
  have hf5 := Fr.up (c := 77) hf F3 rfl
  refine v_aload_n dX12_rustled_5 rfl ?_
  refine v_callVVw dX12_rustled_6 ml_X12_478 (so_X12_layCorners hn hp4  w) ((hp4 77 (by decide)).trans (ent_77 _)) rfl (s_lt hn rfl) rfl rfl (Nat.le_of_ble_eq_true rfl) (Nat.le_of_ble_eq_true rfl) (Nat.zero_le _) (Nat.zero_le _) (fun X7 h8 hp10 hf9 w => ?_)
  have hf11 := Fr.trans hf5 hf9
  refine v_iconstI dX12_rustled_9 ?_
  refine v_istore_n dX12_rustled_10 (Nat.le_of_ble_eq_true rfl) ?_
  refine v_iconstI dX12_rustled_11 ?_
  refine v_istore_n dX12_rustled_12 (Nat.le_of_ble_eq_true rfl) ?_
  refine v_pick [2, 3, 1, 0] rfl ?_
  obtain ⟨I15, m16, wi19, wl18⟩ := w
  have hL20 : ∀ (N23 : Nat) (x12 : Int) (x13 : Int) (X14 : XT) (h24 : Nat → sE), m16 x12 x13 X14 < N23 → I15 x12 x13 X14 → Pic X14 h24 → Fr h h24 → V (m_X12_rustled, 10, 0, 0, n, pIw n h Q, s_G0) 0 0 n h24 13 [(0, .ref 77), (1, .int (iI a0)), (2, .int (iI x12)), (3, .int (iI x13))] [] := by
    intro N23
    induction N23 with
    | zero => intro x12 x13 X14 h24 hm21; exact absurd hm21 (Nat.not_lt_zero _)
    | succ N23 ih17 =>
      intro x12 x13 X14 h24 hm21 hI22 hp25 hf26
      have w := wl18 x12 x13 X14 hI22
      refine v_iload_n dX12_rustled_13 rfl ?_
      refine v_sipushI dX12_rustled_14 rfl ?_
      obtain ⟨q27, w⟩ := w
      refine v_icmp_geI (tgt := 100) dX12_rustled_17 (by decide) q27.1 q27.2 (by decide) (by decide) (fun c28 => ?_) (fun c28 => ?_)
      · replace w := w.1 c28
        refine v_iload_n dX12_rustled_100 rfl ?_
        refine v_iconstI dX12_rustled_101 ?_
        obtain ⟨q29, w⟩ := w
        refine v_icmp_neI (tgt := 109) dX12_rustled_102 (by decide) q29.1 q29.2 (by decide) (by decide) (fun c30 => ?_) (fun c30 => ?_)
        · replace w := w.1 c30
          refine v_iconstI dX12_rustled_109 ?_
          exact v_iret dX12_rustled_110 rfl (Nat.zero_le _) (Nat.zero_le _) ⟨rfl, hf26, _, _, rfl, hp25, w⟩
        · replace w := w.2 c30
          refine v_iload_n dX12_rustled_105 rfl ?_
          refine v_goto (tgt := 110) dX12_rustled_106 (by decide) ?_
          exact v_iret dX12_rustled_110 rfl (Nat.zero_le _) (Nat.zero_le _) ⟨rfl, hf26, _, _, rfl, hp25, w⟩
      · replace w := w.2 c28
        refine v_iload_n dX12_rustled_20 rfl ?_
        refine v_bipushI dX12_rustled_21 rfl ?_
        obtain ⟨q31, w⟩ := w
        refine v_idivI dX12_rustled_23 q31 q27.2 (by decide) (by decide) ?_
        refine v_istore dX12_rustled_24 (Nat.le_of_ble_eq_true rfl) ?_
        refine v_iload_n dX12_rustled_26 rfl ?_
        refine v_iconstI dX12_rustled_27 ?_
        refine v_idivI dX12_rustled_28 q31 q27.2 (by decide) (by decide) ?_
        refine v_iconstI dX12_rustled_29 ?_
        obtain ⟨q32, q33, w⟩ := w
        refine v_iremI dX12_rustled_30 q33 q32.2 (by decide) (by decide) ?_
        refine v_istore dX12_rustled_31 (Nat.le_of_ble_eq_true rfl) ?_
        refine v_aload_n dX12_rustled_33 rfl ?_
        refine v_iload dX12_rustled_34 rfl ?_
        obtain ⟨q34, q35, w⟩ := w
        refine v_callVp dX12_rustled_36 ml_X12_219 (sp_X12_isCloud (a := ((x13 / 4) % 5)) (g77 := X14 77) (g79 := X14 79) hn (hp25 77 (by decide)) (hp25 79 (by decide)) q34 q35) ((hp25 77 (by decide)).trans (ent_77 _)) rfl (s_lt hn rfl) rfl rfl (Nat.le_of_ble_eq_true rfl) (Nat.le_of_ble_eq_true rfl) (Nat.zero_le _) (Nat.zero_le _) ?_
        refine v_ifeqB (tgt := 94) dX12_rustled_39 (by decide) (fun c36 => ?_) (fun c36 => ?_)
        · replace w := w.1 c36
          refine v_iincI dX12_rustled_94 rfl (Nat.le_of_ble_eq_true rfl) ?_
          refine v_goto (tgt := 13) dX12_rustled_97 (by decide) ?_
          refine v_pick [3, 4, 5, 0] rfl ?_
          exact ih17 _ _ _ _ (Nat.lt_of_lt_of_le w.2 (Nat.le_of_lt_succ hm21)) w.1 hp25 hf26
        · replace w := w.2 c36
          refine v_aload_n dX12_rustled_42 rfl ?_
          refine v_iload dX12_rustled_43 rfl ?_
          refine v_iload dX12_rustled_45 rfl ?_
          obtain ⟨q37, q38, w⟩ := w
          refine v_callVp dX12_rustled_47 ml_X12_229 (sv_X12_flagOf (a := ((x13 / 4) % 5)) (b := (x13 / 20)) (g77 := X14 77) (g79 := X14 79) hn (hp25 77 (by decide)) (hp25 79 (by decide)) q34 q37 q38) ((hp25 77 (by decide)).trans (ent_77 _)) rfl (s_lt hn rfl) rfl rfl (Nat.le_of_ble_eq_true rfl) (Nat.le_of_ble_eq_true rfl) (Nat.zero_le _) (Nat.zero_le _) ?_
          refine v_iconstI dX12_rustled_50 ?_
          obtain ⟨q39, w⟩ := w
          refine v_icmp_neI (tgt := 94) dX12_rustled_51 (by decide) q39.1 q39.2 (by decide) (by decide) (fun c40 => ?_) (fun c40 => ?_)
          · replace w := w.1 c40
            refine v_iincI dX12_rustled_94 rfl (Nat.le_of_ble_eq_true rfl) ?_
            refine v_goto (tgt := 13) dX12_rustled_97 (by decide) ?_
            refine v_pick [3, 4, 5, 0] rfl ?_
            exact ih17 _ _ _ _ (Nat.lt_of_lt_of_le w.2 (Nat.le_of_lt_succ hm21)) w.1 hp25 hf26
          · replace w := w.2 c40
            refine v_aload_n dX12_rustled_54 rfl ?_
            refine v_iload dX12_rustled_55 rfl ?_
            refine v_iload dX12_rustled_57 rfl ?_
            refine v_iload_n dX12_rustled_59 rfl ?_
            refine v_iconstI dX12_rustled_60 ?_
            refine v_iremI dX12_rustled_61 q31 q27.2 (by decide) (by decide) ?_
            refine v_callVVw dX12_rustled_62 ml_X12_561 (so_X12_layWith hn hp25  w) ((hp25 77 (by decide)).trans (ent_77 _)) rfl (s_lt hn rfl) rfl rfl (Nat.le_of_ble_eq_true rfl) (Nat.le_of_ble_eq_true rfl) (Nat.zero_le _) (Nat.zero_le _) (fun X42 h43 hp45 hf44 w => ?_)
            have hf46 := Fr.trans hf26 hf44
            refine v_aload_n dX12_rustled_65 rfl ?_
            refine v_callVIr dX12_rustled_66 ml_X12_564 (so_X12_areSo hn hp45  w) ((hp45 77 (by decide)).trans (ent_77 _)) rfl (s_lt hn rfl) rfl rfl (Nat.le_of_ble_eq_true rfl) (Nat.le_of_ble_eq_true rfl) (Nat.zero_le _) (Nat.zero_le _) (fun v47 w => ?_)
            refine v_istore dX12_rustled_69 (Nat.le_of_ble_eq_true rfl) ?_
            refine v_aload_n dX12_rustled_71 rfl ?_
            refine v_iload dX12_rustled_72 rfl ?_
            refine v_iconstI dX12_rustled_74 ?_
            refine v_iconstI dX12_rustled_75 ?_
            refine v_callVVw dX12_rustled_76 ml_X12_561 (so_X12_layWith hn hp45  w) ((hp45 77 (by decide)).trans (ent_77 _)) rfl (s_lt hn rfl) rfl rfl (Nat.le_of_ble_eq_true rfl) (Nat.le_of_ble_eq_true rfl) (Nat.zero_le _) (Nat.zero_le _) (fun X54 h55 hp57 hf56 w => ?_)
            have hf58 := Fr.trans hf46 hf56
            refine v_iload dX12_rustled_79 rfl ?_
            obtain ⟨q59, w⟩ := w
            refine v_if_eqI (tgt := 94) dX12_rustled_81 (by decide) q59.1 q59.2 (fun c60 => ?_) (fun c60 => ?_)
            · replace w := w.1 c60
              refine v_iincI dX12_rustled_94 rfl (Nat.le_of_ble_eq_true rfl) ?_
              refine v_goto (tgt := 13) dX12_rustled_97 (by decide) ?_
              refine v_pick [4, 5, 6, 0] rfl ?_
              exact ih17 _ _ _ _ (Nat.lt_of_lt_of_le w.2 (Nat.le_of_lt_succ hm21)) w.1 hp57 hf58
            · replace w := w.2 c60
              refine v_iload_n dX12_rustled_84 rfl ?_
              refine v_iload_n dX12_rustled_85 rfl ?_
              obtain ⟨q61, q62, w⟩ := w
              refine v_icmp_neI (tgt := 91) dX12_rustled_86 (by decide) q61.1 q61.2 q62.1 q62.2 (fun c63 => ?_) (fun c63 => ?_)
              · replace w := w.1 c63
                refine v_iincI dX12_rustled_91 rfl (Nat.le_of_ble_eq_true rfl) ?_
                refine v_iincI dX12_rustled_94 rfl (Nat.le_of_ble_eq_true rfl) ?_
                refine v_goto (tgt := 13) dX12_rustled_97 (by decide) ?_
                refine v_pick [5, 6, 1, 0] rfl ?_
                exact ih17 _ _ _ _ (Nat.lt_of_lt_of_le w.2 (Nat.le_of_lt_succ hm21)) w.1 hp57 hf58
              · replace w := w.2 c63
                refine v_iload_n dX12_rustled_89 rfl ?_
                exact v_iret dX12_rustled_90 rfl (Nat.zero_le _) (Nat.zero_le _) ⟨rfl, hf58, _, _, rfl, hp57, w⟩
  exact hL20 _ _ _ _ _ (Nat.lt_succ_self _) wi19 hp10 hf11
theorem dX12_canGoOn_0 : decode cX12_canGoOn 0 = .ok (.aload_n 0, 1) := by decide +kernel
theorem dX12_canGoOn_1 : decode cX12_canGoOn 1 = .ok (.getfield 139, 3) := by decide +kernel
theorem dX12_canGoOn_4 : decode cX12_canGoOn 4 = .ok (.iload_n 1, 1) := by decide +kernel
theorem dX12_canGoOn_5 : decode cX12_canGoOn 5 = .ok (.iaload, 1) := by decide +kernel
theorem dX12_canGoOn_6 : decode cX12_canGoOn 6 = .ok (.invokestatic 417, 3) := by decide +kernel
theorem dX12_canGoOn_9 : decode cX12_canGoOn 9 = .ok (.aload_n 0, 1) := by decide +kernel
theorem dX12_canGoOn_10 : decode cX12_canGoOn 10 = .ok (.getfield 139, 3) := by decide +kernel
theorem dX12_canGoOn_13 : decode cX12_canGoOn 13 = .ok (.iload_n 2, 1) := by decide +kernel
theorem dX12_canGoOn_14 : decode cX12_canGoOn 14 = .ok (.iaload, 1) := by decide +kernel
theorem dX12_canGoOn_15 : decode cX12_canGoOn 15 = .ok (.invokestatic 417, 3) := by decide +kernel
theorem dX12_canGoOn_18 : decode cX12_canGoOn 18 = .ok (.isub, 1) := by decide +kernel
theorem dX12_canGoOn_19 : decode cX12_canGoOn 19 = .ok (.invokestatic 567, 3) := by decide +kernel
theorem dX12_canGoOn_22 : decode cX12_canGoOn 22 = .ok (.aload_n 0, 1) := by decide +kernel
theorem dX12_canGoOn_23 : decode cX12_canGoOn 23 = .ok (.getfield 139, 3) := by decide +kernel
theorem dX12_canGoOn_26 : decode cX12_canGoOn 26 = .ok (.iload_n 1, 1) := by decide +kernel
theorem dX12_canGoOn_27 : decode cX12_canGoOn 27 = .ok (.iaload, 1) := by decide +kernel
theorem dX12_canGoOn_28 : decode cX12_canGoOn 28 = .ok (.invokestatic 420, 3) := by decide +kernel
theorem dX12_canGoOn_31 : decode cX12_canGoOn 31 = .ok (.aload_n 0, 1) := by decide +kernel
theorem dX12_canGoOn_32 : decode cX12_canGoOn 32 = .ok (.getfield 139, 3) := by decide +kernel
theorem dX12_canGoOn_35 : decode cX12_canGoOn 35 = .ok (.iload_n 2, 1) := by decide +kernel
theorem dX12_canGoOn_36 : decode cX12_canGoOn 36 = .ok (.iaload, 1) := by decide +kernel
theorem dX12_canGoOn_37 : decode cX12_canGoOn 37 = .ok (.invokestatic 420, 3) := by decide +kernel
theorem dX12_canGoOn_40 : decode cX12_canGoOn 40 = .ok (.isub, 1) := by decide +kernel
theorem dX12_canGoOn_41 : decode cX12_canGoOn 41 = .ok (.invokestatic 567, 3) := by decide +kernel
theorem dX12_canGoOn_44 : decode cX12_canGoOn 44 = .ok (.iadd, 1) := by decide +kernel
theorem dX12_canGoOn_45 : decode cX12_canGoOn 45 = .ok (.istore_n 3, 1) := by decide +kernel
theorem dX12_canGoOn_46 : decode cX12_canGoOn 46 = .ok (.iload_n 1, 1) := by decide +kernel
theorem dX12_canGoOn_47 : decode cX12_canGoOn 47 = .ok (.iload_n 2, 1) := by decide +kernel
theorem dX12_canGoOn_48 : decode cX12_canGoOn 48 = .ok (.if_icmp .ge 24, 3) := by decide +kernel
theorem dX12_canGoOn_51 : decode cX12_canGoOn 51 = .ok (.iload_n 3, 1) := by decide +kernel
theorem dX12_canGoOn_52 : decode cX12_canGoOn 52 = .ok (.aload_n 0, 1) := by decide +kernel
theorem dX12_canGoOn_53 : decode cX12_canGoOn 53 = .ok (.getfield 142, 3) := by decide +kernel
theorem dX12_canGoOn_56 : decode cX12_canGoOn 56 = .ok (.iload_n 2, 1) := by decide +kernel
theorem dX12_canGoOn_57 : decode cX12_canGoOn 57 = .ok (.iaload, 1) := by decide +kernel
theorem dX12_canGoOn_58 : decode cX12_canGoOn 58 = .ok (.aload_n 0, 1) := by decide +kernel
theorem dX12_canGoOn_59 : decode cX12_canGoOn 59 = .ok (.getfield 142, 3) := by decide +kernel
theorem dX12_canGoOn_62 : decode cX12_canGoOn 62 = .ok (.iload_n 1, 1) := by decide +kernel
theorem dX12_canGoOn_63 : decode cX12_canGoOn 63 = .ok (.iaload, 1) := by decide +kernel
theorem dX12_canGoOn_64 : decode cX12_canGoOn 64 = .ok (.isub, 1) := by decide +kernel
theorem dX12_canGoOn_65 : decode cX12_canGoOn 65 = .ok (.if_icmp .gt 7, 3) := by decide +kernel
theorem dX12_canGoOn_68 : decode cX12_canGoOn 68 = .ok (.iconst 1, 1) := by decide +kernel
theorem dX12_canGoOn_69 : decode cX12_canGoOn 69 = .ok (.goto 4, 3) := by decide +kernel
theorem dX12_canGoOn_72 : decode cX12_canGoOn 72 = .ok (.iconst 0, 1) := by decide +kernel
theorem dX12_canGoOn_73 : decode cX12_canGoOn 73 = .ok (.ireturn, 1) := by decide +kernel
def w_X12_canGoOn (a0 a1 : Int) (X : XT) (Q : Int → Prop) : Prop :=
  (0 ≤ a0 ∧ a0 < 24) ∧ (0 ≤ (X 106 a0) ∧ (X 106 a0) ≤ 2147483647) ∧ (0 ≤ a1 ∧ a1 < 24) ∧ (0 ≤ (X 106 a1) ∧ (X 106 a1) ≤ 2147483647) ∧ (-2147483647 ≤ (((X 106 a0) % 24 - 8) - ((X 106 a1) % 24 - 8)) ∧ (((X 106 a0) % 24 - 8) - ((X 106 a1) % 24 - 8)) ≤ 2147483647) ∧ (-2147483647 ≤ (((X 106 a0) / 24 - 8) - ((X 106 a1) / 24 - 8)) ∧ (((X 106 a0) / 24 - 8) - ((X 106 a1) / 24 - 8)) ≤ 2147483647) ∧ R32 a0 ∧ R32 a1 ∧ (a1 ≤ a0 → Q 0) ∧ (¬ a1 ≤ a0 → R32 ((if (((X 106 a0) % 24 - 8) - ((X 106 a1) % 24 - 8)) < 0 then -(((X 106 a0) % 24 - 8) - ((X 106 a1) % 24 - 8)) else (((X 106 a0) % 24 - 8) - ((X 106 a1) % 24 - 8))) + (if (((X 106 a0) / 24 - 8) - ((X 106 a1) / 24 - 8)) < 0 then -(((X 106 a0) / 24 - 8) - ((X 106 a1) / 24 - 8)) else (((X 106 a0) / 24 - 8) - ((X 106 a1) / 24 - 8)))) ∧ R32 ((X 107 a1) - (X 107 a0)) ∧ (((X 107 a1) - (X 107 a0)) < ((if (((X 106 a0) % 24 - 8) - ((X 106 a1) % 24 - 8)) < 0 then -(((X 106 a0) % 24 - 8) - ((X 106 a1) % 24 - 8)) else (((X 106 a0) % 24 - 8) - ((X 106 a1) % 24 - 8))) + (if (((X 106 a0) / 24 - 8) - ((X 106 a1) / 24 - 8)) < 0 then -(((X 106 a0) / 24 - 8) - ((X 106 a1) / 24 - 8)) else (((X 106 a0) / 24 - 8) - ((X 106 a1) / 24 - 8)))) → Q 0) ∧ (¬ ((X 107 a1) - (X 107 a0)) < ((if (((X 106 a0) % 24 - 8) - ((X 106 a1) % 24 - 8)) < 0 then -(((X 106 a0) % 24 - 8) - ((X 106 a1) % 24 - 8)) else (((X 106 a0) % 24 - 8) - ((X 106 a1) % 24 - 8))) + (if (((X 106 a0) / 24 - 8) - ((X 106 a1) / 24 - 8)) < 0 then -(((X 106 a0) / 24 - 8) - ((X 106 a1) / 24 - 8)) else (((X 106 a0) / 24 - 8) - ((X 106 a1) / 24 - 8)))) → Q 1))
set_option maxRecDepth 20000 in
theorem so_X12_canGoOn {n : Nat} {h : Nat → sE} {X : XT} {a0 a1 : Int} {Q : Int → Prop} (hn : 115 ≤ n) (hp : Pic X h) (w : w_X12_canGoOn  a0 a1 X Q) : Sp m_X12_canGoOn 1 0 0 [.ref 77, .int (iI a0), .int (iI a1)] n h (pIr n h Q) := by
  unfold w_X12_canGoOn at w
  refine Sp.ofV (by decide +kernel) (Nat.le_of_ble_eq_true rfl) ?_
  have hf : Fr h h := fun _ _ => rfl
  refine v_aload_n dX12_canGoOn_0 rfl ?_
  refine v_get dX12_canGoOn_1 fl_X12_139 ((hp 77 (by decide)).trans (ent_77 _)) rfl (s_lt hn rfl) ?_
  refine v_iload_n dX12_canGoOn_4 rfl ?_
  obtain ⟨q1, w⟩ := w
  refine v_ialdI dX12_canGoOn_5 ((hp 106 (by decide)).trans (ent_106 _)) (s_lt hn rfl) q1.1 q1.2 (ix_le q1.2 (by decide)) ?_
  obtain ⟨q2, w⟩ := w
  refine v_callSp dX12_canGoOn_6 ml_X12_417 (sp_X12_xOf (a := (X 106 a0)) q2) rfl rfl (Nat.le_of_ble_eq_true rfl) (Nat.le_of_ble_eq_true rfl) (Nat.zero_le _) (Nat.zero_le _) ?_
  refine v_aload_n dX12_canGoOn_9 rfl ?_
  refine v_get dX12_canGoOn_10 fl_X12_139 ((hp 77 (by decide)).trans (ent_77 _)) rfl (s_lt hn rfl) ?_
  refine v_iload_n dX12_canGoOn_13 rfl ?_
  obtain ⟨q3, w⟩ := w
  refine v_ialdI dX12_canGoOn_14 ((hp 106 (by decide)).trans (ent_106 _)) (s_lt hn rfl) q3.1 q3.2 (ix_le q3.2 (by decide)) ?_
  obtain ⟨q4, w⟩ := w
  refine v_callSp dX12_canGoOn_15 ml_X12_417 (sp_X12_xOf (a := (X 106 a1)) q4) rfl rfl (Nat.le_of_ble_eq_true rfl) (Nat.le_of_ble_eq_true rfl) (Nat.zero_le _) (Nat.zero_le _) ?_
  refine v_isubI dX12_canGoOn_18 ?_
  obtain ⟨q5, w⟩ := w
  refine v_callSp dX12_canGoOn_19 ml_X12_567 (sp_X12_away (v := (((X 106 a0) % 24 - 8) - ((X 106 a1) % 24 - 8))) q5) rfl rfl (Nat.le_of_ble_eq_true rfl) (Nat.le_of_ble_eq_true rfl) (Nat.zero_le _) (Nat.zero_le _) ?_
  refine v_aload_n dX12_canGoOn_22 rfl ?_
  refine v_get dX12_canGoOn_23 fl_X12_139 ((hp 77 (by decide)).trans (ent_77 _)) rfl (s_lt hn rfl) ?_
  refine v_iload_n dX12_canGoOn_26 rfl ?_
  refine v_ialdI dX12_canGoOn_27 ((hp 106 (by decide)).trans (ent_106 _)) (s_lt hn rfl) q1.1 q1.2 (ix_le q1.2 (by decide)) ?_
  refine v_callSp dX12_canGoOn_28 ml_X12_420 (sp_X12_yOf (a := (X 106 a0)) q2) rfl rfl (Nat.le_of_ble_eq_true rfl) (Nat.le_of_ble_eq_true rfl) (Nat.zero_le _) (Nat.zero_le _) ?_
  refine v_aload_n dX12_canGoOn_31 rfl ?_
  refine v_get dX12_canGoOn_32 fl_X12_139 ((hp 77 (by decide)).trans (ent_77 _)) rfl (s_lt hn rfl) ?_
  refine v_iload_n dX12_canGoOn_35 rfl ?_
  refine v_ialdI dX12_canGoOn_36 ((hp 106 (by decide)).trans (ent_106 _)) (s_lt hn rfl) q3.1 q3.2 (ix_le q3.2 (by decide)) ?_
  refine v_callSp dX12_canGoOn_37 ml_X12_420 (sp_X12_yOf (a := (X 106 a1)) q4) rfl rfl (Nat.le_of_ble_eq_true rfl) (Nat.le_of_ble_eq_true rfl) (Nat.zero_le _) (Nat.zero_le _) ?_
  refine v_isubI dX12_canGoOn_40 ?_
  obtain ⟨q6, w⟩ := w
  refine v_callSp dX12_canGoOn_41 ml_X12_567 (sp_X12_away (v := (((X 106 a0) / 24 - 8) - ((X 106 a1) / 24 - 8))) q6) rfl rfl (Nat.le_of_ble_eq_true rfl) (Nat.le_of_ble_eq_true rfl) (Nat.zero_le _) (Nat.zero_le _) ?_
  refine v_iaddI dX12_canGoOn_44 ?_
  refine v_istore_n dX12_canGoOn_45 (Nat.le_of_ble_eq_true rfl) ?_
  refine v_iload_n dX12_canGoOn_46 rfl ?_
  refine v_iload_n dX12_canGoOn_47 rfl ?_
  obtain ⟨q7, q8, w⟩ := w
  refine v_icmp_geI (tgt := 72) dX12_canGoOn_48 (by decide) q7.1 q7.2 q8.1 q8.2 (fun c9 => ?_) (fun c9 => ?_)
  · replace w := w.1 c9
    refine v_iconstI dX12_canGoOn_72 ?_
    exact v_z0 dX12_canGoOn_73 rfl (Nat.zero_le _) (Nat.zero_le _) ⟨rfl, rfl, _, rfl, w⟩
  · replace w := w.2 c9
    refine v_iload_n dX12_canGoOn_51 rfl ?_
    refine v_aload_n dX12_canGoOn_52 rfl ?_
    refine v_get dX12_canGoOn_53 fl_X12_142 ((hp 77 (by decide)).trans (ent_77 _)) rfl (s_lt hn rfl) ?_
    refine v_iload_n dX12_canGoOn_56 rfl ?_
    refine v_ialdI dX12_canGoOn_57 ((hp 107 (by decide)).trans (ent_107 _)) (s_lt hn rfl) q3.1 q3.2 (ix_le q3.2 (by decide)) ?_
    refine v_aload_n dX12_canGoOn_58 rfl ?_
    refine v_get dX12_canGoOn_59 fl_X12_142 ((hp 77 (by decide)).trans (ent_77 _)) rfl (s_lt hn rfl) ?_
    refine v_iload_n dX12_canGoOn_62 rfl ?_
    refine v_ialdI dX12_canGoOn_63 ((hp 107 (by decide)).trans (ent_107 _)) (s_lt hn rfl) q1.1 q1.2 (ix_le q1.2 (by decide)) ?_
    refine v_isubI dX12_canGoOn_64 ?_
    obtain ⟨q10, q11, w⟩ := w
    refine v_icmp_gtI (tgt := 72) dX12_canGoOn_65 (by decide) q10.1 q10.2 q11.1 q11.2 (fun c12 => ?_) (fun c12 => ?_)
    · replace w := w.1 c12
      refine v_iconstI dX12_canGoOn_72 ?_
      exact v_z0 dX12_canGoOn_73 rfl (Nat.zero_le _) (Nat.zero_le _) ⟨rfl, rfl, _, rfl, w⟩
    · replace w := w.2 c12
      refine v_iconstI dX12_canGoOn_68 ?_
      refine v_goto (tgt := 73) dX12_canGoOn_69 (by decide) ?_
      exact v_z1 dX12_canGoOn_73 rfl (Nat.zero_le _) (Nat.zero_le _) ⟨rfl, rfl, _, rfl, w⟩
theorem dX12_augment_0 : decode cX12_augment 0 = .ok (.iconst 0, 1) := by decide +kernel
theorem dX12_augment_1 : decode cX12_augment 1 = .ok (.istore_n 2, 1) := by decide +kernel
theorem dX12_augment_2 : decode cX12_augment 2 = .ok (.iload_n 2, 1) := by decide +kernel
theorem dX12_augment_3 : decode cX12_augment 3 = .ok (.aload_n 0, 1) := by decide +kernel
theorem dX12_augment_4 : decode cX12_augment 4 = .ok (.getfield 570, 3) := by decide +kernel
theorem dX12_augment_7 : decode cX12_augment 7 = .ok (.if_icmp .ge 16, 3) := by decide +kernel
theorem dX12_augment_10 : decode cX12_augment 10 = .ok (.aload_n 0, 1) := by decide +kernel
theorem dX12_augment_11 : decode cX12_augment 11 = .ok (.getfield 148, 3) := by decide +kernel
theorem dX12_augment_14 : decode cX12_augment 14 = .ok (.iload_n 2, 1) := by decide +kernel
theorem dX12_augment_15 : decode cX12_augment 15 = .ok (.iconst 0, 1) := by decide +kernel
theorem dX12_augment_16 : decode cX12_augment 16 = .ok (.bastore, 1) := by decide +kernel
theorem dX12_augment_17 : decode cX12_augment 17 = .ok (.iinc 2 1, 3) := by decide +kernel
theorem dX12_augment_20 : decode cX12_augment 20 = .ok (.goto (-18), 3) := by decide +kernel
theorem dX12_augment_23 : decode cX12_augment 23 = .ok (.iconst 0, 1) := by decide +kernel
theorem dX12_augment_24 : decode cX12_augment 24 = .ok (.istore_n 2, 1) := by decide +kernel
theorem dX12_augment_25 : decode cX12_augment 25 = .ok (.aload_n 0, 1) := by decide +kernel
theorem dX12_augment_26 : decode cX12_augment 26 = .ok (.getfield 151, 3) := by decide +kernel
theorem dX12_augment_29 : decode cX12_augment 29 = .ok (.iconst 0, 1) := by decide +kernel
theorem dX12_augment_30 : decode cX12_augment 30 = .ok (.iload_n 1, 1) := by decide +kernel
theorem dX12_augment_31 : decode cX12_augment 31 = .ok (.iastore, 1) := by decide +kernel
theorem dX12_augment_32 : decode cX12_augment 32 = .ok (.aload_n 0, 1) := by decide +kernel
theorem dX12_augment_33 : decode cX12_augment 33 = .ok (.getfield 154, 3) := by decide +kernel
theorem dX12_augment_36 : decode cX12_augment 36 = .ok (.iconst 0, 1) := by decide +kernel
theorem dX12_augment_37 : decode cX12_augment 37 = .ok (.iconst (-1), 1) := by decide +kernel
theorem dX12_augment_38 : decode cX12_augment 38 = .ok (.iastore, 1) := by decide +kernel
theorem dX12_augment_39 : decode cX12_augment 39 = .ok (.iload_n 2, 1) := by decide +kernel
theorem dX12_augment_40 : decode cX12_augment 40 = .ok (.ifCond .lt 134, 3) := by decide +kernel
theorem dX12_augment_43 : decode cX12_augment 43 = .ok (.aload_n 0, 1) := by decide +kernel
theorem dX12_augment_44 : decode cX12_augment 44 = .ok (.getfield 154, 3) := by decide +kernel
theorem dX12_augment_47 : decode cX12_augment 47 = .ok (.iload_n 2, 1) := by decide +kernel
theorem dX12_augment_48 : decode cX12_augment 48 = .ok (.dup2, 1) := by decide +kernel
theorem dX12_augment_49 : decode cX12_augment 49 = .ok (.iaload, 1) := by decide +kernel
theorem dX12_augment_50 : decode cX12_augment 50 = .ok (.iconst 1, 1) := by decide +kernel
theorem dX12_augment_51 : decode cX12_augment 51 = .ok (.iadd, 1) := by decide +kernel
theorem dX12_augment_52 : decode cX12_augment 52 = .ok (.iastore, 1) := by decide +kernel
theorem dX12_augment_53 : decode cX12_augment 53 = .ok (.aload_n 0, 1) := by decide +kernel
theorem dX12_augment_54 : decode cX12_augment 54 = .ok (.getfield 154, 3) := by decide +kernel
theorem dX12_augment_57 : decode cX12_augment 57 = .ok (.iload_n 2, 1) := by decide +kernel
theorem dX12_augment_58 : decode cX12_augment 58 = .ok (.iaload, 1) := by decide +kernel
theorem dX12_augment_59 : decode cX12_augment 59 = .ok (.istore_n 3, 1) := by decide +kernel
theorem dX12_augment_60 : decode cX12_augment 60 = .ok (.iload_n 3, 1) := by decide +kernel
theorem dX12_augment_61 : decode cX12_augment 61 = .ok (.aload_n 0, 1) := by decide +kernel
theorem dX12_augment_62 : decode cX12_augment 62 = .ok (.getfield 570, 3) := by decide +kernel
theorem dX12_augment_65 : decode cX12_augment 65 = .ok (.if_icmp .ne 9, 3) := by decide +kernel
theorem dX12_augment_68 : decode cX12_augment 68 = .ok (.iinc 2 (-1), 3) := by decide +kernel
theorem dX12_augment_71 : decode cX12_augment 71 = .ok (.goto 100, 3) := by decide +kernel
theorem dX12_augment_74 : decode cX12_augment 74 = .ok (.aload_n 0, 1) := by decide +kernel
theorem dX12_augment_75 : decode cX12_augment 75 = .ok (.getfield 148, 3) := by decide +kernel
theorem dX12_augment_78 : decode cX12_augment 78 = .ok (.iload_n 3, 1) := by decide +kernel
theorem dX12_augment_79 : decode cX12_augment 79 = .ok (.baload, 1) := by decide +kernel
theorem dX12_augment_80 : decode cX12_augment 80 = .ok (.ifCond .ne 91, 3) := by decide +kernel
theorem dX12_augment_83 : decode cX12_augment 83 = .ok (.aload_n 0, 1) := by decide +kernel
theorem dX12_augment_84 : decode cX12_augment 84 = .ok (.aload_n 0, 1) := by decide +kernel
theorem dX12_augment_85 : decode cX12_augment 85 = .ok (.getfield 151, 3) := by decide +kernel
theorem dX12_augment_88 : decode cX12_augment 88 = .ok (.iload_n 2, 1) := by decide +kernel
theorem dX12_augment_89 : decode cX12_augment 89 = .ok (.iaload, 1) := by decide +kernel
theorem dX12_augment_90 : decode cX12_augment 90 = .ok (.iload_n 3, 1) := by decide +kernel
theorem dX12_augment_91 : decode cX12_augment 91 = .ok (.invokevirtual 573, 3) := by decide +kernel
theorem dX12_augment_94 : decode cX12_augment 94 = .ok (.ifCond .eq 77, 3) := by decide +kernel
theorem dX12_augment_97 : decode cX12_augment 97 = .ok (.aload_n 0, 1) := by decide +kernel
theorem dX12_augment_98 : decode cX12_augment 98 = .ok (.getfield 148, 3) := by decide +kernel
theorem dX12_augment_101 : decode cX12_augment 101 = .ok (.iload_n 3, 1) := by decide +kernel
theorem dX12_augment_102 : decode cX12_augment 102 = .ok (.iconst 1, 1) := by decide +kernel
theorem dX12_augment_103 : decode cX12_augment 103 = .ok (.bastore, 1) := by decide +kernel
theorem dX12_augment_104 : decode cX12_augment 104 = .ok (.aload_n 0, 1) := by decide +kernel
theorem dX12_augment_105 : decode cX12_augment 105 = .ok (.getfield 145, 3) := by decide +kernel
theorem dX12_augment_108 : decode cX12_augment 108 = .ok (.iload_n 3, 1) := by decide +kernel
theorem dX12_augment_109 : decode cX12_augment 109 = .ok (.iaload, 1) := by decide +kernel
theorem dX12_augment_110 : decode cX12_augment 110 = .ok (.iconst (-1), 1) := by decide +kernel
theorem dX12_augment_111 : decode cX12_augment 111 = .ok (.if_icmp .ne 38, 3) := by decide +kernel
theorem dX12_augment_114 : decode cX12_augment 114 = .ok (.iload_n 2, 1) := by decide +kernel
theorem dX12_augment_115 : decode cX12_augment 115 = .ok (.istore 4, 2) := by decide +kernel
theorem dX12_augment_117 : decode cX12_augment 117 = .ok (.iload 4, 2) := by decide +kernel
theorem dX12_augment_119 : decode cX12_augment 119 = .ok (.ifCond .lt 28, 3) := by decide +kernel
theorem dX12_augment_122 : decode cX12_augment 122 = .ok (.aload_n 0, 1) := by decide +kernel
theorem dX12_augment_123 : decode cX12_augment 123 = .ok (.getfield 145, 3) := by decide +kernel
theorem dX12_augment_126 : decode cX12_augment 126 = .ok (.aload_n 0, 1) := by decide +kernel
theorem dX12_augment_127 : decode cX12_augment 127 = .ok (.getfield 154, 3) := by decide +kernel
theorem dX12_augment_130 : decode cX12_augment 130 = .ok (.iload 4, 2) := by decide +kernel
theorem dX12_augment_132 : decode cX12_augment 132 = .ok (.iaload, 1) := by decide +kernel
theorem dX12_augment_133 : decode cX12_augment 133 = .ok (.aload_n 0, 1) := by decide +kernel
theorem dX12_augment_134 : decode cX12_augment 134 = .ok (.getfield 151, 3) := by decide +kernel
theorem dX12_augment_137 : decode cX12_augment 137 = .ok (.iload 4, 2) := by decide +kernel
theorem dX12_augment_139 : decode cX12_augment 139 = .ok (.iaload, 1) := by decide +kernel
theorem dX12_augment_140 : decode cX12_augment 140 = .ok (.iastore, 1) := by decide +kernel
theorem dX12_augment_141 : decode cX12_augment 141 = .ok (.iinc 4 (-1), 3) := by decide +kernel
theorem dX12_augment_144 : decode cX12_augment 144 = .ok (.goto (-27), 3) := by decide +kernel
theorem dX12_augment_147 : decode cX12_augment 147 = .ok (.iconst 1, 1) := by decide +kernel
theorem dX12_augment_148 : decode cX12_augment 148 = .ok (.ireturn, 1) := by decide +kernel
theorem dX12_augment_149 : decode cX12_augment 149 = .ok (.iinc 2 1, 3) := by decide +kernel
theorem dX12_augment_152 : decode cX12_augment 152 = .ok (.aload_n 0, 1) := by decide +kernel
theorem dX12_augment_153 : decode cX12_augment 153 = .ok (.getfield 151, 3) := by decide +kernel
theorem dX12_augment_156 : decode cX12_augment 156 = .ok (.iload_n 2, 1) := by decide +kernel
theorem dX12_augment_157 : decode cX12_augment 157 = .ok (.aload_n 0, 1) := by decide +kernel
theorem dX12_augment_158 : decode cX12_augment 158 = .ok (.getfield 145, 3) := by decide +kernel
theorem dX12_augment_161 : decode cX12_augment 161 = .ok (.iload_n 3, 1) := by decide +kernel
theorem dX12_augment_162 : decode cX12_augment 162 = .ok (.iaload, 1) := by decide +kernel
theorem dX12_augment_163 : decode cX12_augment 163 = .ok (.iastore, 1) := by decide +kernel
theorem dX12_augment_164 : decode cX12_augment 164 = .ok (.aload_n 0, 1) := by decide +kernel
theorem dX12_augment_165 : decode cX12_augment 165 = .ok (.getfield 154, 3) := by decide +kernel
theorem dX12_augment_168 : decode cX12_augment 168 = .ok (.iload_n 2, 1) := by decide +kernel
theorem dX12_augment_169 : decode cX12_augment 169 = .ok (.iconst (-1), 1) := by decide +kernel
theorem dX12_augment_170 : decode cX12_augment 170 = .ok (.iastore, 1) := by decide +kernel
theorem dX12_augment_171 : decode cX12_augment 171 = .ok (.goto (-132), 3) := by decide +kernel
theorem dX12_augment_174 : decode cX12_augment 174 = .ok (.iconst 0, 1) := by decide +kernel
theorem dX12_augment_175 : decode cX12_augment 175 = .ok (.ireturn, 1) := by decide +kernel
def w_X12_augment (a0 : Int) (X : XT) (Q : Int → XT → Prop) : Prop :=
  ∃ (I3 : Int → XT → Prop) (m4 : Int → XT → Nat), I3 0 X ∧ ∀ (x1 : Int) (X2 : XT), I3 x1 X2 → R32 x1 ∧ R32 (X2 77 50) ∧ ((X2 77 50) ≤ x1 → ∃ (I30 : Int → XT → Prop) (m31 : Int → XT → Nat), I30 0 (x_st (x_st X2 110 0 a0) 111 0 (-1)) ∧ ∀ (x28 : Int) (X29 : XT), I30 x28 X29 → R32 x28 ∧ (x28 < 0 → Q 0 X29) ∧ (¬ x28 < 0 → (0 ≤ x28 ∧ x28 < 25) ∧ R32 ((x_st X29 111 x28 ((X29 111 x28) + 1)) 111 x28) ∧ R32 ((x_st X29 111 x28 ((X29 111 x28) + 1)) 77 50) ∧ (¬ ((x_st X29 111 x28 ((X29 111 x28) + 1)) 111 x28) = ((x_st X29 111 x28 ((X29 111 x28) + 1)) 77 50) → (0 ≤ ((x_st X29 111 x28 ((X29 111 x28) + 1)) 111 x28) ∧ ((x_st X29 111 x28 ((X29 111 x28) + 1)) 111 x28) < 24) ∧ R32 ((x_st X29 111 x28 ((X29 111 x28) + 1)) 109 ((x_st X29 111 x28 ((X29 111 x28) + 1)) 111 x28)) ∧ (¬ ((x_st X29 111 x28 ((X29 111 x28) + 1)) 109 ((x_st X29 111 x28 ((X29 111 x28) + 1)) 111 x28)) = 0 → I30 x28 (x_st X29 111 x28 ((X29 111 x28) + 1)) ∧ m31 x28 (x_st X29 111 x28 ((X29 111 x28) + 1)) < m31 x28 X29) ∧ (((x_st X29 111 x28 ((X29 111 x28) + 1)) 109 ((x_st X29 111 x28 ((X29 111 x28) + 1)) 111 x28)) = 0 → w_X12_canGoOn  ((x_st X29 111 x28 ((X29 111 x28) + 1)) 110 x28) ((x_st X29 111 x28 ((X29 111 x28) + 1)) 111 x28) (x_st X29 111 x28 ((X29 111 x28) + 1)) (fun (v56 : Int) => R32 v56 ∧ (v56 = 0 → I30 x28 (x_st X29 111 x28 ((X29 111 x28) + 1)) ∧ m31 x28 (x_st X29 111 x28 ((X29 111 x28) + 1)) < m31 x28 X29) ∧ (¬ v56 = 0 → R32 ((x_st (x_st X29 111 x28 ((X29 111 x28) + 1)) 109 ((x_st X29 111 x28 ((X29 111 x28) + 1)) 111 x28) 1) 108 ((x_st X29 111 x28 ((X29 111 x28) + 1)) 111 x28)) ∧ (¬ ((x_st (x_st X29 111 x28 ((X29 111 x28) + 1)) 109 ((x_st X29 111 x28 ((X29 111 x28) + 1)) 111 x28) 1) 108 ((x_st X29 111 x28 ((X29 111 x28) + 1)) 111 x28)) = (-1) → (0 ≤ (x28 + 1) ∧ (x28 + 1) < 25) ∧ I30 (x28 + 1) (x_st (x_st (x_st (x_st X29 111 x28 ((X29 111 x28) + 1)) 109 ((x_st X29 111 x28 ((X29 111 x28) + 1)) 111 x28) 1) 110 (x28 + 1) ((x_st (x_st X29 111 x28 ((X29 111 x28) + 1)) 109 ((x_st X29 111 x28 ((X29 111 x28) + 1)) 111 x28) 1) 108 ((x_st X29 111 x28 ((X29 111 x28) + 1)) 111 x28))) 111 (x28 + 1) (-1)) ∧ m31 (x28 + 1) (x_st (x_st (x_st (x_st X29 111 x28 ((X29 111 x28) + 1)) 109 ((x_st X29 111 x28 ((X29 111 x28) + 1)) 111 x28) 1) 110 (x28 + 1) ((x_st (x_st X29 111 x28 ((X29 111 x28) + 1)) 109 ((x_st X29 111 x28 ((X29 111 x28) + 1)) 111 x28) 1) 108 ((x_st X29 111 x28 ((X29 111 x28) + 1)) 111 x28))) 111 (x28 + 1) (-1)) < m31 x28 X29) ∧ (((x_st (x_st X29 111 x28 ((X29 111 x28) + 1)) 109 ((x_st X29 111 x28 ((X29 111 x28) + 1)) 111 x28) 1) 108 ((x_st X29 111 x28 ((X29 111 x28) + 1)) 111 x28)) = (-1) → ∃ (I84 : Int → XT → Prop) (m85 : Int → XT → Nat), I84 x28 (x_st (x_st X29 111 x28 ((X29 111 x28) + 1)) 109 ((x_st X29 111 x28 ((X29 111 x28) + 1)) 111 x28) 1) ∧ ∀ (x82 : Int) (X83 : XT), I84 x82 X83 → R32 x82 ∧ (x82 < 0 → Q 1 X83) ∧ (¬ x82 < 0 → (0 ≤ x82 ∧ x82 < 25) ∧ (0 ≤ (X83 111 x82) ∧ (X83 111 x82) < 24) ∧ I84 (x82 + (-1)) (x_st X83 108 (X83 111 x82) (X83 110 x82)) ∧ m85 (x82 + (-1)) (x_st X83 108 (X83 111 x82) (X83 110 x82)) < m85 x82 X83)))))) ∧ (((x_st X29 111 x28 ((X29 111 x28) + 1)) 111 x28) = ((x_st X29 111 x28 ((X29 111 x28) + 1)) 77 50) → I30 (x28 + (-1)) (x_st X29 111 x28 ((X29 111 x28) + 1)) ∧ m31 (x28 + (-1)) (x_st X29 111 x28 ((X29 111 x28) + 1)) < m31 x28 X29))) ∧ (¬ (X2 77 50) ≤ x1 → (0 ≤ x1 ∧ x1 < 24) ∧ I3 (x1 + 1) (x_st X2 109 x1 0) ∧ m4 (x1 + 1) (x_st X2 109 x1 0) < m4 x1 X2)
set_option maxRecDepth 20000 in
theorem so_X12_augment {n : Nat} {h : Nat → sE} {X : XT} {a0 : Int} {Q : Int → XT → Prop} (hn : 115 ≤ n) (hp : Pic X h) (w : w_X12_augment  a0 X Q) : Sp m_X12_augment 2 0 0 [.ref 77, .int (iI a0)] n h (pIw n h Q) := by
  unfold w_X12_augment at w
  refine Sp.ofV (by decide +kernel) (Nat.le_of_ble_eq_true rfl) ?_
  have hf : Fr h h := fun _ _ => rfl
  refine v_iconstI dX12_augment_0 ?_
  refine v_istore_n dX12_augment_1 (Nat.le_of_ble_eq_true rfl) ?_
  refine v_pick [1, 2, 0] rfl ?_
  obtain ⟨I3, m4, wi7, wl6⟩ := w
  have hL8 : ∀ (N11 : Nat) (x1 : Int) (X2 : XT) (h12 : Nat → sE), m4 x1 X2 < N11 → I3 x1 X2 → Pic X2 h12 → Fr h h12 → V (m_X12_augment, 2, 0, 0, n, pIw n h Q, s_G0) 0 0 n h12 2 [(0, .ref 77), (1, .int (iI a0)), (2, .int (iI x1))] [] := by
    intro N11
    induction N11 with
    | zero => intro x1 X2 h12 hm9; exact absurd hm9 (Nat.not_lt_zero _)
    | succ N11 ih5 =>
      intro x1 X2 h12 hm9 hI10 hp13 hf14
      have w := wl6 x1 X2 hI10
      refine v_iload_n dX12_augment_2 rfl ?_
      refine v_aload_n dX12_augment_3 rfl ?_
      refine v_get dX12_augment_4 fl_X12_570 ((hp13 77 (by decide)).trans (ent_77 _)) rfl (s_lt hn rfl) ?_
      obtain ⟨q15, q16, w⟩ := w
      refine v_icmp_geI (tgt := 23) dX12_augment_7 (by decide) q15.1 q15.2 q16.1 q16.2 (fun c17 => ?_) (fun c17 => ?_)
      · replace w := w.1 c17
        refine v_iconstI dX12_augment_23 ?_
        refine v_istore_n dX12_augment_24 (Nat.le_of_ble_eq_true rfl) ?_
        refine v_aload_n dX12_augment_25 rfl ?_
        refine v_get dX12_augment_26 fl_X12_151 ((hp13 77 (by decide)).trans (ent_77 _)) rfl (s_lt hn rfl) ?_
        refine v_iconstI dX12_augment_29 ?_
        refine v_iload_n dX12_augment_30 rfl ?_
        refine v_iastI dX12_augment_31 ((hp13 110 (by decide)).trans (ent_110 _)) (s_lt hn rfl) (by decide) (by decide) (by decide) (fun h18 E19 F20 => ?_)
        have hp21 := pic_st hp13 (show h18 110 = ent 110 (uI _ 0 a0) from E19) F20
        have hf22 := Fr.up (c := 110) hf14 F20 rfl
        refine v_aload_n dX12_augment_32 rfl ?_
        refine v_get dX12_augment_33 fl_X12_154 ((hp21 77 (by decide)).trans (ent_77 _)) rfl (s_lt hn rfl) ?_
        refine v_iconstI dX12_augment_36 ?_
        refine v_iconstI dX12_augment_37 ?_
        refine v_iastI dX12_augment_38 ((hp21 111 (by decide)).trans (ent_111 _)) (s_lt hn rfl) (by decide) (by decide) (by decide) (fun h23 E24 F25 => ?_)
        have hp26 := pic_st hp21 (show h23 111 = ent 111 (uI _ 0 (-1)) from E24) F25
        have hf27 := Fr.up (c := 111) hf22 F25 rfl
        refine v_pick [1, 0] rfl ?_
        obtain ⟨I30, m31, wi34, wl33⟩ := w
        have hL35 : ∀ (N38 : Nat) (x28 : Int) (X29 : XT) (h39 : Nat → sE), m31 x28 X29 < N38 → I30 x28 X29 → Pic X29 h39 → Fr h h39 → V (m_X12_augment, 2, 0, 0, n, pIw n h Q, s_G0) 0 0 n h39 39 [(0, .ref 77), (2, .int (iI x28))] [] := by
          intro N38
          induction N38 with
          | zero => intro x28 X29 h39 hm36; exact absurd hm36 (Nat.not_lt_zero _)
          | succ N38 ih32 =>
            intro x28 X29 h39 hm36 hI37 hp40 hf41
            have w := wl33 x28 X29 hI37
            refine v_iload_n dX12_augment_39 rfl ?_
            obtain ⟨q42, w⟩ := w
            refine v_if_ltI (tgt := 174) dX12_augment_40 (by decide) q42.1 q42.2 (fun c43 => ?_) (fun c43 => ?_)
            · replace w := w.1 c43
              refine v_iconstI dX12_augment_174 ?_
              exact v_z0 dX12_augment_175 rfl (Nat.zero_le _) (Nat.zero_le _) ⟨rfl, hf41, _, _, rfl, hp40, w⟩
            · replace w := w.2 c43
              refine v_aload_n dX12_augment_43 rfl ?_
              refine v_get dX12_augment_44 fl_X12_154 ((hp40 77 (by decide)).trans (ent_77 _)) rfl (s_lt hn rfl) ?_
              refine v_iload_n dX12_augment_47 rfl ?_
              refine v_dup2 dX12_augment_48 rfl rfl ?_
              obtain ⟨q44, w⟩ := w
              refine v_ialdI dX12_augment_49 ((hp40 111 (by decide)).trans (ent_111 _)) (s_lt hn rfl) q44.1 q44.2 (ix_le q44.2 (by decide)) ?_
              refine v_iconstI dX12_augment_50 ?_
              refine v_iaddI dX12_augment_51 ?_
              refine v_iastI dX12_augment_52 ((hp40 111 (by decide)).trans (ent_111 _)) (s_lt hn rfl) q44.1 q44.2 (ix_le q44.2 (by decide)) (fun h45 E46 F47 => ?_)
              have hp48 := pic_st hp40 (show h45 111 = ent 111 (uI _ x28 ((X29 111 x28) + 1)) from E46) F47
              have hf49 := Fr.up (c := 111) hf41 F47 rfl
              refine v_aload_n dX12_augment_53 rfl ?_
              refine v_get dX12_augment_54 fl_X12_154 ((hp48 77 (by decide)).trans (ent_77 _)) rfl (s_lt hn rfl) ?_
              refine v_iload_n dX12_augment_57 rfl ?_
              refine v_ialdI dX12_augment_58 ((hp48 111 (by decide)).trans (ent_111 _)) (s_lt hn rfl) q44.1 q44.2 (ix_le q44.2 (by decide)) ?_
              refine v_istore_n dX12_augment_59 (Nat.le_of_ble_eq_true rfl) ?_
              refine v_iload_n dX12_augment_60 rfl ?_
              refine v_aload_n dX12_augment_61 rfl ?_
              refine v_get dX12_augment_62 fl_X12_570 ((hp48 77 (by decide)).trans (ent_77 _)) rfl (s_lt hn rfl) ?_
              obtain ⟨q50, q51, w⟩ := w
              refine v_icmp_neI (tgt := 74) dX12_augment_65 (by decide) q50.1 q50.2 q51.1 q51.2 (fun c52 => ?_) (fun c52 => ?_)
              · replace w := w.1 c52
                refine v_aload_n dX12_augment_74 rfl ?_
                refine v_get dX12_augment_75 fl_X12_148 ((hp48 77 (by decide)).trans (ent_77 _)) rfl (s_lt hn rfl) ?_
                refine v_iload_n dX12_augment_78 rfl ?_
                obtain ⟨q53, w⟩ := w
                refine v_zaldI dX12_augment_79 ((hp48 109 (by decide)).trans (ent_109 _)) (s_lt hn rfl) q53.1 q53.2 (ix_le q53.2 (by decide)) ?_
                obtain ⟨q54, w⟩ := w
                refine v_if_neI (tgt := 171) dX12_augment_80 (by decide) q54.1 q54.2 (fun c55 => ?_) (fun c55 => ?_)
                · replace w := w.1 c55
                  refine v_goto (tgt := 39) dX12_augment_171 (by decide) ?_
                  refine v_pick [1, 2] rfl ?_
                  exact ih32 _ _ _ (Nat.lt_of_lt_of_le w.2 (Nat.le_of_lt_succ hm36)) w.1 hp48 hf49
                · replace w := w.2 c55
                  refine v_aload_n dX12_augment_83 rfl ?_
                  refine v_aload_n dX12_augment_84 rfl ?_
                  refine v_get dX12_augment_85 fl_X12_151 ((hp48 77 (by decide)).trans (ent_77 _)) rfl (s_lt hn rfl) ?_
                  refine v_iload_n dX12_augment_88 rfl ?_
                  refine v_ialdI dX12_augment_89 ((hp48 110 (by decide)).trans (ent_110 _)) (s_lt hn rfl) q44.1 q44.2 (ix_le q44.2 (by decide)) ?_
                  refine v_iload_n dX12_augment_90 rfl ?_
                  refine v_callVIr dX12_augment_91 ml_X12_573 (so_X12_canGoOn hn hp48  w) ((hp48 77 (by decide)).trans (ent_77 _)) rfl (s_lt hn rfl) rfl rfl (Nat.le_of_ble_eq_true rfl) (Nat.le_of_ble_eq_true rfl) (Nat.zero_le _) (Nat.zero_le _) (fun v56 w => ?_)
                  obtain ⟨q62, w⟩ := w
                  refine v_if_eqI (tgt := 171) dX12_augment_94 (by decide) q62.1 q62.2 (fun c63 => ?_) (fun c63 => ?_)
                  · replace w := w.1 c63
                    refine v_goto (tgt := 39) dX12_augment_171 (by decide) ?_
                    refine v_pick [1, 2] rfl ?_
                    exact ih32 _ _ _ (Nat.lt_of_lt_of_le w.2 (Nat.le_of_lt_succ hm36)) w.1 hp48 hf49
                  · replace w := w.2 c63
                    refine v_aload_n dX12_augment_97 rfl ?_
                    refine v_get dX12_augment_98 fl_X12_148 ((hp48 77 (by decide)).trans (ent_77 _)) rfl (s_lt hn rfl) ?_
                    refine v_iload_n dX12_augment_101 rfl ?_
                    refine v_iconstI dX12_augment_102 ?_
                    refine v_zastI dX12_augment_103 ((hp48 109 (by decide)).trans (ent_109 _)) (s_lt hn rfl) q53.1 q53.2 (ix_le q53.2 (by decide)) (by decide) (fun h64 E65 F66 => ?_)
                    have hp67 := pic_st hp48 (show h64 109 = ent 109 (uI _ ((x_st X29 111 x28 ((X29 111 x28) + 1)) 111 x28) 1) from E65) F66
                    have hf68 := Fr.up (c := 109) hf49 F66 rfl
                    refine v_aload_n dX12_augment_104 rfl ?_
                    refine v_get dX12_augment_105 fl_X12_145 ((hp67 77 (by decide)).trans (ent_77 _)) rfl (s_lt hn rfl) ?_
                    refine v_iload_n dX12_augment_108 rfl ?_
                    refine v_ialdI dX12_augment_109 ((hp67 108 (by decide)).trans (ent_108 _)) (s_lt hn rfl) q53.1 q53.2 (ix_le q53.2 (by decide)) ?_
                    refine v_iconstI dX12_augment_110 ?_
                    obtain ⟨q69, w⟩ := w
                    refine v_icmp_neI (tgt := 149) dX12_augment_111 (by decide) q69.1 q69.2 (by decide) (by decide) (fun c70 => ?_) (fun c70 => ?_)
                    · replace w := w.1 c70
                      refine v_iincI dX12_augment_149 rfl (Nat.le_of_ble_eq_true rfl) ?_
                      refine v_aload_n dX12_augment_152 rfl ?_
                      refine v_get dX12_augment_153 fl_X12_151 ((hp67 77 (by decide)).trans (ent_77 _)) rfl (s_lt hn rfl) ?_
                      refine v_iload_n dX12_augment_156 rfl ?_
                      refine v_aload_n dX12_augment_157 rfl ?_
                      refine v_get dX12_augment_158 fl_X12_145 ((hp67 77 (by decide)).trans (ent_77 _)) rfl (s_lt hn rfl) ?_
                      refine v_iload_n dX12_augment_161 rfl ?_
                      refine v_ialdI dX12_augment_162 ((hp67 108 (by decide)).trans (ent_108 _)) (s_lt hn rfl) q53.1 q53.2 (ix_le q53.2 (by decide)) ?_
                      obtain ⟨q71, w⟩ := w
                      refine v_iastI dX12_augment_163 ((hp67 110 (by decide)).trans (ent_110 _)) (s_lt hn rfl) q71.1 q71.2 (ix_le q71.2 (by decide)) (fun h72 E73 F74 => ?_)
                      have hp75 := pic_st hp67 (show h72 110 = ent 110 (uI _ (x28 + 1) ((x_st (x_st X29 111 x28 ((X29 111 x28) + 1)) 109 ((x_st X29 111 x28 ((X29 111 x28) + 1)) 111 x28) 1) 108 ((x_st X29 111 x28 ((X29 111 x28) + 1)) 111 x28))) from E73) F74
                      have hf76 := Fr.up (c := 110) hf68 F74 rfl
                      refine v_aload_n dX12_augment_164 rfl ?_
                      refine v_get dX12_augment_165 fl_X12_154 ((hp75 77 (by decide)).trans (ent_77 _)) rfl (s_lt hn rfl) ?_
                      refine v_iload_n dX12_augment_168 rfl ?_
                      refine v_iconstI dX12_augment_169 ?_
                      refine v_iastI dX12_augment_170 ((hp75 111 (by decide)).trans (ent_111 _)) (s_lt hn rfl) q71.1 q71.2 (ix_le q71.2 (by decide)) (fun h77 E78 F79 => ?_)
                      have hp80 := pic_st hp75 (show h77 111 = ent 111 (uI _ (x28 + 1) (-1)) from E78) F79
                      have hf81 := Fr.up (c := 111) hf76 F79 rfl
                      refine v_goto (tgt := 39) dX12_augment_171 (by decide) ?_
                      refine v_pick [2, 0] rfl ?_
                      exact ih32 _ _ _ (Nat.lt_of_lt_of_le w.2 (Nat.le_of_lt_succ hm36)) w.1 hp80 hf81
                    · replace w := w.2 c70
                      refine v_iload_n dX12_augment_114 rfl ?_
                      refine v_istore dX12_augment_115 (Nat.le_of_ble_eq_true rfl) ?_
                      refine v_pick [2, 0] rfl ?_
                      obtain ⟨I84, m85, wi88, wl87⟩ := w
                      have hL89 : ∀ (N92 : Nat) (x82 : Int) (X83 : XT) (h93 : Nat → sE), m85 x82 X83 < N92 → I84 x82 X83 → Pic X83 h93 → Fr h h93 → V (m_X12_augment, 2, 0, 0, n, pIw n h Q, s_G0) 0 0 n h93 117 [(0, .ref 77), (4, .int (iI x82))] [] := by
                        intro N92
                        induction N92 with
                        | zero => intro x82 X83 h93 hm90; exact absurd hm90 (Nat.not_lt_zero _)
                        | succ N92 ih86 =>
                          intro x82 X83 h93 hm90 hI91 hp94 hf95
                          have w := wl87 x82 X83 hI91
                          refine v_iload dX12_augment_117 rfl ?_
                          obtain ⟨q96, w⟩ := w
                          refine v_if_ltI (tgt := 147) dX12_augment_119 (by decide) q96.1 q96.2 (fun c97 => ?_) (fun c97 => ?_)
                          · replace w := w.1 c97
                            refine v_iconstI dX12_augment_147 ?_
                            exact v_z1 dX12_augment_148 rfl (Nat.zero_le _) (Nat.zero_le _) ⟨rfl, hf95, _, _, rfl, hp94, w⟩
                          · replace w := w.2 c97
                            refine v_aload_n dX12_augment_122 rfl ?_
                            refine v_get dX12_augment_123 fl_X12_145 ((hp94 77 (by decide)).trans (ent_77 _)) rfl (s_lt hn rfl) ?_
                            refine v_aload_n dX12_augment_126 rfl ?_
                            refine v_get dX12_augment_127 fl_X12_154 ((hp94 77 (by decide)).trans (ent_77 _)) rfl (s_lt hn rfl) ?_
                            refine v_iload dX12_augment_130 rfl ?_
                            obtain ⟨q98, w⟩ := w
                            refine v_ialdI dX12_augment_132 ((hp94 111 (by decide)).trans (ent_111 _)) (s_lt hn rfl) q98.1 q98.2 (ix_le q98.2 (by decide)) ?_
                            refine v_aload_n dX12_augment_133 rfl ?_
                            refine v_get dX12_augment_134 fl_X12_151 ((hp94 77 (by decide)).trans (ent_77 _)) rfl (s_lt hn rfl) ?_
                            refine v_iload dX12_augment_137 rfl ?_
                            refine v_ialdI dX12_augment_139 ((hp94 110 (by decide)).trans (ent_110 _)) (s_lt hn rfl) q98.1 q98.2 (ix_le q98.2 (by decide)) ?_
                            obtain ⟨q99, w⟩ := w
                            refine v_iastI dX12_augment_140 ((hp94 108 (by decide)).trans (ent_108 _)) (s_lt hn rfl) q99.1 q99.2 (ix_le q99.2 (by decide)) (fun h100 E101 F102 => ?_)
                            have hp103 := pic_st hp94 (show h100 108 = ent 108 (uI _ (X83 111 x82) (X83 110 x82)) from E101) F102
                            have hf104 := Fr.up (c := 108) hf95 F102 rfl
                            refine v_iincI dX12_augment_141 rfl (Nat.le_of_ble_eq_true rfl) ?_
                            refine v_goto (tgt := 117) dX12_augment_144 (by decide) ?_
                            refine v_pick [1, 0] rfl ?_
                            exact ih86 _ _ _ (Nat.lt_of_lt_of_le w.2 (Nat.le_of_lt_succ hm90)) w.1 hp103 hf104
                      exact hL89 _ _ _ _ (Nat.lt_succ_self _) wi88 hp67 hf68
              · replace w := w.2 c52
                refine v_iincI dX12_augment_68 rfl (Nat.le_of_ble_eq_true rfl) ?_
                refine v_goto (tgt := 171) dX12_augment_71 (by decide) ?_
                refine v_goto (tgt := 39) dX12_augment_171 (by decide) ?_
                refine v_pick [2, 0] rfl ?_
                exact ih32 _ _ _ (Nat.lt_of_lt_of_le w.2 (Nat.le_of_lt_succ hm36)) w.1 hp48 hf49
        exact hL35 _ _ _ _ (Nat.lt_succ_self _) wi34 hp26 hf27
      · replace w := w.2 c17
        refine v_aload_n dX12_augment_10 rfl ?_
        refine v_get dX12_augment_11 fl_X12_148 ((hp13 77 (by decide)).trans (ent_77 _)) rfl (s_lt hn rfl) ?_
        refine v_iload_n dX12_augment_14 rfl ?_
        refine v_iconstI dX12_augment_15 ?_
        obtain ⟨q105, w⟩ := w
        refine v_zastI dX12_augment_16 ((hp13 109 (by decide)).trans (ent_109 _)) (s_lt hn rfl) q105.1 q105.2 (ix_le q105.2 (by decide)) (by decide) (fun h106 E107 F108 => ?_)
        have hp109 := pic_st hp13 (show h106 109 = ent 109 (uI _ x1 0) from E107) F108
        have hf110 := Fr.up (c := 109) hf14 F108 rfl
        refine v_iincI dX12_augment_17 rfl (Nat.le_of_ble_eq_true rfl) ?_
        refine v_goto (tgt := 2) dX12_augment_20 (by decide) ?_
        refine v_pick [1, 2, 0] rfl ?_
        exact ih5 _ _ _ (Nat.lt_of_lt_of_le w.2 (Nat.le_of_lt_succ hm9)) w.1 hp109 hf110
  exact hL8 _ _ _ _ (Nat.lt_succ_self _) wi7 hp hf
theorem dX12_men_0 : decode cX12_men 0 = .ok (.aload_n 0, 1) := by decide +kernel
theorem dX12_men_1 : decode cX12_men 1 = .ok (.iconst 0, 1) := by decide +kernel
theorem dX12_men_2 : decode cX12_men 2 = .ok (.putfield 169, 3) := by decide +kernel
theorem dX12_men_5 : decode cX12_men 5 = .ok (.aload_n 0, 1) := by decide +kernel
theorem dX12_men_6 : decode cX12_men 6 = .ok (.invokevirtual 478, 3) := by decide +kernel
theorem dX12_men_9 : decode cX12_men 9 = .ok (.aload_n 0, 1) := by decide +kernel
theorem dX12_men_10 : decode cX12_men 10 = .ok (.iconst 0, 1) := by decide +kernel
theorem dX12_men_11 : decode cX12_men 11 = .ok (.putfield 570, 3) := by decide +kernel
theorem dX12_men_14 : decode cX12_men 14 = .ok (.iconst 0, 1) := by decide +kernel
theorem dX12_men_15 : decode cX12_men 15 = .ok (.istore_n 1, 1) := by decide +kernel
theorem dX12_men_16 : decode cX12_men 16 = .ok (.iload_n 1, 1) := by decide +kernel
theorem dX12_men_17 : decode cX12_men 17 = .ok (.bipush 12, 2) := by decide +kernel
theorem dX12_men_19 : decode cX12_men 19 = .ok (.if_icmp .ge 103, 3) := by decide +kernel
theorem dX12_men_22 : decode cX12_men 22 = .ok (.iconst 0, 1) := by decide +kernel
theorem dX12_men_23 : decode cX12_men 23 = .ok (.istore_n 2, 1) := by decide +kernel
theorem dX12_men_24 : decode cX12_men 24 = .ok (.iload_n 2, 1) := by decide +kernel
theorem dX12_men_25 : decode cX12_men 25 = .ok (.aload_n 0, 1) := by decide +kernel
theorem dX12_men_26 : decode cX12_men 26 = .ok (.getfield 13, 3) := by decide +kernel
theorem dX12_men_29 : decode cX12_men 29 = .ok (.iconst 1, 1) := by decide +kernel
theorem dX12_men_30 : decode cX12_men 30 = .ok (.iaload, 1) := by decide +kernel
theorem dX12_men_31 : decode cX12_men 31 = .ok (.if_icmp .ge 85, 3) := by decide +kernel
theorem dX12_men_34 : decode cX12_men 34 = .ok (.aload_n 0, 1) := by decide +kernel
theorem dX12_men_35 : decode cX12_men 35 = .ok (.getfield 102, 3) := by decide +kernel
theorem dX12_men_38 : decode cX12_men 38 = .ok (.bipush 12, 2) := by decide +kernel
theorem dX12_men_40 : decode cX12_men 40 = .ok (.aload_n 0, 1) := by decide +kernel
theorem dX12_men_41 : decode cX12_men 41 = .ok (.getfield 13, 3) := by decide +kernel
theorem dX12_men_44 : decode cX12_men 44 = .ok (.sipush 232, 3) := by decide +kernel
theorem dX12_men_47 : decode cX12_men 47 = .ok (.iconst 3, 1) := by decide +kernel
theorem dX12_men_48 : decode cX12_men 48 = .ok (.iload_n 2, 1) := by decide +kernel
theorem dX12_men_49 : decode cX12_men 49 = .ok (.imul, 1) := by decide +kernel
theorem dX12_men_50 : decode cX12_men 50 = .ok (.iadd, 1) := by decide +kernel
theorem dX12_men_51 : decode cX12_men 51 = .ok (.iconst 1, 1) := by decide +kernel
theorem dX12_men_52 : decode cX12_men 52 = .ok (.iadd, 1) := by decide +kernel
theorem dX12_men_53 : decode cX12_men 53 = .ok (.iaload, 1) := by decide +kernel
theorem dX12_men_54 : decode cX12_men 54 = .ok (.imul, 1) := by decide +kernel
theorem dX12_men_55 : decode cX12_men 55 = .ok (.iload_n 1, 1) := by decide +kernel
theorem dX12_men_56 : decode cX12_men 56 = .ok (.iadd, 1) := by decide +kernel
theorem dX12_men_57 : decode cX12_men 57 = .ok (.iaload, 1) := by decide +kernel
theorem dX12_men_58 : decode cX12_men 58 = .ok (.istore_n 3, 1) := by decide +kernel
theorem dX12_men_59 : decode cX12_men 59 = .ok (.aload_n 0, 1) := by decide +kernel
theorem dX12_men_60 : decode cX12_men 60 = .ok (.getfield 13, 3) := by decide +kernel
theorem dX12_men_63 : decode cX12_men 63 = .ok (.sipush 232, 3) := by decide +kernel
theorem dX12_men_66 : decode cX12_men 66 = .ok (.iconst 3, 1) := by decide +kernel
theorem dX12_men_67 : decode cX12_men 67 = .ok (.iload_n 2, 1) := by decide +kernel
theorem dX12_men_68 : decode cX12_men 68 = .ok (.imul, 1) := by decide +kernel
theorem dX12_men_69 : decode cX12_men 69 = .ok (.iadd, 1) := by decide +kernel
theorem dX12_men_70 : decode cX12_men 70 = .ok (.iaload, 1) := by decide +kernel
theorem dX12_men_71 : decode cX12_men 71 = .ok (.iload_n 1, 1) := by decide +kernel
theorem dX12_men_72 : decode cX12_men 72 = .ok (.if_icmp .ne 38, 3) := by decide +kernel
theorem dX12_men_75 : decode cX12_men 75 = .ok (.iload_n 3, 1) := by decide +kernel
theorem dX12_men_76 : decode cX12_men 76 = .ok (.iconst (-1), 1) := by decide +kernel
theorem dX12_men_77 : decode cX12_men 77 = .ok (.if_icmp .eq 33, 3) := by decide +kernel
theorem dX12_men_80 : decode cX12_men 80 = .ok (.aload_n 0, 1) := by decide +kernel
theorem dX12_men_81 : decode cX12_men 81 = .ok (.getfield 139, 3) := by decide +kernel
theorem dX12_men_84 : decode cX12_men 84 = .ok (.aload_n 0, 1) := by decide +kernel
theorem dX12_men_85 : decode cX12_men 85 = .ok (.getfield 570, 3) := by decide +kernel
theorem dX12_men_88 : decode cX12_men 88 = .ok (.iload_n 3, 1) := by decide +kernel
theorem dX12_men_89 : decode cX12_men 89 = .ok (.iastore, 1) := by decide +kernel
theorem dX12_men_90 : decode cX12_men 90 = .ok (.aload_n 0, 1) := by decide +kernel
theorem dX12_men_91 : decode cX12_men 91 = .ok (.getfield 142, 3) := by decide +kernel
theorem dX12_men_94 : decode cX12_men 94 = .ok (.aload_n 0, 1) := by decide +kernel
theorem dX12_men_95 : decode cX12_men 95 = .ok (.getfield 570, 3) := by decide +kernel
theorem dX12_men_98 : decode cX12_men 98 = .ok (.iload_n 1, 1) := by decide +kernel
theorem dX12_men_99 : decode cX12_men 99 = .ok (.iastore, 1) := by decide +kernel
theorem dX12_men_100 : decode cX12_men 100 = .ok (.aload_n 0, 1) := by decide +kernel
theorem dX12_men_101 : decode cX12_men 101 = .ok (.dup, 1) := by decide +kernel
theorem dX12_men_102 : decode cX12_men 102 = .ok (.getfield 570, 3) := by decide +kernel
theorem dX12_men_105 : decode cX12_men 105 = .ok (.iconst 1, 1) := by decide +kernel
theorem dX12_men_106 : decode cX12_men 106 = .ok (.iadd, 1) := by decide +kernel
theorem dX12_men_107 : decode cX12_men 107 = .ok (.putfield 570, 3) := by decide +kernel
theorem dX12_men_110 : decode cX12_men 110 = .ok (.iinc 2 1, 3) := by decide +kernel
theorem dX12_men_113 : decode cX12_men 113 = .ok (.goto (-89), 3) := by decide +kernel
theorem dX12_men_116 : decode cX12_men 116 = .ok (.iinc 1 1, 3) := by decide +kernel
theorem dX12_men_119 : decode cX12_men 119 = .ok (.goto (-103), 3) := by decide +kernel
theorem dX12_men_122 : decode cX12_men 122 = .ok (.iconst 0, 1) := by decide +kernel
theorem dX12_men_123 : decode cX12_men 123 = .ok (.istore_n 1, 1) := by decide +kernel
theorem dX12_men_124 : decode cX12_men 124 = .ok (.iload_n 1, 1) := by decide +kernel
theorem dX12_men_125 : decode cX12_men 125 = .ok (.aload_n 0, 1) := by decide +kernel
theorem dX12_men_126 : decode cX12_men 126 = .ok (.getfield 570, 3) := by decide +kernel
theorem dX12_men_129 : decode cX12_men 129 = .ok (.if_icmp .ge 16, 3) := by decide +kernel
theorem dX12_men_132 : decode cX12_men 132 = .ok (.aload_n 0, 1) := by decide +kernel
theorem dX12_men_133 : decode cX12_men 133 = .ok (.getfield 145, 3) := by decide +kernel
theorem dX12_men_136 : decode cX12_men 136 = .ok (.iload_n 1, 1) := by decide +kernel
theorem dX12_men_137 : decode cX12_men 137 = .ok (.iconst (-1), 1) := by decide +kernel
theorem dX12_men_138 : decode cX12_men 138 = .ok (.iastore, 1) := by decide +kernel
theorem dX12_men_139 : decode cX12_men 139 = .ok (.iinc 1 1, 3) := by decide +kernel
theorem dX12_men_142 : decode cX12_men 142 = .ok (.goto (-18), 3) := by decide +kernel
theorem dX12_men_145 : decode cX12_men 145 = .ok (.aload_n 0, 1) := by decide +kernel
theorem dX12_men_146 : decode cX12_men 146 = .ok (.getfield 570, 3) := by decide +kernel
theorem dX12_men_149 : decode cX12_men 149 = .ok (.istore_n 1, 1) := by decide +kernel
theorem dX12_men_150 : decode cX12_men 150 = .ok (.iconst 0, 1) := by decide +kernel
theorem dX12_men_151 : decode cX12_men 151 = .ok (.istore_n 2, 1) := by decide +kernel
theorem dX12_men_152 : decode cX12_men 152 = .ok (.iload_n 2, 1) := by decide +kernel
theorem dX12_men_153 : decode cX12_men 153 = .ok (.aload_n 0, 1) := by decide +kernel
theorem dX12_men_154 : decode cX12_men 154 = .ok (.getfield 570, 3) := by decide +kernel
theorem dX12_men_157 : decode cX12_men 157 = .ok (.if_icmp .ge 25, 3) := by decide +kernel
theorem dX12_men_160 : decode cX12_men 160 = .ok (.iload_n 1, 1) := by decide +kernel
theorem dX12_men_161 : decode cX12_men 161 = .ok (.aload_n 0, 1) := by decide +kernel
theorem dX12_men_162 : decode cX12_men 162 = .ok (.iload_n 2, 1) := by decide +kernel
theorem dX12_men_163 : decode cX12_men 163 = .ok (.invokevirtual 576, 3) := by decide +kernel
theorem dX12_men_166 : decode cX12_men 166 = .ok (.ifCond .eq 7, 3) := by decide +kernel
theorem dX12_men_169 : decode cX12_men 169 = .ok (.iconst 1, 1) := by decide +kernel
theorem dX12_men_170 : decode cX12_men 170 = .ok (.goto 4, 3) := by decide +kernel
theorem dX12_men_173 : decode cX12_men 173 = .ok (.iconst 0, 1) := by decide +kernel
theorem dX12_men_174 : decode cX12_men 174 = .ok (.isub, 1) := by decide +kernel
theorem dX12_men_175 : decode cX12_men 175 = .ok (.istore_n 1, 1) := by decide +kernel
theorem dX12_men_176 : decode cX12_men 176 = .ok (.iinc 2 1, 3) := by decide +kernel
theorem dX12_men_179 : decode cX12_men 179 = .ok (.goto (-27), 3) := by decide +kernel
theorem dX12_men_182 : decode cX12_men 182 = .ok (.iload_n 1, 1) := by decide +kernel
theorem dX12_men_183 : decode cX12_men 183 = .ok (.ireturn, 1) := by decide +kernel
def w_X12_men (X : XT) (Q : Int → XT → Prop) : Prop :=
  w_X12_layCorners   (x_st X 77 0 0) (fun (X7 : XT) => ∃ (I19 : Int → XT → Prop) (m20 : Int → XT → Nat), I19 0 (x_st X7 77 50 0) ∧ ∀ (x17 : Int) (X18 : XT), I19 x17 X18 → R32 x17 ∧ (12 ≤ x17 → ∃ (I35 : Int → XT → Prop) (m36 : Int → XT → Nat), I35 0 X18 ∧ ∀ (x33 : Int) (X34 : XT), I35 x33 X34 → R32 x33 ∧ R32 (X34 77 50) ∧ ((X34 77 50) ≤ x33 → ∃ (I53 : Int → Int → XT → Prop) (m54 : Int → Int → XT → Nat), I53 (X34 77 50) 0 X34 ∧ ∀ (x50 : Int) (x51 : Int) (X52 : XT), I53 x50 x51 X52 → R32 x51 ∧ R32 (X52 77 50) ∧ ((X52 77 50) ≤ x51 → Q x50 X52) ∧ (¬ (X52 77 50) ≤ x51 → w_X12_augment  x51 X52 (fun (v68 : Int) (X69 : XT) => ∀ J75 : Int → Prop, (∀ (v74 : Int), (I53 (x50 - v74) (x51 + 1) X69 ∧ m54 (x50 - v74) (x51 + 1) X69 < m54 x50 x51 X52) → J75 v74) → R32 v68 ∧ (v68 = 0 → J75 0) ∧ (¬ v68 = 0 → J75 1)))) ∧ (¬ (X34 77 50) ≤ x33 → (0 ≤ x33 ∧ x33 < 24) ∧ I35 (x33 + 1) (x_st X34 108 x33 (-1)) ∧ m36 (x33 + 1) (x_st X34 108 x33 (-1)) < m36 x33 X34)) ∧ (¬ 12 ≤ x17 → ∃ (I86 : Int → XT → Prop) (m87 : Int → XT → Nat), I86 0 X18 ∧ ∀ (x84 : Int) (X85 : XT), I86 x84 X85 → R32 x84 ∧ R32 (X85 79 1) ∧ ((X85 79 1) ≤ x84 → I19 (x17 + 1) X85 ∧ m20 (x17 + 1) X85 < m20 x17 X18) ∧ (¬ (X85 79 1) ≤ x84 → (0 ≤ ((232 + (3 * x84)) + 1) ∧ ((232 + (3 * x84)) + 1) < 5780) ∧ (0 ≤ ((12 * (X85 79 ((232 + (3 * x84)) + 1))) + x17) ∧ ((12 * (X85 79 ((232 + (3 * x84)) + 1))) + x17) < 60) ∧ (0 ≤ (232 + (3 * x84)) ∧ (232 + (3 * x84)) < 5780) ∧ R32 (X85 79 (232 + (3 * x84))) ∧ (¬ (X85 79 (232 + (3 * x84))) = x17 → I86 (x84 + 1) X85 ∧ m87 (x84 + 1) X85 < m87 x84 X85) ∧ ((X85 79 (232 + (3 * x84))) = x17 → R32 (X85 94 ((12 * (X85 79 ((232 + (3 * x84)) + 1))) + x17)) ∧ ((X85 94 ((12 * (X85 79 ((232 + (3 * x84)) + 1))) + x17)) = (-1) → I86 (x84 + 1) X85 ∧ m87 (x84 + 1) X85 < m87 x84 X85) ∧ (¬ (X85 94 ((12 * (X85 79 ((232 + (3 * x84)) + 1))) + x17)) = (-1) → (0 ≤ (X85 77 50) ∧ (X85 77 50) < 24) ∧ (0 ≤ ((x_st X85 106 (X85 77 50) (X85 94 ((12 * (X85 79 ((232 + (3 * x84)) + 1))) + x17))) 77 50) ∧ ((x_st X85 106 (X85 77 50) (X85 94 ((12 * (X85 79 ((232 + (3 * x84)) + 1))) + x17))) 77 50) < 24) ∧ I86 (x84 + 1) (x_st (x_st (x_st X85 106 (X85 77 50) (X85 94 ((12 * (X85 79 ((232 + (3 * x84)) + 1))) + x17))) 107 ((x_st X85 106 (X85 77 50) (X85 94 ((12 * (X85 79 ((232 + (3 * x84)) + 1))) + x17))) 77 50) x17) 77 50 (((x_st (x_st X85 106 (X85 77 50) (X85 94 ((12 * (X85 79 ((232 + (3 * x84)) + 1))) + x17))) 107 ((x_st X85 106 (X85 77 50) (X85 94 ((12 * (X85 79 ((232 + (3 * x84)) + 1))) + x17))) 77 50) x17) 77 50) + 1)) ∧ m87 (x84 + 1) (x_st (x_st (x_st X85 106 (X85 77 50) (X85 94 ((12 * (X85 79 ((232 + (3 * x84)) + 1))) + x17))) 107 ((x_st X85 106 (X85 77 50) (X85 94 ((12 * (X85 79 ((232 + (3 * x84)) + 1))) + x17))) 77 50) x17) 77 50 (((x_st (x_st X85 106 (X85 77 50) (X85 94 ((12 * (X85 79 ((232 + (3 * x84)) + 1))) + x17))) 107 ((x_st X85 106 (X85 77 50) (X85 94 ((12 * (X85 79 ((232 + (3 * x84)) + 1))) + x17))) 77 50) x17) 77 50) + 1)) < m87 x84 X85)))))
set_option maxRecDepth 20000 in
theorem so_X12_men {n : Nat} {h : Nat → sE} {X : XT} {Q : Int → XT → Prop} (hn : 115 ≤ n) (hp : Pic X h) (w : w_X12_men   X Q) : Sp m_X12_men 10 0 0 [.ref 77] n h (pIw n h Q) := by
  unfold w_X12_men at w
  refine Sp.ofV (by decide +kernel) (Nat.le_of_ble_eq_true rfl) ?_
  have hf : Fr h h := fun _ _ => rfl
  refine v_aload_n dX12_men_0 rfl ?_
  refine v_iconstI dX12_men_1 ?_
  refine v_put dX12_men_2 fl_X12_169 ((hp 77 (by decide)).trans (ent_77 _)) (s_lt hn rfl) (Nat.le_of_ble_eq_true rfl) (fun _ => ⟨rfl, rfl⟩) trivial (fun h1 E2 F3 => ?_)
  have hp4 := pic_st hp (show h1 77 = ent 77 (uI _ 0 0) from E2) F3
  have hf5 := Fr.up (c := 77) hf F3 rfl
  refine v_aload_n dX12_men_5 rfl ?_
  refine v_callVVw dX12_men_6 ml_X12_478 (so_X12_layCorners hn hp4  w) ((hp4 77 (by decide)).trans (ent_77 _)) rfl (s_lt hn rfl) rfl rfl (Nat.le_of_ble_eq_true rfl) (Nat.le_of_ble_eq_true rfl) (Nat.zero_le _) (Nat.zero_le _) (fun X7 h8 hp10 hf9 w => ?_)
  have hf11 := Fr.trans hf5 hf9
  refine v_aload_n dX12_men_9 rfl ?_
  refine v_iconstI dX12_men_10 ?_
  refine v_put dX12_men_11 fl_X12_570 ((hp10 77 (by decide)).trans (ent_77 _)) (s_lt hn rfl) (Nat.le_of_ble_eq_true rfl) (fun _ => ⟨rfl, rfl⟩) trivial (fun h12 E13 F14 => ?_)
  have hp15 := pic_st hp10 (show h12 77 = ent 77 (uI _ 50 0) from E13) F14
  have hf16 := Fr.up (c := 77) hf11 F14 rfl
  refine v_iconstI dX12_men_14 ?_
  refine v_istore_n dX12_men_15 (Nat.le_of_ble_eq_true rfl) ?_
  refine v_pick [1, 0] rfl ?_
  obtain ⟨I19, m20, wi23, wl22⟩ := w
  have hL24 : ∀ (N27 : Nat) (x17 : Int) (X18 : XT) (h28 : Nat → sE), m20 x17 X18 < N27 → I19 x17 X18 → Pic X18 h28 → Fr h h28 → V (m_X12_men, 10, 0, 0, n, pIw n h Q, s_G0) 0 0 n h28 16 [(0, .ref 77), (1, .int (iI x17))] [] := by
    intro N27
    induction N27 with
    | zero => intro x17 X18 h28 hm25; exact absurd hm25 (Nat.not_lt_zero _)
    | succ N27 ih21 =>
      intro x17 X18 h28 hm25 hI26 hp29 hf30
      have w := wl22 x17 X18 hI26
      refine v_iload_n dX12_men_16 rfl ?_
      refine v_bipushI dX12_men_17 rfl ?_
      obtain ⟨q31, w⟩ := w
      refine v_icmp_geI (tgt := 122) dX12_men_19 (by decide) q31.1 q31.2 (by decide) (by decide) (fun c32 => ?_) (fun c32 => ?_)
      · replace w := w.1 c32
        refine v_iconstI dX12_men_122 ?_
        refine v_istore_n dX12_men_123 (Nat.le_of_ble_eq_true rfl) ?_
        refine v_pick [1, 0] rfl ?_
        obtain ⟨I35, m36, wi39, wl38⟩ := w
        have hL40 : ∀ (N43 : Nat) (x33 : Int) (X34 : XT) (h44 : Nat → sE), m36 x33 X34 < N43 → I35 x33 X34 → Pic X34 h44 → Fr h h44 → V (m_X12_men, 10, 0, 0, n, pIw n h Q, s_G0) 0 0 n h44 124 [(0, .ref 77), (1, .int (iI x33))] [] := by
          intro N43
          induction N43 with
          | zero => intro x33 X34 h44 hm41; exact absurd hm41 (Nat.not_lt_zero _)
          | succ N43 ih37 =>
            intro x33 X34 h44 hm41 hI42 hp45 hf46
            have w := wl38 x33 X34 hI42
            refine v_iload_n dX12_men_124 rfl ?_
            refine v_aload_n dX12_men_125 rfl ?_
            refine v_get dX12_men_126 fl_X12_570 ((hp45 77 (by decide)).trans (ent_77 _)) rfl (s_lt hn rfl) ?_
            obtain ⟨q47, q48, w⟩ := w
            refine v_icmp_geI (tgt := 145) dX12_men_129 (by decide) q47.1 q47.2 q48.1 q48.2 (fun c49 => ?_) (fun c49 => ?_)
            · replace w := w.1 c49
              refine v_aload_n dX12_men_145 rfl ?_
              refine v_get dX12_men_146 fl_X12_570 ((hp45 77 (by decide)).trans (ent_77 _)) rfl (s_lt hn rfl) ?_
              refine v_istore_n dX12_men_149 (Nat.le_of_ble_eq_true rfl) ?_
              refine v_iconstI dX12_men_150 ?_
              refine v_istore_n dX12_men_151 (Nat.le_of_ble_eq_true rfl) ?_
              refine v_pick [2, 1, 0] rfl ?_
              obtain ⟨I53, m54, wi57, wl56⟩ := w
              have hL58 : ∀ (N61 : Nat) (x50 : Int) (x51 : Int) (X52 : XT) (h62 : Nat → sE), m54 x50 x51 X52 < N61 → I53 x50 x51 X52 → Pic X52 h62 → Fr h h62 → V (m_X12_men, 10, 0, 0, n, pIw n h Q, s_G0) 0 0 n h62 152 [(0, .ref 77), (1, .int (iI x50)), (2, .int (iI x51))] [] := by
                intro N61
                induction N61 with
                | zero => intro x50 x51 X52 h62 hm59; exact absurd hm59 (Nat.not_lt_zero _)
                | succ N61 ih55 =>
                  intro x50 x51 X52 h62 hm59 hI60 hp63 hf64
                  have w := wl56 x50 x51 X52 hI60
                  refine v_iload_n dX12_men_152 rfl ?_
                  refine v_aload_n dX12_men_153 rfl ?_
                  refine v_get dX12_men_154 fl_X12_570 ((hp63 77 (by decide)).trans (ent_77 _)) rfl (s_lt hn rfl) ?_
                  obtain ⟨q65, q66, w⟩ := w
                  refine v_icmp_geI (tgt := 182) dX12_men_157 (by decide) q65.1 q65.2 q66.1 q66.2 (fun c67 => ?_) (fun c67 => ?_)
                  · replace w := w.1 c67
                    refine v_iload_n dX12_men_182 rfl ?_
                    exact v_iret dX12_men_183 rfl (Nat.zero_le _) (Nat.zero_le _) ⟨rfl, hf64, _, _, rfl, hp63, w⟩
                  · replace w := w.2 c67
                    refine v_iload_n dX12_men_160 rfl ?_
                    refine v_aload_n dX12_men_161 rfl ?_
                    refine v_iload_n dX12_men_162 rfl ?_
                    refine v_callVIw dX12_men_163 ml_X12_576 (so_X12_augment hn hp63  w) ((hp63 77 (by decide)).trans (ent_77 _)) rfl (s_lt hn rfl) rfl rfl (Nat.le_of_ble_eq_true rfl) (Nat.le_of_ble_eq_true rfl) (Nat.zero_le _) (Nat.zero_le _) (fun v68 X69 h70 hp72 hf71 w => ?_)
                    have hf73 := Fr.trans hf64 hf71
                    replace w := w (fun (v74 : Int) => V (m_X12_men, 10, 0, 0, n, pIw n h Q, s_G0) 0 0 n h70 174 [(0, .ref 77), (2, .int (iI x51))] [.int (iI v74), .int (iI x50)]) (by
                      intro v74 w
                      refine v_isubI dX12_men_174 ?_
                      refine v_istore_n dX12_men_175 (Nat.le_of_ble_eq_true rfl) ?_
                      refine v_iincI dX12_men_176 rfl (Nat.le_of_ble_eq_true rfl) ?_
                      refine v_goto (tgt := 152) dX12_men_179 (by decide) ?_
                      refine v_pick [2, 1, 0] rfl ?_
                      exact ih55 _ _ _ _ (Nat.lt_of_lt_of_le w.2 (Nat.le_of_lt_succ hm59)) w.1 hp72 hf73
                    )
                    obtain ⟨q76, w⟩ := w
                    refine v_if_eqI (tgt := 173) dX12_men_166 (by decide) q76.1 q76.2 (fun c77 => ?_) (fun c77 => ?_)
                    · replace w := w.1 c77
                      refine v_iconstI dX12_men_173 ?_
                      refine v_pick [0, 2] rfl ?_
                      exact w
                    · replace w := w.2 c77
                      refine v_iconstI dX12_men_169 ?_
                      refine v_goto (tgt := 174) dX12_men_170 (by decide) ?_
                      refine v_pick [0, 2] rfl ?_
                      exact w
              exact hL58 _ _ _ _ _ (Nat.lt_succ_self _) wi57 hp45 hf46
            · replace w := w.2 c49
              refine v_aload_n dX12_men_132 rfl ?_
              refine v_get dX12_men_133 fl_X12_145 ((hp45 77 (by decide)).trans (ent_77 _)) rfl (s_lt hn rfl) ?_
              refine v_iload_n dX12_men_136 rfl ?_
              refine v_iconstI dX12_men_137 ?_
              obtain ⟨q78, w⟩ := w
              refine v_iastI dX12_men_138 ((hp45 108 (by decide)).trans (ent_108 _)) (s_lt hn rfl) q78.1 q78.2 (ix_le q78.2 (by decide)) (fun h79 E80 F81 => ?_)
              have hp82 := pic_st hp45 (show h79 108 = ent 108 (uI _ x33 (-1)) from E80) F81
              have hf83 := Fr.up (c := 108) hf46 F81 rfl
              refine v_iincI dX12_men_139 rfl (Nat.le_of_ble_eq_true rfl) ?_
              refine v_goto (tgt := 124) dX12_men_142 (by decide) ?_
              refine v_pick [1, 0] rfl ?_
              exact ih37 _ _ _ (Nat.lt_of_lt_of_le w.2 (Nat.le_of_lt_succ hm41)) w.1 hp82 hf83
        exact hL40 _ _ _ _ (Nat.lt_succ_self _) wi39 hp29 hf30
      · replace w := w.2 c32
        refine v_iconstI dX12_men_22 ?_
        refine v_istore_n dX12_men_23 (Nat.le_of_ble_eq_true rfl) ?_
        refine v_pick [1, 2, 0] rfl ?_
        obtain ⟨I86, m87, wi90, wl89⟩ := w
        have hL91 : ∀ (N94 : Nat) (x84 : Int) (X85 : XT) (h95 : Nat → sE), m87 x84 X85 < N94 → I86 x84 X85 → Pic X85 h95 → Fr h h95 → V (m_X12_men, 10, 0, 0, n, pIw n h Q, s_G0) 0 0 n h95 24 [(0, .ref 77), (1, .int (iI x17)), (2, .int (iI x84))] [] := by
          intro N94
          induction N94 with
          | zero => intro x84 X85 h95 hm92; exact absurd hm92 (Nat.not_lt_zero _)
          | succ N94 ih88 =>
            intro x84 X85 h95 hm92 hI93 hp96 hf97
            have w := wl89 x84 X85 hI93
            refine v_iload_n dX12_men_24 rfl ?_
            refine v_aload_n dX12_men_25 rfl ?_
            refine v_get dX12_men_26 fl_X12_13 ((hp96 77 (by decide)).trans (ent_77 _)) rfl (s_lt hn rfl) ?_
            refine v_iconstI dX12_men_29 ?_
            refine v_ialdI dX12_men_30 ((hp96 79 (by decide)).trans (ent_79 _)) (s_lt hn rfl) (by decide) (by decide) (by decide) ?_
            obtain ⟨q98, q99, w⟩ := w
            refine v_icmp_geI (tgt := 116) dX12_men_31 (by decide) q98.1 q98.2 q99.1 q99.2 (fun c100 => ?_) (fun c100 => ?_)
            · replace w := w.1 c100
              refine v_iincI dX12_men_116 rfl (Nat.le_of_ble_eq_true rfl) ?_
              refine v_goto (tgt := 16) dX12_men_119 (by decide) ?_
              refine v_pick [1, 0] rfl ?_
              exact ih21 _ _ _ (Nat.lt_of_lt_of_le w.2 (Nat.le_of_lt_succ hm25)) w.1 hp96 hf97
            · replace w := w.2 c100
              refine v_aload_n dX12_men_34 rfl ?_
              refine v_get dX12_men_35 fl_X12_102 ((hp96 77 (by decide)).trans (ent_77 _)) rfl (s_lt hn rfl) ?_
              refine v_bipushI dX12_men_38 rfl ?_
              refine v_aload_n dX12_men_40 rfl ?_
              refine v_get dX12_men_41 fl_X12_13 ((hp96 77 (by decide)).trans (ent_77 _)) rfl (s_lt hn rfl) ?_
              refine v_sipushI dX12_men_44 rfl ?_
              refine v_iconstI dX12_men_47 ?_
              refine v_iload_n dX12_men_48 rfl ?_
              refine v_imulI dX12_men_49 ?_
              refine v_iaddI dX12_men_50 ?_
              refine v_iconstI dX12_men_51 ?_
              refine v_iaddI dX12_men_52 ?_
              obtain ⟨q101, w⟩ := w
              refine v_ialdI dX12_men_53 ((hp96 79 (by decide)).trans (ent_79 _)) (s_lt hn rfl) q101.1 q101.2 (ix_le q101.2 (by decide)) ?_
              refine v_imulI dX12_men_54 ?_
              refine v_iload_n dX12_men_55 rfl ?_
              refine v_iaddI dX12_men_56 ?_
              obtain ⟨q102, w⟩ := w
              refine v_ialdI dX12_men_57 ((hp96 94 (by decide)).trans (ent_94 _)) (s_lt hn rfl) q102.1 q102.2 (ix_le q102.2 (by decide)) ?_
              refine v_istore_n dX12_men_58 (Nat.le_of_ble_eq_true rfl) ?_
              refine v_aload_n dX12_men_59 rfl ?_
              refine v_get dX12_men_60 fl_X12_13 ((hp96 77 (by decide)).trans (ent_77 _)) rfl (s_lt hn rfl) ?_
              refine v_sipushI dX12_men_63 rfl ?_
              refine v_iconstI dX12_men_66 ?_
              refine v_iload_n dX12_men_67 rfl ?_
              refine v_imulI dX12_men_68 ?_
              refine v_iaddI dX12_men_69 ?_
              obtain ⟨q103, w⟩ := w
              refine v_ialdI dX12_men_70 ((hp96 79 (by decide)).trans (ent_79 _)) (s_lt hn rfl) q103.1 q103.2 (ix_le q103.2 (by decide)) ?_
              refine v_iload_n dX12_men_71 rfl ?_
              obtain ⟨q104, w⟩ := w
              refine v_icmp_neI (tgt := 110) dX12_men_72 (by decide) q104.1 q104.2 q31.1 q31.2 (fun c105 => ?_) (fun c105 => ?_)
              · replace w := w.1 c105
                refine v_iincI dX12_men_110 rfl (Nat.le_of_ble_eq_true rfl) ?_
                refine v_goto (tgt := 24) dX12_men_113 (by decide) ?_
                refine v_pick [2, 3, 0] rfl ?_
                exact ih88 _ _ _ (Nat.lt_of_lt_of_le w.2 (Nat.le_of_lt_succ hm92)) w.1 hp96 hf97
              · replace w := w.2 c105
                refine v_iload_n dX12_men_75 rfl ?_
                refine v_iconstI dX12_men_76 ?_
                obtain ⟨q106, w⟩ := w
                refine v_icmp_eqI (tgt := 110) dX12_men_77 (by decide) q106.1 q106.2 (by decide) (by decide) (fun c107 => ?_) (fun c107 => ?_)
                · replace w := w.1 c107
                  refine v_iincI dX12_men_110 rfl (Nat.le_of_ble_eq_true rfl) ?_
                  refine v_goto (tgt := 24) dX12_men_113 (by decide) ?_
                  refine v_pick [2, 3, 0] rfl ?_
                  exact ih88 _ _ _ (Nat.lt_of_lt_of_le w.2 (Nat.le_of_lt_succ hm92)) w.1 hp96 hf97
                · replace w := w.2 c107
                  refine v_aload_n dX12_men_80 rfl ?_
                  refine v_get dX12_men_81 fl_X12_139 ((hp96 77 (by decide)).trans (ent_77 _)) rfl (s_lt hn rfl) ?_
                  refine v_aload_n dX12_men_84 rfl ?_
                  refine v_get dX12_men_85 fl_X12_570 ((hp96 77 (by decide)).trans (ent_77 _)) rfl (s_lt hn rfl) ?_
                  refine v_iload_n dX12_men_88 rfl ?_
                  obtain ⟨q108, w⟩ := w
                  refine v_iastI dX12_men_89 ((hp96 106 (by decide)).trans (ent_106 _)) (s_lt hn rfl) q108.1 q108.2 (ix_le q108.2 (by decide)) (fun h109 E110 F111 => ?_)
                  have hp112 := pic_st hp96 (show h109 106 = ent 106 (uI _ (X85 77 50) (X85 94 ((12 * (X85 79 ((232 + (3 * x84)) + 1))) + x17))) from E110) F111
                  have hf113 := Fr.up (c := 106) hf97 F111 rfl
                  refine v_aload_n dX12_men_90 rfl ?_
                  refine v_get dX12_men_91 fl_X12_142 ((hp112 77 (by decide)).trans (ent_77 _)) rfl (s_lt hn rfl) ?_
                  refine v_aload_n dX12_men_94 rfl ?_
                  refine v_get dX12_men_95 fl_X12_570 ((hp112 77 (by decide)).trans (ent_77 _)) rfl (s_lt hn rfl) ?_
                  refine v_iload_n dX12_men_98 rfl ?_
                  obtain ⟨q114, w⟩ := w
                  refine v_iastI dX12_men_99 ((hp112 107 (by decide)).trans (ent_107 _)) (s_lt hn rfl) q114.1 q114.2 (ix_le q114.2 (by decide)) (fun h115 E116 F117 => ?_)
                  have hp118 := pic_st hp112 (show h115 107 = ent 107 (uI _ ((x_st X85 106 (X85 77 50) (X85 94 ((12 * (X85 79 ((232 + (3 * x84)) + 1))) + x17))) 77 50) x17) from E116) F117
                  have hf119 := Fr.up (c := 107) hf113 F117 rfl
                  refine v_aload_n dX12_men_100 rfl ?_
                  refine v_dup dX12_men_101 rfl ?_
                  refine v_get dX12_men_102 fl_X12_570 ((hp118 77 (by decide)).trans (ent_77 _)) rfl (s_lt hn rfl) ?_
                  refine v_iconstI dX12_men_105 ?_
                  refine v_iaddI dX12_men_106 ?_
                  refine v_put dX12_men_107 fl_X12_570 ((hp118 77 (by decide)).trans (ent_77 _)) (s_lt hn rfl) (Nat.le_of_ble_eq_true rfl) (fun _ => ⟨rfl, rfl⟩) trivial (fun h120 E121 F122 => ?_)
                  have hp123 := pic_st hp118 (show h120 77 = ent 77 (uI _ 50 (((x_st (x_st X85 106 (X85 77 50) (X85 94 ((12 * (X85 79 ((232 + (3 * x84)) + 1))) + x17))) 107 ((x_st X85 106 (X85 77 50) (X85 94 ((12 * (X85 79 ((232 + (3 * x84)) + 1))) + x17))) 77 50) x17) 77 50) + 1)) from E121) F122
                  have hf124 := Fr.up (c := 77) hf119 F122 rfl
                  refine v_iincI dX12_men_110 rfl (Nat.le_of_ble_eq_true rfl) ?_
                  refine v_goto (tgt := 24) dX12_men_113 (by decide) ?_
                  refine v_pick [2, 3, 0] rfl ?_
                  exact ih88 _ _ _ (Nat.lt_of_lt_of_le w.2 (Nat.le_of_lt_succ hm92)) w.1 hp123 hf124
        exact hL91 _ _ _ _ (Nat.lt_succ_self _) wi90 hp29 hf30
  exact hL24 _ _ _ _ (Nat.lt_succ_self _) wi23 hp15 hf16
theorem dX12_isWon_0 : decode cX12_isWon 0 = .ok (.iconst 1, 1) := by decide +kernel
theorem dX12_isWon_1 : decode cX12_isWon 1 = .ok (.istore 5, 2) := by decide +kernel
theorem dX12_isWon_3 : decode cX12_isWon 3 = .ok (.iconst 0, 1) := by decide +kernel
theorem dX12_isWon_4 : decode cX12_isWon 4 = .ok (.istore 6, 2) := by decide +kernel
theorem dX12_isWon_6 : decode cX12_isWon 6 = .ok (.iload 6, 2) := by decide +kernel
theorem dX12_isWon_8 : decode cX12_isWon 8 = .ok (.iconst 5, 1) := by decide +kernel
theorem dX12_isWon_9 : decode cX12_isWon 9 = .ok (.if_icmp .ge 95, 3) := by decide +kernel
theorem dX12_isWon_12 : decode cX12_isWon 12 = .ok (.iload 5, 2) := by decide +kernel
theorem dX12_isWon_14 : decode cX12_isWon 14 = .ok (.ifCond .eq 90, 3) := by decide +kernel
theorem dX12_isWon_17 : decode cX12_isWon 17 = .ok (.aload_n 0, 1) := by decide +kernel
theorem dX12_isWon_18 : decode cX12_isWon 18 = .ok (.getfield 108, 3) := by decide +kernel
theorem dX12_isWon_21 : decode cX12_isWon 21 = .ok (.sipush 576, 3) := by decide +kernel
theorem dX12_isWon_24 : decode cX12_isWon 24 = .ok (.iload_n 2, 1) := by decide +kernel
theorem dX12_isWon_25 : decode cX12_isWon 25 = .ok (.imul, 1) := by decide +kernel
theorem dX12_isWon_26 : decode cX12_isWon 26 = .ok (.iload_n 3, 1) := by decide +kernel
theorem dX12_isWon_27 : decode cX12_isWon 27 = .ok (.iadd, 1) := by decide +kernel
theorem dX12_isWon_28 : decode cX12_isWon 28 = .ok (.baload, 1) := by decide +kernel
theorem dX12_isWon_29 : decode cX12_isWon 29 = .ok (.istore 7, 2) := by decide +kernel
theorem dX12_isWon_31 : decode cX12_isWon 31 = .ok (.aload_n 0, 1) := by decide +kernel
theorem dX12_isWon_32 : decode cX12_isWon 32 = .ok (.aload_n 0, 1) := by decide +kernel
theorem dX12_isWon_33 : decode cX12_isWon 33 = .ok (.iload_n 1, 1) := by decide +kernel
theorem dX12_isWon_34 : decode cX12_isWon 34 = .ok (.iconst 2, 1) := by decide +kernel
theorem dX12_isWon_35 : decode cX12_isWon 35 = .ok (.invokevirtual 224, 3) := by decide +kernel
theorem dX12_isWon_38 : decode cX12_isWon 38 = .ok (.iload_n 3, 1) := by decide +kernel
theorem dX12_isWon_39 : decode cX12_isWon 39 = .ok (.iconst 0, 1) := by decide +kernel
theorem dX12_isWon_40 : decode cX12_isWon 40 = .ok (.iload 7, 2) := by decide +kernel
theorem dX12_isWon_42 : decode cX12_isWon 42 = .ok (.ifCond .eq 8, 3) := by decide +kernel
theorem dX12_isWon_45 : decode cX12_isWon 45 = .ok (.iload 4, 2) := by decide +kernel
theorem dX12_isWon_47 : decode cX12_isWon 47 = .ok (.goto 4, 3) := by decide +kernel
theorem dX12_isWon_50 : decode cX12_isWon 50 = .ok (.iconst 4, 1) := by decide +kernel
theorem dX12_isWon_51 : decode cX12_isWon 51 = .ok (.iload 7, 2) := by decide +kernel
theorem dX12_isWon_53 : decode cX12_isWon 53 = .ok (.ifCond .eq 8, 3) := by decide +kernel
theorem dX12_isWon_56 : decode cX12_isWon 56 = .ok (.iload 6, 2) := by decide +kernel
theorem dX12_isWon_58 : decode cX12_isWon 58 = .ok (.goto 4, 3) := by decide +kernel
theorem dX12_isWon_61 : decode cX12_isWon 61 = .ok (.iconst 4, 1) := by decide +kernel
theorem dX12_isWon_62 : decode cX12_isWon 62 = .ok (.invokevirtual 460, 3) := by decide +kernel
theorem dX12_isWon_65 : decode cX12_isWon 65 = .ok (.istore 8, 2) := by decide +kernel
theorem dX12_isWon_67 : decode cX12_isWon 67 = .ok (.iload 8, 2) := by decide +kernel
theorem dX12_isWon_69 : decode cX12_isWon 69 = .ok (.iconst (-1), 1) := by decide +kernel
theorem dX12_isWon_70 : decode cX12_isWon 70 = .ok (.if_icmp .eq 25, 3) := by decide +kernel
theorem dX12_isWon_73 : decode cX12_isWon 73 = .ok (.aload_n 0, 1) := by decide +kernel
theorem dX12_isWon_74 : decode cX12_isWon 74 = .ok (.getfield 157, 3) := by decide +kernel
theorem dX12_isWon_77 : decode cX12_isWon 77 = .ok (.sipush 576, 3) := by decide +kernel
theorem dX12_isWon_80 : decode cX12_isWon 80 = .ok (.iload_n 2, 1) := by decide +kernel
theorem dX12_isWon_81 : decode cX12_isWon 81 = .ok (.iconst 1, 1) := by decide +kernel
theorem dX12_isWon_82 : decode cX12_isWon 82 = .ok (.iadd, 1) := by decide +kernel
theorem dX12_isWon_83 : decode cX12_isWon 83 = .ok (.imul, 1) := by decide +kernel
theorem dX12_isWon_84 : decode cX12_isWon 84 = .ok (.iload 8, 2) := by decide +kernel
theorem dX12_isWon_86 : decode cX12_isWon 86 = .ok (.iadd, 1) := by decide +kernel
theorem dX12_isWon_87 : decode cX12_isWon 87 = .ok (.baload, 1) := by decide +kernel
theorem dX12_isWon_88 : decode cX12_isWon 88 = .ok (.ifCond .eq 7, 3) := by decide +kernel
theorem dX12_isWon_91 : decode cX12_isWon 91 = .ok (.iconst 1, 1) := by decide +kernel
theorem dX12_isWon_92 : decode cX12_isWon 92 = .ok (.goto 4, 3) := by decide +kernel
theorem dX12_isWon_95 : decode cX12_isWon 95 = .ok (.iconst 0, 1) := by decide +kernel
theorem dX12_isWon_96 : decode cX12_isWon 96 = .ok (.istore 5, 2) := by decide +kernel
theorem dX12_isWon_98 : decode cX12_isWon 98 = .ok (.iinc 6 1, 3) := by decide +kernel
theorem dX12_isWon_101 : decode cX12_isWon 101 = .ok (.goto (-95), 3) := by decide +kernel
theorem dX12_isWon_104 : decode cX12_isWon 104 = .ok (.iload 5, 2) := by decide +kernel
theorem dX12_isWon_106 : decode cX12_isWon 106 = .ok (.ireturn, 1) := by decide +kernel
def w_X12_isWon (a0 a1 a2 a3 : Int) (X : XT) (Q : Int → Prop) : Prop :=
  ∃ (I3 : Int → Int → Prop) (m4 : Int → Int → Nat), I3 1 0 ∧ ∀ (x1 : Int) (x2 : Int), I3 x1 x2 → R32 x2 ∧ (5 ≤ x2 → (x1 = 0 ∨ x1 = 1) ∧ Q x1) ∧ (¬ 5 ≤ x2 → R32 x1 ∧ (x1 = 0 → (x1 = 0 ∨ x1 = 1) ∧ Q x1) ∧ (¬ x1 = 0 → (0 ≤ ((576 * a1) + a2) ∧ ((576 * a1) + a2) < 6912) ∧ (0 ≤ a0 ∧ a0 ≤ 4) ∧ ∀ J21 : Int → Prop, (∀ (v20 : Int), (∀ J23 : Int → Prop, (∀ (v22 : Int), (w_X12_goes  (X 79 (15 + 5 * a0 + 2)) a2 0 v20 v22 X (fun (v24 : Int) => ∀ J30 : Prop, ((I3 0 (x2 + 1) ∧ m4 0 (x2 + 1) < m4 x1 x2) → J30) → R32 v24 ∧ (v24 = (-1) → J30 ) ∧ (¬ v24 = (-1) → (0 ≤ ((576 * (a1 + 1)) + v24) ∧ ((576 * (a1 + 1)) + v24) < 6912) ∧ R32 (X 112 ((576 * (a1 + 1)) + v24)) ∧ ((X 112 ((576 * (a1 + 1)) + v24)) = 0 → J30 ) ∧ (¬ (X 112 ((576 * (a1 + 1)) + v24)) = 0 → I3 1 (x2 + 1) ∧ m4 1 (x2 + 1) < m4 x1 x2)))) → J23 v22) → R32 (X 96 ((576 * a1) + a2)) ∧ ((X 96 ((576 * a1) + a2)) = 0 → J23 4) ∧ (¬ (X 96 ((576 * a1) + a2)) = 0 → J23 x2)) → J21 v20) → R32 (X 96 ((576 * a1) + a2)) ∧ ((X 96 ((576 * a1) + a2)) = 0 → J21 4) ∧ (¬ (X 96 ((576 * a1) + a2)) = 0 → J21 a3)))
set_option maxRecDepth 20000 in
theorem so_X12_isWon {n : Nat} {h : Nat → sE} {X : XT} {a0 a1 a2 a3 : Int} {Q : Int → Prop} (hn : 115 ≤ n) (hp : Pic X h) (w : w_X12_isWon  a0 a1 a2 a3 X Q) : Sp m_X12_isWon 4 0 0 [.ref 77, .int (iI a0), .int (iI a1), .int (iI a2), .int (iI a3)] n h (pIr n h Q) := by
  unfold w_X12_isWon at w
  refine Sp.ofV (by decide +kernel) (Nat.le_of_ble_eq_true rfl) ?_
  have hf : Fr h h := fun _ _ => rfl
  refine v_iconstI dX12_isWon_0 ?_
  refine v_istore dX12_isWon_1 (Nat.le_of_ble_eq_true rfl) ?_
  refine v_iconstI dX12_isWon_3 ?_
  refine v_istore dX12_isWon_4 (Nat.le_of_ble_eq_true rfl) ?_
  refine v_pick [2, 3, 4, 5, 6, 1, 0] rfl ?_
  obtain ⟨I3, m4, wi7, wl6⟩ := w
  have hL8 : ∀ (N11 : Nat) (x1 : Int) (x2 : Int), m4 x1 x2 < N11 → I3 x1 x2 → V (m_X12_isWon, 4, 0, 0, n, pIr n h Q, s_G0) 0 0 n h 6 [(0, .ref 77), (1, .int (iI a0)), (2, .int (iI a1)), (3, .int (iI a2)), (4, .int (iI a3)), (5, .int (iI x1)), (6, .int (iI x2))] [] := by
    intro N11
    induction N11 with
    | zero => intro x1 x2  hm9; exact absurd hm9 (Nat.not_lt_zero _)
    | succ N11 ih5 =>
      intro x1 x2  hm9 hI10
      have w := wl6 x1 x2 hI10
      refine v_iload dX12_isWon_6 rfl ?_
      refine v_iconstI dX12_isWon_8 ?_
      obtain ⟨q12, w⟩ := w
      refine v_icmp_geI (tgt := 104) dX12_isWon_9 (by decide) q12.1 q12.2 (by decide) (by decide) (fun c13 => ?_) (fun c13 => ?_)
      · replace w := w.1 c13
        refine v_iload dX12_isWon_104 rfl ?_
        obtain ⟨q14, w⟩ := w
        exact v_zretZ dX12_isWon_106 rfl q14 (Nat.zero_le _) (Nat.zero_le _) ⟨rfl, rfl, _, rfl, w⟩
      · replace w := w.2 c13
        refine v_iload dX12_isWon_12 rfl ?_
        obtain ⟨q15, w⟩ := w
        refine v_if_eqI (tgt := 104) dX12_isWon_14 (by decide) q15.1 q15.2 (fun c16 => ?_) (fun c16 => ?_)
        · replace w := w.1 c16
          refine v_iload dX12_isWon_104 rfl ?_
          obtain ⟨q17, w⟩ := w
          exact v_zretZ dX12_isWon_106 rfl q17 (Nat.zero_le _) (Nat.zero_le _) ⟨rfl, rfl, _, rfl, w⟩
        · replace w := w.2 c16
          refine v_aload_n dX12_isWon_17 rfl ?_
          refine v_get dX12_isWon_18 fl_X12_108 ((hp 77 (by decide)).trans (ent_77 _)) rfl (s_lt hn rfl) ?_
          refine v_sipushI dX12_isWon_21 rfl ?_
          refine v_iload_n dX12_isWon_24 rfl ?_
          refine v_imulI dX12_isWon_25 ?_
          refine v_iload_n dX12_isWon_26 rfl ?_
          refine v_iaddI dX12_isWon_27 ?_
          obtain ⟨q18, w⟩ := w
          refine v_zaldI dX12_isWon_28 ((hp 96 (by decide)).trans (ent_96 _)) (s_lt hn rfl) q18.1 q18.2 (ix_le q18.2 (by decide)) ?_
          refine v_istore dX12_isWon_29 (Nat.le_of_ble_eq_true rfl) ?_
          refine v_aload_n dX12_isWon_31 rfl ?_
          refine v_aload_n dX12_isWon_32 rfl ?_
          refine v_iload_n dX12_isWon_33 rfl ?_
          refine v_iconstI dX12_isWon_34 ?_
          obtain ⟨q19, w⟩ := w
          refine v_callVp dX12_isWon_35 ml_X12_224 (sv_X12_ofCloud (a := a0) (b := 2) (g77 := X 77) (g79 := X 79) hn (hp 77 (by decide)) (hp 79 (by decide)) q19 (by decide)) ((hp 77 (by decide)).trans (ent_77 _)) rfl (s_lt hn rfl) rfl rfl (Nat.le_of_ble_eq_true rfl) (Nat.le_of_ble_eq_true rfl) (Nat.zero_le _) (Nat.zero_le _) ?_
          refine v_iload_n dX12_isWon_38 rfl ?_
          refine v_iconstI dX12_isWon_39 ?_
          refine v_iload dX12_isWon_40 rfl ?_
          replace w := w (fun (v20 : Int) => V (m_X12_isWon, 4, 0, 0, n, pIr n h Q, s_G0) 0 0 n h 51 [(0, .ref 77), (1, .int (iI a0)), (2, .int (iI a1)), (3, .int (iI a2)), (4, .int (iI a3)), (6, .int (iI x2)), (7, .int (iI (X 96 ((576 * a1) + a2))))] [.int (iI v20), .int (iI 0), .int (iI a2), .int (iI (X 79 (15 + 5 * a0 + 2))), .ref 77]) (by
            intro v20 w
            refine v_iload dX12_isWon_51 rfl ?_
            replace w := w (fun (v22 : Int) => V (m_X12_isWon, 4, 0, 0, n, pIr n h Q, s_G0) 0 0 n h 62 [(0, .ref 77), (1, .int (iI a0)), (2, .int (iI a1)), (3, .int (iI a2)), (4, .int (iI a3)), (6, .int (iI x2))] [.int (iI v22), .int (iI v20), .int (iI 0), .int (iI a2), .int (iI (X 79 (15 + 5 * a0 + 2))), .ref 77]) (by
              intro v22 w
              refine v_callVIr dX12_isWon_62 ml_X12_460 (so_X12_goes hn hp  w) ((hp 77 (by decide)).trans (ent_77 _)) rfl (s_lt hn rfl) rfl rfl (Nat.le_of_ble_eq_true rfl) (Nat.le_of_ble_eq_true rfl) (Nat.zero_le _) (Nat.zero_le _) (fun v24 w => ?_)
              refine v_istore dX12_isWon_65 (Nat.le_of_ble_eq_true rfl) ?_
              refine v_iload dX12_isWon_67 rfl ?_
              refine v_iconstI dX12_isWon_69 ?_
              replace w := w (V (m_X12_isWon, 4, 0, 0, n, pIr n h Q, s_G0) 0 0 n h 95 [(0, .ref 77), (1, .int (iI a0)), (2, .int (iI a1)), (3, .int (iI a2)), (4, .int (iI a3)), (6, .int (iI x2))] []) (by
                intro  w
                refine v_iconstI dX12_isWon_95 ?_
                refine v_istore dX12_isWon_96 (Nat.le_of_ble_eq_true rfl) ?_
                refine v_iincI dX12_isWon_98 rfl (Nat.le_of_ble_eq_true rfl) ?_
                refine v_goto (tgt := 6) dX12_isWon_101 (by decide) ?_
                refine v_pick [2, 3, 4, 5, 6, 1, 0] rfl ?_
                exact ih5 _ _ (Nat.lt_of_lt_of_le w.2 (Nat.le_of_lt_succ hm9)) w.1
              )
              obtain ⟨q31, w⟩ := w
              refine v_icmp_eqI (tgt := 95) dX12_isWon_70 (by decide) q31.1 q31.2 (by decide) (by decide) (fun c32 => ?_) (fun c32 => ?_)
              · replace w := w.1 c32
                refine v_pick [1, 2, 3, 4, 5, 6] rfl ?_
                exact w
              · replace w := w.2 c32
                refine v_aload_n dX12_isWon_73 rfl ?_
                refine v_get dX12_isWon_74 fl_X12_157 ((hp 77 (by decide)).trans (ent_77 _)) rfl (s_lt hn rfl) ?_
                refine v_sipushI dX12_isWon_77 rfl ?_
                refine v_iload_n dX12_isWon_80 rfl ?_
                refine v_iconstI dX12_isWon_81 ?_
                refine v_iaddI dX12_isWon_82 ?_
                refine v_imulI dX12_isWon_83 ?_
                refine v_iload dX12_isWon_84 rfl ?_
                refine v_iaddI dX12_isWon_86 ?_
                obtain ⟨q33, w⟩ := w
                refine v_zaldI dX12_isWon_87 ((hp 112 (by decide)).trans (ent_112 _)) (s_lt hn rfl) q33.1 q33.2 (ix_le q33.2 (by decide)) ?_
                obtain ⟨q34, w⟩ := w
                refine v_if_eqI (tgt := 95) dX12_isWon_88 (by decide) q34.1 q34.2 (fun c35 => ?_) (fun c35 => ?_)
                · replace w := w.1 c35
                  refine v_pick [1, 2, 3, 4, 5, 6] rfl ?_
                  exact w
                · replace w := w.2 c35
                  refine v_iconstI dX12_isWon_91 ?_
                  refine v_goto (tgt := 96) dX12_isWon_92 (by decide) ?_
                  refine v_istore dX12_isWon_96 (Nat.le_of_ble_eq_true rfl) ?_
                  refine v_iincI dX12_isWon_98 rfl (Nat.le_of_ble_eq_true rfl) ?_
                  refine v_goto (tgt := 6) dX12_isWon_101 (by decide) ?_
                  refine v_pick [3, 4, 5, 6, 7, 1, 0] rfl ?_
                  exact ih5 _ _ (Nat.lt_of_lt_of_le w.2 (Nat.le_of_lt_succ hm9)) w.1
            )
            obtain ⟨q36, w⟩ := w
            refine v_if_eqI (tgt := 61) dX12_isWon_53 (by decide) q36.1 q36.2 (fun c37 => ?_) (fun c37 => ?_)
            · replace w := w.1 c37
              refine v_iconstI dX12_isWon_61 ?_
              refine v_pick [0, 1, 2, 3, 4, 5] rfl ?_
              exact w
            · replace w := w.2 c37
              refine v_iload dX12_isWon_56 rfl ?_
              refine v_goto (tgt := 62) dX12_isWon_58 (by decide) ?_
              refine v_pick [0, 1, 2, 3, 4, 5] rfl ?_
              exact w
          )
          obtain ⟨q38, w⟩ := w
          refine v_if_eqI (tgt := 50) dX12_isWon_42 (by decide) q38.1 q38.2 (fun c39 => ?_) (fun c39 => ?_)
          · replace w := w.1 c39
            refine v_iconstI dX12_isWon_50 ?_
            refine v_pick [1, 2, 3, 4, 5, 7, 0] rfl ?_
            exact w
          · replace w := w.2 c39
            refine v_iload dX12_isWon_45 rfl ?_
            refine v_goto (tgt := 51) dX12_isWon_47 (by decide) ?_
            refine v_pick [1, 2, 3, 4, 5, 7, 0] rfl ?_
            exact w
  exact hL8 _ _ _ (Nat.lt_succ_self _) wi7
theorem dX12_duel_0 : decode cX12_duel 0 = .ok (.aload_n 0, 1) := by decide +kernel
theorem dX12_duel_1 : decode cX12_duel 1 = .ok (.iconst 0, 1) := by decide +kernel
theorem dX12_duel_2 : decode cX12_duel 2 = .ok (.putfield 169, 3) := by decide +kernel
theorem dX12_duel_5 : decode cX12_duel 5 = .ok (.aload_n 0, 1) := by decide +kernel
theorem dX12_duel_6 : decode cX12_duel 6 = .ok (.iload_n 1, 1) := by decide +kernel
theorem dX12_duel_7 : decode cX12_duel 7 = .ok (.invokevirtual 219, 3) := by decide +kernel
theorem dX12_duel_10 : decode cX12_duel 10 = .ok (.ifCond .eq 28, 3) := by decide +kernel
theorem dX12_duel_13 : decode cX12_duel 13 = .ok (.iload_n 2, 1) := by decide +kernel
theorem dX12_duel_14 : decode cX12_duel 14 = .ok (.invokestatic 195, 3) := by decide +kernel
theorem dX12_duel_17 : decode cX12_duel 17 = .ok (.ifCond .eq 21, 3) := by decide +kernel
theorem dX12_duel_20 : decode cX12_duel 20 = .ok (.iload_n 3, 1) := by decide +kernel
theorem dX12_duel_21 : decode cX12_duel 21 = .ok (.invokestatic 236, 3) := by decide +kernel
theorem dX12_duel_24 : decode cX12_duel 24 = .ok (.ifCond .eq 14, 3) := by decide +kernel
theorem dX12_duel_27 : decode cX12_duel 27 = .ok (.iload 4, 2) := by decide +kernel
theorem dX12_duel_29 : decode cX12_duel 29 = .ok (.i2l, 1) := by decide +kernel
theorem dX12_duel_30 : decode cX12_duel 30 = .ok (.lconst 0, 1) := by decide +kernel
theorem dX12_duel_31 : decode cX12_duel 31 = .ok (.lconst 1, 1) := by decide +kernel
theorem dX12_duel_32 : decode cX12_duel 32 = .ok (.invokestatic 175, 3) := by decide +kernel
theorem dX12_duel_35 : decode cX12_duel 35 = .ok (.ifCond .ne 5, 3) := by decide +kernel
theorem dX12_duel_38 : decode cX12_duel 38 = .ok (.iconst (-1), 1) := by decide +kernel
theorem dX12_duel_39 : decode cX12_duel 39 = .ok (.ireturn, 1) := by decide +kernel
theorem dX12_duel_40 : decode cX12_duel 40 = .ok (.aload_n 0, 1) := by decide +kernel
theorem dX12_duel_41 : decode cX12_duel 41 = .ok (.iload_n 1, 1) := by decide +kernel
theorem dX12_duel_42 : decode cX12_duel 42 = .ok (.invokevirtual 515, 3) := by decide +kernel
theorem dX12_duel_45 : decode cX12_duel 45 = .ok (.iload_n 3, 1) := by decide +kernel
theorem dX12_duel_46 : decode cX12_duel 46 = .ok (.istore 5, 2) := by decide +kernel
theorem dX12_duel_48 : decode cX12_duel 48 = .ok (.iload 5, 2) := by decide +kernel
theorem dX12_duel_50 : decode cX12_duel 50 = .ok (.ifCond .lt 105, 3) := by decide +kernel
theorem dX12_duel_53 : decode cX12_duel 53 = .ok (.iconst 0, 1) := by decide +kernel
theorem dX12_duel_54 : decode cX12_duel 54 = .ok (.istore 6, 2) := by decide +kernel
theorem dX12_duel_56 : decode cX12_duel 56 = .ok (.iload 6, 2) := by decide +kernel
theorem dX12_duel_58 : decode cX12_duel 58 = .ok (.sipush 576, 3) := by decide +kernel
theorem dX12_duel_61 : decode cX12_duel 61 = .ok (.if_icmp .ge 88, 3) := by decide +kernel
theorem dX12_duel_64 : decode cX12_duel 64 = .ok (.iload 5, 2) := by decide +kernel
theorem dX12_duel_66 : decode cX12_duel 66 = .ok (.iload_n 3, 1) := by decide +kernel
theorem dX12_duel_67 : decode cX12_duel 67 = .ok (.if_icmp .ne 18, 3) := by decide +kernel
theorem dX12_duel_70 : decode cX12_duel 70 = .ok (.aload_n 0, 1) := by decide +kernel
theorem dX12_duel_71 : decode cX12_duel 71 = .ok (.iload_n 1, 1) := by decide +kernel
theorem dX12_duel_72 : decode cX12_duel 72 = .ok (.iload 6, 2) := by decide +kernel
theorem dX12_duel_74 : decode cX12_duel 74 = .ok (.iload_n 2, 1) := by decide +kernel
theorem dX12_duel_75 : decode cX12_duel 75 = .ok (.invokevirtual 475, 3) := by decide +kernel
theorem dX12_duel_78 : decode cX12_duel 78 = .ok (.ifCond .eq 7, 3) := by decide +kernel
theorem dX12_duel_81 : decode cX12_duel 81 = .ok (.iconst 1, 1) := by decide +kernel
theorem dX12_duel_82 : decode cX12_duel 82 = .ok (.goto 4, 3) := by decide +kernel
theorem dX12_duel_85 : decode cX12_duel 85 = .ok (.iconst 0, 1) := by decide +kernel
theorem dX12_duel_86 : decode cX12_duel 86 = .ok (.istore 7, 2) := by decide +kernel
theorem dX12_duel_88 : decode cX12_duel 88 = .ok (.iconst 0, 1) := by decide +kernel
theorem dX12_duel_89 : decode cX12_duel 89 = .ok (.istore 8, 2) := by decide +kernel
theorem dX12_duel_91 : decode cX12_duel 91 = .ok (.iload 8, 2) := by decide +kernel
theorem dX12_duel_93 : decode cX12_duel 93 = .ok (.iconst 5, 1) := by decide +kernel
theorem dX12_duel_94 : decode cX12_duel 94 = .ok (.if_icmp .ge 33, 3) := by decide +kernel
theorem dX12_duel_97 : decode cX12_duel 97 = .ok (.iload 5, 2) := by decide +kernel
theorem dX12_duel_99 : decode cX12_duel 99 = .ok (.iload_n 3, 1) := by decide +kernel
theorem dX12_duel_100 : decode cX12_duel 100 = .ok (.if_icmp .ge 27, 3) := by decide +kernel
theorem dX12_duel_103 : decode cX12_duel 103 = .ok (.iload 7, 2) := by decide +kernel
theorem dX12_duel_105 : decode cX12_duel 105 = .ok (.ifCond .ne 22, 3) := by decide +kernel
theorem dX12_duel_108 : decode cX12_duel 108 = .ok (.aload_n 0, 1) := by decide +kernel
theorem dX12_duel_109 : decode cX12_duel 109 = .ok (.iload_n 1, 1) := by decide +kernel
theorem dX12_duel_110 : decode cX12_duel 110 = .ok (.iload 5, 2) := by decide +kernel
theorem dX12_duel_112 : decode cX12_duel 112 = .ok (.iload 6, 2) := by decide +kernel
theorem dX12_duel_114 : decode cX12_duel 114 = .ok (.iload 8, 2) := by decide +kernel
theorem dX12_duel_116 : decode cX12_duel 116 = .ok (.invokevirtual 579, 3) := by decide +kernel
theorem dX12_duel_119 : decode cX12_duel 119 = .ok (.istore 7, 2) := by decide +kernel
theorem dX12_duel_121 : decode cX12_duel 121 = .ok (.iinc 8 1, 3) := by decide +kernel
theorem dX12_duel_124 : decode cX12_duel 124 = .ok (.goto (-33), 3) := by decide +kernel
theorem dX12_duel_127 : decode cX12_duel 127 = .ok (.aload_n 0, 1) := by decide +kernel
theorem dX12_duel_128 : decode cX12_duel 128 = .ok (.getfield 157, 3) := by decide +kernel
theorem dX12_duel_131 : decode cX12_duel 131 = .ok (.sipush 576, 3) := by decide +kernel
theorem dX12_duel_134 : decode cX12_duel 134 = .ok (.iload 5, 2) := by decide +kernel
theorem dX12_duel_136 : decode cX12_duel 136 = .ok (.imul, 1) := by decide +kernel
theorem dX12_duel_137 : decode cX12_duel 137 = .ok (.iload 6, 2) := by decide +kernel
theorem dX12_duel_139 : decode cX12_duel 139 = .ok (.iadd, 1) := by decide +kernel
theorem dX12_duel_140 : decode cX12_duel 140 = .ok (.iload 7, 2) := by decide +kernel
theorem dX12_duel_142 : decode cX12_duel 142 = .ok (.bastore, 1) := by decide +kernel
theorem dX12_duel_143 : decode cX12_duel 143 = .ok (.iinc 6 1, 3) := by decide +kernel
theorem dX12_duel_146 : decode cX12_duel 146 = .ok (.goto (-90), 3) := by decide +kernel
theorem dX12_duel_149 : decode cX12_duel 149 = .ok (.iinc 5 (-1), 3) := by decide +kernel
theorem dX12_duel_152 : decode cX12_duel 152 = .ok (.goto (-104), 3) := by decide +kernel
theorem dX12_duel_155 : decode cX12_duel 155 = .ok (.aload_n 0, 1) := by decide +kernel
theorem dX12_duel_156 : decode cX12_duel 156 = .ok (.iload_n 1, 1) := by decide +kernel
theorem dX12_duel_157 : decode cX12_duel 157 = .ok (.invokevirtual 464, 3) := by decide +kernel
theorem dX12_duel_160 : decode cX12_duel 160 = .ok (.istore 5, 2) := by decide +kernel
theorem dX12_duel_162 : decode cX12_duel 162 = .ok (.iload 4, 2) := by decide +kernel
theorem dX12_duel_164 : decode cX12_duel 164 = .ok (.ifCond .eq 17, 3) := by decide +kernel
theorem dX12_duel_167 : decode cX12_duel 167 = .ok (.aload_n 0, 1) := by decide +kernel
theorem dX12_duel_168 : decode cX12_duel 168 = .ok (.getfield 157, 3) := by decide +kernel
theorem dX12_duel_171 : decode cX12_duel 171 = .ok (.iload 5, 2) := by decide +kernel
theorem dX12_duel_173 : decode cX12_duel 173 = .ok (.baload, 1) := by decide +kernel
theorem dX12_duel_174 : decode cX12_duel 174 = .ok (.ifCond .eq 7, 3) := by decide +kernel
theorem dX12_duel_177 : decode cX12_duel 177 = .ok (.iload_n 3, 1) := by decide +kernel
theorem dX12_duel_178 : decode cX12_duel 178 = .ok (.ifCond .ne 28, 3) := by decide +kernel
theorem dX12_duel_181 : decode cX12_duel 181 = .ok (.iload 4, 2) := by decide +kernel
theorem dX12_duel_183 : decode cX12_duel 183 = .ok (.ifCond .ne 21, 3) := by decide +kernel
theorem dX12_duel_186 : decode cX12_duel 186 = .ok (.aload_n 0, 1) := by decide +kernel
theorem dX12_duel_187 : decode cX12_duel 187 = .ok (.getfield 157, 3) := by decide +kernel
theorem dX12_duel_190 : decode cX12_duel 190 = .ok (.iload 5, 2) := by decide +kernel
theorem dX12_duel_192 : decode cX12_duel 192 = .ok (.baload, 1) := by decide +kernel
theorem dX12_duel_193 : decode cX12_duel 193 = .ok (.ifCond .eq 7, 3) := by decide +kernel
theorem dX12_duel_196 : decode cX12_duel 196 = .ok (.iconst 1, 1) := by decide +kernel
theorem dX12_duel_197 : decode cX12_duel 197 = .ok (.goto 8, 3) := by decide +kernel
theorem dX12_duel_200 : decode cX12_duel 200 = .ok (.iconst 0, 1) := by decide +kernel
theorem dX12_duel_201 : decode cX12_duel 201 = .ok (.goto 4, 3) := by decide +kernel
theorem dX12_duel_204 : decode cX12_duel 204 = .ok (.iconst (-1), 1) := by decide +kernel
theorem dX12_duel_205 : decode cX12_duel 205 = .ok (.ireturn, 1) := by decide +kernel
theorem dX12_duel_206 : decode cX12_duel 206 = .ok (.iconst 0, 1) := by decide +kernel
theorem dX12_duel_207 : decode cX12_duel 207 = .ok (.istore 6, 2) := by decide +kernel
theorem dX12_duel_209 : decode cX12_duel 209 = .ok (.aload_n 0, 1) := by decide +kernel
theorem dX12_duel_210 : decode cX12_duel 210 = .ok (.iload_n 1, 1) := by decide +kernel
theorem dX12_duel_211 : decode cX12_duel 211 = .ok (.iconst 0, 1) := by decide +kernel
theorem dX12_duel_212 : decode cX12_duel 212 = .ok (.iload 5, 2) := by decide +kernel
theorem dX12_duel_214 : decode cX12_duel 214 = .ok (.iload 6, 2) := by decide +kernel
theorem dX12_duel_216 : decode cX12_duel 216 = .ok (.invokevirtual 579, 3) := by decide +kernel
theorem dX12_duel_219 : decode cX12_duel 219 = .ok (.ifCond .ne 9, 3) := by decide +kernel
theorem dX12_duel_222 : decode cX12_duel 222 = .ok (.iinc 6 1, 3) := by decide +kernel
theorem dX12_duel_225 : decode cX12_duel 225 = .ok (.goto (-16), 3) := by decide +kernel
theorem dX12_duel_228 : decode cX12_duel 228 = .ok (.iload 6, 2) := by decide +kernel
theorem dX12_duel_230 : decode cX12_duel 230 = .ok (.ireturn, 1) := by decide +kernel
def w_X12_duel (a0 a1 a2 a3 : Int) (X : XT) (Q : Int → XT → Prop) : Prop :=
  R32 a0 ∧ (0 ≤ (x_st X 77 0 0) 79 0 ∧ (x_st X 77 0 0) 79 0 ≤ 5) ∧ (¬ (0 ≤ a0 ∧ a0 ≤ (x_st X 77 0 0) 79 0 - 1) → Q (-1) (x_st X 77 0 0)) ∧ ((0 ≤ a0 ∧ a0 ≤ (x_st X 77 0 0) 79 0 - 1) → R32 a1 ∧ (¬ (0 ≤ a1 ∧ a1 ≤ 63) → Q (-1) (x_st X 77 0 0)) ∧ ((0 ≤ a1 ∧ a1 ≤ 63) → R32 a2 ∧ (¬ (0 ≤ a2 ∧ a2 ≤ 11) → Q (-1) (x_st X 77 0 0)) ∧ ((0 ≤ a2 ∧ a2 ≤ 11) → R32 a3 ∧ ((0 ≤ a3 ∧ a3 ≤ 1) → w_X12_layWorks  a0 (x_st X 77 0 0) (fun (X16 : XT) => ∃ (I23 : Int → XT → Prop) (m24 : Int → XT → Nat), I23 a2 X16 ∧ ∀ (x21 : Int) (X22 : XT), I23 x21 X22 → R32 x21 ∧ (x21 < 0 → w_X12_beginsAt  a0 X22 (fun (v37 : Int) => ∀ J43 : Prop, (((¬ a3 = 0 → Q (-1) X22) ∧ (a3 = 0 → (0 ≤ v37 ∧ v37 < 6912) ∧ R32 (X22 112 v37) ∧ ((X22 112 v37) = 0 → Q 0 X22) ∧ (¬ (X22 112 v37) = 0 → Q 1 X22))) → J43) → (a3 = 0 → J43 ) ∧ (¬ a3 = 0 → (0 ≤ v37 ∧ v37 < 6912) ∧ R32 (X22 112 v37) ∧ ((X22 112 v37) = 0 → J43 ) ∧ (¬ (X22 112 v37) = 0 → (¬ a2 = 0 → ∃ (I54 : Int → Prop) (m55 : Int → Nat), I54 0 ∧ ∀ (x53 : Int), I54 x53 → w_X12_isWon  a0 0 v37 x53 X22 (fun (v63 : Int) => R32 v63 ∧ (¬ v63 = 0 → Q x53 X22) ∧ (v63 = 0 → I54 (x53 + 1) ∧ m55 (x53 + 1) < m55 x53))) ∧ (a2 = 0 → J43 ))))) ∧ (¬ x21 < 0 → ∃ (I73 : Int → XT → Prop) (m74 : Int → XT → Nat), I73 0 X22 ∧ ∀ (x71 : Int) (X72 : XT), I73 x71 X72 → R32 x71 ∧ (576 ≤ x71 → I23 (x21 + (-1)) X72 ∧ m24 (x21 + (-1)) X72 < m24 x21 X22) ∧ (¬ 576 ≤ x71 → ∀ J88 : Int → Prop, (∀ (v87 : Int), (∃ (I91 : Int → Int → Prop) (m92 : Int → Int → Nat), I91 v87 0 ∧ ∀ (x89 : Int) (x90 : Int), I91 x89 x90 → ∀ J100 : Prop, (((x89 = 0 ∨ x89 = 1) ∧ (0 ≤ ((576 * x21) + x71) ∧ ((576 * x21) + x71) < 6912) ∧ I73 (x71 + 1) (x_st X72 112 ((576 * x21) + x71) x89) ∧ m74 (x71 + 1) (x_st X72 112 ((576 * x21) + x71) x89) < m74 x71 X72) → J100) → R32 x90 ∧ (5 ≤ x90 → J100 ) ∧ (¬ 5 ≤ x90 → (a2 ≤ x21 → J100 ) ∧ (¬ a2 ≤ x21 → R32 x89 ∧ (¬ x89 = 0 → J100 ) ∧ (x89 = 0 → w_X12_isWon  a0 x21 x71 x90 X72 (fun (v113 : Int) => I91 v113 (x90 + 1) ∧ m92 v113 (x90 + 1) < m92 x89 x90))))) → J88 v87) → (¬ x21 = a2 → J88 0) ∧ (x21 = a2 → w_X12_shades  a0 x71 a1 X72 (fun (v120 : Int) => R32 v120 ∧ (v120 = 0 → J88 0) ∧ (¬ v120 = 0 → J88 1))))))) ∧ (¬ (0 ≤ a3 ∧ a3 ≤ 1) → Q (-1) (x_st X 77 0 0)))))
set_option maxRecDepth 20000 in
theorem so_X12_duel {n : Nat} {h : Nat → sE} {X : XT} {a0 a1 a2 a3 : Int} {Q : Int → XT → Prop} (hn : 115 ≤ n) (hp : Pic X h) (w : w_X12_duel  a0 a1 a2 a3 X Q) : Sp m_X12_duel 9 0 0 [.ref 77, .int (iI a0), .int (iI a1), .int (iI a2), .int (iI a3)] n h (pIw n h Q) := by
  unfold w_X12_duel at w
  refine Sp.ofV (by decide +kernel) (Nat.le_of_ble_eq_true rfl) ?_
  have hf : Fr h h := fun _ _ => rfl
  refine v_aload_n dX12_duel_0 rfl ?_
  refine v_iconstI dX12_duel_1 ?_
  refine v_put dX12_duel_2 fl_X12_169 ((hp 77 (by decide)).trans (ent_77 _)) (s_lt hn rfl) (Nat.le_of_ble_eq_true rfl) (fun _ => ⟨rfl, rfl⟩) trivial (fun h1 E2 F3 => ?_)
  have hp4 := pic_st hp (show h1 77 = ent 77 (uI _ 0 0) from E2) F3
  have hf5 := Fr.up (c := 77) hf F3 rfl
  refine v_aload_n dX12_duel_5 rfl ?_
  refine v_iload_n dX12_duel_6 rfl ?_
  obtain ⟨q6, q7, w⟩ := w
  refine v_callVp dX12_duel_7 ml_X12_219 (sp_X12_isCloud (a := a0) (g77 := (x_st X 77 0 0) 77) (g79 := (x_st X 77 0 0) 79) hn (hp4 77 (by decide)) (hp4 79 (by decide)) q6 q7) ((hp4 77 (by decide)).trans (ent_77 _)) rfl (s_lt hn rfl) rfl rfl (Nat.le_of_ble_eq_true rfl) (Nat.le_of_ble_eq_true rfl) (Nat.zero_le _) (Nat.zero_le _) ?_
  refine v_ifeqB (tgt := 38) dX12_duel_10 (by decide) (fun c8 => ?_) (fun c8 => ?_)
  · replace w := w.1 c8
    refine v_iconstI dX12_duel_38 ?_
    exact v_iret dX12_duel_39 rfl (Nat.zero_le _) (Nat.zero_le _) ⟨rfl, hf5, _, _, rfl, hp4, w⟩
  · replace w := w.2 c8
    refine v_iload_n dX12_duel_13 rfl ?_
    obtain ⟨q9, w⟩ := w
    refine v_callSp dX12_duel_14 ml_X12_195 (sp_X12_isField (a := a1) q9) rfl rfl (Nat.le_of_ble_eq_true rfl) (Nat.le_of_ble_eq_true rfl) (Nat.zero_le _) (Nat.zero_le _) ?_
    refine v_ifeqB (tgt := 38) dX12_duel_17 (by decide) (fun c10 => ?_) (fun c10 => ?_)
    · replace w := w.1 c10
      refine v_iconstI dX12_duel_38 ?_
      exact v_iret dX12_duel_39 rfl (Nat.zero_le _) (Nat.zero_le _) ⟨rfl, hf5, _, _, rfl, hp4, w⟩
    · replace w := w.2 c10
      refine v_iload_n dX12_duel_20 rfl ?_
      obtain ⟨q11, w⟩ := w
      refine v_callSp dX12_duel_21 ml_X12_236 (sp_X12_isHour (a := a2) q11) rfl rfl (Nat.le_of_ble_eq_true rfl) (Nat.le_of_ble_eq_true rfl) (Nat.zero_le _) (Nat.zero_le _) ?_
      refine v_ifeqB (tgt := 38) dX12_duel_24 (by decide) (fun c12 => ?_) (fun c12 => ?_)
      · replace w := w.1 c12
        refine v_iconstI dX12_duel_38 ?_
        exact v_iret dX12_duel_39 rfl (Nat.zero_le _) (Nat.zero_le _) ⟨rfl, hf5, _, _, rfl, hp4, w⟩
      · replace w := w.2 c12
        refine v_iload dX12_duel_27 rfl ?_
        obtain ⟨q13, w⟩ := w
        refine v_i2lI dX12_duel_29 q13.1 q13.2 ?_
        refine v_lconstI (w := 0) dX12_duel_30 rfl ?_
        refine v_lconstI (w := 1) dX12_duel_31 rfl ?_
        refine v_callSp dX12_duel_32 ml_X12_175 (sp_X12_in (v := a3) (lo := 0) (hi := 1) (r32_64 q13) (by decide) (by decide)) rfl rfl (Nat.le_of_ble_eq_true rfl) (Nat.le_of_ble_eq_true rfl) (Nat.zero_le _) (Nat.zero_le _) ?_
        refine v_ifneB (tgt := 40) dX12_duel_35 (by decide) (fun c14 => ?_) (fun c14 => ?_)
        · replace w := w.1 c14
          refine v_aload_n dX12_duel_40 rfl ?_
          refine v_iload_n dX12_duel_41 rfl ?_
          refine v_callVVw dX12_duel_42 ml_X12_515 (so_X12_layWorks hn hp4  w) ((hp4 77 (by decide)).trans (ent_77 _)) rfl (s_lt hn rfl) rfl rfl (Nat.le_of_ble_eq_true rfl) (Nat.le_of_ble_eq_true rfl) (Nat.zero_le _) (Nat.zero_le _) (fun X16 h17 hp19 hf18 w => ?_)
          have hf20 := Fr.trans hf5 hf18
          refine v_iload_n dX12_duel_45 rfl ?_
          refine v_istore dX12_duel_46 (Nat.le_of_ble_eq_true rfl) ?_
          refine v_pick [1, 2, 3, 4, 5, 0] rfl ?_
          obtain ⟨I23, m24, wi27, wl26⟩ := w
          have hL28 : ∀ (N31 : Nat) (x21 : Int) (X22 : XT) (h32 : Nat → sE), m24 x21 X22 < N31 → I23 x21 X22 → Pic X22 h32 → Fr h h32 → V (m_X12_duel, 9, 0, 0, n, pIw n h Q, s_G0) 0 0 n h32 48 [(0, .ref 77), (1, .int (iI a0)), (2, .int (iI a1)), (3, .int (iI a2)), (4, .int (iI a3)), (5, .int (iI x21))] [] := by
            intro N31
            induction N31 with
            | zero => intro x21 X22 h32 hm29; exact absurd hm29 (Nat.not_lt_zero _)
            | succ N31 ih25 =>
              intro x21 X22 h32 hm29 hI30 hp33 hf34
              have w := wl26 x21 X22 hI30
              refine v_iload dX12_duel_48 rfl ?_
              obtain ⟨q35, w⟩ := w
              refine v_if_ltI (tgt := 155) dX12_duel_50 (by decide) q35.1 q35.2 (fun c36 => ?_) (fun c36 => ?_)
              · replace w := w.1 c36
                refine v_aload_n dX12_duel_155 rfl ?_
                refine v_iload_n dX12_duel_156 rfl ?_
                refine v_callVIr dX12_duel_157 ml_X12_464 (so_X12_beginsAt hn hp33  w) ((hp33 77 (by decide)).trans (ent_77 _)) rfl (s_lt hn rfl) rfl rfl (Nat.le_of_ble_eq_true rfl) (Nat.le_of_ble_eq_true rfl) (Nat.zero_le _) (Nat.zero_le _) (fun v37 w => ?_)
                refine v_istore dX12_duel_160 (Nat.le_of_ble_eq_true rfl) ?_
                refine v_iload dX12_duel_162 rfl ?_
                replace w := w (V (m_X12_duel, 9, 0, 0, n, pIw n h Q, s_G0) 0 0 n h32 181 [(0, .ref 77), (4, .int (iI a3)), (5, .int (iI v37))] []) (by
                  intro  w
                  refine v_iload dX12_duel_181 rfl ?_
                  refine v_if_neI (tgt := 204) dX12_duel_183 (by decide) q13.1 q13.2 (fun c44 => ?_) (fun c44 => ?_)
                  · replace w := w.1 c44
                    refine v_iconstI dX12_duel_204 ?_
                    exact v_iret dX12_duel_205 rfl (Nat.zero_le _) (Nat.zero_le _) ⟨rfl, hf34, _, _, rfl, hp33, w⟩
                  · replace w := w.2 c44
                    refine v_aload_n dX12_duel_186 rfl ?_
                    refine v_get dX12_duel_187 fl_X12_157 ((hp33 77 (by decide)).trans (ent_77 _)) rfl (s_lt hn rfl) ?_
                    refine v_iload dX12_duel_190 rfl ?_
                    obtain ⟨q45, w⟩ := w
                    refine v_zaldI dX12_duel_192 ((hp33 112 (by decide)).trans (ent_112 _)) (s_lt hn rfl) q45.1 q45.2 (ix_le q45.2 (by decide)) ?_
                    obtain ⟨q46, w⟩ := w
                    refine v_if_eqI (tgt := 200) dX12_duel_193 (by decide) q46.1 q46.2 (fun c47 => ?_) (fun c47 => ?_)
                    · replace w := w.1 c47
                      refine v_iconstI dX12_duel_200 ?_
                      refine v_goto (tgt := 205) dX12_duel_201 (by decide) ?_
                      exact v_iret dX12_duel_205 rfl (Nat.zero_le _) (Nat.zero_le _) ⟨rfl, hf34, _, _, rfl, hp33, w⟩
                    · replace w := w.2 c47
                      refine v_iconstI dX12_duel_196 ?_
                      refine v_goto (tgt := 205) dX12_duel_197 (by decide) ?_
                      exact v_iret dX12_duel_205 rfl (Nat.zero_le _) (Nat.zero_le _) ⟨rfl, hf34, _, _, rfl, hp33, w⟩
                )
                refine v_if_eqI (tgt := 181) dX12_duel_164 (by decide) q13.1 q13.2 (fun c48 => ?_) (fun c48 => ?_)
                · replace w := w.1 c48
                  refine v_pick [1, 5, 0] rfl ?_
                  exact w
                · replace w := w.2 c48
                  refine v_aload_n dX12_duel_167 rfl ?_
                  refine v_get dX12_duel_168 fl_X12_157 ((hp33 77 (by decide)).trans (ent_77 _)) rfl (s_lt hn rfl) ?_
                  refine v_iload dX12_duel_171 rfl ?_
                  obtain ⟨q49, w⟩ := w
                  refine v_zaldI dX12_duel_173 ((hp33 112 (by decide)).trans (ent_112 _)) (s_lt hn rfl) q49.1 q49.2 (ix_le q49.2 (by decide)) ?_
                  obtain ⟨q50, w⟩ := w
                  refine v_if_eqI (tgt := 181) dX12_duel_174 (by decide) q50.1 q50.2 (fun c51 => ?_) (fun c51 => ?_)
                  · replace w := w.1 c51
                    refine v_pick [1, 5, 0] rfl ?_
                    exact w
                  · replace w := w.2 c51
                    refine v_iload_n dX12_duel_177 rfl ?_
                    refine v_if_neI (tgt := 206) dX12_duel_178 (by decide) q11.1 q11.2 (fun c52 => ?_) (fun c52 => ?_)
                    · replace w := w.1 c52
                      refine v_iconstI dX12_duel_206 ?_
                      refine v_istore dX12_duel_207 (Nat.le_of_ble_eq_true rfl) ?_
                      refine v_pick [2, 3, 1, 0] rfl ?_
                      obtain ⟨I54, m55, wi58, wl57⟩ := w
                      have hL59 : ∀ (N62 : Nat) (x53 : Int), m55 x53 < N62 → I54 x53 → V (m_X12_duel, 9, 0, 0, n, pIw n h Q, s_G0) 0 0 n h32 209 [(0, .ref 77), (1, .int (iI a0)), (5, .int (iI v37)), (6, .int (iI x53))] [] := by
                        intro N62
                        induction N62 with
                        | zero => intro x53  hm60; exact absurd hm60 (Nat.not_lt_zero _)
                        | succ N62 ih56 =>
                          intro x53  hm60 hI61
                          have w := wl57 x53 hI61
                          refine v_aload_n dX12_duel_209 rfl ?_
                          refine v_iload_n dX12_duel_210 rfl ?_
                          refine v_iconstI dX12_duel_211 ?_
                          refine v_iload dX12_duel_212 rfl ?_
                          refine v_iload dX12_duel_214 rfl ?_
                          refine v_callVIr dX12_duel_216 ml_X12_579 (so_X12_isWon hn hp33  w) ((hp33 77 (by decide)).trans (ent_77 _)) rfl (s_lt hn rfl) rfl rfl (Nat.le_of_ble_eq_true rfl) (Nat.le_of_ble_eq_true rfl) (Nat.zero_le _) (Nat.zero_le _) (fun v63 w => ?_)
                          obtain ⟨q69, w⟩ := w
                          refine v_if_neI (tgt := 228) dX12_duel_219 (by decide) q69.1 q69.2 (fun c70 => ?_) (fun c70 => ?_)
                          · replace w := w.1 c70
                            refine v_iload dX12_duel_228 rfl ?_
                            exact v_iret dX12_duel_230 rfl (Nat.zero_le _) (Nat.zero_le _) ⟨rfl, hf34, _, _, rfl, hp33, w⟩
                          · replace w := w.2 c70
                            refine v_iincI dX12_duel_222 rfl (Nat.le_of_ble_eq_true rfl) ?_
                            refine v_goto (tgt := 209) dX12_duel_225 (by decide) ?_
                            refine v_pick [1, 2, 3, 0] rfl ?_
                            exact ih56 _ (Nat.lt_of_lt_of_le w.2 (Nat.le_of_lt_succ hm60)) w.1
                      exact hL59 _ _ (Nat.lt_succ_self _) wi58
                    · replace w := w.2 c52
                      refine v_pick [1, 5, 0] rfl ?_
                      exact w
              · replace w := w.2 c36
                refine v_iconstI dX12_duel_53 ?_
                refine v_istore dX12_duel_54 (Nat.le_of_ble_eq_true rfl) ?_
                refine v_pick [1, 2, 3, 4, 5, 6, 0] rfl ?_
                obtain ⟨I73, m74, wi77, wl76⟩ := w
                have hL78 : ∀ (N81 : Nat) (x71 : Int) (X72 : XT) (h82 : Nat → sE), m74 x71 X72 < N81 → I73 x71 X72 → Pic X72 h82 → Fr h h82 → V (m_X12_duel, 9, 0, 0, n, pIw n h Q, s_G0) 0 0 n h82 56 [(0, .ref 77), (1, .int (iI a0)), (2, .int (iI a1)), (3, .int (iI a2)), (4, .int (iI a3)), (5, .int (iI x21)), (6, .int (iI x71))] [] := by
                  intro N81
                  induction N81 with
                  | zero => intro x71 X72 h82 hm79; exact absurd hm79 (Nat.not_lt_zero _)
                  | succ N81 ih75 =>
                    intro x71 X72 h82 hm79 hI80 hp83 hf84
                    have w := wl76 x71 X72 hI80
                    refine v_iload dX12_duel_56 rfl ?_
                    refine v_sipushI dX12_duel_58 rfl ?_
                    obtain ⟨q85, w⟩ := w
                    refine v_icmp_geI (tgt := 149) dX12_duel_61 (by decide) q85.1 q85.2 (by decide) (by decide) (fun c86 => ?_) (fun c86 => ?_)
                    · replace w := w.1 c86
                      refine v_iincI dX12_duel_149 rfl (Nat.le_of_ble_eq_true rfl) ?_
                      refine v_goto (tgt := 48) dX12_duel_152 (by decide) ?_
                      refine v_pick [1, 2, 3, 4, 5, 0] rfl ?_
                      exact ih25 _ _ _ (Nat.lt_of_lt_of_le w.2 (Nat.le_of_lt_succ hm29)) w.1 hp83 hf84
                    · replace w := w.2 c86
                      refine v_iload dX12_duel_64 rfl ?_
                      refine v_iload_n dX12_duel_66 rfl ?_
                      replace w := w (fun (v87 : Int) => V (m_X12_duel, 9, 0, 0, n, pIw n h Q, s_G0) 0 0 n h82 86 [(0, .ref 77), (1, .int (iI a0)), (2, .int (iI a1)), (3, .int (iI a2)), (4, .int (iI a3)), (5, .int (iI x21)), (6, .int (iI x71))] [.int (iI v87)]) (by
                        intro v87 w
                        refine v_istore dX12_duel_86 (Nat.le_of_ble_eq_true rfl) ?_
                        refine v_iconstI dX12_duel_88 ?_
                        refine v_istore dX12_duel_89 (Nat.le_of_ble_eq_true rfl) ?_
                        refine v_pick [2, 3, 4, 5, 6, 7, 8, 1, 0] rfl ?_
                        obtain ⟨I91, m92, wi95, wl94⟩ := w
                        have hL96 : ∀ (N99 : Nat) (x89 : Int) (x90 : Int), m92 x89 x90 < N99 → I91 x89 x90 → V (m_X12_duel, 9, 0, 0, n, pIw n h Q, s_G0) 0 0 n h82 91 [(0, .ref 77), (1, .int (iI a0)), (2, .int (iI a1)), (3, .int (iI a2)), (4, .int (iI a3)), (5, .int (iI x21)), (6, .int (iI x71)), (7, .int (iI x89)), (8, .int (iI x90))] [] := by
                          intro N99
                          induction N99 with
                          | zero => intro x89 x90  hm97; exact absurd hm97 (Nat.not_lt_zero _)
                          | succ N99 ih93 =>
                            intro x89 x90  hm97 hI98
                            have w := wl94 x89 x90 hI98
                            refine v_iload dX12_duel_91 rfl ?_
                            refine v_iconstI dX12_duel_93 ?_
                            replace w := w (V (m_X12_duel, 9, 0, 0, n, pIw n h Q, s_G0) 0 0 n h82 127 [(0, .ref 77), (1, .int (iI a0)), (2, .int (iI a1)), (3, .int (iI a2)), (4, .int (iI a3)), (5, .int (iI x21)), (6, .int (iI x71)), (7, .int (iI x89))] []) (by
                              intro  w
                              refine v_aload_n dX12_duel_127 rfl ?_
                              refine v_get dX12_duel_128 fl_X12_157 ((hp83 77 (by decide)).trans (ent_77 _)) rfl (s_lt hn rfl) ?_
                              refine v_sipushI dX12_duel_131 rfl ?_
                              refine v_iload dX12_duel_134 rfl ?_
                              refine v_imulI dX12_duel_136 ?_
                              refine v_iload dX12_duel_137 rfl ?_
                              refine v_iaddI dX12_duel_139 ?_
                              refine v_iload dX12_duel_140 rfl ?_
                              obtain ⟨q101, w⟩ := w
                              obtain ⟨q102, w⟩ := w
                              refine v_zastI dX12_duel_142 ((hp83 112 (by decide)).trans (ent_112 _)) (s_lt hn rfl) q102.1 q102.2 (ix_le q102.2 (by decide)) q101 (fun h103 E104 F105 => ?_)
                              have hp106 := pic_st hp83 (show h103 112 = ent 112 (uI _ ((576 * x21) + x71) x89) from E104) F105
                              have hf107 := Fr.up (c := 112) hf84 F105 rfl
                              refine v_iincI dX12_duel_143 rfl (Nat.le_of_ble_eq_true rfl) ?_
                              refine v_goto (tgt := 56) dX12_duel_146 (by decide) ?_
                              refine v_pick [1, 2, 3, 4, 5, 6, 0] rfl ?_
                              exact ih75 _ _ _ (Nat.lt_of_lt_of_le w.2 (Nat.le_of_lt_succ hm79)) w.1 hp106 hf107
                            )
                            obtain ⟨q108, w⟩ := w
                            refine v_icmp_geI (tgt := 127) dX12_duel_94 (by decide) q108.1 q108.2 (by decide) (by decide) (fun c109 => ?_) (fun c109 => ?_)
                            · replace w := w.1 c109
                              refine v_pick [0, 1, 2, 3, 4, 5, 6, 7] rfl ?_
                              exact w
                            · replace w := w.2 c109
                              refine v_iload dX12_duel_97 rfl ?_
                              refine v_iload_n dX12_duel_99 rfl ?_
                              refine v_icmp_geI (tgt := 127) dX12_duel_100 (by decide) q35.1 q35.2 q11.1 q11.2 (fun c110 => ?_) (fun c110 => ?_)
                              · replace w := w.1 c110
                                refine v_pick [0, 1, 2, 3, 4, 5, 6, 7] rfl ?_
                                exact w
                              · replace w := w.2 c110
                                refine v_iload dX12_duel_103 rfl ?_
                                obtain ⟨q111, w⟩ := w
                                refine v_if_neI (tgt := 127) dX12_duel_105 (by decide) q111.1 q111.2 (fun c112 => ?_) (fun c112 => ?_)
                                · replace w := w.1 c112
                                  refine v_pick [0, 1, 2, 3, 4, 5, 6, 7] rfl ?_
                                  exact w
                                · replace w := w.2 c112
                                  refine v_aload_n dX12_duel_108 rfl ?_
                                  refine v_iload_n dX12_duel_109 rfl ?_
                                  refine v_iload dX12_duel_110 rfl ?_
                                  refine v_iload dX12_duel_112 rfl ?_
                                  refine v_iload dX12_duel_114 rfl ?_
                                  refine v_callVIr dX12_duel_116 ml_X12_579 (so_X12_isWon hn hp83  w) ((hp83 77 (by decide)).trans (ent_77 _)) rfl (s_lt hn rfl) rfl rfl (Nat.le_of_ble_eq_true rfl) (Nat.le_of_ble_eq_true rfl) (Nat.zero_le _) (Nat.zero_le _) (fun v113 w => ?_)
                                  refine v_istore dX12_duel_119 (Nat.le_of_ble_eq_true rfl) ?_
                                  refine v_iincI dX12_duel_121 rfl (Nat.le_of_ble_eq_true rfl) ?_
                                  refine v_goto (tgt := 91) dX12_duel_124 (by decide) ?_
                                  refine v_pick [2, 3, 4, 5, 6, 7, 8, 1, 0] rfl ?_
                                  exact ih93 _ _ (Nat.lt_of_lt_of_le w.2 (Nat.le_of_lt_succ hm97)) w.1
                        exact hL96 _ _ _ (Nat.lt_succ_self _) wi95
                      )
                      refine v_icmp_neI (tgt := 85) dX12_duel_67 (by decide) q35.1 q35.2 q11.1 q11.2 (fun c119 => ?_) (fun c119 => ?_)
                      · replace w := w.1 c119
                        refine v_iconstI dX12_duel_85 ?_
                        exact w
                      · replace w := w.2 c119
                        refine v_aload_n dX12_duel_70 rfl ?_
                        refine v_iload_n dX12_duel_71 rfl ?_
                        refine v_iload dX12_duel_72 rfl ?_
                        refine v_iload_n dX12_duel_74 rfl ?_
                        refine v_callVIr dX12_duel_75 ml_X12_475 (so_X12_shades hn hp83  w) ((hp83 77 (by decide)).trans (ent_77 _)) rfl (s_lt hn rfl) rfl rfl (Nat.le_of_ble_eq_true rfl) (Nat.le_of_ble_eq_true rfl) (Nat.zero_le _) (Nat.zero_le _) (fun v120 w => ?_)
                        obtain ⟨q126, w⟩ := w
                        refine v_if_eqI (tgt := 85) dX12_duel_78 (by decide) q126.1 q126.2 (fun c127 => ?_) (fun c127 => ?_)
                        · replace w := w.1 c127
                          refine v_iconstI dX12_duel_85 ?_
                          exact w
                        · replace w := w.2 c127
                          refine v_iconstI dX12_duel_81 ?_
                          refine v_goto (tgt := 86) dX12_duel_82 (by decide) ?_
                          exact w
                exact hL78 _ _ _ _ (Nat.lt_succ_self _) wi77 hp33 hf34
          exact hL28 _ _ _ _ (Nat.lt_succ_self _) wi27 hp19 hf20
        · replace w := w.2 c14
          refine v_iconstI dX12_duel_38 ?_
          exact v_iret dX12_duel_39 rfl (Nat.zero_le _) (Nat.zero_le _) ⟨rfl, hf5, _, _, rfl, hp4, w⟩
theorem dX12_draw_0 : decode cX12_draw 0 = .ok (.aload_n 0, 1) := by decide +kernel
theorem dX12_draw_1 : decode cX12_draw 1 = .ok (.aload_n 0, 1) := by decide +kernel
theorem dX12_draw_2 : decode cX12_draw 2 = .ok (.getfield 618, 3) := by decide +kernel
theorem dX12_draw_5 : decode cX12_draw 5 = .ok (.ldc2_w 621, 3) := by decide +kernel
theorem dX12_draw_8 : decode cX12_draw 8 = .ok (.lmul, 1) := by decide +kernel
theorem dX12_draw_9 : decode cX12_draw 9 = .ok (.ldc2_w 623, 3) := by decide +kernel
theorem dX12_draw_12 : decode cX12_draw 12 = .ok (.ladd, 1) := by decide +kernel
theorem dX12_draw_13 : decode cX12_draw 13 = .ok (.ldc2_w 625, 3) := by decide +kernel
theorem dX12_draw_16 : decode cX12_draw 16 = .ok (.lrem, 1) := by decide +kernel
theorem dX12_draw_17 : decode cX12_draw 17 = .ok (.putfield 618, 3) := by decide +kernel
theorem dX12_draw_20 : decode cX12_draw 20 = .ok (.aload_n 0, 1) := by decide +kernel
theorem dX12_draw_21 : decode cX12_draw 21 = .ok (.getfield 618, 3) := by decide +kernel
theorem dX12_draw_24 : decode cX12_draw 24 = .ok (.iload_n 1, 1) := by decide +kernel
theorem dX12_draw_25 : decode cX12_draw 25 = .ok (.i2l, 1) := by decide +kernel
theorem dX12_draw_26 : decode cX12_draw 26 = .ok (.lrem, 1) := by decide +kernel
theorem dX12_draw_27 : decode cX12_draw 27 = .ok (.l2i, 1) := by decide +kernel
theorem dX12_draw_28 : decode cX12_draw 28 = .ok (.ireturn, 1) := by decide +kernel
def w_X12_draw (a0 : Int) (X : XT) (Q : Int → XT → Prop) : Prop :=
  R64 (((X 77 61) * 1103) + 12345) ∧ (0 ≤ (((X 77 61) * 1103) + 12345)) ∧ R32 a0 ∧ R64 ((x_st X 77 61 ((((X 77 61) * 1103) + 12345) % 1000003)) 77 61) ∧ (0 ≤ ((x_st X 77 61 ((((X 77 61) * 1103) + 12345) % 1000003)) 77 61)) ∧ (0 < a0) ∧ Q (((x_st X 77 61 ((((X 77 61) * 1103) + 12345) % 1000003)) 77 61) % a0) (x_st X 77 61 ((((X 77 61) * 1103) + 12345) % 1000003))
set_option maxRecDepth 20000 in
theorem so_X12_draw {n : Nat} {h : Nat → sE} {X : XT} {a0 : Int} {Q : Int → XT → Prop} (hn : 115 ≤ n) (hp : Pic X h) (w : w_X12_draw  a0 X Q) : Sp m_X12_draw 0 0 0 [.ref 77, .int (iI a0)] n h (pIw n h Q) := by
  unfold w_X12_draw at w
  refine Sp.ofV (by decide +kernel) (Nat.le_of_ble_eq_true rfl) ?_
  have hf : Fr h h := fun _ _ => rfl
  refine v_aload_n dX12_draw_0 rfl ?_
  refine v_aload_n dX12_draw_1 rfl ?_
  refine v_get dX12_draw_2 fl_X12_618 ((hp 77 (by decide)).trans (ent_77 _)) rfl (s_lt hn rfl) ?_
  refine v_ldc2I 1103 dX12_draw_5 k_X12_621 rfl ?_
  refine v_lmulI dX12_draw_8 ?_
  refine v_ldc2I 12345 dX12_draw_9 k_X12_623 rfl ?_
  refine v_laddI dX12_draw_12 ?_
  refine v_ldc2I 1000003 dX12_draw_13 k_X12_625 rfl ?_
  obtain ⟨q1, q2, w⟩ := w
  refine v_lremI dX12_draw_16 q2 q1.2 (by decide) (by decide) ?_
  refine v_put dX12_draw_17 fl_X12_618 ((hp 77 (by decide)).trans (ent_77 _)) (s_lt hn rfl) (Nat.le_of_ble_eq_true rfl) (fun _ => ⟨rfl, rfl⟩) trivial (fun h3 E4 F5 => ?_)
  have hp6 := pic_st hp (show h3 77 = ent 77 (uI _ 61 ((((X 77 61) * 1103) + 12345) % 1000003)) from E4) F5
  have hf7 := Fr.up (c := 77) hf F5 rfl
  refine v_aload_n dX12_draw_20 rfl ?_
  refine v_get dX12_draw_21 fl_X12_618 ((hp6 77 (by decide)).trans (ent_77 _)) rfl (s_lt hn rfl) ?_
  refine v_iload_n dX12_draw_24 rfl ?_
  obtain ⟨q8, w⟩ := w
  refine v_i2lI dX12_draw_25 q8.1 q8.2 ?_
  obtain ⟨q9, q10, q11, w⟩ := w
  refine v_lremI dX12_draw_26 q10 q9.2 q11 (r32_64 q8).2 ?_
  refine v_l2iI dX12_draw_27 ?_
  exact v_iret dX12_draw_28 rfl (Nat.zero_le _) (Nat.zero_le _) ⟨rfl, hf7, _, _, rfl, hp6, w⟩
theorem dX12_drawDay_0 : decode cX12_drawDay 0 = .ok (.iconst 0, 1) := by decide +kernel
theorem dX12_drawDay_1 : decode cX12_drawDay 1 = .ok (.istore_n 1, 1) := by decide +kernel
theorem dX12_drawDay_2 : decode cX12_drawDay 2 = .ok (.iload_n 1, 1) := by decide +kernel
theorem dX12_drawDay_3 : decode cX12_drawDay 3 = .ok (.aload_n 0, 1) := by decide +kernel
theorem dX12_drawDay_4 : decode cX12_drawDay 4 = .ok (.getfield 13, 3) := by decide +kernel
theorem dX12_drawDay_7 : decode cX12_drawDay 7 = .ok (.iconst 0, 1) := by decide +kernel
theorem dX12_drawDay_8 : decode cX12_drawDay 8 = .ok (.iaload, 1) := by decide +kernel
theorem dX12_drawDay_9 : decode cX12_drawDay 9 = .ok (.if_icmp .ge 23, 3) := by decide +kernel
theorem dX12_drawDay_12 : decode cX12_drawDay 12 = .ok (.aload_n 0, 1) := by decide +kernel
theorem dX12_drawDay_13 : decode cX12_drawDay 13 = .ok (.getfield 102, 3) := by decide +kernel
theorem dX12_drawDay_16 : decode cX12_drawDay 16 = .ok (.bipush 12, 2) := by decide +kernel
theorem dX12_drawDay_18 : decode cX12_drawDay 18 = .ok (.iload_n 1, 1) := by decide +kernel
theorem dX12_drawDay_19 : decode cX12_drawDay 19 = .ok (.imul, 1) := by decide +kernel
theorem dX12_drawDay_20 : decode cX12_drawDay 20 = .ok (.aload_n 0, 1) := by decide +kernel
theorem dX12_drawDay_21 : decode cX12_drawDay 21 = .ok (.iload_n 1, 1) := by decide +kernel
theorem dX12_drawDay_22 : decode cX12_drawDay 22 = .ok (.invokevirtual 464, 3) := by decide +kernel
theorem dX12_drawDay_25 : decode cX12_drawDay 25 = .ok (.iastore, 1) := by decide +kernel
theorem dX12_drawDay_26 : decode cX12_drawDay 26 = .ok (.iinc 1 1, 3) := by decide +kernel
theorem dX12_drawDay_29 : decode cX12_drawDay 29 = .ok (.goto (-27), 3) := by decide +kernel
theorem dX12_drawDay_32 : decode cX12_drawDay 32 = .ok (.iconst 0, 1) := by decide +kernel
theorem dX12_drawDay_33 : decode cX12_drawDay 33 = .ok (.istore_n 1, 1) := by decide +kernel
theorem dX12_drawDay_34 : decode cX12_drawDay 34 = .ok (.iload_n 1, 1) := by decide +kernel
theorem dX12_drawDay_35 : decode cX12_drawDay 35 = .ok (.bipush 11, 2) := by decide +kernel
theorem dX12_drawDay_37 : decode cX12_drawDay 37 = .ok (.if_icmp .ge 95, 3) := by decide +kernel
theorem dX12_drawDay_40 : decode cX12_drawDay 40 = .ok (.iconst 0, 1) := by decide +kernel
theorem dX12_drawDay_41 : decode cX12_drawDay 41 = .ok (.istore_n 2, 1) := by decide +kernel
theorem dX12_drawDay_42 : decode cX12_drawDay 42 = .ok (.iload_n 2, 1) := by decide +kernel
theorem dX12_drawDay_43 : decode cX12_drawDay 43 = .ok (.aload_n 0, 1) := by decide +kernel
theorem dX12_drawDay_44 : decode cX12_drawDay 44 = .ok (.getfield 13, 3) := by decide +kernel
theorem dX12_drawDay_47 : decode cX12_drawDay 47 = .ok (.iconst 0, 1) := by decide +kernel
theorem dX12_drawDay_48 : decode cX12_drawDay 48 = .ok (.iaload, 1) := by decide +kernel
theorem dX12_drawDay_49 : decode cX12_drawDay 49 = .ok (.if_icmp .ge 77, 3) := by decide +kernel
theorem dX12_drawDay_52 : decode cX12_drawDay 52 = .ok (.aload_n 0, 1) := by decide +kernel
theorem dX12_drawDay_53 : decode cX12_drawDay 53 = .ok (.getfield 102, 3) := by decide +kernel
theorem dX12_drawDay_56 : decode cX12_drawDay 56 = .ok (.bipush 12, 2) := by decide +kernel
theorem dX12_drawDay_58 : decode cX12_drawDay 58 = .ok (.iload_n 2, 1) := by decide +kernel
theorem dX12_drawDay_59 : decode cX12_drawDay 59 = .ok (.imul, 1) := by decide +kernel
theorem dX12_drawDay_60 : decode cX12_drawDay 60 = .ok (.iload_n 1, 1) := by decide +kernel
theorem dX12_drawDay_61 : decode cX12_drawDay 61 = .ok (.iadd, 1) := by decide +kernel
theorem dX12_drawDay_62 : decode cX12_drawDay 62 = .ok (.iaload, 1) := by decide +kernel
theorem dX12_drawDay_63 : decode cX12_drawDay 63 = .ok (.istore_n 3, 1) := by decide +kernel
theorem dX12_drawDay_64 : decode cX12_drawDay 64 = .ok (.aload_n 0, 1) := by decide +kernel
theorem dX12_drawDay_65 : decode cX12_drawDay 65 = .ok (.getfield 102, 3) := by decide +kernel
theorem dX12_drawDay_68 : decode cX12_drawDay 68 = .ok (.bipush 12, 2) := by decide +kernel
theorem dX12_drawDay_70 : decode cX12_drawDay 70 = .ok (.iload_n 2, 1) := by decide +kernel
theorem dX12_drawDay_71 : decode cX12_drawDay 71 = .ok (.imul, 1) := by decide +kernel
theorem dX12_drawDay_72 : decode cX12_drawDay 72 = .ok (.iload_n 1, 1) := by decide +kernel
theorem dX12_drawDay_73 : decode cX12_drawDay 73 = .ok (.iadd, 1) := by decide +kernel
theorem dX12_drawDay_74 : decode cX12_drawDay 74 = .ok (.iconst 1, 1) := by decide +kernel
theorem dX12_drawDay_75 : decode cX12_drawDay 75 = .ok (.iadd, 1) := by decide +kernel
theorem dX12_drawDay_76 : decode cX12_drawDay 76 = .ok (.iload_n 3, 1) := by decide +kernel
theorem dX12_drawDay_77 : decode cX12_drawDay 77 = .ok (.iconst (-1), 1) := by decide +kernel
theorem dX12_drawDay_78 : decode cX12_drawDay 78 = .ok (.if_icmp .ne 7, 3) := by decide +kernel
theorem dX12_drawDay_81 : decode cX12_drawDay 81 = .ok (.iconst (-1), 1) := by decide +kernel
theorem dX12_drawDay_82 : decode cX12_drawDay 82 = .ok (.goto 37, 3) := by decide +kernel
theorem dX12_drawDay_85 : decode cX12_drawDay 85 = .ok (.aload_n 0, 1) := by decide +kernel
theorem dX12_drawDay_86 : decode cX12_drawDay 86 = .ok (.iload_n 2, 1) := by decide +kernel
theorem dX12_drawDay_87 : decode cX12_drawDay 87 = .ok (.iload_n 3, 1) := by decide +kernel
theorem dX12_drawDay_88 : decode cX12_drawDay 88 = .ok (.iload_n 1, 1) := by decide +kernel
theorem dX12_drawDay_89 : decode cX12_drawDay 89 = .ok (.aload_n 0, 1) := by decide +kernel
theorem dX12_drawDay_90 : decode cX12_drawDay 90 = .ok (.bipush 10, 2) := by decide +kernel
theorem dX12_drawDay_92 : decode cX12_drawDay 92 = .ok (.invokevirtual 627, 3) := by decide +kernel
theorem dX12_drawDay_95 : decode cX12_drawDay 95 = .ok (.aload_n 0, 1) := by decide +kernel
theorem dX12_drawDay_96 : decode cX12_drawDay 96 = .ok (.getfield 13, 3) := by decide +kernel
theorem dX12_drawDay_99 : decode cX12_drawDay 99 = .ok (.bipush 7, 2) := by decide +kernel
theorem dX12_drawDay_101 : decode cX12_drawDay 101 = .ok (.iaload, 1) := by decide +kernel
theorem dX12_drawDay_102 : decode cX12_drawDay 102 = .ok (.if_icmp .ge 7, 3) := by decide +kernel
theorem dX12_drawDay_105 : decode cX12_drawDay 105 = .ok (.iconst 1, 1) := by decide +kernel
theorem dX12_drawDay_106 : decode cX12_drawDay 106 = .ok (.goto 4, 3) := by decide +kernel
theorem dX12_drawDay_109 : decode cX12_drawDay 109 = .ok (.iconst 0, 1) := by decide +kernel
theorem dX12_drawDay_110 : decode cX12_drawDay 110 = .ok (.aload_n 0, 1) := by decide +kernel
theorem dX12_drawDay_111 : decode cX12_drawDay 111 = .ok (.iload_n 2, 1) := by decide +kernel
theorem dX12_drawDay_112 : decode cX12_drawDay 112 = .ok (.iload_n 1, 1) := by decide +kernel
theorem dX12_drawDay_113 : decode cX12_drawDay 113 = .ok (.invokevirtual 229, 3) := by decide +kernel
theorem dX12_drawDay_116 : decode cX12_drawDay 116 = .ok (.invokevirtual 467, 3) := by decide +kernel
theorem dX12_drawDay_119 : decode cX12_drawDay 119 = .ok (.iastore, 1) := by decide +kernel
theorem dX12_drawDay_120 : decode cX12_drawDay 120 = .ok (.iinc 2 1, 3) := by decide +kernel
theorem dX12_drawDay_123 : decode cX12_drawDay 123 = .ok (.goto (-81), 3) := by decide +kernel
theorem dX12_drawDay_126 : decode cX12_drawDay 126 = .ok (.iinc 1 1, 3) := by decide +kernel
theorem dX12_drawDay_129 : decode cX12_drawDay 129 = .ok (.goto (-95), 3) := by decide +kernel
theorem dX12_drawDay_132 : decode cX12_drawDay 132 = .ok (.return_, 1) := by decide +kernel
def w_X12_drawDay (X : XT) (Q : XT → Prop) : Prop :=
  ∃ (I3 : Int → XT → Prop) (m4 : Int → XT → Nat), I3 0 X ∧ ∀ (x1 : Int) (X2 : XT), I3 x1 X2 → R32 x1 ∧ R32 (X2 79 0) ∧ ((X2 79 0) ≤ x1 → ∃ (I20 : Int → XT → Prop) (m21 : Int → XT → Nat), I20 0 X2 ∧ ∀ (x18 : Int) (X19 : XT), I20 x18 X19 → R32 x18 ∧ (11 ≤ x18 → Q X19) ∧ (¬ 11 ≤ x18 → ∃ (I36 : Int → XT → Prop) (m37 : Int → XT → Nat), I36 0 X19 ∧ ∀ (x34 : Int) (X35 : XT), I36 x34 X35 → R32 x34 ∧ R32 (X35 79 0) ∧ ((X35 79 0) ≤ x34 → I20 (x18 + 1) X35 ∧ m21 (x18 + 1) X35 < m21 x18 X19) ∧ (¬ (X35 79 0) ≤ x34 → (0 ≤ ((12 * x34) + x18) ∧ ((12 * x34) + x18) < 60) ∧ R32 (X35 94 ((12 * x34) + x18)) ∧ (¬ (X35 94 ((12 * x34) + x18)) = (-1) → w_X12_draw  10 X35 (fun (v54 : Int) (X55 : XT) => ∀ J61 : Int → Prop, (∀ (v60 : Int), ((FLK (X55 79)) ∧ w_X12_goOn  x34 (X35 94 ((12 * x34) + x18)) x18 v60 (fRw (X55 79) x34 x18) X55 (fun (v63 : Int) (X64 : XT) => (0 ≤ (((12 * x34) + x18) + 1) ∧ (((12 * x34) + x18) + 1) < 60) ∧ I36 (x34 + 1) (x_st X64 94 (((12 * x34) + x18) + 1) v63) ∧ m37 (x34 + 1) (x_st X64 94 (((12 * x34) + x18) + 1) v63) < m37 x34 X35)) → J61 v60) → R32 v54 ∧ R32 (X55 79 7) ∧ ((X55 79 7) ≤ v54 → J61 0) ∧ (¬ (X55 79 7) ≤ v54 → J61 1))) ∧ ((X35 94 ((12 * x34) + x18)) = (-1) → (0 ≤ (((12 * x34) + x18) + 1) ∧ (((12 * x34) + x18) + 1) < 60) ∧ I36 (x34 + 1) (x_st X35 94 (((12 * x34) + x18) + 1) (-1)) ∧ m37 (x34 + 1) (x_st X35 94 (((12 * x34) + x18) + 1) (-1)) < m37 x34 X35)))) ∧ (¬ (X2 79 0) ≤ x1 → w_X12_beginsAt  x1 X2 (fun (v84 : Int) => (0 ≤ (12 * x1) ∧ (12 * x1) < 60) ∧ I3 (x1 + 1) (x_st X2 94 (12 * x1) v84) ∧ m4 (x1 + 1) (x_st X2 94 (12 * x1) v84) < m4 x1 X2))
set_option maxRecDepth 20000 in
theorem so_X12_drawDay {n : Nat} {h : Nat → sE} {X : XT} {Q : XT → Prop} (hn : 115 ≤ n) (hp : Pic X h) (w : w_X12_drawDay   X Q) : Sp m_X12_drawDay 9 0 0 [.ref 77] n h (pVw n h Q) := by
  unfold w_X12_drawDay at w
  refine Sp.ofV (by decide +kernel) (Nat.le_of_ble_eq_true rfl) ?_
  have hf : Fr h h := fun _ _ => rfl
  refine v_iconstI dX12_drawDay_0 ?_
  refine v_istore_n dX12_drawDay_1 (Nat.le_of_ble_eq_true rfl) ?_
  refine v_pick [1, 0] rfl ?_
  obtain ⟨I3, m4, wi7, wl6⟩ := w
  have hL8 : ∀ (N11 : Nat) (x1 : Int) (X2 : XT) (h12 : Nat → sE), m4 x1 X2 < N11 → I3 x1 X2 → Pic X2 h12 → Fr h h12 → V (m_X12_drawDay, 9, 0, 0, n, pVw n h Q, s_G0) 0 0 n h12 2 [(0, .ref 77), (1, .int (iI x1))] [] := by
    intro N11
    induction N11 with
    | zero => intro x1 X2 h12 hm9; exact absurd hm9 (Nat.not_lt_zero _)
    | succ N11 ih5 =>
      intro x1 X2 h12 hm9 hI10 hp13 hf14
      have w := wl6 x1 X2 hI10
      refine v_iload_n dX12_drawDay_2 rfl ?_
      refine v_aload_n dX12_drawDay_3 rfl ?_
      refine v_get dX12_drawDay_4 fl_X12_13 ((hp13 77 (by decide)).trans (ent_77 _)) rfl (s_lt hn rfl) ?_
      refine v_iconstI dX12_drawDay_7 ?_
      refine v_ialdI dX12_drawDay_8 ((hp13 79 (by decide)).trans (ent_79 _)) (s_lt hn rfl) (by decide) (by decide) (by decide) ?_
      obtain ⟨q15, q16, w⟩ := w
      refine v_icmp_geI (tgt := 32) dX12_drawDay_9 (by decide) q15.1 q15.2 q16.1 q16.2 (fun c17 => ?_) (fun c17 => ?_)
      · replace w := w.1 c17
        refine v_iconstI dX12_drawDay_32 ?_
        refine v_istore_n dX12_drawDay_33 (Nat.le_of_ble_eq_true rfl) ?_
        refine v_pick [1, 0] rfl ?_
        obtain ⟨I20, m21, wi24, wl23⟩ := w
        have hL25 : ∀ (N28 : Nat) (x18 : Int) (X19 : XT) (h29 : Nat → sE), m21 x18 X19 < N28 → I20 x18 X19 → Pic X19 h29 → Fr h h29 → V (m_X12_drawDay, 9, 0, 0, n, pVw n h Q, s_G0) 0 0 n h29 34 [(0, .ref 77), (1, .int (iI x18))] [] := by
          intro N28
          induction N28 with
          | zero => intro x18 X19 h29 hm26; exact absurd hm26 (Nat.not_lt_zero _)
          | succ N28 ih22 =>
            intro x18 X19 h29 hm26 hI27 hp30 hf31
            have w := wl23 x18 X19 hI27
            refine v_iload_n dX12_drawDay_34 rfl ?_
            refine v_bipushI dX12_drawDay_35 rfl ?_
            obtain ⟨q32, w⟩ := w
            refine v_icmp_geI (tgt := 132) dX12_drawDay_37 (by decide) q32.1 q32.2 (by decide) (by decide) (fun c33 => ?_) (fun c33 => ?_)
            · replace w := w.1 c33
              exact v_vret dX12_drawDay_132 rfl (Nat.zero_le _) (Nat.zero_le _) ⟨rfl, hf31, _, rfl, hp30, w⟩
            · replace w := w.2 c33
              refine v_iconstI dX12_drawDay_40 ?_
              refine v_istore_n dX12_drawDay_41 (Nat.le_of_ble_eq_true rfl) ?_
              refine v_pick [1, 2, 0] rfl ?_
              obtain ⟨I36, m37, wi40, wl39⟩ := w
              have hL41 : ∀ (N44 : Nat) (x34 : Int) (X35 : XT) (h45 : Nat → sE), m37 x34 X35 < N44 → I36 x34 X35 → Pic X35 h45 → Fr h h45 → V (m_X12_drawDay, 9, 0, 0, n, pVw n h Q, s_G0) 0 0 n h45 42 [(0, .ref 77), (1, .int (iI x18)), (2, .int (iI x34))] [] := by
                intro N44
                induction N44 with
                | zero => intro x34 X35 h45 hm42; exact absurd hm42 (Nat.not_lt_zero _)
                | succ N44 ih38 =>
                  intro x34 X35 h45 hm42 hI43 hp46 hf47
                  have w := wl39 x34 X35 hI43
                  refine v_iload_n dX12_drawDay_42 rfl ?_
                  refine v_aload_n dX12_drawDay_43 rfl ?_
                  refine v_get dX12_drawDay_44 fl_X12_13 ((hp46 77 (by decide)).trans (ent_77 _)) rfl (s_lt hn rfl) ?_
                  refine v_iconstI dX12_drawDay_47 ?_
                  refine v_ialdI dX12_drawDay_48 ((hp46 79 (by decide)).trans (ent_79 _)) (s_lt hn rfl) (by decide) (by decide) (by decide) ?_
                  obtain ⟨q48, q49, w⟩ := w
                  refine v_icmp_geI (tgt := 126) dX12_drawDay_49 (by decide) q48.1 q48.2 q49.1 q49.2 (fun c50 => ?_) (fun c50 => ?_)
                  · replace w := w.1 c50
                    refine v_iincI dX12_drawDay_126 rfl (Nat.le_of_ble_eq_true rfl) ?_
                    refine v_goto (tgt := 34) dX12_drawDay_129 (by decide) ?_
                    refine v_pick [1, 0] rfl ?_
                    exact ih22 _ _ _ (Nat.lt_of_lt_of_le w.2 (Nat.le_of_lt_succ hm26)) w.1 hp46 hf47
                  · replace w := w.2 c50
                    refine v_aload_n dX12_drawDay_52 rfl ?_
                    refine v_get dX12_drawDay_53 fl_X12_102 ((hp46 77 (by decide)).trans (ent_77 _)) rfl (s_lt hn rfl) ?_
                    refine v_bipushI dX12_drawDay_56 rfl ?_
                    refine v_iload_n dX12_drawDay_58 rfl ?_
                    refine v_imulI dX12_drawDay_59 ?_
                    refine v_iload_n dX12_drawDay_60 rfl ?_
                    refine v_iaddI dX12_drawDay_61 ?_
                    obtain ⟨q51, w⟩ := w
                    refine v_ialdI dX12_drawDay_62 ((hp46 94 (by decide)).trans (ent_94 _)) (s_lt hn rfl) q51.1 q51.2 (ix_le q51.2 (by decide)) ?_
                    refine v_istore_n dX12_drawDay_63 (Nat.le_of_ble_eq_true rfl) ?_
                    refine v_aload_n dX12_drawDay_64 rfl ?_
                    refine v_get dX12_drawDay_65 fl_X12_102 ((hp46 77 (by decide)).trans (ent_77 _)) rfl (s_lt hn rfl) ?_
                    refine v_bipushI dX12_drawDay_68 rfl ?_
                    refine v_iload_n dX12_drawDay_70 rfl ?_
                    refine v_imulI dX12_drawDay_71 ?_
                    refine v_iload_n dX12_drawDay_72 rfl ?_
                    refine v_iaddI dX12_drawDay_73 ?_
                    refine v_iconstI dX12_drawDay_74 ?_
                    refine v_iaddI dX12_drawDay_75 ?_
                    refine v_iload_n dX12_drawDay_76 rfl ?_
                    refine v_iconstI dX12_drawDay_77 ?_
                    obtain ⟨q52, w⟩ := w
                    refine v_icmp_neI (tgt := 85) dX12_drawDay_78 (by decide) q52.1 q52.2 (by decide) (by decide) (fun c53 => ?_) (fun c53 => ?_)
                    · replace w := w.1 c53
                      refine v_aload_n dX12_drawDay_85 rfl ?_
                      refine v_iload_n dX12_drawDay_86 rfl ?_
                      refine v_iload_n dX12_drawDay_87 rfl ?_
                      refine v_iload_n dX12_drawDay_88 rfl ?_
                      refine v_aload_n dX12_drawDay_89 rfl ?_
                      refine v_bipushI dX12_drawDay_90 rfl ?_
                      refine v_callVIw dX12_drawDay_92 ml_X12_627 (so_X12_draw hn hp46  w) ((hp46 77 (by decide)).trans (ent_77 _)) rfl (s_lt hn rfl) rfl rfl (Nat.le_of_ble_eq_true rfl) (Nat.le_of_ble_eq_true rfl) (Nat.zero_le _) (Nat.zero_le _) (fun v54 X55 h56 hp58 hf57 w => ?_)
                      have hf59 := Fr.trans hf47 hf57
                      refine v_aload_n dX12_drawDay_95 rfl ?_
                      refine v_get dX12_drawDay_96 fl_X12_13 ((hp58 77 (by decide)).trans (ent_77 _)) rfl (s_lt hn rfl) ?_
                      refine v_bipushI dX12_drawDay_99 rfl ?_
                      refine v_ialdI dX12_drawDay_101 ((hp58 79 (by decide)).trans (ent_79 _)) (s_lt hn rfl) (by decide) (by decide) (by decide) ?_
                      replace w := w (fun (v60 : Int) => V (m_X12_drawDay, 9, 0, 0, n, pVw n h Q, s_G0) 0 0 n h56 110 [(0, .ref 77), (1, .int (iI x18)), (2, .int (iI x34))] [.int (iI v60), .int (iI x18), .int (iI (X35 94 ((12 * x34) + x18))), .int (iI x34), .ref 77, .int (iI (((12 * x34) + x18) + 1)), .ref 94]) (by
                        intro v60 w
                        refine v_aload_n dX12_drawDay_110 rfl ?_
                        refine v_iload_n dX12_drawDay_111 rfl ?_
                        refine v_iload_n dX12_drawDay_112 rfl ?_
                        obtain ⟨q62, w⟩ := w
                        refine v_callVp dX12_drawDay_113 ml_X12_229 (sv_X12_flagOf (a := x34) (b := x18) (g77 := X55 77) (g79 := X55 79) hn (hp58 77 (by decide)) (hp58 79 (by decide)) q48 q32 q62) ((hp58 77 (by decide)).trans (ent_77 _)) rfl (s_lt hn rfl) rfl rfl (Nat.le_of_ble_eq_true rfl) (Nat.le_of_ble_eq_true rfl) (Nat.zero_le _) (Nat.zero_le _) ?_
                        refine v_callVIw dX12_drawDay_116 ml_X12_467 (so_X12_goOn hn hp58  w) ((hp58 77 (by decide)).trans (ent_77 _)) rfl (s_lt hn rfl) rfl rfl (Nat.le_of_ble_eq_true rfl) (Nat.le_of_ble_eq_true rfl) (Nat.zero_le _) (Nat.zero_le _) (fun v63 X64 h65 hp67 hf66 w => ?_)
                        have hf68 := Fr.trans hf59 hf66
                        obtain ⟨q69, w⟩ := w
                        refine v_iastI dX12_drawDay_119 ((hp67 94 (by decide)).trans (ent_94 _)) (s_lt hn rfl) q69.1 q69.2 (ix_le q69.2 (by decide)) (fun h70 E71 F72 => ?_)
                        have hp73 := pic_st hp67 (show h70 94 = ent 94 (uI _ (((12 * x34) + x18) + 1) v63) from E71) F72
                        have hf74 := Fr.up (c := 94) hf68 F72 rfl
                        refine v_iincI dX12_drawDay_120 rfl (Nat.le_of_ble_eq_true rfl) ?_
                        refine v_goto (tgt := 42) dX12_drawDay_123 (by decide) ?_
                        refine v_pick [1, 2, 0] rfl ?_
                        exact ih38 _ _ _ (Nat.lt_of_lt_of_le w.2 (Nat.le_of_lt_succ hm42)) w.1 hp73 hf74
                      )
                      obtain ⟨q75, q76, w⟩ := w
                      refine v_icmp_geI (tgt := 109) dX12_drawDay_102 (by decide) q75.1 q75.2 q76.1 q76.2 (fun c77 => ?_) (fun c77 => ?_)
                      · replace w := w.1 c77
                        refine v_iconstI dX12_drawDay_109 ?_
                        refine v_pick [1, 2, 3] rfl ?_
                        exact w
                      · replace w := w.2 c77
                        refine v_iconstI dX12_drawDay_105 ?_
                        refine v_goto (tgt := 110) dX12_drawDay_106 (by decide) ?_
                        refine v_pick [1, 2, 3] rfl ?_
                        exact w
                    · replace w := w.2 c53
                      refine v_iconstI dX12_drawDay_81 ?_
                      refine v_goto (tgt := 119) dX12_drawDay_82 (by decide) ?_
                      obtain ⟨q78, w⟩ := w
                      refine v_iastI dX12_drawDay_119 ((hp46 94 (by decide)).trans (ent_94 _)) (s_lt hn rfl) q78.1 q78.2 (ix_le q78.2 (by decide)) (fun h79 E80 F81 => ?_)
                      have hp82 := pic_st hp46 (show h79 94 = ent 94 (uI _ (((12 * x34) + x18) + 1) (-1)) from E80) F81
                      have hf83 := Fr.up (c := 94) hf47 F81 rfl
                      refine v_iincI dX12_drawDay_120 rfl (Nat.le_of_ble_eq_true rfl) ?_
                      refine v_goto (tgt := 42) dX12_drawDay_123 (by decide) ?_
                      refine v_pick [2, 3, 0] rfl ?_
                      exact ih38 _ _ _ (Nat.lt_of_lt_of_le w.2 (Nat.le_of_lt_succ hm42)) w.1 hp82 hf83
              exact hL41 _ _ _ _ (Nat.lt_succ_self _) wi40 hp30 hf31
        exact hL25 _ _ _ _ (Nat.lt_succ_self _) wi24 hp13 hf14
      · replace w := w.2 c17
        refine v_aload_n dX12_drawDay_12 rfl ?_
        refine v_get dX12_drawDay_13 fl_X12_102 ((hp13 77 (by decide)).trans (ent_77 _)) rfl (s_lt hn rfl) ?_
        refine v_bipushI dX12_drawDay_16 rfl ?_
        refine v_iload_n dX12_drawDay_18 rfl ?_
        refine v_imulI dX12_drawDay_19 ?_
        refine v_aload_n dX12_drawDay_20 rfl ?_
        refine v_iload_n dX12_drawDay_21 rfl ?_
        refine v_callVIr dX12_drawDay_22 ml_X12_464 (so_X12_beginsAt hn hp13  w) ((hp13 77 (by decide)).trans (ent_77 _)) rfl (s_lt hn rfl) rfl rfl (Nat.le_of_ble_eq_true rfl) (Nat.le_of_ble_eq_true rfl) (Nat.zero_le _) (Nat.zero_le _) (fun v84 w => ?_)
        obtain ⟨q90, w⟩ := w
        refine v_iastI dX12_drawDay_25 ((hp13 94 (by decide)).trans (ent_94 _)) (s_lt hn rfl) q90.1 q90.2 (ix_le q90.2 (by decide)) (fun h91 E92 F93 => ?_)
        have hp94 := pic_st hp13 (show h91 94 = ent 94 (uI _ (12 * x1) v84) from E92) F93
        have hf95 := Fr.up (c := 94) hf14 F93 rfl
        refine v_iincI dX12_drawDay_26 rfl (Nat.le_of_ble_eq_true rfl) ?_
        refine v_goto (tgt := 2) dX12_drawDay_29 (by decide) ?_
        refine v_pick [1, 0] rfl ?_
        exact ih5 _ _ _ (Nat.lt_of_lt_of_le w.2 (Nat.le_of_lt_succ hm9)) w.1 hp94 hf95
  exact hL8 _ _ _ _ (Nat.lt_succ_self _) wi7 hp hf
theorem dX12_summer_0 : decode cX12_summer 0 = .ok (.aload_n 0, 1) := by decide +kernel
theorem dX12_summer_1 : decode cX12_summer 1 = .ok (.iconst 0, 1) := by decide +kernel
theorem dX12_summer_2 : decode cX12_summer 2 = .ok (.putfield 169, 3) := by decide +kernel
theorem dX12_summer_5 : decode cX12_summer 5 = .ok (.iload_n 1, 1) := by decide +kernel
theorem dX12_summer_6 : decode cX12_summer 6 = .ok (.i2l, 1) := by decide +kernel
theorem dX12_summer_7 : decode cX12_summer 7 = .ok (.lconst 0, 1) := by decide +kernel
theorem dX12_summer_8 : decode cX12_summer 8 = .ok (.ldc2_w 281, 3) := by decide +kernel
theorem dX12_summer_11 : decode cX12_summer 11 = .ok (.invokestatic 175, 3) := by decide +kernel
theorem dX12_summer_14 : decode cX12_summer 14 = .ok (.ifCond .eq 15, 3) := by decide +kernel
theorem dX12_summer_17 : decode cX12_summer 17 = .ok (.iload_n 2, 1) := by decide +kernel
theorem dX12_summer_18 : decode cX12_summer 18 = .ok (.i2l, 1) := by decide +kernel
theorem dX12_summer_19 : decode cX12_summer 19 = .ok (.lconst 1, 1) := by decide +kernel
theorem dX12_summer_20 : decode cX12_summer 20 = .ok (.ldc2_w 630, 3) := by decide +kernel
theorem dX12_summer_23 : decode cX12_summer 23 = .ok (.invokestatic 175, 3) := by decide +kernel
theorem dX12_summer_26 : decode cX12_summer 26 = .ok (.ifCond .ne 9, 3) := by decide +kernel
theorem dX12_summer_29 : decode cX12_summer 29 = .ok (.aload_n 0, 1) := by decide +kernel
theorem dX12_summer_30 : decode cX12_summer 30 = .ok (.iconst (-1), 1) := by decide +kernel
theorem dX12_summer_31 : decode cX12_summer 31 = .ok (.invokevirtual 179, 3) := by decide +kernel
theorem dX12_summer_34 : decode cX12_summer 34 = .ok (.ireturn, 1) := by decide +kernel
theorem dX12_summer_35 : decode cX12_summer 35 = .ok (.aload_n 0, 1) := by decide +kernel
theorem dX12_summer_36 : decode cX12_summer 36 = .ok (.iload_n 1, 1) := by decide +kernel
theorem dX12_summer_37 : decode cX12_summer 37 = .ok (.i2l, 1) := by decide +kernel
theorem dX12_summer_38 : decode cX12_summer 38 = .ok (.putfield 618, 3) := by decide +kernel
theorem dX12_summer_41 : decode cX12_summer 41 = .ok (.aload_n 0, 1) := by decide +kernel
theorem dX12_summer_42 : decode cX12_summer 42 = .ok (.iconst 1, 1) := by decide +kernel
theorem dX12_summer_43 : decode cX12_summer 43 = .ok (.putfield 632, 3) := by decide +kernel
theorem dX12_summer_46 : decode cX12_summer 46 = .ok (.iconst 0, 1) := by decide +kernel
theorem dX12_summer_47 : decode cX12_summer 47 = .ok (.istore_n 3, 1) := by decide +kernel
theorem dX12_summer_48 : decode cX12_summer 48 = .ok (.iload_n 3, 1) := by decide +kernel
theorem dX12_summer_49 : decode cX12_summer 49 = .ok (.bipush 64, 2) := by decide +kernel
theorem dX12_summer_51 : decode cX12_summer 51 = .ok (.if_icmp .ge 16, 3) := by decide +kernel
theorem dX12_summer_54 : decode cX12_summer 54 = .ok (.aload_n 0, 1) := by decide +kernel
theorem dX12_summer_55 : decode cX12_summer 55 = .ok (.getfield 166, 3) := by decide +kernel
theorem dX12_summer_58 : decode cX12_summer 58 = .ok (.iload_n 3, 1) := by decide +kernel
theorem dX12_summer_59 : decode cX12_summer 59 = .ok (.iconst 0, 1) := by decide +kernel
theorem dX12_summer_60 : decode cX12_summer 60 = .ok (.iastore, 1) := by decide +kernel
theorem dX12_summer_61 : decode cX12_summer 61 = .ok (.iinc 3 1, 3) := by decide +kernel
theorem dX12_summer_64 : decode cX12_summer 64 = .ok (.goto (-16), 3) := by decide +kernel
theorem dX12_summer_67 : decode cX12_summer 67 = .ok (.iconst 0, 1) := by decide +kernel
theorem dX12_summer_68 : decode cX12_summer 68 = .ok (.istore_n 3, 1) := by decide +kernel
theorem dX12_summer_69 : decode cX12_summer 69 = .ok (.iconst 0, 1) := by decide +kernel
theorem dX12_summer_70 : decode cX12_summer 70 = .ok (.istore 4, 2) := by decide +kernel
theorem dX12_summer_72 : decode cX12_summer 72 = .ok (.iload 4, 2) := by decide +kernel
theorem dX12_summer_74 : decode cX12_summer 74 = .ok (.iload_n 2, 1) := by decide +kernel
theorem dX12_summer_75 : decode cX12_summer 75 = .ok (.if_icmp .ge 62, 3) := by decide +kernel
theorem dX12_summer_78 : decode cX12_summer 78 = .ok (.aload_n 0, 1) := by decide +kernel
theorem dX12_summer_79 : decode cX12_summer 79 = .ok (.invokevirtual 635, 3) := by decide +kernel
theorem dX12_summer_82 : decode cX12_summer 82 = .ok (.iconst 0, 1) := by decide +kernel
theorem dX12_summer_83 : decode cX12_summer 83 = .ok (.istore 5, 2) := by decide +kernel
theorem dX12_summer_85 : decode cX12_summer 85 = .ok (.iload 5, 2) := by decide +kernel
theorem dX12_summer_87 : decode cX12_summer 87 = .ok (.bipush 64, 2) := by decide +kernel
theorem dX12_summer_89 : decode cX12_summer 89 = .ok (.if_icmp .ge 42, 3) := by decide +kernel
theorem dX12_summer_92 : decode cX12_summer 92 = .ok (.aload_n 0, 1) := by decide +kernel
theorem dX12_summer_93 : decode cX12_summer 93 = .ok (.iload 5, 2) := by decide +kernel
theorem dX12_summer_95 : decode cX12_summer 95 = .ok (.invokevirtual 498, 3) := by decide +kernel
theorem dX12_summer_98 : decode cX12_summer 98 = .ok (.ifCond .eq 7, 3) := by decide +kernel
theorem dX12_summer_101 : decode cX12_summer 101 = .ok (.iconst 1, 1) := by decide +kernel
theorem dX12_summer_102 : decode cX12_summer 102 = .ok (.goto 4, 3) := by decide +kernel
theorem dX12_summer_105 : decode cX12_summer 105 = .ok (.iconst 0, 1) := by decide +kernel
theorem dX12_summer_106 : decode cX12_summer 106 = .ok (.istore 6, 2) := by decide +kernel
theorem dX12_summer_108 : decode cX12_summer 108 = .ok (.aload_n 0, 1) := by decide +kernel
theorem dX12_summer_109 : decode cX12_summer 109 = .ok (.getfield 166, 3) := by decide +kernel
theorem dX12_summer_112 : decode cX12_summer 112 = .ok (.iload 5, 2) := by decide +kernel
theorem dX12_summer_114 : decode cX12_summer 114 = .ok (.dup2, 1) := by decide +kernel
theorem dX12_summer_115 : decode cX12_summer 115 = .ok (.iaload, 1) := by decide +kernel
theorem dX12_summer_116 : decode cX12_summer 116 = .ok (.iload 6, 2) := by decide +kernel
theorem dX12_summer_118 : decode cX12_summer 118 = .ok (.iadd, 1) := by decide +kernel
theorem dX12_summer_119 : decode cX12_summer 119 = .ok (.iastore, 1) := by decide +kernel
theorem dX12_summer_120 : decode cX12_summer 120 = .ok (.iload_n 3, 1) := by decide +kernel
theorem dX12_summer_121 : decode cX12_summer 121 = .ok (.iload 6, 2) := by decide +kernel
theorem dX12_summer_123 : decode cX12_summer 123 = .ok (.iadd, 1) := by decide +kernel
theorem dX12_summer_124 : decode cX12_summer 124 = .ok (.istore_n 3, 1) := by decide +kernel
theorem dX12_summer_125 : decode cX12_summer 125 = .ok (.iinc 5 1, 3) := by decide +kernel
theorem dX12_summer_128 : decode cX12_summer 128 = .ok (.goto (-43), 3) := by decide +kernel
theorem dX12_summer_131 : decode cX12_summer 131 = .ok (.iinc 4 1, 3) := by decide +kernel
theorem dX12_summer_134 : decode cX12_summer 134 = .ok (.goto (-62), 3) := by decide +kernel
theorem dX12_summer_137 : decode cX12_summer 137 = .ok (.aload_n 0, 1) := by decide +kernel
theorem dX12_summer_138 : decode cX12_summer 138 = .ok (.iload_n 3, 1) := by decide +kernel
theorem dX12_summer_139 : decode cX12_summer 139 = .ok (.invokevirtual 179, 3) := by decide +kernel
theorem dX12_summer_142 : decode cX12_summer 142 = .ok (.ireturn, 1) := by decide +kernel
def w_X12_summer (a0 a1 : Int) (X : XT) (Q : Int → XT → Prop) : Prop :=
  R32 a0 ∧ (¬ (0 ≤ a0 ∧ a0 ≤ 1000000) → w_X12_tell  (-1) (x_st X 77 0 0) (fun (v8 : Int) (X9 : XT) => Q v8 X9)) ∧ ((0 ≤ a0 ∧ a0 ≤ 1000000) → R32 a1 ∧ ((1 ≤ a1 ∧ a1 ≤ 30) → ∃ (I28 : Int → XT → Prop) (m29 : Int → XT → Nat), I28 0 (x_st (x_st (x_st X 77 0 0) 77 61 a0) 77 63 1) ∧ ∀ (x26 : Int) (X27 : XT), I28 x26 X27 → R32 x26 ∧ (64 ≤ x26 → ∃ (I45 : Int → Int → XT → Prop) (m46 : Int → Int → XT → Nat), I45 0 0 X27 ∧ ∀ (x42 : Int) (x43 : Int) (X44 : XT), I45 x42 x43 X44 → R32 x43 ∧ (a1 ≤ x43 → w_X12_tell  x42 X44 (fun (v59 : Int) (X60 : XT) => Q v59 X60)) ∧ (¬ a1 ≤ x43 → w_X12_drawDay   X44 (fun (X66 : XT) => ∃ (I74 : Int → Int → XT → Prop) (m75 : Int → Int → XT → Nat), I74 x42 0 X66 ∧ ∀ (x71 : Int) (x72 : Int) (X73 : XT), I74 x71 x72 X73 → R32 x72 ∧ (64 ≤ x72 → I45 x71 (x43 + 1) X73 ∧ m46 x71 (x43 + 1) X73 < m46 x42 x43 X44) ∧ (¬ 64 ≤ x72 → w_X12_isScorched  x72 X73 (fun (v88 : Int) (X89 : XT) => ∀ J95 : Int → Prop, (∀ (v94 : Int), ((0 ≤ x72 ∧ x72 < 64) ∧ I74 (x71 + v94) (x72 + 1) (x_st X89 114 x72 ((X89 114 x72) + v94)) ∧ m75 (x71 + v94) (x72 + 1) (x_st X89 114 x72 ((X89 114 x72) + v94)) < m75 x71 x72 X73) → J95 v94) → R32 v88 ∧ (v88 = 0 → J95 0) ∧ (¬ v88 = 0 → J95 1)))))) ∧ (¬ 64 ≤ x26 → (0 ≤ x26 ∧ x26 < 64) ∧ I28 (x26 + 1) (x_st X27 114 x26 0) ∧ m29 (x26 + 1) (x_st X27 114 x26 0) < m29 x26 X27)) ∧ (¬ (1 ≤ a1 ∧ a1 ≤ 30) → w_X12_tell  (-1) (x_st X 77 0 0) (fun (v110 : Int) (X111 : XT) => Q v110 X111)))
set_option maxRecDepth 20000 in
theorem so_X12_summer {n : Nat} {h : Nat → sE} {X : XT} {a0 a1 : Int} {Q : Int → XT → Prop} (hn : 115 ≤ n) (hp : Pic X h) (w : w_X12_summer  a0 a1 X Q) : Sp m_X12_summer 10 0 0 [.ref 77, .int (iI a0), .int (iI a1)] n h (pIw n h Q) := by
  unfold w_X12_summer at w
  refine Sp.ofV (by decide +kernel) (Nat.le_of_ble_eq_true rfl) ?_
  have hf : Fr h h := fun _ _ => rfl
  refine v_aload_n dX12_summer_0 rfl ?_
  refine v_iconstI dX12_summer_1 ?_
  refine v_put dX12_summer_2 fl_X12_169 ((hp 77 (by decide)).trans (ent_77 _)) (s_lt hn rfl) (Nat.le_of_ble_eq_true rfl) (fun _ => ⟨rfl, rfl⟩) trivial (fun h1 E2 F3 => ?_)
  have hp4 := pic_st hp (show h1 77 = ent 77 (uI _ 0 0) from E2) F3
  have hf5 := Fr.up (c := 77) hf F3 rfl
  refine v_iload_n dX12_summer_5 rfl ?_
  obtain ⟨q6, w⟩ := w
  refine v_i2lI dX12_summer_6 q6.1 q6.2 ?_
  refine v_lconstI (w := 0) dX12_summer_7 rfl ?_
  refine v_ldc2I 1000000 dX12_summer_8 k_X12_281 rfl ?_
  refine v_callSp dX12_summer_11 ml_X12_175 (sp_X12_in (v := a0) (lo := 0) (hi := 1000000) (r32_64 q6) (by decide) (by decide)) rfl rfl (Nat.le_of_ble_eq_true rfl) (Nat.le_of_ble_eq_true rfl) (Nat.zero_le _) (Nat.zero_le _) ?_
  refine v_ifeqB (tgt := 29) dX12_summer_14 (by decide) (fun c7 => ?_) (fun c7 => ?_)
  · replace w := w.1 c7
    refine v_aload_n dX12_summer_29 rfl ?_
    refine v_iconstI dX12_summer_30 ?_
    refine v_callVIw dX12_summer_31 ml_X12_179 (so_X12_tell hn hp4  w) ((hp4 77 (by decide)).trans (ent_77 _)) rfl (s_lt hn rfl) rfl rfl (Nat.le_of_ble_eq_true rfl) (Nat.le_of_ble_eq_true rfl) (Nat.zero_le _) (Nat.zero_le _) (fun v8 X9 h10 hp12 hf11 w => ?_)
    have hf13 := Fr.trans hf5 hf11
    exact v_iret dX12_summer_34 rfl (Nat.zero_le _) (Nat.zero_le _) ⟨rfl, hf13, _, _, rfl, hp12, w⟩
  · replace w := w.2 c7
    refine v_iload_n dX12_summer_17 rfl ?_
    obtain ⟨q14, w⟩ := w
    refine v_i2lI dX12_summer_18 q14.1 q14.2 ?_
    refine v_lconstI (w := 1) dX12_summer_19 rfl ?_
    refine v_ldc2I 30 dX12_summer_20 k_X12_630 rfl ?_
    refine v_callSp dX12_summer_23 ml_X12_175 (sp_X12_in (v := a1) (lo := 1) (hi := 30) (r32_64 q14) (by decide) (by decide)) rfl rfl (Nat.le_of_ble_eq_true rfl) (Nat.le_of_ble_eq_true rfl) (Nat.zero_le _) (Nat.zero_le _) ?_
    refine v_ifneB (tgt := 35) dX12_summer_26 (by decide) (fun c15 => ?_) (fun c15 => ?_)
    · replace w := w.1 c15
      refine v_aload_n dX12_summer_35 rfl ?_
      refine v_iload_n dX12_summer_36 rfl ?_
      refine v_i2lI dX12_summer_37 q6.1 q6.2 ?_
      refine v_put dX12_summer_38 fl_X12_618 ((hp4 77 (by decide)).trans (ent_77 _)) (s_lt hn rfl) (Nat.le_of_ble_eq_true rfl) (fun _ => ⟨rfl, rfl⟩) trivial (fun h16 E17 F18 => ?_)
      have hp19 := pic_st hp4 (show h16 77 = ent 77 (uI _ 61 a0) from E17) F18
      have hf20 := Fr.up (c := 77) hf5 F18 rfl
      refine v_aload_n dX12_summer_41 rfl ?_
      refine v_iconstI dX12_summer_42 ?_
      refine v_put dX12_summer_43 fl_X12_632 ((hp19 77 (by decide)).trans (ent_77 _)) (s_lt hn rfl) (Nat.le_of_ble_eq_true rfl) (fun _ => ⟨iI_nb1, rfl⟩) trivial (fun h21 E22 F23 => ?_)
      have hp24 := pic_st hp19 (show h21 77 = ent 77 (uI _ 63 1) from E22) F23
      have hf25 := Fr.up (c := 77) hf20 F23 rfl
      refine v_iconstI dX12_summer_46 ?_
      refine v_istore_n dX12_summer_47 (Nat.le_of_ble_eq_true rfl) ?_
      refine v_pick [1, 3, 0] rfl ?_
      obtain ⟨I28, m29, wi32, wl31⟩ := w
      have hL33 : ∀ (N36 : Nat) (x26 : Int) (X27 : XT) (h37 : Nat → sE), m29 x26 X27 < N36 → I28 x26 X27 → Pic X27 h37 → Fr h h37 → V (m_X12_summer, 10, 0, 0, n, pIw n h Q, s_G0) 0 0 n h37 48 [(0, .ref 77), (2, .int (iI a1)), (3, .int (iI x26))] [] := by
        intro N36
        induction N36 with
        | zero => intro x26 X27 h37 hm34; exact absurd hm34 (Nat.not_lt_zero _)
        | succ N36 ih30 =>
          intro x26 X27 h37 hm34 hI35 hp38 hf39
          have w := wl31 x26 X27 hI35
          refine v_iload_n dX12_summer_48 rfl ?_
          refine v_bipushI dX12_summer_49 rfl ?_
          obtain ⟨q40, w⟩ := w
          refine v_icmp_geI (tgt := 67) dX12_summer_51 (by decide) q40.1 q40.2 (by decide) (by decide) (fun c41 => ?_) (fun c41 => ?_)
          · replace w := w.1 c41
            refine v_iconstI dX12_summer_67 ?_
            refine v_istore_n dX12_summer_68 (Nat.le_of_ble_eq_true rfl) ?_
            refine v_iconstI dX12_summer_69 ?_
            refine v_istore dX12_summer_70 (Nat.le_of_ble_eq_true rfl) ?_
            refine v_pick [2, 3, 1, 0] rfl ?_
            obtain ⟨I45, m46, wi49, wl48⟩ := w
            have hL50 : ∀ (N53 : Nat) (x42 : Int) (x43 : Int) (X44 : XT) (h54 : Nat → sE), m46 x42 x43 X44 < N53 → I45 x42 x43 X44 → Pic X44 h54 → Fr h h54 → V (m_X12_summer, 10, 0, 0, n, pIw n h Q, s_G0) 0 0 n h54 72 [(0, .ref 77), (2, .int (iI a1)), (3, .int (iI x42)), (4, .int (iI x43))] [] := by
              intro N53
              induction N53 with
              | zero => intro x42 x43 X44 h54 hm51; exact absurd hm51 (Nat.not_lt_zero _)
              | succ N53 ih47 =>
                intro x42 x43 X44 h54 hm51 hI52 hp55 hf56
                have w := wl48 x42 x43 X44 hI52
                refine v_iload dX12_summer_72 rfl ?_
                refine v_iload_n dX12_summer_74 rfl ?_
                obtain ⟨q57, w⟩ := w
                refine v_icmp_geI (tgt := 137) dX12_summer_75 (by decide) q57.1 q57.2 q14.1 q14.2 (fun c58 => ?_) (fun c58 => ?_)
                · replace w := w.1 c58
                  refine v_aload_n dX12_summer_137 rfl ?_
                  refine v_iload_n dX12_summer_138 rfl ?_
                  refine v_callVIw dX12_summer_139 ml_X12_179 (so_X12_tell hn hp55  w) ((hp55 77 (by decide)).trans (ent_77 _)) rfl (s_lt hn rfl) rfl rfl (Nat.le_of_ble_eq_true rfl) (Nat.le_of_ble_eq_true rfl) (Nat.zero_le _) (Nat.zero_le _) (fun v59 X60 h61 hp63 hf62 w => ?_)
                  have hf64 := Fr.trans hf56 hf62
                  exact v_iret dX12_summer_142 rfl (Nat.zero_le _) (Nat.zero_le _) ⟨rfl, hf64, _, _, rfl, hp63, w⟩
                · replace w := w.2 c58
                  refine v_aload_n dX12_summer_78 rfl ?_
                  refine v_callVVw dX12_summer_79 ml_X12_635 (so_X12_drawDay hn hp55  w) ((hp55 77 (by decide)).trans (ent_77 _)) rfl (s_lt hn rfl) rfl rfl (Nat.le_of_ble_eq_true rfl) (Nat.le_of_ble_eq_true rfl) (Nat.zero_le _) (Nat.zero_le _) (fun X66 h67 hp69 hf68 w => ?_)
                  have hf70 := Fr.trans hf56 hf68
                  refine v_iconstI dX12_summer_82 ?_
                  refine v_istore dX12_summer_83 (Nat.le_of_ble_eq_true rfl) ?_
                  refine v_pick [1, 2, 3, 4, 0] rfl ?_
                  obtain ⟨I74, m75, wi78, wl77⟩ := w
                  have hL79 : ∀ (N82 : Nat) (x71 : Int) (x72 : Int) (X73 : XT) (h83 : Nat → sE), m75 x71 x72 X73 < N82 → I74 x71 x72 X73 → Pic X73 h83 → Fr h h83 → V (m_X12_summer, 10, 0, 0, n, pIw n h Q, s_G0) 0 0 n h83 85 [(0, .ref 77), (2, .int (iI a1)), (3, .int (iI x71)), (4, .int (iI x43)), (5, .int (iI x72))] [] := by
                    intro N82
                    induction N82 with
                    | zero => intro x71 x72 X73 h83 hm80; exact absurd hm80 (Nat.not_lt_zero _)
                    | succ N82 ih76 =>
                      intro x71 x72 X73 h83 hm80 hI81 hp84 hf85
                      have w := wl77 x71 x72 X73 hI81
                      refine v_iload dX12_summer_85 rfl ?_
                      refine v_bipushI dX12_summer_87 rfl ?_
                      obtain ⟨q86, w⟩ := w
                      refine v_icmp_geI (tgt := 131) dX12_summer_89 (by decide) q86.1 q86.2 (by decide) (by decide) (fun c87 => ?_) (fun c87 => ?_)
                      · replace w := w.1 c87
                        refine v_iincI dX12_summer_131 rfl (Nat.le_of_ble_eq_true rfl) ?_
                        refine v_goto (tgt := 72) dX12_summer_134 (by decide) ?_
                        refine v_pick [1, 2, 3, 0] rfl ?_
                        exact ih47 _ _ _ _ (Nat.lt_of_lt_of_le w.2 (Nat.le_of_lt_succ hm51)) w.1 hp84 hf85
                      · replace w := w.2 c87
                        refine v_aload_n dX12_summer_92 rfl ?_
                        refine v_iload dX12_summer_93 rfl ?_
                        refine v_callVIw dX12_summer_95 ml_X12_498 (so_X12_isScorched hn hp84  w) ((hp84 77 (by decide)).trans (ent_77 _)) rfl (s_lt hn rfl) rfl rfl (Nat.le_of_ble_eq_true rfl) (Nat.le_of_ble_eq_true rfl) (Nat.zero_le _) (Nat.zero_le _) (fun v88 X89 h90 hp92 hf91 w => ?_)
                        have hf93 := Fr.trans hf85 hf91
                        replace w := w (fun (v94 : Int) => V (m_X12_summer, 10, 0, 0, n, pIw n h Q, s_G0) 0 0 n h90 106 [(0, .ref 77), (2, .int (iI a1)), (3, .int (iI x71)), (4, .int (iI x43)), (5, .int (iI x72))] [.int (iI v94)]) (by
                          intro v94 w
                          refine v_istore dX12_summer_106 (Nat.le_of_ble_eq_true rfl) ?_
                          refine v_aload_n dX12_summer_108 rfl ?_
                          refine v_get dX12_summer_109 fl_X12_166 ((hp92 77 (by decide)).trans (ent_77 _)) rfl (s_lt hn rfl) ?_
                          refine v_iload dX12_summer_112 rfl ?_
                          refine v_dup2 dX12_summer_114 rfl rfl ?_
                          obtain ⟨q96, w⟩ := w
                          refine v_ialdI dX12_summer_115 ((hp92 114 (by decide)).trans (ent_114 _)) (s_lt hn rfl) q96.1 q96.2 (ix_le q96.2 (by decide)) ?_
                          refine v_iload dX12_summer_116 rfl ?_
                          refine v_iaddI dX12_summer_118 ?_
                          refine v_iastI dX12_summer_119 ((hp92 114 (by decide)).trans (ent_114 _)) (s_lt hn rfl) q96.1 q96.2 (ix_le q96.2 (by decide)) (fun h97 E98 F99 => ?_)
                          have hp100 := pic_st hp92 (show h97 114 = ent 114 (uI _ x72 ((X89 114 x72) + v94)) from E98) F99
                          have hf101 := Fr.up (c := 114) hf93 F99 rfl
                          refine v_iload_n dX12_summer_120 rfl ?_
                          refine v_iload dX12_summer_121 rfl ?_
                          refine v_iaddI dX12_summer_123 ?_
                          refine v_istore_n dX12_summer_124 (Nat.le_of_ble_eq_true rfl) ?_
                          refine v_iincI dX12_summer_125 rfl (Nat.le_of_ble_eq_true rfl) ?_
                          refine v_goto (tgt := 85) dX12_summer_128 (by decide) ?_
                          refine v_pick [3, 4, 1, 5, 0] rfl ?_
                          exact ih76 _ _ _ _ (Nat.lt_of_lt_of_le w.2 (Nat.le_of_lt_succ hm80)) w.1 hp100 hf101
                        )
                        obtain ⟨q102, w⟩ := w
                        refine v_if_eqI (tgt := 105) dX12_summer_98 (by decide) q102.1 q102.2 (fun c103 => ?_) (fun c103 => ?_)
                        · replace w := w.1 c103
                          refine v_iconstI dX12_summer_105 ?_
                          exact w
                        · replace w := w.2 c103
                          refine v_iconstI dX12_summer_101 ?_
                          refine v_goto (tgt := 106) dX12_summer_102 (by decide) ?_
                          exact w
                  exact hL79 _ _ _ _ _ (Nat.lt_succ_self _) wi78 hp69 hf70
            exact hL50 _ _ _ _ _ (Nat.lt_succ_self _) wi49 hp38 hf39
          · replace w := w.2 c41
            refine v_aload_n dX12_summer_54 rfl ?_
            refine v_get dX12_summer_55 fl_X12_166 ((hp38 77 (by decide)).trans (ent_77 _)) rfl (s_lt hn rfl) ?_
            refine v_iload_n dX12_summer_58 rfl ?_
            refine v_iconstI dX12_summer_59 ?_
            obtain ⟨q104, w⟩ := w
            refine v_iastI dX12_summer_60 ((hp38 114 (by decide)).trans (ent_114 _)) (s_lt hn rfl) q104.1 q104.2 (ix_le q104.2 (by decide)) (fun h105 E106 F107 => ?_)
            have hp108 := pic_st hp38 (show h105 114 = ent 114 (uI _ x26 0) from E106) F107
            have hf109 := Fr.up (c := 114) hf39 F107 rfl
            refine v_iincI dX12_summer_61 rfl (Nat.le_of_ble_eq_true rfl) ?_
            refine v_goto (tgt := 48) dX12_summer_64 (by decide) ?_
            refine v_pick [1, 2, 0] rfl ?_
            exact ih30 _ _ _ (Nat.lt_of_lt_of_le w.2 (Nat.le_of_lt_succ hm34)) w.1 hp108 hf109
      exact hL33 _ _ _ _ (Nat.lt_succ_self _) wi32 hp24 hf25
    · replace w := w.2 c15
      refine v_aload_n dX12_summer_29 rfl ?_
      refine v_iconstI dX12_summer_30 ?_
      refine v_callVIw dX12_summer_31 ml_X12_179 (so_X12_tell hn hp4  w) ((hp4 77 (by decide)).trans (ent_77 _)) rfl (s_lt hn rfl) rfl rfl (Nat.le_of_ble_eq_true rfl) (Nat.le_of_ble_eq_true rfl) (Nat.zero_le _) (Nat.zero_le _) (fun v110 X111 h112 hp114 hf113 w => ?_)
      have hf115 := Fr.trans hf5 hf113
      exact v_iret dX12_summer_34 rfl (Nat.zero_le _) (Nat.zero_le _) ⟨rfl, hf115, _, _, rfl, hp114, w⟩
theorem dX12_image_0 : decode cX12_image 0 = .ok (.aload_n 0, 1) := by decide +kernel
theorem dX12_image_1 : decode cX12_image 1 = .ok (.iconst 0, 1) := by decide +kernel
theorem dX12_image_2 : decode cX12_image 2 = .ok (.putfield 169, 3) := by decide +kernel
theorem dX12_image_5 : decode cX12_image 5 = .ok (.iload_n 1, 1) := by decide +kernel
theorem dX12_image_6 : decode cX12_image 6 = .ok (.i2l, 1) := by decide +kernel
theorem dX12_image_7 : decode cX12_image 7 = .ok (.lconst 0, 1) := by decide +kernel
theorem dX12_image_8 : decode cX12_image 8 = .ok (.lconst 1, 1) := by decide +kernel
theorem dX12_image_9 : decode cX12_image 9 = .ok (.invokestatic 175, 3) := by decide +kernel
theorem dX12_image_12 : decode cX12_image 12 = .ok (.ifCond .ne 9, 3) := by decide +kernel
theorem dX12_image_15 : decode cX12_image 15 = .ok (.aload_n 0, 1) := by decide +kernel
theorem dX12_image_16 : decode cX12_image 16 = .ok (.iconst (-1), 1) := by decide +kernel
theorem dX12_image_17 : decode cX12_image 17 = .ok (.invokevirtual 179, 3) := by decide +kernel
theorem dX12_image_20 : decode cX12_image 20 = .ok (.ireturn, 1) := by decide +kernel
theorem dX12_image_21 : decode cX12_image 21 = .ok (.iconst 0, 1) := by decide +kernel
theorem dX12_image_22 : decode cX12_image 22 = .ok (.istore_n 2, 1) := by decide +kernel
theorem dX12_image_23 : decode cX12_image 23 = .ok (.iload_n 2, 1) := by decide +kernel
theorem dX12_image_24 : decode cX12_image 24 = .ok (.sipush 5780, 3) := by decide +kernel
theorem dX12_image_27 : decode cX12_image 27 = .ok (.if_icmp .ge 27, 3) := by decide +kernel
theorem dX12_image_30 : decode cX12_image 30 = .ok (.aload_n 0, 1) := by decide +kernel
theorem dX12_image_31 : decode cX12_image 31 = .ok (.getfield 16, 3) := by decide +kernel
theorem dX12_image_34 : decode cX12_image 34 = .ok (.sipush 5780, 3) := by decide +kernel
theorem dX12_image_37 : decode cX12_image 37 = .ok (.iload_n 1, 1) := by decide +kernel
theorem dX12_image_38 : decode cX12_image 38 = .ok (.imul, 1) := by decide +kernel
theorem dX12_image_39 : decode cX12_image 39 = .ok (.iload_n 2, 1) := by decide +kernel
theorem dX12_image_40 : decode cX12_image 40 = .ok (.iadd, 1) := by decide +kernel
theorem dX12_image_41 : decode cX12_image 41 = .ok (.aload_n 0, 1) := by decide +kernel
theorem dX12_image_42 : decode cX12_image 42 = .ok (.getfield 13, 3) := by decide +kernel
theorem dX12_image_45 : decode cX12_image 45 = .ok (.iload_n 2, 1) := by decide +kernel
theorem dX12_image_46 : decode cX12_image 46 = .ok (.iaload, 1) := by decide +kernel
theorem dX12_image_47 : decode cX12_image 47 = .ok (.iastore, 1) := by decide +kernel
theorem dX12_image_48 : decode cX12_image 48 = .ok (.iinc 2 1, 3) := by decide +kernel
theorem dX12_image_51 : decode cX12_image 51 = .ok (.goto (-28), 3) := by decide +kernel
theorem dX12_image_54 : decode cX12_image 54 = .ok (.aload_n 0, 1) := by decide +kernel
theorem dX12_image_55 : decode cX12_image 55 = .ok (.getfield 19, 3) := by decide +kernel
theorem dX12_image_58 : decode cX12_image 58 = .ok (.iload_n 1, 1) := by decide +kernel
theorem dX12_image_59 : decode cX12_image 59 = .ok (.iconst 1, 1) := by decide +kernel
theorem dX12_image_60 : decode cX12_image 60 = .ok (.bastore, 1) := by decide +kernel
theorem dX12_image_61 : decode cX12_image 61 = .ok (.aload_n 0, 1) := by decide +kernel
theorem dX12_image_62 : decode cX12_image 62 = .ok (.iconst 0, 1) := by decide +kernel
theorem dX12_image_63 : decode cX12_image 63 = .ok (.invokevirtual 179, 3) := by decide +kernel
theorem dX12_image_66 : decode cX12_image 66 = .ok (.ireturn, 1) := by decide +kernel
def w_X12_image (a0 : Int) (X : XT) (Q : Int → XT → Prop) : Prop :=
  R32 a0 ∧ ((0 ≤ a0 ∧ a0 ≤ 1) → ∃ (I10 : Int → XT → Prop) (m11 : Int → XT → Nat), I10 0 (x_st X 77 0 0) ∧ ∀ (x8 : Int) (X9 : XT), I10 x8 X9 → R32 x8 ∧ (5780 ≤ x8 → (0 ≤ a0 ∧ a0 < 2) ∧ w_X12_tell  0 (x_st X9 81 a0 1) (fun (v30 : Int) (X31 : XT) => Q v30 X31)) ∧ (¬ 5780 ≤ x8 → (0 ≤ x8 ∧ x8 < 5780) ∧ (0 ≤ ((5780 * a0) + x8) ∧ ((5780 * a0) + x8) < 11560) ∧ I10 (x8 + 1) (x_st X9 80 ((5780 * a0) + x8) (X9 79 x8)) ∧ m11 (x8 + 1) (x_st X9 80 ((5780 * a0) + x8) (X9 79 x8)) < m11 x8 X9)) ∧ (¬ (0 ≤ a0 ∧ a0 ≤ 1) → w_X12_tell  (-1) (x_st X 77 0 0) (fun (v43 : Int) (X44 : XT) => Q v43 X44))
set_option maxRecDepth 20000 in
theorem so_X12_image {n : Nat} {h : Nat → sE} {X : XT} {a0 : Int} {Q : Int → XT → Prop} (hn : 115 ≤ n) (hp : Pic X h) (w : w_X12_image  a0 X Q) : Sp m_X12_image 1 0 0 [.ref 77, .int (iI a0)] n h (pIw n h Q) := by
  unfold w_X12_image at w
  refine Sp.ofV (by decide +kernel) (Nat.le_of_ble_eq_true rfl) ?_
  have hf : Fr h h := fun _ _ => rfl
  refine v_aload_n dX12_image_0 rfl ?_
  refine v_iconstI dX12_image_1 ?_
  refine v_put dX12_image_2 fl_X12_169 ((hp 77 (by decide)).trans (ent_77 _)) (s_lt hn rfl) (Nat.le_of_ble_eq_true rfl) (fun _ => ⟨rfl, rfl⟩) trivial (fun h1 E2 F3 => ?_)
  have hp4 := pic_st hp (show h1 77 = ent 77 (uI _ 0 0) from E2) F3
  have hf5 := Fr.up (c := 77) hf F3 rfl
  refine v_iload_n dX12_image_5 rfl ?_
  obtain ⟨q6, w⟩ := w
  refine v_i2lI dX12_image_6 q6.1 q6.2 ?_
  refine v_lconstI (w := 0) dX12_image_7 rfl ?_
  refine v_lconstI (w := 1) dX12_image_8 rfl ?_
  refine v_callSp dX12_image_9 ml_X12_175 (sp_X12_in (v := a0) (lo := 0) (hi := 1) (r32_64 q6) (by decide) (by decide)) rfl rfl (Nat.le_of_ble_eq_true rfl) (Nat.le_of_ble_eq_true rfl) (Nat.zero_le _) (Nat.zero_le _) ?_
  refine v_ifneB (tgt := 21) dX12_image_12 (by decide) (fun c7 => ?_) (fun c7 => ?_)
  · replace w := w.1 c7
    refine v_iconstI dX12_image_21 ?_
    refine v_istore_n dX12_image_22 (Nat.le_of_ble_eq_true rfl) ?_
    refine v_pick [1, 2, 0] rfl ?_
    obtain ⟨I10, m11, wi14, wl13⟩ := w
    have hL15 : ∀ (N18 : Nat) (x8 : Int) (X9 : XT) (h19 : Nat → sE), m11 x8 X9 < N18 → I10 x8 X9 → Pic X9 h19 → Fr h h19 → V (m_X12_image, 1, 0, 0, n, pIw n h Q, s_G0) 0 0 n h19 23 [(0, .ref 77), (1, .int (iI a0)), (2, .int (iI x8))] [] := by
      intro N18
      induction N18 with
      | zero => intro x8 X9 h19 hm16; exact absurd hm16 (Nat.not_lt_zero _)
      | succ N18 ih12 =>
        intro x8 X9 h19 hm16 hI17 hp20 hf21
        have w := wl13 x8 X9 hI17
        refine v_iload_n dX12_image_23 rfl ?_
        refine v_sipushI dX12_image_24 rfl ?_
        obtain ⟨q22, w⟩ := w
        refine v_icmp_geI (tgt := 54) dX12_image_27 (by decide) q22.1 q22.2 (by decide) (by decide) (fun c23 => ?_) (fun c23 => ?_)
        · replace w := w.1 c23
          refine v_aload_n dX12_image_54 rfl ?_
          refine v_get dX12_image_55 fl_X12_19 ((hp20 77 (by decide)).trans (ent_77 _)) rfl (s_lt hn rfl) ?_
          refine v_iload_n dX12_image_58 rfl ?_
          refine v_iconstI dX12_image_59 ?_
          obtain ⟨q24, w⟩ := w
          refine v_zastI dX12_image_60 ((hp20 81 (by decide)).trans (ent_81 _)) (s_lt hn rfl) q24.1 q24.2 (ix_le q24.2 (by decide)) (by decide) (fun h25 E26 F27 => ?_)
          have hp28 := pic_st hp20 (show h25 81 = ent 81 (uI _ a0 1) from E26) F27
          have hf29 := Fr.up (c := 81) hf21 F27 rfl
          refine v_aload_n dX12_image_61 rfl ?_
          refine v_iconstI dX12_image_62 ?_
          refine v_callVIw dX12_image_63 ml_X12_179 (so_X12_tell hn hp28  w) ((hp28 77 (by decide)).trans (ent_77 _)) rfl (s_lt hn rfl) rfl rfl (Nat.le_of_ble_eq_true rfl) (Nat.le_of_ble_eq_true rfl) (Nat.zero_le _) (Nat.zero_le _) (fun v30 X31 h32 hp34 hf33 w => ?_)
          have hf35 := Fr.trans hf29 hf33
          exact v_iret dX12_image_66 rfl (Nat.zero_le _) (Nat.zero_le _) ⟨rfl, hf35, _, _, rfl, hp34, w⟩
        · replace w := w.2 c23
          refine v_aload_n dX12_image_30 rfl ?_
          refine v_get dX12_image_31 fl_X12_16 ((hp20 77 (by decide)).trans (ent_77 _)) rfl (s_lt hn rfl) ?_
          refine v_sipushI dX12_image_34 rfl ?_
          refine v_iload_n dX12_image_37 rfl ?_
          refine v_imulI dX12_image_38 ?_
          refine v_iload_n dX12_image_39 rfl ?_
          refine v_iaddI dX12_image_40 ?_
          refine v_aload_n dX12_image_41 rfl ?_
          refine v_get dX12_image_42 fl_X12_13 ((hp20 77 (by decide)).trans (ent_77 _)) rfl (s_lt hn rfl) ?_
          refine v_iload_n dX12_image_45 rfl ?_
          obtain ⟨q36, w⟩ := w
          refine v_ialdI dX12_image_46 ((hp20 79 (by decide)).trans (ent_79 _)) (s_lt hn rfl) q36.1 q36.2 (ix_le q36.2 (by decide)) ?_
          obtain ⟨q37, w⟩ := w
          refine v_iastI dX12_image_47 ((hp20 80 (by decide)).trans (ent_80 _)) (s_lt hn rfl) q37.1 q37.2 (ix_le q37.2 (by decide)) (fun h38 E39 F40 => ?_)
          have hp41 := pic_st hp20 (show h38 80 = ent 80 (uI _ ((5780 * a0) + x8) (X9 79 x8)) from E39) F40
          have hf42 := Fr.up (c := 80) hf21 F40 rfl
          refine v_iincI dX12_image_48 rfl (Nat.le_of_ble_eq_true rfl) ?_
          refine v_goto (tgt := 23) dX12_image_51 (by decide) ?_
          refine v_pick [1, 2, 0] rfl ?_
          exact ih12 _ _ _ (Nat.lt_of_lt_of_le w.2 (Nat.le_of_lt_succ hm16)) w.1 hp41 hf42
    exact hL15 _ _ _ _ (Nat.lt_succ_self _) wi14 hp4 hf5
  · replace w := w.2 c7
    refine v_aload_n dX12_image_15 rfl ?_
    refine v_iconstI dX12_image_16 ?_
    refine v_callVIw dX12_image_17 ml_X12_179 (so_X12_tell hn hp4  w) ((hp4 77 (by decide)).trans (ent_77 _)) rfl (s_lt hn rfl) rfl rfl (Nat.le_of_ble_eq_true rfl) (Nat.le_of_ble_eq_true rfl) (Nat.zero_le _) (Nat.zero_le _) (fun v43 X44 h45 hp47 hf46 w => ?_)
    have hf48 := Fr.trans hf5 hf46
    exact v_iret dX12_image_20 rfl (Nat.zero_le _) (Nat.zero_le _) ⟨rfl, hf48, _, _, rfl, hp47, w⟩

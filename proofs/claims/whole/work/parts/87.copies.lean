/-! COPIES: copyFrom, image, back: rows for arrays of cells, texts over the picture, by program (tools/part87.py) -/
def vQ (z : Int) : Value := if z < 0 then .null else .ref z.toNat
theorem vQ_rf (z : Int) : va_rf (if z < 0 then none else some z.toNat) = vQ z := by unfold vQ; split <;> rfl
theorem v_aaldI {P : s_C} {k u n pc : Nat} {h : Nat → sE} {lv : List (Nat × Value)} {st : List Value} {i N : Nat} {C : String} {g : Int → Int} {a : Int} (hdg : decode P.1.2.1 pc = .ok (.aaload, 1)) (he : h i = qI N C g) (hi : i < n) (a0 : 0 ≤ a) (a1 : a < N) (a2 : a ≤ 2147483647) (kk : V P k u n h (pc + 1) lv (vQ (g a) :: st)) : V P k u n h pc lv (.int (iI a) :: .ref i :: st) := by
  refine v_aaload hdg he hi (iI_in a0 a1 a2) ?_
  rw [iI_nat a0 a2, vQ_rf]; exact kk
theorem v_aaldR {P : s_C} {k u n pc : Nat} {h : Nat → sE} {lv : List (Nat × Value)} {st : List Value} {i N : Nat} {C : String} {g : Int → Int} {a : Int} (c : Nat) (hdg : decode P.1.2.1 pc = .ok (.aaload, 1)) (he : h i = qI N C g) (hi : i < n) (a0 : 0 ≤ a) (a1 : a < N) (a2 : a ≤ 2147483647) (e : g a = c) (kk : V P k u n h (pc + 1) lv (.ref c :: st)) : V P k u n h pc lv (.int (iI a) :: .ref i :: st) := by
  refine v_aaldI hdg he hi a0 a1 a2 ?_
  rw [e, vQ, if_neg (by omega), Int.toNat_natCast]; exact kk
theorem v_aastQ {P : s_C} {k u n pc : Nat} {h : Nat → sE} {lv : List (Nat × Value)} {st : List Value} {i N : Nat} {C : String} {g : Int → Int} {a z : Int} (hdg : decode P.1.2.1 pc = .ok (.aastore, 1)) (he : h i = qI N C g) (hi : i < n) (hz : z < 0 ∨ (z.toNat < n ∧ ∃ (ci : Nat) (vs : List Value), h z.toNat = .inr (ci, vs) ∧ s_cl[ci]?.map (fun q => q.1) = some C)) (a0 : 0 ≤ a) (a1 : a < N) (a2 : a ≤ 2147483647) (kk : ∀ h' : Nat → sE, h' i = qI N C (uI g a z) → (∀ j, j ≠ i → h' j = h j) → V P k u n h' (pc + 1) lv st) : V P k u n h pc lv (vQ z :: .int (iI a) :: .ref i :: st) := by
  by_cases z0 : z < 0
  · unfold vQ
    rw [if_pos z0]
    refine v_aastoreN hdg he hi (iI_in a0 a1 a2) (fun h' E F => kk h' (E.trans ?_) F)
    unfold qI
    refine congrArg (fun g : Nat → Option Nat => (Sum.inl (FieldType.object C, N, Sum.inr (Sum.inr (Sum.inr (Sum.inr g)))) : sE)) (funext fun j => ?_)
    have h3 := iI_nat a0 a2
    unfold va_up uI
    by_cases hj : j = (iI a).toNatClampNeg
    · rw [if_pos hj, if_pos (by omega : (j : Int) = a), if_pos z0]
    · rw [if_neg hj, if_neg (by omega : ¬ (j : Int) = a)]
  · obtain ⟨q1, ci, vs, q2, q3⟩ := hz.resolve_left z0
    unfold vQ
    rw [if_neg z0]
    have e : ((z.toNat : Nat) : Int) = z := by omega
    exact v_aastI hdg he hi q2 q1 q3 a0 a1 a2 (fun h' E F => kk h' (by rw [e] at E; exact E) F)
/-- which cells are scripts, or none -/
def KQok (KQ : Int → Prop) (n : Nat) (h0 : Nat → sE) : Prop := ∀ z : Int, KQ z → z < 0 ∨ ((115 ≤ z.toNat ∧ z.toNat < n) ∧ ∃ vs : List Value, h0 z.toNat = .inr (7, vs))
theorem KQok.at {KQ : Int → Prop} {n : Nat} {h0 h : Nat → sE} {z : Int} (hK : KQok KQ n h0) (hf : Fr h0 h) (q : KQ z) : z < 0 ∨ (z.toNat < n ∧ ∃ (ci : Nat) (vs : List Value), h z.toNat = .inr (ci, vs) ∧ s_cl[ci]?.map (fun q => q.1) = some "ShadowHerds$Script") := by
  rcases hK z q with h1 | ⟨h1, vs, h2⟩
  · exact Or.inl h1
  · exact Or.inr ⟨h1.2, 7, vs, (hf _ h1.1).trans h2, rfl⟩
theorem dX3_copyFrom_0 : decode cX3_copyFrom 0 = .ok (.aload_n 1, 1) := by decide +kernel
theorem dX3_copyFrom_1 : decode cX3_copyFrom 1 = .ok (.getfield 9, 3) := by decide +kernel
theorem dX3_copyFrom_4 : decode cX3_copyFrom 4 = .ok (.iconst 0, 1) := by decide +kernel
theorem dX3_copyFrom_5 : decode cX3_copyFrom 5 = .ok (.aload_n 0, 1) := by decide +kernel
theorem dX3_copyFrom_6 : decode cX3_copyFrom 6 = .ok (.getfield 9, 3) := by decide +kernel
theorem dX3_copyFrom_9 : decode cX3_copyFrom 9 = .ok (.iconst 0, 1) := by decide +kernel
theorem dX3_copyFrom_10 : decode cX3_copyFrom 10 = .ok (.aload_n 0, 1) := by decide +kernel
theorem dX3_copyFrom_11 : decode cX3_copyFrom 11 = .ok (.getfield 9, 3) := by decide +kernel
theorem dX3_copyFrom_14 : decode cX3_copyFrom 14 = .ok (.arraylength, 1) := by decide +kernel
theorem dX3_copyFrom_15 : decode cX3_copyFrom 15 = .ok (.invokestatic 61, 3) := by decide +kernel
theorem dX3_copyFrom_18 : decode cX3_copyFrom 18 = .ok (.aload_n 1, 1) := by decide +kernel
theorem dX3_copyFrom_19 : decode cX3_copyFrom 19 = .ok (.getfield 15, 3) := by decide +kernel
theorem dX3_copyFrom_22 : decode cX3_copyFrom 22 = .ok (.iconst 0, 1) := by decide +kernel
theorem dX3_copyFrom_23 : decode cX3_copyFrom 23 = .ok (.aload_n 0, 1) := by decide +kernel
theorem dX3_copyFrom_24 : decode cX3_copyFrom 24 = .ok (.getfield 15, 3) := by decide +kernel
theorem dX3_copyFrom_27 : decode cX3_copyFrom 27 = .ok (.iconst 0, 1) := by decide +kernel
theorem dX3_copyFrom_28 : decode cX3_copyFrom 28 = .ok (.aload_n 0, 1) := by decide +kernel
theorem dX3_copyFrom_29 : decode cX3_copyFrom 29 = .ok (.getfield 15, 3) := by decide +kernel
theorem dX3_copyFrom_32 : decode cX3_copyFrom 32 = .ok (.arraylength, 1) := by decide +kernel
theorem dX3_copyFrom_33 : decode cX3_copyFrom 33 = .ok (.invokestatic 61, 3) := by decide +kernel
theorem dX3_copyFrom_36 : decode cX3_copyFrom 36 = .ok (.aload_n 1, 1) := by decide +kernel
theorem dX3_copyFrom_37 : decode cX3_copyFrom 37 = .ok (.getfield 18, 3) := by decide +kernel
theorem dX3_copyFrom_40 : decode cX3_copyFrom 40 = .ok (.iconst 0, 1) := by decide +kernel
theorem dX3_copyFrom_41 : decode cX3_copyFrom 41 = .ok (.aload_n 0, 1) := by decide +kernel
theorem dX3_copyFrom_42 : decode cX3_copyFrom 42 = .ok (.getfield 18, 3) := by decide +kernel
theorem dX3_copyFrom_45 : decode cX3_copyFrom 45 = .ok (.iconst 0, 1) := by decide +kernel
theorem dX3_copyFrom_46 : decode cX3_copyFrom 46 = .ok (.aload_n 0, 1) := by decide +kernel
theorem dX3_copyFrom_47 : decode cX3_copyFrom 47 = .ok (.getfield 18, 3) := by decide +kernel
theorem dX3_copyFrom_50 : decode cX3_copyFrom 50 = .ok (.arraylength, 1) := by decide +kernel
theorem dX3_copyFrom_51 : decode cX3_copyFrom 51 = .ok (.invokestatic 61, 3) := by decide +kernel
theorem dX3_copyFrom_54 : decode cX3_copyFrom 54 = .ok (.aload_n 1, 1) := by decide +kernel
theorem dX3_copyFrom_55 : decode cX3_copyFrom 55 = .ok (.getfield 21, 3) := by decide +kernel
theorem dX3_copyFrom_58 : decode cX3_copyFrom 58 = .ok (.iconst 0, 1) := by decide +kernel
theorem dX3_copyFrom_59 : decode cX3_copyFrom 59 = .ok (.aload_n 0, 1) := by decide +kernel
theorem dX3_copyFrom_60 : decode cX3_copyFrom 60 = .ok (.getfield 21, 3) := by decide +kernel
theorem dX3_copyFrom_63 : decode cX3_copyFrom 63 = .ok (.iconst 0, 1) := by decide +kernel
theorem dX3_copyFrom_64 : decode cX3_copyFrom 64 = .ok (.aload_n 0, 1) := by decide +kernel
theorem dX3_copyFrom_65 : decode cX3_copyFrom 65 = .ok (.getfield 21, 3) := by decide +kernel
theorem dX3_copyFrom_68 : decode cX3_copyFrom 68 = .ok (.arraylength, 1) := by decide +kernel
theorem dX3_copyFrom_69 : decode cX3_copyFrom 69 = .ok (.invokestatic 61, 3) := by decide +kernel
theorem dX3_copyFrom_72 : decode cX3_copyFrom 72 = .ok (.aload_n 1, 1) := by decide +kernel
theorem dX3_copyFrom_73 : decode cX3_copyFrom 73 = .ok (.getfield 24, 3) := by decide +kernel
theorem dX3_copyFrom_76 : decode cX3_copyFrom 76 = .ok (.iconst 0, 1) := by decide +kernel
theorem dX3_copyFrom_77 : decode cX3_copyFrom 77 = .ok (.aload_n 0, 1) := by decide +kernel
theorem dX3_copyFrom_78 : decode cX3_copyFrom 78 = .ok (.getfield 24, 3) := by decide +kernel
theorem dX3_copyFrom_81 : decode cX3_copyFrom 81 = .ok (.iconst 0, 1) := by decide +kernel
theorem dX3_copyFrom_82 : decode cX3_copyFrom 82 = .ok (.aload_n 0, 1) := by decide +kernel
theorem dX3_copyFrom_83 : decode cX3_copyFrom 83 = .ok (.getfield 24, 3) := by decide +kernel
theorem dX3_copyFrom_86 : decode cX3_copyFrom 86 = .ok (.arraylength, 1) := by decide +kernel
theorem dX3_copyFrom_87 : decode cX3_copyFrom 87 = .ok (.invokestatic 61, 3) := by decide +kernel
theorem dX3_copyFrom_90 : decode cX3_copyFrom 90 = .ok (.aload_n 1, 1) := by decide +kernel
theorem dX3_copyFrom_91 : decode cX3_copyFrom 91 = .ok (.getfield 27, 3) := by decide +kernel
theorem dX3_copyFrom_94 : decode cX3_copyFrom 94 = .ok (.iconst 0, 1) := by decide +kernel
theorem dX3_copyFrom_95 : decode cX3_copyFrom 95 = .ok (.aload_n 0, 1) := by decide +kernel
theorem dX3_copyFrom_96 : decode cX3_copyFrom 96 = .ok (.getfield 27, 3) := by decide +kernel
theorem dX3_copyFrom_99 : decode cX3_copyFrom 99 = .ok (.iconst 0, 1) := by decide +kernel
theorem dX3_copyFrom_100 : decode cX3_copyFrom 100 = .ok (.aload_n 0, 1) := by decide +kernel
theorem dX3_copyFrom_101 : decode cX3_copyFrom 101 = .ok (.getfield 27, 3) := by decide +kernel
theorem dX3_copyFrom_104 : decode cX3_copyFrom 104 = .ok (.arraylength, 1) := by decide +kernel
theorem dX3_copyFrom_105 : decode cX3_copyFrom 105 = .ok (.invokestatic 61, 3) := by decide +kernel
theorem dX3_copyFrom_108 : decode cX3_copyFrom 108 = .ok (.aload_n 1, 1) := by decide +kernel
theorem dX3_copyFrom_109 : decode cX3_copyFrom 109 = .ok (.getfield 30, 3) := by decide +kernel
theorem dX3_copyFrom_112 : decode cX3_copyFrom 112 = .ok (.iconst 0, 1) := by decide +kernel
theorem dX3_copyFrom_113 : decode cX3_copyFrom 113 = .ok (.aload_n 0, 1) := by decide +kernel
theorem dX3_copyFrom_114 : decode cX3_copyFrom 114 = .ok (.getfield 30, 3) := by decide +kernel
theorem dX3_copyFrom_117 : decode cX3_copyFrom 117 = .ok (.iconst 0, 1) := by decide +kernel
theorem dX3_copyFrom_118 : decode cX3_copyFrom 118 = .ok (.aload_n 0, 1) := by decide +kernel
theorem dX3_copyFrom_119 : decode cX3_copyFrom 119 = .ok (.getfield 30, 3) := by decide +kernel
theorem dX3_copyFrom_122 : decode cX3_copyFrom 122 = .ok (.arraylength, 1) := by decide +kernel
theorem dX3_copyFrom_123 : decode cX3_copyFrom 123 = .ok (.invokestatic 61, 3) := by decide +kernel
theorem dX3_copyFrom_126 : decode cX3_copyFrom 126 = .ok (.aload_n 1, 1) := by decide +kernel
theorem dX3_copyFrom_127 : decode cX3_copyFrom 127 = .ok (.getfield 33, 3) := by decide +kernel
theorem dX3_copyFrom_130 : decode cX3_copyFrom 130 = .ok (.iconst 0, 1) := by decide +kernel
theorem dX3_copyFrom_131 : decode cX3_copyFrom 131 = .ok (.aload_n 0, 1) := by decide +kernel
theorem dX3_copyFrom_132 : decode cX3_copyFrom 132 = .ok (.getfield 33, 3) := by decide +kernel
theorem dX3_copyFrom_135 : decode cX3_copyFrom 135 = .ok (.iconst 0, 1) := by decide +kernel
theorem dX3_copyFrom_136 : decode cX3_copyFrom 136 = .ok (.aload_n 0, 1) := by decide +kernel
theorem dX3_copyFrom_137 : decode cX3_copyFrom 137 = .ok (.getfield 33, 3) := by decide +kernel
theorem dX3_copyFrom_140 : decode cX3_copyFrom 140 = .ok (.arraylength, 1) := by decide +kernel
theorem dX3_copyFrom_141 : decode cX3_copyFrom 141 = .ok (.invokestatic 61, 3) := by decide +kernel
theorem dX3_copyFrom_144 : decode cX3_copyFrom 144 = .ok (.iconst 0, 1) := by decide +kernel
theorem dX3_copyFrom_145 : decode cX3_copyFrom 145 = .ok (.istore_n 2, 1) := by decide +kernel
theorem dX3_copyFrom_146 : decode cX3_copyFrom 146 = .ok (.iload_n 2, 1) := by decide +kernel
theorem dX3_copyFrom_147 : decode cX3_copyFrom 147 = .ok (.bipush 6, 2) := by decide +kernel
theorem dX3_copyFrom_149 : decode cX3_copyFrom 149 = .ok (.if_icmp .ge 21, 3) := by decide +kernel
theorem dX3_copyFrom_152 : decode cX3_copyFrom 152 = .ok (.aload_n 0, 1) := by decide +kernel
theorem dX3_copyFrom_153 : decode cX3_copyFrom 153 = .ok (.getfield 38, 3) := by decide +kernel
theorem dX3_copyFrom_156 : decode cX3_copyFrom 156 = .ok (.iload_n 2, 1) := by decide +kernel
theorem dX3_copyFrom_157 : decode cX3_copyFrom 157 = .ok (.aload_n 1, 1) := by decide +kernel
theorem dX3_copyFrom_158 : decode cX3_copyFrom 158 = .ok (.getfield 38, 3) := by decide +kernel
theorem dX3_copyFrom_161 : decode cX3_copyFrom 161 = .ok (.iload_n 2, 1) := by decide +kernel
theorem dX3_copyFrom_162 : decode cX3_copyFrom 162 = .ok (.aaload, 1) := by decide +kernel
theorem dX3_copyFrom_163 : decode cX3_copyFrom 163 = .ok (.aastore, 1) := by decide +kernel
theorem dX3_copyFrom_164 : decode cX3_copyFrom 164 = .ok (.iinc 2 1, 3) := by decide +kernel
theorem dX3_copyFrom_167 : decode cX3_copyFrom 167 = .ok (.goto (-21), 3) := by decide +kernel
theorem dX3_copyFrom_170 : decode cX3_copyFrom 170 = .ok (.aload_n 0, 1) := by decide +kernel
theorem dX3_copyFrom_171 : decode cX3_copyFrom 171 = .ok (.aload_n 1, 1) := by decide +kernel
theorem dX3_copyFrom_172 : decode cX3_copyFrom 172 = .ok (.getfield 42, 3) := by decide +kernel
theorem dX3_copyFrom_175 : decode cX3_copyFrom 175 = .ok (.putfield 42, 3) := by decide +kernel
theorem dX3_copyFrom_178 : decode cX3_copyFrom 178 = .ok (.aload_n 0, 1) := by decide +kernel
theorem dX3_copyFrom_179 : decode cX3_copyFrom 179 = .ok (.aload_n 1, 1) := by decide +kernel
theorem dX3_copyFrom_180 : decode cX3_copyFrom 180 = .ok (.getfield 46, 3) := by decide +kernel
theorem dX3_copyFrom_183 : decode cX3_copyFrom 183 = .ok (.putfield 46, 3) := by decide +kernel
theorem dX3_copyFrom_186 : decode cX3_copyFrom 186 = .ok (.aload_n 0, 1) := by decide +kernel
theorem dX3_copyFrom_187 : decode cX3_copyFrom 187 = .ok (.aload_n 1, 1) := by decide +kernel
theorem dX3_copyFrom_188 : decode cX3_copyFrom 188 = .ok (.getfield 49, 3) := by decide +kernel
theorem dX3_copyFrom_191 : decode cX3_copyFrom 191 = .ok (.putfield 49, 3) := by decide +kernel
theorem dX3_copyFrom_194 : decode cX3_copyFrom 194 = .ok (.aload_n 0, 1) := by decide +kernel
theorem dX3_copyFrom_195 : decode cX3_copyFrom 195 = .ok (.aload_n 1, 1) := by decide +kernel
theorem dX3_copyFrom_196 : decode cX3_copyFrom 196 = .ok (.getfield 52, 3) := by decide +kernel
theorem dX3_copyFrom_199 : decode cX3_copyFrom 199 = .ok (.putfield 52, 3) := by decide +kernel
theorem dX3_copyFrom_202 : decode cX3_copyFrom 202 = .ok (.aload_n 0, 1) := by decide +kernel
theorem dX3_copyFrom_203 : decode cX3_copyFrom 203 = .ok (.aload_n 1, 1) := by decide +kernel
theorem dX3_copyFrom_204 : decode cX3_copyFrom 204 = .ok (.getfield 55, 3) := by decide +kernel
theorem dX3_copyFrom_207 : decode cX3_copyFrom 207 = .ok (.putfield 55, 3) := by decide +kernel
theorem dX3_copyFrom_210 : decode cX3_copyFrom 210 = .ok (.aload_n 0, 1) := by decide +kernel
theorem dX3_copyFrom_211 : decode cX3_copyFrom 211 = .ok (.aload_n 1, 1) := by decide +kernel
theorem dX3_copyFrom_212 : decode cX3_copyFrom 212 = .ok (.getfield 58, 3) := by decide +kernel
theorem dX3_copyFrom_215 : decode cX3_copyFrom 215 = .ok (.putfield 58, 3) := by decide +kernel
theorem dX3_copyFrom_218 : decode cX3_copyFrom 218 = .ok (.return_, 1) := by decide +kernel
def w_X3_copyFrom (KQ : Int → Prop) (t0 t1 t2 t3 t4 t5 t6 t7 t8 t9 t10 t11 t12 t13 t14 t15 t16 t17 t18 t19 : Nat) (X : XT) (Q : XT → Prop) : Prop :=
  ∃ (I43 : Int → XT → Prop) (m44 : Int → XT → Nat), I43 0 (x_cp (x_cp (x_cp (x_cp (x_cp (x_cp (x_cp (x_cp X t11 t1 192) t12 t2 3) t13 t3 3) t14 t4 25) t15 t5 72) t16 t6 40) t17 t7 30) t18 t8 3) ∧ ∀ (x41 : Int) (X42 : XT), I43 x41 X42 → R32 x41 ∧ (6 ≤ x41 → Q (x_st (x_st (x_st (x_st (x_st (x_st X42 t0 9 (X42 t10 9)) t0 10 ((x_st X42 t0 9 (X42 t10 9)) t10 10)) t0 11 ((x_st (x_st X42 t0 9 (X42 t10 9)) t0 10 ((x_st X42 t0 9 (X42 t10 9)) t10 10)) t10 11)) t0 12 ((x_st (x_st (x_st X42 t0 9 (X42 t10 9)) t0 10 ((x_st X42 t0 9 (X42 t10 9)) t10 10)) t0 11 ((x_st (x_st X42 t0 9 (X42 t10 9)) t0 10 ((x_st X42 t0 9 (X42 t10 9)) t10 10)) t10 11)) t10 12)) t0 13 ((x_st (x_st (x_st (x_st X42 t0 9 (X42 t10 9)) t0 10 ((x_st X42 t0 9 (X42 t10 9)) t10 10)) t0 11 ((x_st (x_st X42 t0 9 (X42 t10 9)) t0 10 ((x_st X42 t0 9 (X42 t10 9)) t10 10)) t10 11)) t0 12 ((x_st (x_st (x_st X42 t0 9 (X42 t10 9)) t0 10 ((x_st X42 t0 9 (X42 t10 9)) t10 10)) t0 11 ((x_st (x_st X42 t0 9 (X42 t10 9)) t0 10 ((x_st X42 t0 9 (X42 t10 9)) t10 10)) t10 11)) t10 12)) t10 13)) t0 14 ((x_st (x_st (x_st (x_st (x_st X42 t0 9 (X42 t10 9)) t0 10 ((x_st X42 t0 9 (X42 t10 9)) t10 10)) t0 11 ((x_st (x_st X42 t0 9 (X42 t10 9)) t0 10 ((x_st X42 t0 9 (X42 t10 9)) t10 10)) t10 11)) t0 12 ((x_st (x_st (x_st X42 t0 9 (X42 t10 9)) t0 10 ((x_st X42 t0 9 (X42 t10 9)) t10 10)) t0 11 ((x_st (x_st X42 t0 9 (X42 t10 9)) t0 10 ((x_st X42 t0 9 (X42 t10 9)) t10 10)) t10 11)) t10 12)) t0 13 ((x_st (x_st (x_st (x_st X42 t0 9 (X42 t10 9)) t0 10 ((x_st X42 t0 9 (X42 t10 9)) t10 10)) t0 11 ((x_st (x_st X42 t0 9 (X42 t10 9)) t0 10 ((x_st X42 t0 9 (X42 t10 9)) t10 10)) t10 11)) t0 12 ((x_st (x_st (x_st X42 t0 9 (X42 t10 9)) t0 10 ((x_st X42 t0 9 (X42 t10 9)) t10 10)) t0 11 ((x_st (x_st X42 t0 9 (X42 t10 9)) t0 10 ((x_st X42 t0 9 (X42 t10 9)) t10 10)) t10 11)) t10 12)) t10 13)) t10 14))) ∧ (¬ 6 ≤ x41 → (0 ≤ x41 ∧ x41 < 6) ∧ (KQ (X42 t19 x41)) ∧ I43 (x41 + 1) (x_st X42 t9 x41 (X42 t19 x41)) ∧ m44 (x41 + 1) (x_st X42 t9 x41 (X42 t19 x41)) < m44 x41 X42)
set_option maxRecDepth 20000 in
theorem so_X3_copyFrom_12_1 {n : Nat} {h : Nat → sE} {X : XT} {KQ : Int → Prop} {hk : Nat → sE} (hK : KQok KQ n hk) {Q : XT → Prop} (hn : 115 ≤ n) (hp : Pic X h) (hf9 : Fr hk h) (w : w_X3_copyFrom KQ 12 13 14 15 16 17 18 19 20 21 1 2 3 4 5 6 7 8 9 10  X Q) : Sp m_X3_copyFrom 1 0 0 [.ref 12, .ref 1] n h (pVw n h Q) := by
  unfold w_X3_copyFrom at w
  refine Sp.ofV (by decide +kernel) (Nat.le_of_ble_eq_true rfl) ?_
  have hf : Fr h h := fun _ _ => rfl
  refine v_aload_n dX3_copyFrom_0 rfl ?_
  refine v_get dX3_copyFrom_1 fl_X3_9 ((hp 1 (by decide)).trans (ent_1 _)) rfl (s_lt hn rfl) ?_
  refine v_iconstI dX3_copyFrom_4 ?_
  refine v_aload_n dX3_copyFrom_5 rfl ?_
  refine v_get dX3_copyFrom_6 fl_X3_9 ((hp 12 (by decide)).trans (ent_12 _)) rfl (s_lt hn rfl) ?_
  refine v_iconstI dX3_copyFrom_9 ?_
  refine v_aload_n dX3_copyFrom_10 rfl ?_
  refine v_get dX3_copyFrom_11 fl_X3_9 ((hp 12 (by decide)).trans (ent_12 _)) rfl (s_lt hn rfl) ?_
  refine v_alen_aI dX3_copyFrom_14 ((hp 13 (by decide)).trans (ent_13 _)) (s_lt hn rfl) ?_
  refine v_copyI (N := 192) dX3_copyFrom_15 ml_X3_61 ((hp 2 (by decide)).trans (ent_2 _)) ((hp 13 (by decide)).trans (ent_13 _)) (s_lt hn rfl) (s_lt hn rfl) (by decide) (by decide) (by decide) (Nat.le_of_ble_eq_true rfl) (Nat.le_of_ble_eq_true rfl) (fun h1 E2 F3 => ?_)
  have hp4 := pic_cp hp (show h1 13 = ent 13 (fun j => if 0 ≤ j ∧ j < 192 then X 2 j else X 13 j) from E2) F3
  have hf5 := Fr.up (c := 13) hf F3 rfl
  refine v_aload_n dX3_copyFrom_18 rfl ?_
  refine v_get dX3_copyFrom_19 fl_X3_15 ((hp4 1 (by decide)).trans (ent_1 _)) rfl (s_lt hn rfl) ?_
  refine v_iconstI dX3_copyFrom_22 ?_
  refine v_aload_n dX3_copyFrom_23 rfl ?_
  refine v_get dX3_copyFrom_24 fl_X3_15 ((hp4 12 (by decide)).trans (ent_12 _)) rfl (s_lt hn rfl) ?_
  refine v_iconstI dX3_copyFrom_27 ?_
  refine v_aload_n dX3_copyFrom_28 rfl ?_
  refine v_get dX3_copyFrom_29 fl_X3_15 ((hp4 12 (by decide)).trans (ent_12 _)) rfl (s_lt hn rfl) ?_
  refine v_alen_aI dX3_copyFrom_32 ((hp4 14 (by decide)).trans (ent_14 _)) (s_lt hn rfl) ?_
  refine v_copyI (N := 3) dX3_copyFrom_33 ml_X3_61 ((hp4 3 (by decide)).trans (ent_3 _)) ((hp4 14 (by decide)).trans (ent_14 _)) (s_lt hn rfl) (s_lt hn rfl) (by decide) (by decide) (by decide) (Nat.le_of_ble_eq_true rfl) (Nat.le_of_ble_eq_true rfl) (fun h6 E7 F8 => ?_)
  have hp9 := pic_cp hp4 (show h6 14 = ent 14 (fun j => if 0 ≤ j ∧ j < 3 then (x_cp X 2 13 192) 3 j else (x_cp X 2 13 192) 14 j) from E7) F8
  have hf10 := Fr.up (c := 14) hf5 F8 rfl
  refine v_aload_n dX3_copyFrom_36 rfl ?_
  refine v_get dX3_copyFrom_37 fl_X3_18 ((hp9 1 (by decide)).trans (ent_1 _)) rfl (s_lt hn rfl) ?_
  refine v_iconstI dX3_copyFrom_40 ?_
  refine v_aload_n dX3_copyFrom_41 rfl ?_
  refine v_get dX3_copyFrom_42 fl_X3_18 ((hp9 12 (by decide)).trans (ent_12 _)) rfl (s_lt hn rfl) ?_
  refine v_iconstI dX3_copyFrom_45 ?_
  refine v_aload_n dX3_copyFrom_46 rfl ?_
  refine v_get dX3_copyFrom_47 fl_X3_18 ((hp9 12 (by decide)).trans (ent_12 _)) rfl (s_lt hn rfl) ?_
  refine v_alen_aI dX3_copyFrom_50 ((hp9 15 (by decide)).trans (ent_15 _)) (s_lt hn rfl) ?_
  refine v_copyI (N := 3) dX3_copyFrom_51 ml_X3_61 ((hp9 4 (by decide)).trans (ent_4 _)) ((hp9 15 (by decide)).trans (ent_15 _)) (s_lt hn rfl) (s_lt hn rfl) (by decide) (by decide) (by decide) (Nat.le_of_ble_eq_true rfl) (Nat.le_of_ble_eq_true rfl) (fun h11 E12 F13 => ?_)
  have hp14 := pic_cp hp9 (show h11 15 = ent 15 (fun j => if 0 ≤ j ∧ j < 3 then (x_cp (x_cp X 2 13 192) 3 14 3) 4 j else (x_cp (x_cp X 2 13 192) 3 14 3) 15 j) from E12) F13
  have hf15 := Fr.up (c := 15) hf10 F13 rfl
  refine v_aload_n dX3_copyFrom_54 rfl ?_
  refine v_get dX3_copyFrom_55 fl_X3_21 ((hp14 1 (by decide)).trans (ent_1 _)) rfl (s_lt hn rfl) ?_
  refine v_iconstI dX3_copyFrom_58 ?_
  refine v_aload_n dX3_copyFrom_59 rfl ?_
  refine v_get dX3_copyFrom_60 fl_X3_21 ((hp14 12 (by decide)).trans (ent_12 _)) rfl (s_lt hn rfl) ?_
  refine v_iconstI dX3_copyFrom_63 ?_
  refine v_aload_n dX3_copyFrom_64 rfl ?_
  refine v_get dX3_copyFrom_65 fl_X3_21 ((hp14 12 (by decide)).trans (ent_12 _)) rfl (s_lt hn rfl) ?_
  refine v_alen_aI dX3_copyFrom_68 ((hp14 16 (by decide)).trans (ent_16 _)) (s_lt hn rfl) ?_
  refine v_copyI (N := 25) dX3_copyFrom_69 ml_X3_61 ((hp14 5 (by decide)).trans (ent_5 _)) ((hp14 16 (by decide)).trans (ent_16 _)) (s_lt hn rfl) (s_lt hn rfl) (by decide) (by decide) (by decide) (Nat.le_of_ble_eq_true rfl) (Nat.le_of_ble_eq_true rfl) (fun h16 E17 F18 => ?_)
  have hp19 := pic_cp hp14 (show h16 16 = ent 16 (fun j => if 0 ≤ j ∧ j < 25 then (x_cp (x_cp (x_cp X 2 13 192) 3 14 3) 4 15 3) 5 j else (x_cp (x_cp (x_cp X 2 13 192) 3 14 3) 4 15 3) 16 j) from E17) F18
  have hf20 := Fr.up (c := 16) hf15 F18 rfl
  refine v_aload_n dX3_copyFrom_72 rfl ?_
  refine v_get dX3_copyFrom_73 fl_X3_24 ((hp19 1 (by decide)).trans (ent_1 _)) rfl (s_lt hn rfl) ?_
  refine v_iconstI dX3_copyFrom_76 ?_
  refine v_aload_n dX3_copyFrom_77 rfl ?_
  refine v_get dX3_copyFrom_78 fl_X3_24 ((hp19 12 (by decide)).trans (ent_12 _)) rfl (s_lt hn rfl) ?_
  refine v_iconstI dX3_copyFrom_81 ?_
  refine v_aload_n dX3_copyFrom_82 rfl ?_
  refine v_get dX3_copyFrom_83 fl_X3_24 ((hp19 12 (by decide)).trans (ent_12 _)) rfl (s_lt hn rfl) ?_
  refine v_alen_aI dX3_copyFrom_86 ((hp19 17 (by decide)).trans (ent_17 _)) (s_lt hn rfl) ?_
  refine v_copyI (N := 72) dX3_copyFrom_87 ml_X3_61 ((hp19 6 (by decide)).trans (ent_6 _)) ((hp19 17 (by decide)).trans (ent_17 _)) (s_lt hn rfl) (s_lt hn rfl) (by decide) (by decide) (by decide) (Nat.le_of_ble_eq_true rfl) (Nat.le_of_ble_eq_true rfl) (fun h21 E22 F23 => ?_)
  have hp24 := pic_cp hp19 (show h21 17 = ent 17 (fun j => if 0 ≤ j ∧ j < 72 then (x_cp (x_cp (x_cp (x_cp X 2 13 192) 3 14 3) 4 15 3) 5 16 25) 6 j else (x_cp (x_cp (x_cp (x_cp X 2 13 192) 3 14 3) 4 15 3) 5 16 25) 17 j) from E22) F23
  have hf25 := Fr.up (c := 17) hf20 F23 rfl
  refine v_aload_n dX3_copyFrom_90 rfl ?_
  refine v_get dX3_copyFrom_91 fl_X3_27 ((hp24 1 (by decide)).trans (ent_1 _)) rfl (s_lt hn rfl) ?_
  refine v_iconstI dX3_copyFrom_94 ?_
  refine v_aload_n dX3_copyFrom_95 rfl ?_
  refine v_get dX3_copyFrom_96 fl_X3_27 ((hp24 12 (by decide)).trans (ent_12 _)) rfl (s_lt hn rfl) ?_
  refine v_iconstI dX3_copyFrom_99 ?_
  refine v_aload_n dX3_copyFrom_100 rfl ?_
  refine v_get dX3_copyFrom_101 fl_X3_27 ((hp24 12 (by decide)).trans (ent_12 _)) rfl (s_lt hn rfl) ?_
  refine v_alen_aI dX3_copyFrom_104 ((hp24 18 (by decide)).trans (ent_18 _)) (s_lt hn rfl) ?_
  refine v_copyI (N := 40) dX3_copyFrom_105 ml_X3_61 ((hp24 7 (by decide)).trans (ent_7 _)) ((hp24 18 (by decide)).trans (ent_18 _)) (s_lt hn rfl) (s_lt hn rfl) (by decide) (by decide) (by decide) (Nat.le_of_ble_eq_true rfl) (Nat.le_of_ble_eq_true rfl) (fun h26 E27 F28 => ?_)
  have hp29 := pic_cp hp24 (show h26 18 = ent 18 (fun j => if 0 ≤ j ∧ j < 40 then (x_cp (x_cp (x_cp (x_cp (x_cp X 2 13 192) 3 14 3) 4 15 3) 5 16 25) 6 17 72) 7 j else (x_cp (x_cp (x_cp (x_cp (x_cp X 2 13 192) 3 14 3) 4 15 3) 5 16 25) 6 17 72) 18 j) from E27) F28
  have hf30 := Fr.up (c := 18) hf25 F28 rfl
  refine v_aload_n dX3_copyFrom_108 rfl ?_
  refine v_get dX3_copyFrom_109 fl_X3_30 ((hp29 1 (by decide)).trans (ent_1 _)) rfl (s_lt hn rfl) ?_
  refine v_iconstI dX3_copyFrom_112 ?_
  refine v_aload_n dX3_copyFrom_113 rfl ?_
  refine v_get dX3_copyFrom_114 fl_X3_30 ((hp29 12 (by decide)).trans (ent_12 _)) rfl (s_lt hn rfl) ?_
  refine v_iconstI dX3_copyFrom_117 ?_
  refine v_aload_n dX3_copyFrom_118 rfl ?_
  refine v_get dX3_copyFrom_119 fl_X3_30 ((hp29 12 (by decide)).trans (ent_12 _)) rfl (s_lt hn rfl) ?_
  refine v_alen_aI dX3_copyFrom_122 ((hp29 19 (by decide)).trans (ent_19 _)) (s_lt hn rfl) ?_
  refine v_copyI (N := 30) dX3_copyFrom_123 ml_X3_61 ((hp29 8 (by decide)).trans (ent_8 _)) ((hp29 19 (by decide)).trans (ent_19 _)) (s_lt hn rfl) (s_lt hn rfl) (by decide) (by decide) (by decide) (Nat.le_of_ble_eq_true rfl) (Nat.le_of_ble_eq_true rfl) (fun h31 E32 F33 => ?_)
  have hp34 := pic_cp hp29 (show h31 19 = ent 19 (fun j => if 0 ≤ j ∧ j < 30 then (x_cp (x_cp (x_cp (x_cp (x_cp (x_cp X 2 13 192) 3 14 3) 4 15 3) 5 16 25) 6 17 72) 7 18 40) 8 j else (x_cp (x_cp (x_cp (x_cp (x_cp (x_cp X 2 13 192) 3 14 3) 4 15 3) 5 16 25) 6 17 72) 7 18 40) 19 j) from E32) F33
  have hf35 := Fr.up (c := 19) hf30 F33 rfl
  refine v_aload_n dX3_copyFrom_126 rfl ?_
  refine v_get dX3_copyFrom_127 fl_X3_33 ((hp34 1 (by decide)).trans (ent_1 _)) rfl (s_lt hn rfl) ?_
  refine v_iconstI dX3_copyFrom_130 ?_
  refine v_aload_n dX3_copyFrom_131 rfl ?_
  refine v_get dX3_copyFrom_132 fl_X3_33 ((hp34 12 (by decide)).trans (ent_12 _)) rfl (s_lt hn rfl) ?_
  refine v_iconstI dX3_copyFrom_135 ?_
  refine v_aload_n dX3_copyFrom_136 rfl ?_
  refine v_get dX3_copyFrom_137 fl_X3_33 ((hp34 12 (by decide)).trans (ent_12 _)) rfl (s_lt hn rfl) ?_
  refine v_alen_aI dX3_copyFrom_140 ((hp34 20 (by decide)).trans (ent_20 _)) (s_lt hn rfl) ?_
  refine v_copyI (N := 3) dX3_copyFrom_141 ml_X3_61 ((hp34 9 (by decide)).trans (ent_9 _)) ((hp34 20 (by decide)).trans (ent_20 _)) (s_lt hn rfl) (s_lt hn rfl) (by decide) (by decide) (by decide) (Nat.le_of_ble_eq_true rfl) (Nat.le_of_ble_eq_true rfl) (fun h36 E37 F38 => ?_)
  have hp39 := pic_cp hp34 (show h36 20 = ent 20 (fun j => if 0 ≤ j ∧ j < 3 then (x_cp (x_cp (x_cp (x_cp (x_cp (x_cp (x_cp X 2 13 192) 3 14 3) 4 15 3) 5 16 25) 6 17 72) 7 18 40) 8 19 30) 9 j else (x_cp (x_cp (x_cp (x_cp (x_cp (x_cp (x_cp X 2 13 192) 3 14 3) 4 15 3) 5 16 25) 6 17 72) 7 18 40) 8 19 30) 20 j) from E37) F38
  have hf40 := Fr.up (c := 20) hf35 F38 rfl
  refine v_iconstI dX3_copyFrom_144 ?_
  refine v_istore_n dX3_copyFrom_145 (Nat.le_of_ble_eq_true rfl) ?_
  refine v_pick [1, 2, 0] rfl ?_
  obtain ⟨I43, m44, wi47, wl46⟩ := w
  have hL48 : ∀ (N51 : Nat) (x41 : Int) (X42 : XT) (h52 : Nat → sE), m44 x41 X42 < N51 → I43 x41 X42 → Pic X42 h52 → Fr h h52 → V (m_X3_copyFrom, 1, 0, 0, n, pVw n h Q, s_G0) 0 0 n h52 146 [(0, .ref 12), (1, .ref 1), (2, .int (iI x41))] [] := by
    intro N51
    induction N51 with
    | zero => intro x41 X42 h52 hm49; exact absurd hm49 (Nat.not_lt_zero _)
    | succ N51 ih45 =>
      intro x41 X42 h52 hm49 hI50 hp53 hf54
      have w := wl46 x41 X42 hI50
      refine v_iload_n dX3_copyFrom_146 rfl ?_
      refine v_bipushI dX3_copyFrom_147 rfl ?_
      obtain ⟨q55, w⟩ := w
      refine v_icmp_geI (tgt := 170) dX3_copyFrom_149 (by decide) q55.1 q55.2 (by decide) (by decide) (fun c56 => ?_) (fun c56 => ?_)
      · replace w := w.1 c56
        refine v_aload_n dX3_copyFrom_170 rfl ?_
        refine v_aload_n dX3_copyFrom_171 rfl ?_
        refine v_get dX3_copyFrom_172 fl_X3_42 ((hp53 1 (by decide)).trans (ent_1 _)) rfl (s_lt hn rfl) ?_
        refine v_put dX3_copyFrom_175 fl_X3_42 ((hp53 12 (by decide)).trans (ent_12 _)) (s_lt hn rfl) (Nat.le_of_ble_eq_true rfl) (fun _ => ⟨rfl, rfl⟩) trivial (fun h57 E58 F59 => ?_)
        have hp60 := pic_st hp53 (show h57 12 = ent 12 (uI _ 9 (X42 1 9)) from E58) F59
        have hf61 := Fr.up (c := 12) hf54 F59 rfl
        refine v_aload_n dX3_copyFrom_178 rfl ?_
        refine v_aload_n dX3_copyFrom_179 rfl ?_
        refine v_get dX3_copyFrom_180 fl_X3_46 ((hp60 1 (by decide)).trans (ent_1 _)) rfl (s_lt hn rfl) ?_
        refine v_put dX3_copyFrom_183 fl_X3_46 ((hp60 12 (by decide)).trans (ent_12 _)) (s_lt hn rfl) (Nat.le_of_ble_eq_true rfl) (fun _ => ⟨rfl, rfl⟩) trivial (fun h62 E63 F64 => ?_)
        have hp65 := pic_st hp60 (show h62 12 = ent 12 (uI _ 10 ((x_st X42 12 9 (X42 1 9)) 1 10)) from E63) F64
        have hf66 := Fr.up (c := 12) hf61 F64 rfl
        refine v_aload_n dX3_copyFrom_186 rfl ?_
        refine v_aload_n dX3_copyFrom_187 rfl ?_
        refine v_get dX3_copyFrom_188 fl_X3_49 ((hp65 1 (by decide)).trans (ent_1 _)) rfl (s_lt hn rfl) ?_
        refine v_put dX3_copyFrom_191 fl_X3_49 ((hp65 12 (by decide)).trans (ent_12 _)) (s_lt hn rfl) (Nat.le_of_ble_eq_true rfl) (fun _ => ⟨rfl, rfl⟩) trivial (fun h67 E68 F69 => ?_)
        have hp70 := pic_st hp65 (show h67 12 = ent 12 (uI _ 11 ((x_st (x_st X42 12 9 (X42 1 9)) 12 10 ((x_st X42 12 9 (X42 1 9)) 1 10)) 1 11)) from E68) F69
        have hf71 := Fr.up (c := 12) hf66 F69 rfl
        refine v_aload_n dX3_copyFrom_194 rfl ?_
        refine v_aload_n dX3_copyFrom_195 rfl ?_
        refine v_get dX3_copyFrom_196 fl_X3_52 ((hp70 1 (by decide)).trans (ent_1 _)) rfl (s_lt hn rfl) ?_
        refine v_put dX3_copyFrom_199 fl_X3_52 ((hp70 12 (by decide)).trans (ent_12 _)) (s_lt hn rfl) (Nat.le_of_ble_eq_true rfl) (fun _ => ⟨rfl, rfl⟩) trivial (fun h72 E73 F74 => ?_)
        have hp75 := pic_st hp70 (show h72 12 = ent 12 (uI _ 12 ((x_st (x_st (x_st X42 12 9 (X42 1 9)) 12 10 ((x_st X42 12 9 (X42 1 9)) 1 10)) 12 11 ((x_st (x_st X42 12 9 (X42 1 9)) 12 10 ((x_st X42 12 9 (X42 1 9)) 1 10)) 1 11)) 1 12)) from E73) F74
        have hf76 := Fr.up (c := 12) hf71 F74 rfl
        refine v_aload_n dX3_copyFrom_202 rfl ?_
        refine v_aload_n dX3_copyFrom_203 rfl ?_
        refine v_get dX3_copyFrom_204 fl_X3_55 ((hp75 1 (by decide)).trans (ent_1 _)) rfl (s_lt hn rfl) ?_
        refine v_put dX3_copyFrom_207 fl_X3_55 ((hp75 12 (by decide)).trans (ent_12 _)) (s_lt hn rfl) (Nat.le_of_ble_eq_true rfl) (fun _ => ⟨rfl, rfl⟩) trivial (fun h77 E78 F79 => ?_)
        have hp80 := pic_st hp75 (show h77 12 = ent 12 (uI _ 13 ((x_st (x_st (x_st (x_st X42 12 9 (X42 1 9)) 12 10 ((x_st X42 12 9 (X42 1 9)) 1 10)) 12 11 ((x_st (x_st X42 12 9 (X42 1 9)) 12 10 ((x_st X42 12 9 (X42 1 9)) 1 10)) 1 11)) 12 12 ((x_st (x_st (x_st X42 12 9 (X42 1 9)) 12 10 ((x_st X42 12 9 (X42 1 9)) 1 10)) 12 11 ((x_st (x_st X42 12 9 (X42 1 9)) 12 10 ((x_st X42 12 9 (X42 1 9)) 1 10)) 1 11)) 1 12)) 1 13)) from E78) F79
        have hf81 := Fr.up (c := 12) hf76 F79 rfl
        refine v_aload_n dX3_copyFrom_210 rfl ?_
        refine v_aload_n dX3_copyFrom_211 rfl ?_
        refine v_get dX3_copyFrom_212 fl_X3_58 ((hp80 1 (by decide)).trans (ent_1 _)) rfl (s_lt hn rfl) ?_
        refine v_put dX3_copyFrom_215 fl_X3_58 ((hp80 12 (by decide)).trans (ent_12 _)) (s_lt hn rfl) (Nat.le_of_ble_eq_true rfl) (fun _ => ⟨rfl, rfl⟩) trivial (fun h82 E83 F84 => ?_)
        have hp85 := pic_st hp80 (show h82 12 = ent 12 (uI _ 14 ((x_st (x_st (x_st (x_st (x_st X42 12 9 (X42 1 9)) 12 10 ((x_st X42 12 9 (X42 1 9)) 1 10)) 12 11 ((x_st (x_st X42 12 9 (X42 1 9)) 12 10 ((x_st X42 12 9 (X42 1 9)) 1 10)) 1 11)) 12 12 ((x_st (x_st (x_st X42 12 9 (X42 1 9)) 12 10 ((x_st X42 12 9 (X42 1 9)) 1 10)) 12 11 ((x_st (x_st X42 12 9 (X42 1 9)) 12 10 ((x_st X42 12 9 (X42 1 9)) 1 10)) 1 11)) 1 12)) 12 13 ((x_st (x_st (x_st (x_st X42 12 9 (X42 1 9)) 12 10 ((x_st X42 12 9 (X42 1 9)) 1 10)) 12 11 ((x_st (x_st X42 12 9 (X42 1 9)) 12 10 ((x_st X42 12 9 (X42 1 9)) 1 10)) 1 11)) 12 12 ((x_st (x_st (x_st X42 12 9 (X42 1 9)) 12 10 ((x_st X42 12 9 (X42 1 9)) 1 10)) 12 11 ((x_st (x_st X42 12 9 (X42 1 9)) 12 10 ((x_st X42 12 9 (X42 1 9)) 1 10)) 1 11)) 1 12)) 1 13)) 1 14)) from E83) F84
        have hf86 := Fr.up (c := 12) hf81 F84 rfl
        exact v_vret dX3_copyFrom_218 rfl (Nat.zero_le _) (Nat.zero_le _) ⟨rfl, hf86, _, rfl, hp85, w⟩
      · replace w := w.2 c56
        refine v_aload_n dX3_copyFrom_152 rfl ?_
        refine v_get dX3_copyFrom_153 fl_X3_38 ((hp53 12 (by decide)).trans (ent_12 _)) rfl (s_lt hn rfl) ?_
        refine v_iload_n dX3_copyFrom_156 rfl ?_
        refine v_aload_n dX3_copyFrom_157 rfl ?_
        refine v_get dX3_copyFrom_158 fl_X3_38 ((hp53 1 (by decide)).trans (ent_1 _)) rfl (s_lt hn rfl) ?_
        refine v_iload_n dX3_copyFrom_161 rfl ?_
        obtain ⟨q87, w⟩ := w
        refine v_aaldI dX3_copyFrom_162 ((hp53 10 (by decide)).trans (ent_10 _)) (s_lt hn rfl) q87.1 q87.2 (ix_le q87.2 (by decide)) ?_
        obtain ⟨q88, w⟩ := w
        refine v_aastQ dX3_copyFrom_163 ((hp53 21 (by decide)).trans (ent_21 _)) (s_lt hn rfl) (hK.at (Fr.trans hf9 hf54) q88) q87.1 q87.2 (ix_le q87.2 (by decide)) (fun h89 E90 F91 => ?_)
        have hp92 := pic_st hp53 (show h89 21 = ent 21 (uI _ x41 (X42 10 x41)) from E90) F91
        have hf93 := Fr.up (c := 21) hf54 F91 rfl
        refine v_iincI dX3_copyFrom_164 rfl (Nat.le_of_ble_eq_true rfl) ?_
        refine v_goto (tgt := 146) dX3_copyFrom_167 (by decide) ?_
        refine v_pick [1, 2, 0] rfl ?_
        exact ih45 _ _ _ (Nat.lt_of_lt_of_le w.2 (Nat.le_of_lt_succ hm49)) w.1 hp92 hf93
  exact hL48 _ _ _ _ (Nat.lt_succ_self _) wi47 hp39 hf40
set_option maxRecDepth 20000 in
theorem so_X3_copyFrom_22_1 {n : Nat} {h : Nat → sE} {X : XT} {KQ : Int → Prop} {hk : Nat → sE} (hK : KQok KQ n hk) {Q : XT → Prop} (hn : 115 ≤ n) (hp : Pic X h) (hf9 : Fr hk h) (w : w_X3_copyFrom KQ 22 23 24 25 26 27 28 29 30 31 1 2 3 4 5 6 7 8 9 10  X Q) : Sp m_X3_copyFrom 1 0 0 [.ref 22, .ref 1] n h (pVw n h Q) := by
  unfold w_X3_copyFrom at w
  refine Sp.ofV (by decide +kernel) (Nat.le_of_ble_eq_true rfl) ?_
  have hf : Fr h h := fun _ _ => rfl
  refine v_aload_n dX3_copyFrom_0 rfl ?_
  refine v_get dX3_copyFrom_1 fl_X3_9 ((hp 1 (by decide)).trans (ent_1 _)) rfl (s_lt hn rfl) ?_
  refine v_iconstI dX3_copyFrom_4 ?_
  refine v_aload_n dX3_copyFrom_5 rfl ?_
  refine v_get dX3_copyFrom_6 fl_X3_9 ((hp 22 (by decide)).trans (ent_22 _)) rfl (s_lt hn rfl) ?_
  refine v_iconstI dX3_copyFrom_9 ?_
  refine v_aload_n dX3_copyFrom_10 rfl ?_
  refine v_get dX3_copyFrom_11 fl_X3_9 ((hp 22 (by decide)).trans (ent_22 _)) rfl (s_lt hn rfl) ?_
  refine v_alen_aI dX3_copyFrom_14 ((hp 23 (by decide)).trans (ent_23 _)) (s_lt hn rfl) ?_
  refine v_copyI (N := 192) dX3_copyFrom_15 ml_X3_61 ((hp 2 (by decide)).trans (ent_2 _)) ((hp 23 (by decide)).trans (ent_23 _)) (s_lt hn rfl) (s_lt hn rfl) (by decide) (by decide) (by decide) (Nat.le_of_ble_eq_true rfl) (Nat.le_of_ble_eq_true rfl) (fun h1 E2 F3 => ?_)
  have hp4 := pic_cp hp (show h1 23 = ent 23 (fun j => if 0 ≤ j ∧ j < 192 then X 2 j else X 23 j) from E2) F3
  have hf5 := Fr.up (c := 23) hf F3 rfl
  refine v_aload_n dX3_copyFrom_18 rfl ?_
  refine v_get dX3_copyFrom_19 fl_X3_15 ((hp4 1 (by decide)).trans (ent_1 _)) rfl (s_lt hn rfl) ?_
  refine v_iconstI dX3_copyFrom_22 ?_
  refine v_aload_n dX3_copyFrom_23 rfl ?_
  refine v_get dX3_copyFrom_24 fl_X3_15 ((hp4 22 (by decide)).trans (ent_22 _)) rfl (s_lt hn rfl) ?_
  refine v_iconstI dX3_copyFrom_27 ?_
  refine v_aload_n dX3_copyFrom_28 rfl ?_
  refine v_get dX3_copyFrom_29 fl_X3_15 ((hp4 22 (by decide)).trans (ent_22 _)) rfl (s_lt hn rfl) ?_
  refine v_alen_aI dX3_copyFrom_32 ((hp4 24 (by decide)).trans (ent_24 _)) (s_lt hn rfl) ?_
  refine v_copyI (N := 3) dX3_copyFrom_33 ml_X3_61 ((hp4 3 (by decide)).trans (ent_3 _)) ((hp4 24 (by decide)).trans (ent_24 _)) (s_lt hn rfl) (s_lt hn rfl) (by decide) (by decide) (by decide) (Nat.le_of_ble_eq_true rfl) (Nat.le_of_ble_eq_true rfl) (fun h6 E7 F8 => ?_)
  have hp9 := pic_cp hp4 (show h6 24 = ent 24 (fun j => if 0 ≤ j ∧ j < 3 then (x_cp X 2 23 192) 3 j else (x_cp X 2 23 192) 24 j) from E7) F8
  have hf10 := Fr.up (c := 24) hf5 F8 rfl
  refine v_aload_n dX3_copyFrom_36 rfl ?_
  refine v_get dX3_copyFrom_37 fl_X3_18 ((hp9 1 (by decide)).trans (ent_1 _)) rfl (s_lt hn rfl) ?_
  refine v_iconstI dX3_copyFrom_40 ?_
  refine v_aload_n dX3_copyFrom_41 rfl ?_
  refine v_get dX3_copyFrom_42 fl_X3_18 ((hp9 22 (by decide)).trans (ent_22 _)) rfl (s_lt hn rfl) ?_
  refine v_iconstI dX3_copyFrom_45 ?_
  refine v_aload_n dX3_copyFrom_46 rfl ?_
  refine v_get dX3_copyFrom_47 fl_X3_18 ((hp9 22 (by decide)).trans (ent_22 _)) rfl (s_lt hn rfl) ?_
  refine v_alen_aI dX3_copyFrom_50 ((hp9 25 (by decide)).trans (ent_25 _)) (s_lt hn rfl) ?_
  refine v_copyI (N := 3) dX3_copyFrom_51 ml_X3_61 ((hp9 4 (by decide)).trans (ent_4 _)) ((hp9 25 (by decide)).trans (ent_25 _)) (s_lt hn rfl) (s_lt hn rfl) (by decide) (by decide) (by decide) (Nat.le_of_ble_eq_true rfl) (Nat.le_of_ble_eq_true rfl) (fun h11 E12 F13 => ?_)
  have hp14 := pic_cp hp9 (show h11 25 = ent 25 (fun j => if 0 ≤ j ∧ j < 3 then (x_cp (x_cp X 2 23 192) 3 24 3) 4 j else (x_cp (x_cp X 2 23 192) 3 24 3) 25 j) from E12) F13
  have hf15 := Fr.up (c := 25) hf10 F13 rfl
  refine v_aload_n dX3_copyFrom_54 rfl ?_
  refine v_get dX3_copyFrom_55 fl_X3_21 ((hp14 1 (by decide)).trans (ent_1 _)) rfl (s_lt hn rfl) ?_
  refine v_iconstI dX3_copyFrom_58 ?_
  refine v_aload_n dX3_copyFrom_59 rfl ?_
  refine v_get dX3_copyFrom_60 fl_X3_21 ((hp14 22 (by decide)).trans (ent_22 _)) rfl (s_lt hn rfl) ?_
  refine v_iconstI dX3_copyFrom_63 ?_
  refine v_aload_n dX3_copyFrom_64 rfl ?_
  refine v_get dX3_copyFrom_65 fl_X3_21 ((hp14 22 (by decide)).trans (ent_22 _)) rfl (s_lt hn rfl) ?_
  refine v_alen_aI dX3_copyFrom_68 ((hp14 26 (by decide)).trans (ent_26 _)) (s_lt hn rfl) ?_
  refine v_copyI (N := 25) dX3_copyFrom_69 ml_X3_61 ((hp14 5 (by decide)).trans (ent_5 _)) ((hp14 26 (by decide)).trans (ent_26 _)) (s_lt hn rfl) (s_lt hn rfl) (by decide) (by decide) (by decide) (Nat.le_of_ble_eq_true rfl) (Nat.le_of_ble_eq_true rfl) (fun h16 E17 F18 => ?_)
  have hp19 := pic_cp hp14 (show h16 26 = ent 26 (fun j => if 0 ≤ j ∧ j < 25 then (x_cp (x_cp (x_cp X 2 23 192) 3 24 3) 4 25 3) 5 j else (x_cp (x_cp (x_cp X 2 23 192) 3 24 3) 4 25 3) 26 j) from E17) F18
  have hf20 := Fr.up (c := 26) hf15 F18 rfl
  refine v_aload_n dX3_copyFrom_72 rfl ?_
  refine v_get dX3_copyFrom_73 fl_X3_24 ((hp19 1 (by decide)).trans (ent_1 _)) rfl (s_lt hn rfl) ?_
  refine v_iconstI dX3_copyFrom_76 ?_
  refine v_aload_n dX3_copyFrom_77 rfl ?_
  refine v_get dX3_copyFrom_78 fl_X3_24 ((hp19 22 (by decide)).trans (ent_22 _)) rfl (s_lt hn rfl) ?_
  refine v_iconstI dX3_copyFrom_81 ?_
  refine v_aload_n dX3_copyFrom_82 rfl ?_
  refine v_get dX3_copyFrom_83 fl_X3_24 ((hp19 22 (by decide)).trans (ent_22 _)) rfl (s_lt hn rfl) ?_
  refine v_alen_aI dX3_copyFrom_86 ((hp19 27 (by decide)).trans (ent_27 _)) (s_lt hn rfl) ?_
  refine v_copyI (N := 72) dX3_copyFrom_87 ml_X3_61 ((hp19 6 (by decide)).trans (ent_6 _)) ((hp19 27 (by decide)).trans (ent_27 _)) (s_lt hn rfl) (s_lt hn rfl) (by decide) (by decide) (by decide) (Nat.le_of_ble_eq_true rfl) (Nat.le_of_ble_eq_true rfl) (fun h21 E22 F23 => ?_)
  have hp24 := pic_cp hp19 (show h21 27 = ent 27 (fun j => if 0 ≤ j ∧ j < 72 then (x_cp (x_cp (x_cp (x_cp X 2 23 192) 3 24 3) 4 25 3) 5 26 25) 6 j else (x_cp (x_cp (x_cp (x_cp X 2 23 192) 3 24 3) 4 25 3) 5 26 25) 27 j) from E22) F23
  have hf25 := Fr.up (c := 27) hf20 F23 rfl
  refine v_aload_n dX3_copyFrom_90 rfl ?_
  refine v_get dX3_copyFrom_91 fl_X3_27 ((hp24 1 (by decide)).trans (ent_1 _)) rfl (s_lt hn rfl) ?_
  refine v_iconstI dX3_copyFrom_94 ?_
  refine v_aload_n dX3_copyFrom_95 rfl ?_
  refine v_get dX3_copyFrom_96 fl_X3_27 ((hp24 22 (by decide)).trans (ent_22 _)) rfl (s_lt hn rfl) ?_
  refine v_iconstI dX3_copyFrom_99 ?_
  refine v_aload_n dX3_copyFrom_100 rfl ?_
  refine v_get dX3_copyFrom_101 fl_X3_27 ((hp24 22 (by decide)).trans (ent_22 _)) rfl (s_lt hn rfl) ?_
  refine v_alen_aI dX3_copyFrom_104 ((hp24 28 (by decide)).trans (ent_28 _)) (s_lt hn rfl) ?_
  refine v_copyI (N := 40) dX3_copyFrom_105 ml_X3_61 ((hp24 7 (by decide)).trans (ent_7 _)) ((hp24 28 (by decide)).trans (ent_28 _)) (s_lt hn rfl) (s_lt hn rfl) (by decide) (by decide) (by decide) (Nat.le_of_ble_eq_true rfl) (Nat.le_of_ble_eq_true rfl) (fun h26 E27 F28 => ?_)
  have hp29 := pic_cp hp24 (show h26 28 = ent 28 (fun j => if 0 ≤ j ∧ j < 40 then (x_cp (x_cp (x_cp (x_cp (x_cp X 2 23 192) 3 24 3) 4 25 3) 5 26 25) 6 27 72) 7 j else (x_cp (x_cp (x_cp (x_cp (x_cp X 2 23 192) 3 24 3) 4 25 3) 5 26 25) 6 27 72) 28 j) from E27) F28
  have hf30 := Fr.up (c := 28) hf25 F28 rfl
  refine v_aload_n dX3_copyFrom_108 rfl ?_
  refine v_get dX3_copyFrom_109 fl_X3_30 ((hp29 1 (by decide)).trans (ent_1 _)) rfl (s_lt hn rfl) ?_
  refine v_iconstI dX3_copyFrom_112 ?_
  refine v_aload_n dX3_copyFrom_113 rfl ?_
  refine v_get dX3_copyFrom_114 fl_X3_30 ((hp29 22 (by decide)).trans (ent_22 _)) rfl (s_lt hn rfl) ?_
  refine v_iconstI dX3_copyFrom_117 ?_
  refine v_aload_n dX3_copyFrom_118 rfl ?_
  refine v_get dX3_copyFrom_119 fl_X3_30 ((hp29 22 (by decide)).trans (ent_22 _)) rfl (s_lt hn rfl) ?_
  refine v_alen_aI dX3_copyFrom_122 ((hp29 29 (by decide)).trans (ent_29 _)) (s_lt hn rfl) ?_
  refine v_copyI (N := 30) dX3_copyFrom_123 ml_X3_61 ((hp29 8 (by decide)).trans (ent_8 _)) ((hp29 29 (by decide)).trans (ent_29 _)) (s_lt hn rfl) (s_lt hn rfl) (by decide) (by decide) (by decide) (Nat.le_of_ble_eq_true rfl) (Nat.le_of_ble_eq_true rfl) (fun h31 E32 F33 => ?_)
  have hp34 := pic_cp hp29 (show h31 29 = ent 29 (fun j => if 0 ≤ j ∧ j < 30 then (x_cp (x_cp (x_cp (x_cp (x_cp (x_cp X 2 23 192) 3 24 3) 4 25 3) 5 26 25) 6 27 72) 7 28 40) 8 j else (x_cp (x_cp (x_cp (x_cp (x_cp (x_cp X 2 23 192) 3 24 3) 4 25 3) 5 26 25) 6 27 72) 7 28 40) 29 j) from E32) F33
  have hf35 := Fr.up (c := 29) hf30 F33 rfl
  refine v_aload_n dX3_copyFrom_126 rfl ?_
  refine v_get dX3_copyFrom_127 fl_X3_33 ((hp34 1 (by decide)).trans (ent_1 _)) rfl (s_lt hn rfl) ?_
  refine v_iconstI dX3_copyFrom_130 ?_
  refine v_aload_n dX3_copyFrom_131 rfl ?_
  refine v_get dX3_copyFrom_132 fl_X3_33 ((hp34 22 (by decide)).trans (ent_22 _)) rfl (s_lt hn rfl) ?_
  refine v_iconstI dX3_copyFrom_135 ?_
  refine v_aload_n dX3_copyFrom_136 rfl ?_
  refine v_get dX3_copyFrom_137 fl_X3_33 ((hp34 22 (by decide)).trans (ent_22 _)) rfl (s_lt hn rfl) ?_
  refine v_alen_aI dX3_copyFrom_140 ((hp34 30 (by decide)).trans (ent_30 _)) (s_lt hn rfl) ?_
  refine v_copyI (N := 3) dX3_copyFrom_141 ml_X3_61 ((hp34 9 (by decide)).trans (ent_9 _)) ((hp34 30 (by decide)).trans (ent_30 _)) (s_lt hn rfl) (s_lt hn rfl) (by decide) (by decide) (by decide) (Nat.le_of_ble_eq_true rfl) (Nat.le_of_ble_eq_true rfl) (fun h36 E37 F38 => ?_)
  have hp39 := pic_cp hp34 (show h36 30 = ent 30 (fun j => if 0 ≤ j ∧ j < 3 then (x_cp (x_cp (x_cp (x_cp (x_cp (x_cp (x_cp X 2 23 192) 3 24 3) 4 25 3) 5 26 25) 6 27 72) 7 28 40) 8 29 30) 9 j else (x_cp (x_cp (x_cp (x_cp (x_cp (x_cp (x_cp X 2 23 192) 3 24 3) 4 25 3) 5 26 25) 6 27 72) 7 28 40) 8 29 30) 30 j) from E37) F38
  have hf40 := Fr.up (c := 30) hf35 F38 rfl
  refine v_iconstI dX3_copyFrom_144 ?_
  refine v_istore_n dX3_copyFrom_145 (Nat.le_of_ble_eq_true rfl) ?_
  refine v_pick [1, 2, 0] rfl ?_
  obtain ⟨I43, m44, wi47, wl46⟩ := w
  have hL48 : ∀ (N51 : Nat) (x41 : Int) (X42 : XT) (h52 : Nat → sE), m44 x41 X42 < N51 → I43 x41 X42 → Pic X42 h52 → Fr h h52 → V (m_X3_copyFrom, 1, 0, 0, n, pVw n h Q, s_G0) 0 0 n h52 146 [(0, .ref 22), (1, .ref 1), (2, .int (iI x41))] [] := by
    intro N51
    induction N51 with
    | zero => intro x41 X42 h52 hm49; exact absurd hm49 (Nat.not_lt_zero _)
    | succ N51 ih45 =>
      intro x41 X42 h52 hm49 hI50 hp53 hf54
      have w := wl46 x41 X42 hI50
      refine v_iload_n dX3_copyFrom_146 rfl ?_
      refine v_bipushI dX3_copyFrom_147 rfl ?_
      obtain ⟨q55, w⟩ := w
      refine v_icmp_geI (tgt := 170) dX3_copyFrom_149 (by decide) q55.1 q55.2 (by decide) (by decide) (fun c56 => ?_) (fun c56 => ?_)
      · replace w := w.1 c56
        refine v_aload_n dX3_copyFrom_170 rfl ?_
        refine v_aload_n dX3_copyFrom_171 rfl ?_
        refine v_get dX3_copyFrom_172 fl_X3_42 ((hp53 1 (by decide)).trans (ent_1 _)) rfl (s_lt hn rfl) ?_
        refine v_put dX3_copyFrom_175 fl_X3_42 ((hp53 22 (by decide)).trans (ent_22 _)) (s_lt hn rfl) (Nat.le_of_ble_eq_true rfl) (fun _ => ⟨rfl, rfl⟩) trivial (fun h57 E58 F59 => ?_)
        have hp60 := pic_st hp53 (show h57 22 = ent 22 (uI _ 9 (X42 1 9)) from E58) F59
        have hf61 := Fr.up (c := 22) hf54 F59 rfl
        refine v_aload_n dX3_copyFrom_178 rfl ?_
        refine v_aload_n dX3_copyFrom_179 rfl ?_
        refine v_get dX3_copyFrom_180 fl_X3_46 ((hp60 1 (by decide)).trans (ent_1 _)) rfl (s_lt hn rfl) ?_
        refine v_put dX3_copyFrom_183 fl_X3_46 ((hp60 22 (by decide)).trans (ent_22 _)) (s_lt hn rfl) (Nat.le_of_ble_eq_true rfl) (fun _ => ⟨rfl, rfl⟩) trivial (fun h62 E63 F64 => ?_)
        have hp65 := pic_st hp60 (show h62 22 = ent 22 (uI _ 10 ((x_st X42 22 9 (X42 1 9)) 1 10)) from E63) F64
        have hf66 := Fr.up (c := 22) hf61 F64 rfl
        refine v_aload_n dX3_copyFrom_186 rfl ?_
        refine v_aload_n dX3_copyFrom_187 rfl ?_
        refine v_get dX3_copyFrom_188 fl_X3_49 ((hp65 1 (by decide)).trans (ent_1 _)) rfl (s_lt hn rfl) ?_
        refine v_put dX3_copyFrom_191 fl_X3_49 ((hp65 22 (by decide)).trans (ent_22 _)) (s_lt hn rfl) (Nat.le_of_ble_eq_true rfl) (fun _ => ⟨rfl, rfl⟩) trivial (fun h67 E68 F69 => ?_)
        have hp70 := pic_st hp65 (show h67 22 = ent 22 (uI _ 11 ((x_st (x_st X42 22 9 (X42 1 9)) 22 10 ((x_st X42 22 9 (X42 1 9)) 1 10)) 1 11)) from E68) F69
        have hf71 := Fr.up (c := 22) hf66 F69 rfl
        refine v_aload_n dX3_copyFrom_194 rfl ?_
        refine v_aload_n dX3_copyFrom_195 rfl ?_
        refine v_get dX3_copyFrom_196 fl_X3_52 ((hp70 1 (by decide)).trans (ent_1 _)) rfl (s_lt hn rfl) ?_
        refine v_put dX3_copyFrom_199 fl_X3_52 ((hp70 22 (by decide)).trans (ent_22 _)) (s_lt hn rfl) (Nat.le_of_ble_eq_true rfl) (fun _ => ⟨rfl, rfl⟩) trivial (fun h72 E73 F74 => ?_)
        have hp75 := pic_st hp70 (show h72 22 = ent 22 (uI _ 12 ((x_st (x_st (x_st X42 22 9 (X42 1 9)) 22 10 ((x_st X42 22 9 (X42 1 9)) 1 10)) 22 11 ((x_st (x_st X42 22 9 (X42 1 9)) 22 10 ((x_st X42 22 9 (X42 1 9)) 1 10)) 1 11)) 1 12)) from E73) F74
        have hf76 := Fr.up (c := 22) hf71 F74 rfl
        refine v_aload_n dX3_copyFrom_202 rfl ?_
        refine v_aload_n dX3_copyFrom_203 rfl ?_
        refine v_get dX3_copyFrom_204 fl_X3_55 ((hp75 1 (by decide)).trans (ent_1 _)) rfl (s_lt hn rfl) ?_
        refine v_put dX3_copyFrom_207 fl_X3_55 ((hp75 22 (by decide)).trans (ent_22 _)) (s_lt hn rfl) (Nat.le_of_ble_eq_true rfl) (fun _ => ⟨rfl, rfl⟩) trivial (fun h77 E78 F79 => ?_)
        have hp80 := pic_st hp75 (show h77 22 = ent 22 (uI _ 13 ((x_st (x_st (x_st (x_st X42 22 9 (X42 1 9)) 22 10 ((x_st X42 22 9 (X42 1 9)) 1 10)) 22 11 ((x_st (x_st X42 22 9 (X42 1 9)) 22 10 ((x_st X42 22 9 (X42 1 9)) 1 10)) 1 11)) 22 12 ((x_st (x_st (x_st X42 22 9 (X42 1 9)) 22 10 ((x_st X42 22 9 (X42 1 9)) 1 10)) 22 11 ((x_st (x_st X42 22 9 (X42 1 9)) 22 10 ((x_st X42 22 9 (X42 1 9)) 1 10)) 1 11)) 1 12)) 1 13)) from E78) F79
        have hf81 := Fr.up (c := 22) hf76 F79 rfl
        refine v_aload_n dX3_copyFrom_210 rfl ?_
        refine v_aload_n dX3_copyFrom_211 rfl ?_
        refine v_get dX3_copyFrom_212 fl_X3_58 ((hp80 1 (by decide)).trans (ent_1 _)) rfl (s_lt hn rfl) ?_
        refine v_put dX3_copyFrom_215 fl_X3_58 ((hp80 22 (by decide)).trans (ent_22 _)) (s_lt hn rfl) (Nat.le_of_ble_eq_true rfl) (fun _ => ⟨rfl, rfl⟩) trivial (fun h82 E83 F84 => ?_)
        have hp85 := pic_st hp80 (show h82 22 = ent 22 (uI _ 14 ((x_st (x_st (x_st (x_st (x_st X42 22 9 (X42 1 9)) 22 10 ((x_st X42 22 9 (X42 1 9)) 1 10)) 22 11 ((x_st (x_st X42 22 9 (X42 1 9)) 22 10 ((x_st X42 22 9 (X42 1 9)) 1 10)) 1 11)) 22 12 ((x_st (x_st (x_st X42 22 9 (X42 1 9)) 22 10 ((x_st X42 22 9 (X42 1 9)) 1 10)) 22 11 ((x_st (x_st X42 22 9 (X42 1 9)) 22 10 ((x_st X42 22 9 (X42 1 9)) 1 10)) 1 11)) 1 12)) 22 13 ((x_st (x_st (x_st (x_st X42 22 9 (X42 1 9)) 22 10 ((x_st X42 22 9 (X42 1 9)) 1 10)) 22 11 ((x_st (x_st X42 22 9 (X42 1 9)) 22 10 ((x_st X42 22 9 (X42 1 9)) 1 10)) 1 11)) 22 12 ((x_st (x_st (x_st X42 22 9 (X42 1 9)) 22 10 ((x_st X42 22 9 (X42 1 9)) 1 10)) 22 11 ((x_st (x_st X42 22 9 (X42 1 9)) 22 10 ((x_st X42 22 9 (X42 1 9)) 1 10)) 1 11)) 1 12)) 1 13)) 1 14)) from E83) F84
        have hf86 := Fr.up (c := 22) hf81 F84 rfl
        exact v_vret dX3_copyFrom_218 rfl (Nat.zero_le _) (Nat.zero_le _) ⟨rfl, hf86, _, rfl, hp85, w⟩
      · replace w := w.2 c56
        refine v_aload_n dX3_copyFrom_152 rfl ?_
        refine v_get dX3_copyFrom_153 fl_X3_38 ((hp53 22 (by decide)).trans (ent_22 _)) rfl (s_lt hn rfl) ?_
        refine v_iload_n dX3_copyFrom_156 rfl ?_
        refine v_aload_n dX3_copyFrom_157 rfl ?_
        refine v_get dX3_copyFrom_158 fl_X3_38 ((hp53 1 (by decide)).trans (ent_1 _)) rfl (s_lt hn rfl) ?_
        refine v_iload_n dX3_copyFrom_161 rfl ?_
        obtain ⟨q87, w⟩ := w
        refine v_aaldI dX3_copyFrom_162 ((hp53 10 (by decide)).trans (ent_10 _)) (s_lt hn rfl) q87.1 q87.2 (ix_le q87.2 (by decide)) ?_
        obtain ⟨q88, w⟩ := w
        refine v_aastQ dX3_copyFrom_163 ((hp53 31 (by decide)).trans (ent_31 _)) (s_lt hn rfl) (hK.at (Fr.trans hf9 hf54) q88) q87.1 q87.2 (ix_le q87.2 (by decide)) (fun h89 E90 F91 => ?_)
        have hp92 := pic_st hp53 (show h89 31 = ent 31 (uI _ x41 (X42 10 x41)) from E90) F91
        have hf93 := Fr.up (c := 31) hf54 F91 rfl
        refine v_iincI dX3_copyFrom_164 rfl (Nat.le_of_ble_eq_true rfl) ?_
        refine v_goto (tgt := 146) dX3_copyFrom_167 (by decide) ?_
        refine v_pick [1, 2, 0] rfl ?_
        exact ih45 _ _ _ (Nat.lt_of_lt_of_le w.2 (Nat.le_of_lt_succ hm49)) w.1 hp92 hf93
  exact hL48 _ _ _ _ (Nat.lt_succ_self _) wi47 hp39 hf40
set_option maxRecDepth 20000 in
theorem so_X3_copyFrom_1_12 {n : Nat} {h : Nat → sE} {X : XT} {KQ : Int → Prop} {hk : Nat → sE} (hK : KQok KQ n hk) {Q : XT → Prop} (hn : 115 ≤ n) (hp : Pic X h) (hf9 : Fr hk h) (w : w_X3_copyFrom KQ 1 2 3 4 5 6 7 8 9 10 12 13 14 15 16 17 18 19 20 21  X Q) : Sp m_X3_copyFrom 1 0 0 [.ref 1, .ref 12] n h (pVw n h Q) := by
  unfold w_X3_copyFrom at w
  refine Sp.ofV (by decide +kernel) (Nat.le_of_ble_eq_true rfl) ?_
  have hf : Fr h h := fun _ _ => rfl
  refine v_aload_n dX3_copyFrom_0 rfl ?_
  refine v_get dX3_copyFrom_1 fl_X3_9 ((hp 12 (by decide)).trans (ent_12 _)) rfl (s_lt hn rfl) ?_
  refine v_iconstI dX3_copyFrom_4 ?_
  refine v_aload_n dX3_copyFrom_5 rfl ?_
  refine v_get dX3_copyFrom_6 fl_X3_9 ((hp 1 (by decide)).trans (ent_1 _)) rfl (s_lt hn rfl) ?_
  refine v_iconstI dX3_copyFrom_9 ?_
  refine v_aload_n dX3_copyFrom_10 rfl ?_
  refine v_get dX3_copyFrom_11 fl_X3_9 ((hp 1 (by decide)).trans (ent_1 _)) rfl (s_lt hn rfl) ?_
  refine v_alen_aI dX3_copyFrom_14 ((hp 2 (by decide)).trans (ent_2 _)) (s_lt hn rfl) ?_
  refine v_copyI (N := 192) dX3_copyFrom_15 ml_X3_61 ((hp 13 (by decide)).trans (ent_13 _)) ((hp 2 (by decide)).trans (ent_2 _)) (s_lt hn rfl) (s_lt hn rfl) (by decide) (by decide) (by decide) (Nat.le_of_ble_eq_true rfl) (Nat.le_of_ble_eq_true rfl) (fun h1 E2 F3 => ?_)
  have hp4 := pic_cp hp (show h1 2 = ent 2 (fun j => if 0 ≤ j ∧ j < 192 then X 13 j else X 2 j) from E2) F3
  have hf5 := Fr.up (c := 2) hf F3 rfl
  refine v_aload_n dX3_copyFrom_18 rfl ?_
  refine v_get dX3_copyFrom_19 fl_X3_15 ((hp4 12 (by decide)).trans (ent_12 _)) rfl (s_lt hn rfl) ?_
  refine v_iconstI dX3_copyFrom_22 ?_
  refine v_aload_n dX3_copyFrom_23 rfl ?_
  refine v_get dX3_copyFrom_24 fl_X3_15 ((hp4 1 (by decide)).trans (ent_1 _)) rfl (s_lt hn rfl) ?_
  refine v_iconstI dX3_copyFrom_27 ?_
  refine v_aload_n dX3_copyFrom_28 rfl ?_
  refine v_get dX3_copyFrom_29 fl_X3_15 ((hp4 1 (by decide)).trans (ent_1 _)) rfl (s_lt hn rfl) ?_
  refine v_alen_aI dX3_copyFrom_32 ((hp4 3 (by decide)).trans (ent_3 _)) (s_lt hn rfl) ?_
  refine v_copyI (N := 3) dX3_copyFrom_33 ml_X3_61 ((hp4 14 (by decide)).trans (ent_14 _)) ((hp4 3 (by decide)).trans (ent_3 _)) (s_lt hn rfl) (s_lt hn rfl) (by decide) (by decide) (by decide) (Nat.le_of_ble_eq_true rfl) (Nat.le_of_ble_eq_true rfl) (fun h6 E7 F8 => ?_)
  have hp9 := pic_cp hp4 (show h6 3 = ent 3 (fun j => if 0 ≤ j ∧ j < 3 then (x_cp X 13 2 192) 14 j else (x_cp X 13 2 192) 3 j) from E7) F8
  have hf10 := Fr.up (c := 3) hf5 F8 rfl
  refine v_aload_n dX3_copyFrom_36 rfl ?_
  refine v_get dX3_copyFrom_37 fl_X3_18 ((hp9 12 (by decide)).trans (ent_12 _)) rfl (s_lt hn rfl) ?_
  refine v_iconstI dX3_copyFrom_40 ?_
  refine v_aload_n dX3_copyFrom_41 rfl ?_
  refine v_get dX3_copyFrom_42 fl_X3_18 ((hp9 1 (by decide)).trans (ent_1 _)) rfl (s_lt hn rfl) ?_
  refine v_iconstI dX3_copyFrom_45 ?_
  refine v_aload_n dX3_copyFrom_46 rfl ?_
  refine v_get dX3_copyFrom_47 fl_X3_18 ((hp9 1 (by decide)).trans (ent_1 _)) rfl (s_lt hn rfl) ?_
  refine v_alen_aI dX3_copyFrom_50 ((hp9 4 (by decide)).trans (ent_4 _)) (s_lt hn rfl) ?_
  refine v_copyI (N := 3) dX3_copyFrom_51 ml_X3_61 ((hp9 15 (by decide)).trans (ent_15 _)) ((hp9 4 (by decide)).trans (ent_4 _)) (s_lt hn rfl) (s_lt hn rfl) (by decide) (by decide) (by decide) (Nat.le_of_ble_eq_true rfl) (Nat.le_of_ble_eq_true rfl) (fun h11 E12 F13 => ?_)
  have hp14 := pic_cp hp9 (show h11 4 = ent 4 (fun j => if 0 ≤ j ∧ j < 3 then (x_cp (x_cp X 13 2 192) 14 3 3) 15 j else (x_cp (x_cp X 13 2 192) 14 3 3) 4 j) from E12) F13
  have hf15 := Fr.up (c := 4) hf10 F13 rfl
  refine v_aload_n dX3_copyFrom_54 rfl ?_
  refine v_get dX3_copyFrom_55 fl_X3_21 ((hp14 12 (by decide)).trans (ent_12 _)) rfl (s_lt hn rfl) ?_
  refine v_iconstI dX3_copyFrom_58 ?_
  refine v_aload_n dX3_copyFrom_59 rfl ?_
  refine v_get dX3_copyFrom_60 fl_X3_21 ((hp14 1 (by decide)).trans (ent_1 _)) rfl (s_lt hn rfl) ?_
  refine v_iconstI dX3_copyFrom_63 ?_
  refine v_aload_n dX3_copyFrom_64 rfl ?_
  refine v_get dX3_copyFrom_65 fl_X3_21 ((hp14 1 (by decide)).trans (ent_1 _)) rfl (s_lt hn rfl) ?_
  refine v_alen_aI dX3_copyFrom_68 ((hp14 5 (by decide)).trans (ent_5 _)) (s_lt hn rfl) ?_
  refine v_copyI (N := 25) dX3_copyFrom_69 ml_X3_61 ((hp14 16 (by decide)).trans (ent_16 _)) ((hp14 5 (by decide)).trans (ent_5 _)) (s_lt hn rfl) (s_lt hn rfl) (by decide) (by decide) (by decide) (Nat.le_of_ble_eq_true rfl) (Nat.le_of_ble_eq_true rfl) (fun h16 E17 F18 => ?_)
  have hp19 := pic_cp hp14 (show h16 5 = ent 5 (fun j => if 0 ≤ j ∧ j < 25 then (x_cp (x_cp (x_cp X 13 2 192) 14 3 3) 15 4 3) 16 j else (x_cp (x_cp (x_cp X 13 2 192) 14 3 3) 15 4 3) 5 j) from E17) F18
  have hf20 := Fr.up (c := 5) hf15 F18 rfl
  refine v_aload_n dX3_copyFrom_72 rfl ?_
  refine v_get dX3_copyFrom_73 fl_X3_24 ((hp19 12 (by decide)).trans (ent_12 _)) rfl (s_lt hn rfl) ?_
  refine v_iconstI dX3_copyFrom_76 ?_
  refine v_aload_n dX3_copyFrom_77 rfl ?_
  refine v_get dX3_copyFrom_78 fl_X3_24 ((hp19 1 (by decide)).trans (ent_1 _)) rfl (s_lt hn rfl) ?_
  refine v_iconstI dX3_copyFrom_81 ?_
  refine v_aload_n dX3_copyFrom_82 rfl ?_
  refine v_get dX3_copyFrom_83 fl_X3_24 ((hp19 1 (by decide)).trans (ent_1 _)) rfl (s_lt hn rfl) ?_
  refine v_alen_aI dX3_copyFrom_86 ((hp19 6 (by decide)).trans (ent_6 _)) (s_lt hn rfl) ?_
  refine v_copyI (N := 72) dX3_copyFrom_87 ml_X3_61 ((hp19 17 (by decide)).trans (ent_17 _)) ((hp19 6 (by decide)).trans (ent_6 _)) (s_lt hn rfl) (s_lt hn rfl) (by decide) (by decide) (by decide) (Nat.le_of_ble_eq_true rfl) (Nat.le_of_ble_eq_true rfl) (fun h21 E22 F23 => ?_)
  have hp24 := pic_cp hp19 (show h21 6 = ent 6 (fun j => if 0 ≤ j ∧ j < 72 then (x_cp (x_cp (x_cp (x_cp X 13 2 192) 14 3 3) 15 4 3) 16 5 25) 17 j else (x_cp (x_cp (x_cp (x_cp X 13 2 192) 14 3 3) 15 4 3) 16 5 25) 6 j) from E22) F23
  have hf25 := Fr.up (c := 6) hf20 F23 rfl
  refine v_aload_n dX3_copyFrom_90 rfl ?_
  refine v_get dX3_copyFrom_91 fl_X3_27 ((hp24 12 (by decide)).trans (ent_12 _)) rfl (s_lt hn rfl) ?_
  refine v_iconstI dX3_copyFrom_94 ?_
  refine v_aload_n dX3_copyFrom_95 rfl ?_
  refine v_get dX3_copyFrom_96 fl_X3_27 ((hp24 1 (by decide)).trans (ent_1 _)) rfl (s_lt hn rfl) ?_
  refine v_iconstI dX3_copyFrom_99 ?_
  refine v_aload_n dX3_copyFrom_100 rfl ?_
  refine v_get dX3_copyFrom_101 fl_X3_27 ((hp24 1 (by decide)).trans (ent_1 _)) rfl (s_lt hn rfl) ?_
  refine v_alen_aI dX3_copyFrom_104 ((hp24 7 (by decide)).trans (ent_7 _)) (s_lt hn rfl) ?_
  refine v_copyI (N := 40) dX3_copyFrom_105 ml_X3_61 ((hp24 18 (by decide)).trans (ent_18 _)) ((hp24 7 (by decide)).trans (ent_7 _)) (s_lt hn rfl) (s_lt hn rfl) (by decide) (by decide) (by decide) (Nat.le_of_ble_eq_true rfl) (Nat.le_of_ble_eq_true rfl) (fun h26 E27 F28 => ?_)
  have hp29 := pic_cp hp24 (show h26 7 = ent 7 (fun j => if 0 ≤ j ∧ j < 40 then (x_cp (x_cp (x_cp (x_cp (x_cp X 13 2 192) 14 3 3) 15 4 3) 16 5 25) 17 6 72) 18 j else (x_cp (x_cp (x_cp (x_cp (x_cp X 13 2 192) 14 3 3) 15 4 3) 16 5 25) 17 6 72) 7 j) from E27) F28
  have hf30 := Fr.up (c := 7) hf25 F28 rfl
  refine v_aload_n dX3_copyFrom_108 rfl ?_
  refine v_get dX3_copyFrom_109 fl_X3_30 ((hp29 12 (by decide)).trans (ent_12 _)) rfl (s_lt hn rfl) ?_
  refine v_iconstI dX3_copyFrom_112 ?_
  refine v_aload_n dX3_copyFrom_113 rfl ?_
  refine v_get dX3_copyFrom_114 fl_X3_30 ((hp29 1 (by decide)).trans (ent_1 _)) rfl (s_lt hn rfl) ?_
  refine v_iconstI dX3_copyFrom_117 ?_
  refine v_aload_n dX3_copyFrom_118 rfl ?_
  refine v_get dX3_copyFrom_119 fl_X3_30 ((hp29 1 (by decide)).trans (ent_1 _)) rfl (s_lt hn rfl) ?_
  refine v_alen_aI dX3_copyFrom_122 ((hp29 8 (by decide)).trans (ent_8 _)) (s_lt hn rfl) ?_
  refine v_copyI (N := 30) dX3_copyFrom_123 ml_X3_61 ((hp29 19 (by decide)).trans (ent_19 _)) ((hp29 8 (by decide)).trans (ent_8 _)) (s_lt hn rfl) (s_lt hn rfl) (by decide) (by decide) (by decide) (Nat.le_of_ble_eq_true rfl) (Nat.le_of_ble_eq_true rfl) (fun h31 E32 F33 => ?_)
  have hp34 := pic_cp hp29 (show h31 8 = ent 8 (fun j => if 0 ≤ j ∧ j < 30 then (x_cp (x_cp (x_cp (x_cp (x_cp (x_cp X 13 2 192) 14 3 3) 15 4 3) 16 5 25) 17 6 72) 18 7 40) 19 j else (x_cp (x_cp (x_cp (x_cp (x_cp (x_cp X 13 2 192) 14 3 3) 15 4 3) 16 5 25) 17 6 72) 18 7 40) 8 j) from E32) F33
  have hf35 := Fr.up (c := 8) hf30 F33 rfl
  refine v_aload_n dX3_copyFrom_126 rfl ?_
  refine v_get dX3_copyFrom_127 fl_X3_33 ((hp34 12 (by decide)).trans (ent_12 _)) rfl (s_lt hn rfl) ?_
  refine v_iconstI dX3_copyFrom_130 ?_
  refine v_aload_n dX3_copyFrom_131 rfl ?_
  refine v_get dX3_copyFrom_132 fl_X3_33 ((hp34 1 (by decide)).trans (ent_1 _)) rfl (s_lt hn rfl) ?_
  refine v_iconstI dX3_copyFrom_135 ?_
  refine v_aload_n dX3_copyFrom_136 rfl ?_
  refine v_get dX3_copyFrom_137 fl_X3_33 ((hp34 1 (by decide)).trans (ent_1 _)) rfl (s_lt hn rfl) ?_
  refine v_alen_aI dX3_copyFrom_140 ((hp34 9 (by decide)).trans (ent_9 _)) (s_lt hn rfl) ?_
  refine v_copyI (N := 3) dX3_copyFrom_141 ml_X3_61 ((hp34 20 (by decide)).trans (ent_20 _)) ((hp34 9 (by decide)).trans (ent_9 _)) (s_lt hn rfl) (s_lt hn rfl) (by decide) (by decide) (by decide) (Nat.le_of_ble_eq_true rfl) (Nat.le_of_ble_eq_true rfl) (fun h36 E37 F38 => ?_)
  have hp39 := pic_cp hp34 (show h36 9 = ent 9 (fun j => if 0 ≤ j ∧ j < 3 then (x_cp (x_cp (x_cp (x_cp (x_cp (x_cp (x_cp X 13 2 192) 14 3 3) 15 4 3) 16 5 25) 17 6 72) 18 7 40) 19 8 30) 20 j else (x_cp (x_cp (x_cp (x_cp (x_cp (x_cp (x_cp X 13 2 192) 14 3 3) 15 4 3) 16 5 25) 17 6 72) 18 7 40) 19 8 30) 9 j) from E37) F38
  have hf40 := Fr.up (c := 9) hf35 F38 rfl
  refine v_iconstI dX3_copyFrom_144 ?_
  refine v_istore_n dX3_copyFrom_145 (Nat.le_of_ble_eq_true rfl) ?_
  refine v_pick [1, 2, 0] rfl ?_
  obtain ⟨I43, m44, wi47, wl46⟩ := w
  have hL48 : ∀ (N51 : Nat) (x41 : Int) (X42 : XT) (h52 : Nat → sE), m44 x41 X42 < N51 → I43 x41 X42 → Pic X42 h52 → Fr h h52 → V (m_X3_copyFrom, 1, 0, 0, n, pVw n h Q, s_G0) 0 0 n h52 146 [(0, .ref 1), (1, .ref 12), (2, .int (iI x41))] [] := by
    intro N51
    induction N51 with
    | zero => intro x41 X42 h52 hm49; exact absurd hm49 (Nat.not_lt_zero _)
    | succ N51 ih45 =>
      intro x41 X42 h52 hm49 hI50 hp53 hf54
      have w := wl46 x41 X42 hI50
      refine v_iload_n dX3_copyFrom_146 rfl ?_
      refine v_bipushI dX3_copyFrom_147 rfl ?_
      obtain ⟨q55, w⟩ := w
      refine v_icmp_geI (tgt := 170) dX3_copyFrom_149 (by decide) q55.1 q55.2 (by decide) (by decide) (fun c56 => ?_) (fun c56 => ?_)
      · replace w := w.1 c56
        refine v_aload_n dX3_copyFrom_170 rfl ?_
        refine v_aload_n dX3_copyFrom_171 rfl ?_
        refine v_get dX3_copyFrom_172 fl_X3_42 ((hp53 12 (by decide)).trans (ent_12 _)) rfl (s_lt hn rfl) ?_
        refine v_put dX3_copyFrom_175 fl_X3_42 ((hp53 1 (by decide)).trans (ent_1 _)) (s_lt hn rfl) (Nat.le_of_ble_eq_true rfl) (fun _ => ⟨rfl, rfl⟩) trivial (fun h57 E58 F59 => ?_)
        have hp60 := pic_st hp53 (show h57 1 = ent 1 (uI _ 9 (X42 12 9)) from E58) F59
        have hf61 := Fr.up (c := 1) hf54 F59 rfl
        refine v_aload_n dX3_copyFrom_178 rfl ?_
        refine v_aload_n dX3_copyFrom_179 rfl ?_
        refine v_get dX3_copyFrom_180 fl_X3_46 ((hp60 12 (by decide)).trans (ent_12 _)) rfl (s_lt hn rfl) ?_
        refine v_put dX3_copyFrom_183 fl_X3_46 ((hp60 1 (by decide)).trans (ent_1 _)) (s_lt hn rfl) (Nat.le_of_ble_eq_true rfl) (fun _ => ⟨rfl, rfl⟩) trivial (fun h62 E63 F64 => ?_)
        have hp65 := pic_st hp60 (show h62 1 = ent 1 (uI _ 10 ((x_st X42 1 9 (X42 12 9)) 12 10)) from E63) F64
        have hf66 := Fr.up (c := 1) hf61 F64 rfl
        refine v_aload_n dX3_copyFrom_186 rfl ?_
        refine v_aload_n dX3_copyFrom_187 rfl ?_
        refine v_get dX3_copyFrom_188 fl_X3_49 ((hp65 12 (by decide)).trans (ent_12 _)) rfl (s_lt hn rfl) ?_
        refine v_put dX3_copyFrom_191 fl_X3_49 ((hp65 1 (by decide)).trans (ent_1 _)) (s_lt hn rfl) (Nat.le_of_ble_eq_true rfl) (fun _ => ⟨rfl, rfl⟩) trivial (fun h67 E68 F69 => ?_)
        have hp70 := pic_st hp65 (show h67 1 = ent 1 (uI _ 11 ((x_st (x_st X42 1 9 (X42 12 9)) 1 10 ((x_st X42 1 9 (X42 12 9)) 12 10)) 12 11)) from E68) F69
        have hf71 := Fr.up (c := 1) hf66 F69 rfl
        refine v_aload_n dX3_copyFrom_194 rfl ?_
        refine v_aload_n dX3_copyFrom_195 rfl ?_
        refine v_get dX3_copyFrom_196 fl_X3_52 ((hp70 12 (by decide)).trans (ent_12 _)) rfl (s_lt hn rfl) ?_
        refine v_put dX3_copyFrom_199 fl_X3_52 ((hp70 1 (by decide)).trans (ent_1 _)) (s_lt hn rfl) (Nat.le_of_ble_eq_true rfl) (fun _ => ⟨rfl, rfl⟩) trivial (fun h72 E73 F74 => ?_)
        have hp75 := pic_st hp70 (show h72 1 = ent 1 (uI _ 12 ((x_st (x_st (x_st X42 1 9 (X42 12 9)) 1 10 ((x_st X42 1 9 (X42 12 9)) 12 10)) 1 11 ((x_st (x_st X42 1 9 (X42 12 9)) 1 10 ((x_st X42 1 9 (X42 12 9)) 12 10)) 12 11)) 12 12)) from E73) F74
        have hf76 := Fr.up (c := 1) hf71 F74 rfl
        refine v_aload_n dX3_copyFrom_202 rfl ?_
        refine v_aload_n dX3_copyFrom_203 rfl ?_
        refine v_get dX3_copyFrom_204 fl_X3_55 ((hp75 12 (by decide)).trans (ent_12 _)) rfl (s_lt hn rfl) ?_
        refine v_put dX3_copyFrom_207 fl_X3_55 ((hp75 1 (by decide)).trans (ent_1 _)) (s_lt hn rfl) (Nat.le_of_ble_eq_true rfl) (fun _ => ⟨rfl, rfl⟩) trivial (fun h77 E78 F79 => ?_)
        have hp80 := pic_st hp75 (show h77 1 = ent 1 (uI _ 13 ((x_st (x_st (x_st (x_st X42 1 9 (X42 12 9)) 1 10 ((x_st X42 1 9 (X42 12 9)) 12 10)) 1 11 ((x_st (x_st X42 1 9 (X42 12 9)) 1 10 ((x_st X42 1 9 (X42 12 9)) 12 10)) 12 11)) 1 12 ((x_st (x_st (x_st X42 1 9 (X42 12 9)) 1 10 ((x_st X42 1 9 (X42 12 9)) 12 10)) 1 11 ((x_st (x_st X42 1 9 (X42 12 9)) 1 10 ((x_st X42 1 9 (X42 12 9)) 12 10)) 12 11)) 12 12)) 12 13)) from E78) F79
        have hf81 := Fr.up (c := 1) hf76 F79 rfl
        refine v_aload_n dX3_copyFrom_210 rfl ?_
        refine v_aload_n dX3_copyFrom_211 rfl ?_
        refine v_get dX3_copyFrom_212 fl_X3_58 ((hp80 12 (by decide)).trans (ent_12 _)) rfl (s_lt hn rfl) ?_
        refine v_put dX3_copyFrom_215 fl_X3_58 ((hp80 1 (by decide)).trans (ent_1 _)) (s_lt hn rfl) (Nat.le_of_ble_eq_true rfl) (fun _ => ⟨rfl, rfl⟩) trivial (fun h82 E83 F84 => ?_)
        have hp85 := pic_st hp80 (show h82 1 = ent 1 (uI _ 14 ((x_st (x_st (x_st (x_st (x_st X42 1 9 (X42 12 9)) 1 10 ((x_st X42 1 9 (X42 12 9)) 12 10)) 1 11 ((x_st (x_st X42 1 9 (X42 12 9)) 1 10 ((x_st X42 1 9 (X42 12 9)) 12 10)) 12 11)) 1 12 ((x_st (x_st (x_st X42 1 9 (X42 12 9)) 1 10 ((x_st X42 1 9 (X42 12 9)) 12 10)) 1 11 ((x_st (x_st X42 1 9 (X42 12 9)) 1 10 ((x_st X42 1 9 (X42 12 9)) 12 10)) 12 11)) 12 12)) 1 13 ((x_st (x_st (x_st (x_st X42 1 9 (X42 12 9)) 1 10 ((x_st X42 1 9 (X42 12 9)) 12 10)) 1 11 ((x_st (x_st X42 1 9 (X42 12 9)) 1 10 ((x_st X42 1 9 (X42 12 9)) 12 10)) 12 11)) 1 12 ((x_st (x_st (x_st X42 1 9 (X42 12 9)) 1 10 ((x_st X42 1 9 (X42 12 9)) 12 10)) 1 11 ((x_st (x_st X42 1 9 (X42 12 9)) 1 10 ((x_st X42 1 9 (X42 12 9)) 12 10)) 12 11)) 12 12)) 12 13)) 12 14)) from E83) F84
        have hf86 := Fr.up (c := 1) hf81 F84 rfl
        exact v_vret dX3_copyFrom_218 rfl (Nat.zero_le _) (Nat.zero_le _) ⟨rfl, hf86, _, rfl, hp85, w⟩
      · replace w := w.2 c56
        refine v_aload_n dX3_copyFrom_152 rfl ?_
        refine v_get dX3_copyFrom_153 fl_X3_38 ((hp53 1 (by decide)).trans (ent_1 _)) rfl (s_lt hn rfl) ?_
        refine v_iload_n dX3_copyFrom_156 rfl ?_
        refine v_aload_n dX3_copyFrom_157 rfl ?_
        refine v_get dX3_copyFrom_158 fl_X3_38 ((hp53 12 (by decide)).trans (ent_12 _)) rfl (s_lt hn rfl) ?_
        refine v_iload_n dX3_copyFrom_161 rfl ?_
        obtain ⟨q87, w⟩ := w
        refine v_aaldI dX3_copyFrom_162 ((hp53 21 (by decide)).trans (ent_21 _)) (s_lt hn rfl) q87.1 q87.2 (ix_le q87.2 (by decide)) ?_
        obtain ⟨q88, w⟩ := w
        refine v_aastQ dX3_copyFrom_163 ((hp53 10 (by decide)).trans (ent_10 _)) (s_lt hn rfl) (hK.at (Fr.trans hf9 hf54) q88) q87.1 q87.2 (ix_le q87.2 (by decide)) (fun h89 E90 F91 => ?_)
        have hp92 := pic_st hp53 (show h89 10 = ent 10 (uI _ x41 (X42 21 x41)) from E90) F91
        have hf93 := Fr.up (c := 10) hf54 F91 rfl
        refine v_iincI dX3_copyFrom_164 rfl (Nat.le_of_ble_eq_true rfl) ?_
        refine v_goto (tgt := 146) dX3_copyFrom_167 (by decide) ?_
        refine v_pick [1, 2, 0] rfl ?_
        exact ih45 _ _ _ (Nat.lt_of_lt_of_le w.2 (Nat.le_of_lt_succ hm49)) w.1 hp92 hf93
  exact hL48 _ _ _ _ (Nat.lt_succ_self _) wi47 hp39 hf40
set_option maxRecDepth 20000 in
theorem so_X3_copyFrom_1_22 {n : Nat} {h : Nat → sE} {X : XT} {KQ : Int → Prop} {hk : Nat → sE} (hK : KQok KQ n hk) {Q : XT → Prop} (hn : 115 ≤ n) (hp : Pic X h) (hf9 : Fr hk h) (w : w_X3_copyFrom KQ 1 2 3 4 5 6 7 8 9 10 22 23 24 25 26 27 28 29 30 31  X Q) : Sp m_X3_copyFrom 1 0 0 [.ref 1, .ref 22] n h (pVw n h Q) := by
  unfold w_X3_copyFrom at w
  refine Sp.ofV (by decide +kernel) (Nat.le_of_ble_eq_true rfl) ?_
  have hf : Fr h h := fun _ _ => rfl
  refine v_aload_n dX3_copyFrom_0 rfl ?_
  refine v_get dX3_copyFrom_1 fl_X3_9 ((hp 22 (by decide)).trans (ent_22 _)) rfl (s_lt hn rfl) ?_
  refine v_iconstI dX3_copyFrom_4 ?_
  refine v_aload_n dX3_copyFrom_5 rfl ?_
  refine v_get dX3_copyFrom_6 fl_X3_9 ((hp 1 (by decide)).trans (ent_1 _)) rfl (s_lt hn rfl) ?_
  refine v_iconstI dX3_copyFrom_9 ?_
  refine v_aload_n dX3_copyFrom_10 rfl ?_
  refine v_get dX3_copyFrom_11 fl_X3_9 ((hp 1 (by decide)).trans (ent_1 _)) rfl (s_lt hn rfl) ?_
  refine v_alen_aI dX3_copyFrom_14 ((hp 2 (by decide)).trans (ent_2 _)) (s_lt hn rfl) ?_
  refine v_copyI (N := 192) dX3_copyFrom_15 ml_X3_61 ((hp 23 (by decide)).trans (ent_23 _)) ((hp 2 (by decide)).trans (ent_2 _)) (s_lt hn rfl) (s_lt hn rfl) (by decide) (by decide) (by decide) (Nat.le_of_ble_eq_true rfl) (Nat.le_of_ble_eq_true rfl) (fun h1 E2 F3 => ?_)
  have hp4 := pic_cp hp (show h1 2 = ent 2 (fun j => if 0 ≤ j ∧ j < 192 then X 23 j else X 2 j) from E2) F3
  have hf5 := Fr.up (c := 2) hf F3 rfl
  refine v_aload_n dX3_copyFrom_18 rfl ?_
  refine v_get dX3_copyFrom_19 fl_X3_15 ((hp4 22 (by decide)).trans (ent_22 _)) rfl (s_lt hn rfl) ?_
  refine v_iconstI dX3_copyFrom_22 ?_
  refine v_aload_n dX3_copyFrom_23 rfl ?_
  refine v_get dX3_copyFrom_24 fl_X3_15 ((hp4 1 (by decide)).trans (ent_1 _)) rfl (s_lt hn rfl) ?_
  refine v_iconstI dX3_copyFrom_27 ?_
  refine v_aload_n dX3_copyFrom_28 rfl ?_
  refine v_get dX3_copyFrom_29 fl_X3_15 ((hp4 1 (by decide)).trans (ent_1 _)) rfl (s_lt hn rfl) ?_
  refine v_alen_aI dX3_copyFrom_32 ((hp4 3 (by decide)).trans (ent_3 _)) (s_lt hn rfl) ?_
  refine v_copyI (N := 3) dX3_copyFrom_33 ml_X3_61 ((hp4 24 (by decide)).trans (ent_24 _)) ((hp4 3 (by decide)).trans (ent_3 _)) (s_lt hn rfl) (s_lt hn rfl) (by decide) (by decide) (by decide) (Nat.le_of_ble_eq_true rfl) (Nat.le_of_ble_eq_true rfl) (fun h6 E7 F8 => ?_)
  have hp9 := pic_cp hp4 (show h6 3 = ent 3 (fun j => if 0 ≤ j ∧ j < 3 then (x_cp X 23 2 192) 24 j else (x_cp X 23 2 192) 3 j) from E7) F8
  have hf10 := Fr.up (c := 3) hf5 F8 rfl
  refine v_aload_n dX3_copyFrom_36 rfl ?_
  refine v_get dX3_copyFrom_37 fl_X3_18 ((hp9 22 (by decide)).trans (ent_22 _)) rfl (s_lt hn rfl) ?_
  refine v_iconstI dX3_copyFrom_40 ?_
  refine v_aload_n dX3_copyFrom_41 rfl ?_
  refine v_get dX3_copyFrom_42 fl_X3_18 ((hp9 1 (by decide)).trans (ent_1 _)) rfl (s_lt hn rfl) ?_
  refine v_iconstI dX3_copyFrom_45 ?_
  refine v_aload_n dX3_copyFrom_46 rfl ?_
  refine v_get dX3_copyFrom_47 fl_X3_18 ((hp9 1 (by decide)).trans (ent_1 _)) rfl (s_lt hn rfl) ?_
  refine v_alen_aI dX3_copyFrom_50 ((hp9 4 (by decide)).trans (ent_4 _)) (s_lt hn rfl) ?_
  refine v_copyI (N := 3) dX3_copyFrom_51 ml_X3_61 ((hp9 25 (by decide)).trans (ent_25 _)) ((hp9 4 (by decide)).trans (ent_4 _)) (s_lt hn rfl) (s_lt hn rfl) (by decide) (by decide) (by decide) (Nat.le_of_ble_eq_true rfl) (Nat.le_of_ble_eq_true rfl) (fun h11 E12 F13 => ?_)
  have hp14 := pic_cp hp9 (show h11 4 = ent 4 (fun j => if 0 ≤ j ∧ j < 3 then (x_cp (x_cp X 23 2 192) 24 3 3) 25 j else (x_cp (x_cp X 23 2 192) 24 3 3) 4 j) from E12) F13
  have hf15 := Fr.up (c := 4) hf10 F13 rfl
  refine v_aload_n dX3_copyFrom_54 rfl ?_
  refine v_get dX3_copyFrom_55 fl_X3_21 ((hp14 22 (by decide)).trans (ent_22 _)) rfl (s_lt hn rfl) ?_
  refine v_iconstI dX3_copyFrom_58 ?_
  refine v_aload_n dX3_copyFrom_59 rfl ?_
  refine v_get dX3_copyFrom_60 fl_X3_21 ((hp14 1 (by decide)).trans (ent_1 _)) rfl (s_lt hn rfl) ?_
  refine v_iconstI dX3_copyFrom_63 ?_
  refine v_aload_n dX3_copyFrom_64 rfl ?_
  refine v_get dX3_copyFrom_65 fl_X3_21 ((hp14 1 (by decide)).trans (ent_1 _)) rfl (s_lt hn rfl) ?_
  refine v_alen_aI dX3_copyFrom_68 ((hp14 5 (by decide)).trans (ent_5 _)) (s_lt hn rfl) ?_
  refine v_copyI (N := 25) dX3_copyFrom_69 ml_X3_61 ((hp14 26 (by decide)).trans (ent_26 _)) ((hp14 5 (by decide)).trans (ent_5 _)) (s_lt hn rfl) (s_lt hn rfl) (by decide) (by decide) (by decide) (Nat.le_of_ble_eq_true rfl) (Nat.le_of_ble_eq_true rfl) (fun h16 E17 F18 => ?_)
  have hp19 := pic_cp hp14 (show h16 5 = ent 5 (fun j => if 0 ≤ j ∧ j < 25 then (x_cp (x_cp (x_cp X 23 2 192) 24 3 3) 25 4 3) 26 j else (x_cp (x_cp (x_cp X 23 2 192) 24 3 3) 25 4 3) 5 j) from E17) F18
  have hf20 := Fr.up (c := 5) hf15 F18 rfl
  refine v_aload_n dX3_copyFrom_72 rfl ?_
  refine v_get dX3_copyFrom_73 fl_X3_24 ((hp19 22 (by decide)).trans (ent_22 _)) rfl (s_lt hn rfl) ?_
  refine v_iconstI dX3_copyFrom_76 ?_
  refine v_aload_n dX3_copyFrom_77 rfl ?_
  refine v_get dX3_copyFrom_78 fl_X3_24 ((hp19 1 (by decide)).trans (ent_1 _)) rfl (s_lt hn rfl) ?_
  refine v_iconstI dX3_copyFrom_81 ?_
  refine v_aload_n dX3_copyFrom_82 rfl ?_
  refine v_get dX3_copyFrom_83 fl_X3_24 ((hp19 1 (by decide)).trans (ent_1 _)) rfl (s_lt hn rfl) ?_
  refine v_alen_aI dX3_copyFrom_86 ((hp19 6 (by decide)).trans (ent_6 _)) (s_lt hn rfl) ?_
  refine v_copyI (N := 72) dX3_copyFrom_87 ml_X3_61 ((hp19 27 (by decide)).trans (ent_27 _)) ((hp19 6 (by decide)).trans (ent_6 _)) (s_lt hn rfl) (s_lt hn rfl) (by decide) (by decide) (by decide) (Nat.le_of_ble_eq_true rfl) (Nat.le_of_ble_eq_true rfl) (fun h21 E22 F23 => ?_)
  have hp24 := pic_cp hp19 (show h21 6 = ent 6 (fun j => if 0 ≤ j ∧ j < 72 then (x_cp (x_cp (x_cp (x_cp X 23 2 192) 24 3 3) 25 4 3) 26 5 25) 27 j else (x_cp (x_cp (x_cp (x_cp X 23 2 192) 24 3 3) 25 4 3) 26 5 25) 6 j) from E22) F23
  have hf25 := Fr.up (c := 6) hf20 F23 rfl
  refine v_aload_n dX3_copyFrom_90 rfl ?_
  refine v_get dX3_copyFrom_91 fl_X3_27 ((hp24 22 (by decide)).trans (ent_22 _)) rfl (s_lt hn rfl) ?_
  refine v_iconstI dX3_copyFrom_94 ?_
  refine v_aload_n dX3_copyFrom_95 rfl ?_
  refine v_get dX3_copyFrom_96 fl_X3_27 ((hp24 1 (by decide)).trans (ent_1 _)) rfl (s_lt hn rfl) ?_
  refine v_iconstI dX3_copyFrom_99 ?_
  refine v_aload_n dX3_copyFrom_100 rfl ?_
  refine v_get dX3_copyFrom_101 fl_X3_27 ((hp24 1 (by decide)).trans (ent_1 _)) rfl (s_lt hn rfl) ?_
  refine v_alen_aI dX3_copyFrom_104 ((hp24 7 (by decide)).trans (ent_7 _)) (s_lt hn rfl) ?_
  refine v_copyI (N := 40) dX3_copyFrom_105 ml_X3_61 ((hp24 28 (by decide)).trans (ent_28 _)) ((hp24 7 (by decide)).trans (ent_7 _)) (s_lt hn rfl) (s_lt hn rfl) (by decide) (by decide) (by decide) (Nat.le_of_ble_eq_true rfl) (Nat.le_of_ble_eq_true rfl) (fun h26 E27 F28 => ?_)
  have hp29 := pic_cp hp24 (show h26 7 = ent 7 (fun j => if 0 ≤ j ∧ j < 40 then (x_cp (x_cp (x_cp (x_cp (x_cp X 23 2 192) 24 3 3) 25 4 3) 26 5 25) 27 6 72) 28 j else (x_cp (x_cp (x_cp (x_cp (x_cp X 23 2 192) 24 3 3) 25 4 3) 26 5 25) 27 6 72) 7 j) from E27) F28
  have hf30 := Fr.up (c := 7) hf25 F28 rfl
  refine v_aload_n dX3_copyFrom_108 rfl ?_
  refine v_get dX3_copyFrom_109 fl_X3_30 ((hp29 22 (by decide)).trans (ent_22 _)) rfl (s_lt hn rfl) ?_
  refine v_iconstI dX3_copyFrom_112 ?_
  refine v_aload_n dX3_copyFrom_113 rfl ?_
  refine v_get dX3_copyFrom_114 fl_X3_30 ((hp29 1 (by decide)).trans (ent_1 _)) rfl (s_lt hn rfl) ?_
  refine v_iconstI dX3_copyFrom_117 ?_
  refine v_aload_n dX3_copyFrom_118 rfl ?_
  refine v_get dX3_copyFrom_119 fl_X3_30 ((hp29 1 (by decide)).trans (ent_1 _)) rfl (s_lt hn rfl) ?_
  refine v_alen_aI dX3_copyFrom_122 ((hp29 8 (by decide)).trans (ent_8 _)) (s_lt hn rfl) ?_
  refine v_copyI (N := 30) dX3_copyFrom_123 ml_X3_61 ((hp29 29 (by decide)).trans (ent_29 _)) ((hp29 8 (by decide)).trans (ent_8 _)) (s_lt hn rfl) (s_lt hn rfl) (by decide) (by decide) (by decide) (Nat.le_of_ble_eq_true rfl) (Nat.le_of_ble_eq_true rfl) (fun h31 E32 F33 => ?_)
  have hp34 := pic_cp hp29 (show h31 8 = ent 8 (fun j => if 0 ≤ j ∧ j < 30 then (x_cp (x_cp (x_cp (x_cp (x_cp (x_cp X 23 2 192) 24 3 3) 25 4 3) 26 5 25) 27 6 72) 28 7 40) 29 j else (x_cp (x_cp (x_cp (x_cp (x_cp (x_cp X 23 2 192) 24 3 3) 25 4 3) 26 5 25) 27 6 72) 28 7 40) 8 j) from E32) F33
  have hf35 := Fr.up (c := 8) hf30 F33 rfl
  refine v_aload_n dX3_copyFrom_126 rfl ?_
  refine v_get dX3_copyFrom_127 fl_X3_33 ((hp34 22 (by decide)).trans (ent_22 _)) rfl (s_lt hn rfl) ?_
  refine v_iconstI dX3_copyFrom_130 ?_
  refine v_aload_n dX3_copyFrom_131 rfl ?_
  refine v_get dX3_copyFrom_132 fl_X3_33 ((hp34 1 (by decide)).trans (ent_1 _)) rfl (s_lt hn rfl) ?_
  refine v_iconstI dX3_copyFrom_135 ?_
  refine v_aload_n dX3_copyFrom_136 rfl ?_
  refine v_get dX3_copyFrom_137 fl_X3_33 ((hp34 1 (by decide)).trans (ent_1 _)) rfl (s_lt hn rfl) ?_
  refine v_alen_aI dX3_copyFrom_140 ((hp34 9 (by decide)).trans (ent_9 _)) (s_lt hn rfl) ?_
  refine v_copyI (N := 3) dX3_copyFrom_141 ml_X3_61 ((hp34 30 (by decide)).trans (ent_30 _)) ((hp34 9 (by decide)).trans (ent_9 _)) (s_lt hn rfl) (s_lt hn rfl) (by decide) (by decide) (by decide) (Nat.le_of_ble_eq_true rfl) (Nat.le_of_ble_eq_true rfl) (fun h36 E37 F38 => ?_)
  have hp39 := pic_cp hp34 (show h36 9 = ent 9 (fun j => if 0 ≤ j ∧ j < 3 then (x_cp (x_cp (x_cp (x_cp (x_cp (x_cp (x_cp X 23 2 192) 24 3 3) 25 4 3) 26 5 25) 27 6 72) 28 7 40) 29 8 30) 30 j else (x_cp (x_cp (x_cp (x_cp (x_cp (x_cp (x_cp X 23 2 192) 24 3 3) 25 4 3) 26 5 25) 27 6 72) 28 7 40) 29 8 30) 9 j) from E37) F38
  have hf40 := Fr.up (c := 9) hf35 F38 rfl
  refine v_iconstI dX3_copyFrom_144 ?_
  refine v_istore_n dX3_copyFrom_145 (Nat.le_of_ble_eq_true rfl) ?_
  refine v_pick [1, 2, 0] rfl ?_
  obtain ⟨I43, m44, wi47, wl46⟩ := w
  have hL48 : ∀ (N51 : Nat) (x41 : Int) (X42 : XT) (h52 : Nat → sE), m44 x41 X42 < N51 → I43 x41 X42 → Pic X42 h52 → Fr h h52 → V (m_X3_copyFrom, 1, 0, 0, n, pVw n h Q, s_G0) 0 0 n h52 146 [(0, .ref 1), (1, .ref 22), (2, .int (iI x41))] [] := by
    intro N51
    induction N51 with
    | zero => intro x41 X42 h52 hm49; exact absurd hm49 (Nat.not_lt_zero _)
    | succ N51 ih45 =>
      intro x41 X42 h52 hm49 hI50 hp53 hf54
      have w := wl46 x41 X42 hI50
      refine v_iload_n dX3_copyFrom_146 rfl ?_
      refine v_bipushI dX3_copyFrom_147 rfl ?_
      obtain ⟨q55, w⟩ := w
      refine v_icmp_geI (tgt := 170) dX3_copyFrom_149 (by decide) q55.1 q55.2 (by decide) (by decide) (fun c56 => ?_) (fun c56 => ?_)
      · replace w := w.1 c56
        refine v_aload_n dX3_copyFrom_170 rfl ?_
        refine v_aload_n dX3_copyFrom_171 rfl ?_
        refine v_get dX3_copyFrom_172 fl_X3_42 ((hp53 22 (by decide)).trans (ent_22 _)) rfl (s_lt hn rfl) ?_
        refine v_put dX3_copyFrom_175 fl_X3_42 ((hp53 1 (by decide)).trans (ent_1 _)) (s_lt hn rfl) (Nat.le_of_ble_eq_true rfl) (fun _ => ⟨rfl, rfl⟩) trivial (fun h57 E58 F59 => ?_)
        have hp60 := pic_st hp53 (show h57 1 = ent 1 (uI _ 9 (X42 22 9)) from E58) F59
        have hf61 := Fr.up (c := 1) hf54 F59 rfl
        refine v_aload_n dX3_copyFrom_178 rfl ?_
        refine v_aload_n dX3_copyFrom_179 rfl ?_
        refine v_get dX3_copyFrom_180 fl_X3_46 ((hp60 22 (by decide)).trans (ent_22 _)) rfl (s_lt hn rfl) ?_
        refine v_put dX3_copyFrom_183 fl_X3_46 ((hp60 1 (by decide)).trans (ent_1 _)) (s_lt hn rfl) (Nat.le_of_ble_eq_true rfl) (fun _ => ⟨rfl, rfl⟩) trivial (fun h62 E63 F64 => ?_)
        have hp65 := pic_st hp60 (show h62 1 = ent 1 (uI _ 10 ((x_st X42 1 9 (X42 22 9)) 22 10)) from E63) F64
        have hf66 := Fr.up (c := 1) hf61 F64 rfl
        refine v_aload_n dX3_copyFrom_186 rfl ?_
        refine v_aload_n dX3_copyFrom_187 rfl ?_
        refine v_get dX3_copyFrom_188 fl_X3_49 ((hp65 22 (by decide)).trans (ent_22 _)) rfl (s_lt hn rfl) ?_
        refine v_put dX3_copyFrom_191 fl_X3_49 ((hp65 1 (by decide)).trans (ent_1 _)) (s_lt hn rfl) (Nat.le_of_ble_eq_true rfl) (fun _ => ⟨rfl, rfl⟩) trivial (fun h67 E68 F69 => ?_)
        have hp70 := pic_st hp65 (show h67 1 = ent 1 (uI _ 11 ((x_st (x_st X42 1 9 (X42 22 9)) 1 10 ((x_st X42 1 9 (X42 22 9)) 22 10)) 22 11)) from E68) F69
        have hf71 := Fr.up (c := 1) hf66 F69 rfl
        refine v_aload_n dX3_copyFrom_194 rfl ?_
        refine v_aload_n dX3_copyFrom_195 rfl ?_
        refine v_get dX3_copyFrom_196 fl_X3_52 ((hp70 22 (by decide)).trans (ent_22 _)) rfl (s_lt hn rfl) ?_
        refine v_put dX3_copyFrom_199 fl_X3_52 ((hp70 1 (by decide)).trans (ent_1 _)) (s_lt hn rfl) (Nat.le_of_ble_eq_true rfl) (fun _ => ⟨rfl, rfl⟩) trivial (fun h72 E73 F74 => ?_)
        have hp75 := pic_st hp70 (show h72 1 = ent 1 (uI _ 12 ((x_st (x_st (x_st X42 1 9 (X42 22 9)) 1 10 ((x_st X42 1 9 (X42 22 9)) 22 10)) 1 11 ((x_st (x_st X42 1 9 (X42 22 9)) 1 10 ((x_st X42 1 9 (X42 22 9)) 22 10)) 22 11)) 22 12)) from E73) F74
        have hf76 := Fr.up (c := 1) hf71 F74 rfl
        refine v_aload_n dX3_copyFrom_202 rfl ?_
        refine v_aload_n dX3_copyFrom_203 rfl ?_
        refine v_get dX3_copyFrom_204 fl_X3_55 ((hp75 22 (by decide)).trans (ent_22 _)) rfl (s_lt hn rfl) ?_
        refine v_put dX3_copyFrom_207 fl_X3_55 ((hp75 1 (by decide)).trans (ent_1 _)) (s_lt hn rfl) (Nat.le_of_ble_eq_true rfl) (fun _ => ⟨rfl, rfl⟩) trivial (fun h77 E78 F79 => ?_)
        have hp80 := pic_st hp75 (show h77 1 = ent 1 (uI _ 13 ((x_st (x_st (x_st (x_st X42 1 9 (X42 22 9)) 1 10 ((x_st X42 1 9 (X42 22 9)) 22 10)) 1 11 ((x_st (x_st X42 1 9 (X42 22 9)) 1 10 ((x_st X42 1 9 (X42 22 9)) 22 10)) 22 11)) 1 12 ((x_st (x_st (x_st X42 1 9 (X42 22 9)) 1 10 ((x_st X42 1 9 (X42 22 9)) 22 10)) 1 11 ((x_st (x_st X42 1 9 (X42 22 9)) 1 10 ((x_st X42 1 9 (X42 22 9)) 22 10)) 22 11)) 22 12)) 22 13)) from E78) F79
        have hf81 := Fr.up (c := 1) hf76 F79 rfl
        refine v_aload_n dX3_copyFrom_210 rfl ?_
        refine v_aload_n dX3_copyFrom_211 rfl ?_
        refine v_get dX3_copyFrom_212 fl_X3_58 ((hp80 22 (by decide)).trans (ent_22 _)) rfl (s_lt hn rfl) ?_
        refine v_put dX3_copyFrom_215 fl_X3_58 ((hp80 1 (by decide)).trans (ent_1 _)) (s_lt hn rfl) (Nat.le_of_ble_eq_true rfl) (fun _ => ⟨rfl, rfl⟩) trivial (fun h82 E83 F84 => ?_)
        have hp85 := pic_st hp80 (show h82 1 = ent 1 (uI _ 14 ((x_st (x_st (x_st (x_st (x_st X42 1 9 (X42 22 9)) 1 10 ((x_st X42 1 9 (X42 22 9)) 22 10)) 1 11 ((x_st (x_st X42 1 9 (X42 22 9)) 1 10 ((x_st X42 1 9 (X42 22 9)) 22 10)) 22 11)) 1 12 ((x_st (x_st (x_st X42 1 9 (X42 22 9)) 1 10 ((x_st X42 1 9 (X42 22 9)) 22 10)) 1 11 ((x_st (x_st X42 1 9 (X42 22 9)) 1 10 ((x_st X42 1 9 (X42 22 9)) 22 10)) 22 11)) 22 12)) 1 13 ((x_st (x_st (x_st (x_st X42 1 9 (X42 22 9)) 1 10 ((x_st X42 1 9 (X42 22 9)) 22 10)) 1 11 ((x_st (x_st X42 1 9 (X42 22 9)) 1 10 ((x_st X42 1 9 (X42 22 9)) 22 10)) 22 11)) 1 12 ((x_st (x_st (x_st X42 1 9 (X42 22 9)) 1 10 ((x_st X42 1 9 (X42 22 9)) 22 10)) 1 11 ((x_st (x_st X42 1 9 (X42 22 9)) 1 10 ((x_st X42 1 9 (X42 22 9)) 22 10)) 22 11)) 22 12)) 22 13)) 22 14)) from E83) F84
        have hf86 := Fr.up (c := 1) hf81 F84 rfl
        exact v_vret dX3_copyFrom_218 rfl (Nat.zero_le _) (Nat.zero_le _) ⟨rfl, hf86, _, rfl, hp85, w⟩
      · replace w := w.2 c56
        refine v_aload_n dX3_copyFrom_152 rfl ?_
        refine v_get dX3_copyFrom_153 fl_X3_38 ((hp53 1 (by decide)).trans (ent_1 _)) rfl (s_lt hn rfl) ?_
        refine v_iload_n dX3_copyFrom_156 rfl ?_
        refine v_aload_n dX3_copyFrom_157 rfl ?_
        refine v_get dX3_copyFrom_158 fl_X3_38 ((hp53 22 (by decide)).trans (ent_22 _)) rfl (s_lt hn rfl) ?_
        refine v_iload_n dX3_copyFrom_161 rfl ?_
        obtain ⟨q87, w⟩ := w
        refine v_aaldI dX3_copyFrom_162 ((hp53 31 (by decide)).trans (ent_31 _)) (s_lt hn rfl) q87.1 q87.2 (ix_le q87.2 (by decide)) ?_
        obtain ⟨q88, w⟩ := w
        refine v_aastQ dX3_copyFrom_163 ((hp53 10 (by decide)).trans (ent_10 _)) (s_lt hn rfl) (hK.at (Fr.trans hf9 hf54) q88) q87.1 q87.2 (ix_le q87.2 (by decide)) (fun h89 E90 F91 => ?_)
        have hp92 := pic_st hp53 (show h89 10 = ent 10 (uI _ x41 (X42 31 x41)) from E90) F91
        have hf93 := Fr.up (c := 10) hf54 F91 rfl
        refine v_iincI dX3_copyFrom_164 rfl (Nat.le_of_ble_eq_true rfl) ?_
        refine v_goto (tgt := 146) dX3_copyFrom_167 (by decide) ?_
        refine v_pick [1, 2, 0] rfl ?_
        exact ih45 _ _ _ (Nat.lt_of_lt_of_le w.2 (Nat.le_of_lt_succ hm49)) w.1 hp92 hf93
  exact hL48 _ _ _ _ (Nat.lt_succ_self _) wi47 hp39 hf40
theorem dX11_image_0 : decode cX11_image 0 = .ok (.iload_n 1, 1) := by decide +kernel
theorem dX11_image_1 : decode cX11_image 1 = .ok (.iconst 0, 1) := by decide +kernel
theorem dX11_image_2 : decode cX11_image 2 = .ok (.iconst 1, 1) := by decide +kernel
theorem dX11_image_3 : decode cX11_image 3 = .ok (.invokestatic 115, 3) := by decide +kernel
theorem dX11_image_6 : decode cX11_image 6 = .ok (.ifCond .ne 9, 3) := by decide +kernel
theorem dX11_image_9 : decode cX11_image 9 = .ok (.aload_n 0, 1) := by decide +kernel
theorem dX11_image_10 : decode cX11_image 10 = .ok (.iconst (-1), 1) := by decide +kernel
theorem dX11_image_11 : decode cX11_image 11 = .ok (.invokevirtual 123, 3) := by decide +kernel
theorem dX11_image_14 : decode cX11_image 14 = .ok (.ireturn, 1) := by decide +kernel
theorem dX11_image_15 : decode cX11_image 15 = .ok (.aload_n 0, 1) := by decide +kernel
theorem dX11_image_16 : decode cX11_image 16 = .ok (.getfield 16, 3) := by decide +kernel
theorem dX11_image_19 : decode cX11_image 19 = .ok (.iload_n 1, 1) := by decide +kernel
theorem dX11_image_20 : decode cX11_image 20 = .ok (.aaload, 1) := by decide +kernel
theorem dX11_image_21 : decode cX11_image 21 = .ok (.aload_n 0, 1) := by decide +kernel
theorem dX11_image_22 : decode cX11_image 22 = .ok (.getfield 12, 3) := by decide +kernel
theorem dX11_image_25 : decode cX11_image 25 = .ok (.invokevirtual 195, 3) := by decide +kernel
theorem dX11_image_28 : decode cX11_image 28 = .ok (.aload_n 0, 1) := by decide +kernel
theorem dX11_image_29 : decode cX11_image 29 = .ok (.getfield 20, 3) := by decide +kernel
theorem dX11_image_32 : decode cX11_image 32 = .ok (.iload_n 1, 1) := by decide +kernel
theorem dX11_image_33 : decode cX11_image 33 = .ok (.iconst 1, 1) := by decide +kernel
theorem dX11_image_34 : decode cX11_image 34 = .ok (.bastore, 1) := by decide +kernel
theorem dX11_image_35 : decode cX11_image 35 = .ok (.aload_n 0, 1) := by decide +kernel
theorem dX11_image_36 : decode cX11_image 36 = .ok (.iconst 0, 1) := by decide +kernel
theorem dX11_image_37 : decode cX11_image 37 = .ok (.invokevirtual 135, 3) := by decide +kernel
theorem dX11_image_40 : decode cX11_image 40 = .ok (.ireturn, 1) := by decide +kernel
def w_X11_image (KQ : Int → Prop) (a0 : Int) (X : XT) (Q : Int → XT → Prop) : Prop :=
  R32 a0 ∧ ((0 ≤ a0 ∧ a0 ≤ 1) → (0 ≤ a0 ∧ a0 < 2) ∧ (a0 = 0 → X 11 a0 = 12 ∧ (w_X3_copyFrom KQ 12 13 14 15 16 17 18 19 20 21 1 2 3 4 5 6 7 8 9 10  X (fun (X7 : XT) => w_X11_grant  0 (x_st X7 32 a0 1) (fun (v17 : Int) (X18 : XT) => Q v17 X18)))) ∧ (¬ a0 = 0 → X 11 a0 = 22 ∧ (w_X3_copyFrom KQ 22 23 24 25 26 27 28 29 30 31 1 2 3 4 5 6 7 8 9 10  X (fun (X25 : XT) => w_X11_grant  0 (x_st X25 32 a0 1) (fun (v35 : Int) (X36 : XT) => Q v35 X36))))) ∧ (¬ (0 ≤ a0 ∧ a0 ≤ 1) → w_X11_refuse  (-1) X (fun (v41 : Int) (X42 : XT) => Q v41 X42))
set_option maxRecDepth 20000 in
theorem so_X11_image {n : Nat} {h : Nat → sE} {X : XT} {KQ : Int → Prop} {hk : Nat → sE} (hK : KQok KQ n hk) {a0 : Int} {Q : Int → XT → Prop} (hn : 115 ≤ n) (hp : Pic X h) (hf9 : Fr hk h) (w : w_X11_image KQ  a0 X Q) : Sp m_X11_image 2 0 0 [.ref 0, .int (iI a0)] n h (pIw n h Q) := by
  unfold w_X11_image at w
  refine Sp.ofV (by decide +kernel) (Nat.le_of_ble_eq_true rfl) ?_
  have hf : Fr h h := fun _ _ => rfl
  refine v_iload_n dX11_image_0 rfl ?_
  refine v_iconstI dX11_image_1 ?_
  refine v_iconstI dX11_image_2 ?_
  obtain ⟨q1, w⟩ := w
  refine v_callSp dX11_image_3 ml_X11_115 (sp_X11_within (a := a0) (b := 0) (c := 1) q1 (by decide) (by decide)) rfl rfl (Nat.le_of_ble_eq_true rfl) (Nat.le_of_ble_eq_true rfl) (Nat.zero_le _) (Nat.zero_le _) ?_
  refine v_ifneB (tgt := 15) dX11_image_6 (by decide) (fun c2 => ?_) (fun c2 => ?_)
  · replace w := w.1 c2
    refine v_aload_n dX11_image_15 rfl ?_
    refine v_get dX11_image_16 fl_X11_16 ((hp 0 (by decide)).trans (ent_0 _)) rfl (s_lt hn rfl) ?_
    refine v_iload_n dX11_image_19 rfl ?_
    obtain ⟨q3, w⟩ := w
    by_cases c4 : a0 = 0
    · obtain ⟨e5, w⟩ := w.1 c4
      refine v_aaldR 12 dX11_image_20 ((hp 11 (by decide)).trans (ent_11 _)) (s_lt hn rfl) q3.1 q3.2 (ix_le q3.2 (by decide)) (show X 11 a0 = 12 from e5) ?_
      refine v_aload_n dX11_image_21 rfl ?_
      refine v_get dX11_image_22 fl_X11_12 ((hp 0 (by decide)).trans (ent_0 _)) rfl (s_lt hn rfl) ?_
      refine v_callVVw dX11_image_25 ml_X11_195 (so_X3_copyFrom_12_1 hK hn hp (Fr.trans hf9 hf) w) ((hp 12 (by decide)).trans (ent_12 _)) rfl (s_lt hn rfl) rfl rfl (Nat.le_of_ble_eq_true rfl) (Nat.le_of_ble_eq_true rfl) (Nat.zero_le _) (Nat.zero_le _) (fun X7 h8 hp10 hf9 w => ?_)
      have hf11 := Fr.trans hf hf9
      refine v_aload_n dX11_image_28 rfl ?_
      refine v_get dX11_image_29 fl_X11_20 ((hp10 0 (by decide)).trans (ent_0 _)) rfl (s_lt hn rfl) ?_
      refine v_iload_n dX11_image_32 rfl ?_
      refine v_iconstI dX11_image_33 ?_
      refine v_zastI dX11_image_34 ((hp10 32 (by decide)).trans (ent_32 _)) (s_lt hn rfl) q3.1 q3.2 (ix_le q3.2 (by decide)) (by decide) (fun h12 E13 F14 => ?_)
      have hp15 := pic_st hp10 (show h12 32 = ent 32 (uI _ a0 1) from E13) F14
      have hf16 := Fr.up (c := 32) hf11 F14 rfl
      refine v_aload_n dX11_image_35 rfl ?_
      refine v_iconstI dX11_image_36 ?_
      refine v_callVIw dX11_image_37 ml_X11_135 (so_X11_grant hn hp15  w) ((hp15 0 (by decide)).trans (ent_0 _)) rfl (s_lt hn rfl) rfl rfl (Nat.le_of_ble_eq_true rfl) (Nat.le_of_ble_eq_true rfl) (Nat.zero_le _) (Nat.zero_le _) (fun v17 X18 h19 hp21 hf20 w => ?_)
      have hf22 := Fr.trans hf16 hf20
      exact v_iret dX11_image_40 rfl (Nat.zero_le _) (Nat.zero_le _) ⟨rfl, hf22, _, _, rfl, hp21, w⟩
    · obtain ⟨e23, w⟩ := w.2 c4
      refine v_aaldR 22 dX11_image_20 ((hp 11 (by decide)).trans (ent_11 _)) (s_lt hn rfl) q3.1 q3.2 (ix_le q3.2 (by decide)) (show X 11 a0 = 22 from e23) ?_
      refine v_aload_n dX11_image_21 rfl ?_
      refine v_get dX11_image_22 fl_X11_12 ((hp 0 (by decide)).trans (ent_0 _)) rfl (s_lt hn rfl) ?_
      refine v_callVVw dX11_image_25 ml_X11_195 (so_X3_copyFrom_22_1 hK hn hp (Fr.trans hf9 hf) w) ((hp 22 (by decide)).trans (ent_22 _)) rfl (s_lt hn rfl) rfl rfl (Nat.le_of_ble_eq_true rfl) (Nat.le_of_ble_eq_true rfl) (Nat.zero_le _) (Nat.zero_le _) (fun X25 h26 hp28 hf27 w => ?_)
      have hf29 := Fr.trans hf hf27
      refine v_aload_n dX11_image_28 rfl ?_
      refine v_get dX11_image_29 fl_X11_20 ((hp28 0 (by decide)).trans (ent_0 _)) rfl (s_lt hn rfl) ?_
      refine v_iload_n dX11_image_32 rfl ?_
      refine v_iconstI dX11_image_33 ?_
      refine v_zastI dX11_image_34 ((hp28 32 (by decide)).trans (ent_32 _)) (s_lt hn rfl) q3.1 q3.2 (ix_le q3.2 (by decide)) (by decide) (fun h30 E31 F32 => ?_)
      have hp33 := pic_st hp28 (show h30 32 = ent 32 (uI _ a0 1) from E31) F32
      have hf34 := Fr.up (c := 32) hf29 F32 rfl
      refine v_aload_n dX11_image_35 rfl ?_
      refine v_iconstI dX11_image_36 ?_
      refine v_callVIw dX11_image_37 ml_X11_135 (so_X11_grant hn hp33  w) ((hp33 0 (by decide)).trans (ent_0 _)) rfl (s_lt hn rfl) rfl rfl (Nat.le_of_ble_eq_true rfl) (Nat.le_of_ble_eq_true rfl) (Nat.zero_le _) (Nat.zero_le _) (fun v35 X36 h37 hp39 hf38 w => ?_)
      have hf40 := Fr.trans hf34 hf38
      exact v_iret dX11_image_40 rfl (Nat.zero_le _) (Nat.zero_le _) ⟨rfl, hf40, _, _, rfl, hp39, w⟩
  · replace w := w.2 c2
    refine v_aload_n dX11_image_9 rfl ?_
    refine v_iconstI dX11_image_10 ?_
    refine v_callVIw dX11_image_11 ml_X11_123 (so_X11_refuse hn hp  w) ((hp 0 (by decide)).trans (ent_0 _)) rfl (s_lt hn rfl) rfl rfl (Nat.le_of_ble_eq_true rfl) (Nat.le_of_ble_eq_true rfl) (Nat.zero_le _) (Nat.zero_le _) (fun v41 X42 h43 hp45 hf44 w => ?_)
    have hf46 := Fr.trans hf hf44
    exact v_iret dX11_image_14 rfl (Nat.zero_le _) (Nat.zero_le _) ⟨rfl, hf46, _, _, rfl, hp45, w⟩
theorem dX11_back_0 : decode cX11_back 0 = .ok (.iload_n 1, 1) := by decide +kernel
theorem dX11_back_1 : decode cX11_back 1 = .ok (.iconst 0, 1) := by decide +kernel
theorem dX11_back_2 : decode cX11_back 2 = .ok (.iconst 1, 1) := by decide +kernel
theorem dX11_back_3 : decode cX11_back 3 = .ok (.invokestatic 115, 3) := by decide +kernel
theorem dX11_back_6 : decode cX11_back 6 = .ok (.ifCond .ne 9, 3) := by decide +kernel
theorem dX11_back_9 : decode cX11_back 9 = .ok (.aload_n 0, 1) := by decide +kernel
theorem dX11_back_10 : decode cX11_back 10 = .ok (.iconst (-1), 1) := by decide +kernel
theorem dX11_back_11 : decode cX11_back 11 = .ok (.invokevirtual 123, 3) := by decide +kernel
theorem dX11_back_14 : decode cX11_back 14 = .ok (.ireturn, 1) := by decide +kernel
theorem dX11_back_15 : decode cX11_back 15 = .ok (.aload_n 0, 1) := by decide +kernel
theorem dX11_back_16 : decode cX11_back 16 = .ok (.getfield 20, 3) := by decide +kernel
theorem dX11_back_19 : decode cX11_back 19 = .ok (.iload_n 1, 1) := by decide +kernel
theorem dX11_back_20 : decode cX11_back 20 = .ok (.baload, 1) := by decide +kernel
theorem dX11_back_21 : decode cX11_back 21 = .ok (.ifCond .ne 10, 3) := by decide +kernel
theorem dX11_back_24 : decode cX11_back 24 = .ok (.aload_n 0, 1) := by decide +kernel
theorem dX11_back_25 : decode cX11_back 25 = .ok (.bipush (-2), 2) := by decide +kernel
theorem dX11_back_27 : decode cX11_back 27 = .ok (.invokevirtual 123, 3) := by decide +kernel
theorem dX11_back_30 : decode cX11_back 30 = .ok (.ireturn, 1) := by decide +kernel
theorem dX11_back_31 : decode cX11_back 31 = .ok (.aload_n 0, 1) := by decide +kernel
theorem dX11_back_32 : decode cX11_back 32 = .ok (.getfield 12, 3) := by decide +kernel
theorem dX11_back_35 : decode cX11_back 35 = .ok (.aload_n 0, 1) := by decide +kernel
theorem dX11_back_36 : decode cX11_back 36 = .ok (.getfield 16, 3) := by decide +kernel
theorem dX11_back_39 : decode cX11_back 39 = .ok (.iload_n 1, 1) := by decide +kernel
theorem dX11_back_40 : decode cX11_back 40 = .ok (.aaload, 1) := by decide +kernel
theorem dX11_back_41 : decode cX11_back 41 = .ok (.invokevirtual 195, 3) := by decide +kernel
theorem dX11_back_44 : decode cX11_back 44 = .ok (.aload_n 0, 1) := by decide +kernel
theorem dX11_back_45 : decode cX11_back 45 = .ok (.iconst 0, 1) := by decide +kernel
theorem dX11_back_46 : decode cX11_back 46 = .ok (.invokevirtual 135, 3) := by decide +kernel
theorem dX11_back_49 : decode cX11_back 49 = .ok (.ireturn, 1) := by decide +kernel
def w_X11_back (KQ : Int → Prop) (a0 : Int) (X : XT) (Q : Int → XT → Prop) : Prop :=
  R32 a0 ∧ ((0 ≤ a0 ∧ a0 ≤ 1) → (0 ≤ a0 ∧ a0 < 2) ∧ R32 (X 32 a0) ∧ (¬ (X 32 a0) = 0 → (a0 = 0 → X 11 a0 = 12 ∧ (w_X3_copyFrom KQ 1 2 3 4 5 6 7 8 9 10 12 13 14 15 16 17 18 19 20 21  X (fun (X9 : XT) => w_X11_grant  0 X9 (fun (v14 : Int) (X15 : XT) => Q v14 X15)))) ∧ (¬ a0 = 0 → X 11 a0 = 22 ∧ (w_X3_copyFrom KQ 1 2 3 4 5 6 7 8 9 10 22 23 24 25 26 27 28 29 30 31  X (fun (X22 : XT) => w_X11_grant  0 X22 (fun (v27 : Int) (X28 : XT) => Q v27 X28))))) ∧ ((X 32 a0) = 0 → w_X11_refuse  (-2) X (fun (v33 : Int) (X34 : XT) => Q v33 X34))) ∧ (¬ (0 ≤ a0 ∧ a0 ≤ 1) → w_X11_refuse  (-1) X (fun (v39 : Int) (X40 : XT) => Q v39 X40))
set_option maxRecDepth 20000 in
theorem so_X11_back {n : Nat} {h : Nat → sE} {X : XT} {KQ : Int → Prop} {hk : Nat → sE} (hK : KQok KQ n hk) {a0 : Int} {Q : Int → XT → Prop} (hn : 115 ≤ n) (hp : Pic X h) (hf9 : Fr hk h) (w : w_X11_back KQ  a0 X Q) : Sp m_X11_back 2 0 0 [.ref 0, .int (iI a0)] n h (pIw n h Q) := by
  unfold w_X11_back at w
  refine Sp.ofV (by decide +kernel) (Nat.le_of_ble_eq_true rfl) ?_
  have hf : Fr h h := fun _ _ => rfl
  refine v_iload_n dX11_back_0 rfl ?_
  refine v_iconstI dX11_back_1 ?_
  refine v_iconstI dX11_back_2 ?_
  obtain ⟨q1, w⟩ := w
  refine v_callSp dX11_back_3 ml_X11_115 (sp_X11_within (a := a0) (b := 0) (c := 1) q1 (by decide) (by decide)) rfl rfl (Nat.le_of_ble_eq_true rfl) (Nat.le_of_ble_eq_true rfl) (Nat.zero_le _) (Nat.zero_le _) ?_
  refine v_ifneB (tgt := 15) dX11_back_6 (by decide) (fun c2 => ?_) (fun c2 => ?_)
  · replace w := w.1 c2
    refine v_aload_n dX11_back_15 rfl ?_
    refine v_get dX11_back_16 fl_X11_20 ((hp 0 (by decide)).trans (ent_0 _)) rfl (s_lt hn rfl) ?_
    refine v_iload_n dX11_back_19 rfl ?_
    obtain ⟨q3, w⟩ := w
    refine v_zaldI dX11_back_20 ((hp 32 (by decide)).trans (ent_32 _)) (s_lt hn rfl) q3.1 q3.2 (ix_le q3.2 (by decide)) ?_
    obtain ⟨q4, w⟩ := w
    refine v_if_neI (tgt := 31) dX11_back_21 (by decide) q4.1 q4.2 (fun c5 => ?_) (fun c5 => ?_)
    · replace w := w.1 c5
      refine v_aload_n dX11_back_31 rfl ?_
      refine v_get dX11_back_32 fl_X11_12 ((hp 0 (by decide)).trans (ent_0 _)) rfl (s_lt hn rfl) ?_
      refine v_aload_n dX11_back_35 rfl ?_
      refine v_get dX11_back_36 fl_X11_16 ((hp 0 (by decide)).trans (ent_0 _)) rfl (s_lt hn rfl) ?_
      refine v_iload_n dX11_back_39 rfl ?_
      by_cases c6 : a0 = 0
      · obtain ⟨e7, w⟩ := w.1 c6
        refine v_aaldR 12 dX11_back_40 ((hp 11 (by decide)).trans (ent_11 _)) (s_lt hn rfl) q3.1 q3.2 (ix_le q3.2 (by decide)) (show X 11 a0 = 12 from e7) ?_
        refine v_callVVw dX11_back_41 ml_X11_195 (so_X3_copyFrom_1_12 hK hn hp (Fr.trans hf9 hf) w) ((hp 1 (by decide)).trans (ent_1 _)) rfl (s_lt hn rfl) rfl rfl (Nat.le_of_ble_eq_true rfl) (Nat.le_of_ble_eq_true rfl) (Nat.zero_le _) (Nat.zero_le _) (fun X9 h10 hp12 hf11 w => ?_)
        have hf13 := Fr.trans hf hf11
        refine v_aload_n dX11_back_44 rfl ?_
        refine v_iconstI dX11_back_45 ?_
        refine v_callVIw dX11_back_46 ml_X11_135 (so_X11_grant hn hp12  w) ((hp12 0 (by decide)).trans (ent_0 _)) rfl (s_lt hn rfl) rfl rfl (Nat.le_of_ble_eq_true rfl) (Nat.le_of_ble_eq_true rfl) (Nat.zero_le _) (Nat.zero_le _) (fun v14 X15 h16 hp18 hf17 w => ?_)
        have hf19 := Fr.trans hf13 hf17
        exact v_iret dX11_back_49 rfl (Nat.zero_le _) (Nat.zero_le _) ⟨rfl, hf19, _, _, rfl, hp18, w⟩
      · obtain ⟨e20, w⟩ := w.2 c6
        refine v_aaldR 22 dX11_back_40 ((hp 11 (by decide)).trans (ent_11 _)) (s_lt hn rfl) q3.1 q3.2 (ix_le q3.2 (by decide)) (show X 11 a0 = 22 from e20) ?_
        refine v_callVVw dX11_back_41 ml_X11_195 (so_X3_copyFrom_1_22 hK hn hp (Fr.trans hf9 hf) w) ((hp 1 (by decide)).trans (ent_1 _)) rfl (s_lt hn rfl) rfl rfl (Nat.le_of_ble_eq_true rfl) (Nat.le_of_ble_eq_true rfl) (Nat.zero_le _) (Nat.zero_le _) (fun X22 h23 hp25 hf24 w => ?_)
        have hf26 := Fr.trans hf hf24
        refine v_aload_n dX11_back_44 rfl ?_
        refine v_iconstI dX11_back_45 ?_
        refine v_callVIw dX11_back_46 ml_X11_135 (so_X11_grant hn hp25  w) ((hp25 0 (by decide)).trans (ent_0 _)) rfl (s_lt hn rfl) rfl rfl (Nat.le_of_ble_eq_true rfl) (Nat.le_of_ble_eq_true rfl) (Nat.zero_le _) (Nat.zero_le _) (fun v27 X28 h29 hp31 hf30 w => ?_)
        have hf32 := Fr.trans hf26 hf30
        exact v_iret dX11_back_49 rfl (Nat.zero_le _) (Nat.zero_le _) ⟨rfl, hf32, _, _, rfl, hp31, w⟩
    · replace w := w.2 c5
      refine v_aload_n dX11_back_24 rfl ?_
      refine v_bipushI dX11_back_25 rfl ?_
      refine v_callVIw dX11_back_27 ml_X11_123 (so_X11_refuse hn hp  w) ((hp 0 (by decide)).trans (ent_0 _)) rfl (s_lt hn rfl) rfl rfl (Nat.le_of_ble_eq_true rfl) (Nat.le_of_ble_eq_true rfl) (Nat.zero_le _) (Nat.zero_le _) (fun v33 X34 h35 hp37 hf36 w => ?_)
      have hf38 := Fr.trans hf hf36
      exact v_iret dX11_back_30 rfl (Nat.zero_le _) (Nat.zero_le _) ⟨rfl, hf38, _, _, rfl, hp37, w⟩
  · replace w := w.2 c2
    refine v_aload_n dX11_back_9 rfl ?_
    refine v_iconstI dX11_back_10 ?_
    refine v_callVIw dX11_back_11 ml_X11_123 (so_X11_refuse hn hp  w) ((hp 0 (by decide)).trans (ent_0 _)) rfl (s_lt hn rfl) rfl rfl (Nat.le_of_ble_eq_true rfl) (Nat.le_of_ble_eq_true rfl) (Nat.zero_le _) (Nat.zero_le _) (fun v39 X40 h41 hp43 hf42 w => ?_)
    have hf44 := Fr.trans hf hf42
    exact v_iret dX11_back_14 rfl (Nat.zero_le _) (Nat.zero_le _) ⟨rfl, hf44, _, _, rfl, hp43, w⟩

/-! THE PICTURE: what the cells 0 .. 114 are (0: the class's object, 77: the reference's), each with its contents g -/
def qI (N : Nat) (C : String) (g : Int → Int) : sE := .inl (.object C, N, .inr (.inr (.inr (.inr (fun j => if g j < 0 then none else some (g j).toNat)))))
def ent (i : Nat) (g : Int → Int) : sE := match i with
  | 0 => .inr (11, [.ref 1, .ref 11, .ref 32, .ref 33, .ref 40, .ref 44, .ref 49, .ref 52, .ref 58, .ref 60, .ref 68, .ref 70, .ref 76, .int (iI (g 13)), .int (iI (g 14)), .int (iI (g 15)), .int (iI (g 16)), .int (iI (g 17))])
  | 1 => .inr (3, [.ref 2, .ref 3, .ref 4, .ref 5, .ref 6, .ref 7, .ref 8, .ref 9, .ref 10, .int (iI (g 9)), .int (iI (g 10)), .int (iI (g 11)), .int (iI (g 12)), .int (iI (g 13)), .int (iI (g 14))])
  | 2 => aI 192 g
  | 3 => aI 3 g
  | 4 => aI 3 g
  | 5 => aI 25 g
  | 6 => aI 72 g
  | 7 => aI 40 g
  | 8 => aI 30 g
  | 9 => aI 3 g
  | 10 => qI 6 "ShadowHerds$Script" g
  | 11 => qI 2 "ShadowHerds$Plain" g
  | 12 => .inr (3, [.ref 13, .ref 14, .ref 15, .ref 16, .ref 17, .ref 18, .ref 19, .ref 20, .ref 21, .int (iI (g 9)), .int (iI (g 10)), .int (iI (g 11)), .int (iI (g 12)), .int (iI (g 13)), .int (iI (g 14))])
  | 13 => aI 192 g
  | 14 => aI 3 g
  | 15 => aI 3 g
  | 16 => aI 25 g
  | 17 => aI 72 g
  | 18 => aI 40 g
  | 19 => aI 30 g
  | 20 => aI 3 g
  | 21 => qI 6 "ShadowHerds$Script" g
  | 22 => .inr (3, [.ref 23, .ref 24, .ref 25, .ref 26, .ref 27, .ref 28, .ref 29, .ref 30, .ref 31, .int (iI (g 9)), .int (iI (g 10)), .int (iI (g 11)), .int (iI (g 12)), .int (iI (g 13)), .int (iI (g 14))])
  | 23 => aI 192 g
  | 24 => aI 3 g
  | 25 => aI 3 g
  | 26 => aI 25 g
  | 27 => aI 72 g
  | 28 => aI 40 g
  | 29 => aI 30 g
  | 30 => aI 3 g
  | 31 => qI 6 "ShadowHerds$Script" g
  | 32 => zI 2 g
  | 33 => .inr (5, [.ref 34, .ref 35, .ref 36, .ref 37, .int (iI (g 4)), .int (iI (g 5)), .int (iI (g 6)), .int (iI (g 7)), .int (iI (g 8)), .int (iI (g 9))])
  | 34 => aI 400 g
  | 35 => aI 401 g
  | 36 => aI 401 g
  | 37 => .inr (7, [.ref 38, .ref 39, .int (iI (g 2)), .int (iI (g 3)), .int (iI (g 4))])
  | 38 => aI 72 g
  | 39 => aI 800 g
  | 40 => .inr (6, [.ref 41, .ref 42, .ref 43])
  | 41 => aI 13 g
  | 42 => aI 120 g
  | 43 => aI 64 g
  | 44 => .inr (0, [.ref 1, .ref 45])
  | 45 => .inr (6, [.ref 46, .ref 47, .ref 48])
  | 46 => aI 13 g
  | 47 => aI 120 g
  | 48 => aI 64 g
  | 49 => .inr (8, [.ref 1, .ref 44, .ref 50, .ref 51])
  | 50 => aI 55 g
  | 51 => aI 60 g
  | 52 => .inr (9, [.ref 1, .ref 44, .ref 55, .ref 53, .ref 54, .int (iI (g 5)), .int (iI (g 6))])
  | 53 => aI 4608 g
  | 54 => aI 64 g
  | 55 => .inr (8, [.ref 1, .ref 44, .ref 56, .ref 57])
  | 56 => aI 55 g
  | 57 => aI 60 g
  | 58 => .inr (2, [.ref 1, .ref 44, .ref 59, .int (iI (g 3)), .int (iI (g 4)), .int (iI (g 5))])
  | 59 => aI 6924 g
  | 60 => .inr (4, [.ref 1, .ref 44, .ref 58, .ref 61, .ref 62, .ref 63, .ref 64, .ref 65, .ref 66, .ref 67])
  | 61 => aI 6924 g
  | 62 => aI 13848 g
  | 63 => lI 6347 g
  | 64 => aI 64 g
  | 65 => aI 288 g
  | 66 => aI 24 g
  | 67 => aI 24 g
  | 68 => .inr (1, [.ref 1, .ref 58, .ref 69, .int (iI (g 3)), .int (iI (g 4))])
  | 69 => lI 1154 g
  | 70 => .inr (10, [.ref 1, .ref 71, .ref 72, .ref 73, .ref 74, .ref 75])
  | 71 => aI 12 g
  | 72 => aI 24 g
  | 73 => aI 24 g
  | 74 => aI 24 g
  | 75 => aI 24 g
  | 76 => aI 5 g
  | 77 => .inr (12, [.int (iI (g 0)), .int (iI (g 1)), .ref 78, .ref 79, .ref 80, .ref 81, .int (iI (g 6)), .ref 82, .int (iI (g 8)), .int (iI (g 9)), .int (iI (g 10)), .int (iI (g 11)), .long (jJ (g 12)), .int (iI (g 13)), .int (iI (g 14)), .int (iI (g 15)), .int (iI (g 16)), .ref 83, .int (iI (g 18)), .ref 84, .ref 85, .int (iI (g 21)), .ref 86, .ref 87, .int (iI (g 24)), .int (iI (g 25)), .ref 88, .ref 89, .ref 90, .int (iI (g 29)), .ref 91, .ref 92, .ref 93, .int (iI (g 33)), .long (jJ (g 34)), .long (jJ (g 35)), .ref 94, .ref 95, .ref 96, .ref 97, .ref 98, .ref 99, .ref 100, .ref 101, .ref 102, .ref 103, .ref 104, .ref 105, .ref 106, .ref 107, .int (iI (g 50)), .ref 108, .ref 109, .ref 110, .ref 111, .ref 112, .ref 113, .int (iI (g 57)), .int (iI (g 58)), .int (iI (g 59)), .int (iI (g 60)), .long (jJ (g 61)), .ref 114, .int (iI (g 63))])
  | 78 => aI 7 g
  | 79 => aI 5780 g
  | 80 => aI 11560 g
  | 81 => zI 2 g
  | 82 => aI 400 g
  | 83 => aI 96 g
  | 84 => aI 400 g
  | 85 => aI 400 g
  | 86 => aI 400 g
  | 87 => aI 400 g
  | 88 => lI 8 g
  | 89 => lI 8 g
  | 90 => lI 4 g
  | 91 => lI 13 g
  | 92 => lI 13 g
  | 93 => lI 400 g
  | 94 => aI 60 g
  | 95 => aI 13 g
  | 96 => zI 6912 g
  | 97 => aI 6912 g
  | 98 => aI 82944 g
  | 99 => aI 768 g
  | 100 => zI 576 g
  | 101 => zI 576 g
  | 102 => lI 576 g
  | 103 => lI 576 g
  | 104 => lI 6912 g
  | 105 => aI 12 g
  | 106 => aI 24 g
  | 107 => aI 24 g
  | 108 => aI 24 g
  | 109 => zI 24 g
  | 110 => aI 25 g
  | 111 => aI 25 g
  | 112 => zI 6912 g
  | 113 => aI 144 g
  | 114 => aI 64 g
  | _ => aI 0 g
theorem ent_0 (g : Int → Int) : ent 0 g = .inr (11, [.ref 1, .ref 11, .ref 32, .ref 33, .ref 40, .ref 44, .ref 49, .ref 52, .ref 58, .ref 60, .ref 68, .ref 70, .ref 76, .int (iI (g 13)), .int (iI (g 14)), .int (iI (g 15)), .int (iI (g 16)), .int (iI (g 17))]) := rfl
theorem ent_1 (g : Int → Int) : ent 1 g = .inr (3, [.ref 2, .ref 3, .ref 4, .ref 5, .ref 6, .ref 7, .ref 8, .ref 9, .ref 10, .int (iI (g 9)), .int (iI (g 10)), .int (iI (g 11)), .int (iI (g 12)), .int (iI (g 13)), .int (iI (g 14))]) := rfl
theorem ent_2 (g : Int → Int) : ent 2 g = aI 192 g := rfl
theorem ent_3 (g : Int → Int) : ent 3 g = aI 3 g := rfl
theorem ent_4 (g : Int → Int) : ent 4 g = aI 3 g := rfl
theorem ent_5 (g : Int → Int) : ent 5 g = aI 25 g := rfl
theorem ent_6 (g : Int → Int) : ent 6 g = aI 72 g := rfl
theorem ent_7 (g : Int → Int) : ent 7 g = aI 40 g := rfl
theorem ent_8 (g : Int → Int) : ent 8 g = aI 30 g := rfl
theorem ent_9 (g : Int → Int) : ent 9 g = aI 3 g := rfl
theorem ent_10 (g : Int → Int) : ent 10 g = qI 6 "ShadowHerds$Script" g := rfl
theorem ent_11 (g : Int → Int) : ent 11 g = qI 2 "ShadowHerds$Plain" g := rfl
theorem ent_12 (g : Int → Int) : ent 12 g = .inr (3, [.ref 13, .ref 14, .ref 15, .ref 16, .ref 17, .ref 18, .ref 19, .ref 20, .ref 21, .int (iI (g 9)), .int (iI (g 10)), .int (iI (g 11)), .int (iI (g 12)), .int (iI (g 13)), .int (iI (g 14))]) := rfl
theorem ent_13 (g : Int → Int) : ent 13 g = aI 192 g := rfl
theorem ent_14 (g : Int → Int) : ent 14 g = aI 3 g := rfl
theorem ent_15 (g : Int → Int) : ent 15 g = aI 3 g := rfl
theorem ent_16 (g : Int → Int) : ent 16 g = aI 25 g := rfl
theorem ent_17 (g : Int → Int) : ent 17 g = aI 72 g := rfl
theorem ent_18 (g : Int → Int) : ent 18 g = aI 40 g := rfl
theorem ent_19 (g : Int → Int) : ent 19 g = aI 30 g := rfl
theorem ent_20 (g : Int → Int) : ent 20 g = aI 3 g := rfl
theorem ent_21 (g : Int → Int) : ent 21 g = qI 6 "ShadowHerds$Script" g := rfl
theorem ent_22 (g : Int → Int) : ent 22 g = .inr (3, [.ref 23, .ref 24, .ref 25, .ref 26, .ref 27, .ref 28, .ref 29, .ref 30, .ref 31, .int (iI (g 9)), .int (iI (g 10)), .int (iI (g 11)), .int (iI (g 12)), .int (iI (g 13)), .int (iI (g 14))]) := rfl
theorem ent_23 (g : Int → Int) : ent 23 g = aI 192 g := rfl
theorem ent_24 (g : Int → Int) : ent 24 g = aI 3 g := rfl
theorem ent_25 (g : Int → Int) : ent 25 g = aI 3 g := rfl
theorem ent_26 (g : Int → Int) : ent 26 g = aI 25 g := rfl
theorem ent_27 (g : Int → Int) : ent 27 g = aI 72 g := rfl
theorem ent_28 (g : Int → Int) : ent 28 g = aI 40 g := rfl
theorem ent_29 (g : Int → Int) : ent 29 g = aI 30 g := rfl
theorem ent_30 (g : Int → Int) : ent 30 g = aI 3 g := rfl
theorem ent_31 (g : Int → Int) : ent 31 g = qI 6 "ShadowHerds$Script" g := rfl
theorem ent_32 (g : Int → Int) : ent 32 g = zI 2 g := rfl
theorem ent_33 (g : Int → Int) : ent 33 g = .inr (5, [.ref 34, .ref 35, .ref 36, .ref 37, .int (iI (g 4)), .int (iI (g 5)), .int (iI (g 6)), .int (iI (g 7)), .int (iI (g 8)), .int (iI (g 9))]) := rfl
theorem ent_34 (g : Int → Int) : ent 34 g = aI 400 g := rfl
theorem ent_35 (g : Int → Int) : ent 35 g = aI 401 g := rfl
theorem ent_36 (g : Int → Int) : ent 36 g = aI 401 g := rfl
theorem ent_37 (g : Int → Int) : ent 37 g = .inr (7, [.ref 38, .ref 39, .int (iI (g 2)), .int (iI (g 3)), .int (iI (g 4))]) := rfl
theorem ent_38 (g : Int → Int) : ent 38 g = aI 72 g := rfl
theorem ent_39 (g : Int → Int) : ent 39 g = aI 800 g := rfl
theorem ent_40 (g : Int → Int) : ent 40 g = .inr (6, [.ref 41, .ref 42, .ref 43]) := rfl
theorem ent_41 (g : Int → Int) : ent 41 g = aI 13 g := rfl
theorem ent_42 (g : Int → Int) : ent 42 g = aI 120 g := rfl
theorem ent_43 (g : Int → Int) : ent 43 g = aI 64 g := rfl
theorem ent_44 (g : Int → Int) : ent 44 g = .inr (0, [.ref 1, .ref 45]) := rfl
theorem ent_45 (g : Int → Int) : ent 45 g = .inr (6, [.ref 46, .ref 47, .ref 48]) := rfl
theorem ent_46 (g : Int → Int) : ent 46 g = aI 13 g := rfl
theorem ent_47 (g : Int → Int) : ent 47 g = aI 120 g := rfl
theorem ent_48 (g : Int → Int) : ent 48 g = aI 64 g := rfl
theorem ent_49 (g : Int → Int) : ent 49 g = .inr (8, [.ref 1, .ref 44, .ref 50, .ref 51]) := rfl
theorem ent_50 (g : Int → Int) : ent 50 g = aI 55 g := rfl
theorem ent_51 (g : Int → Int) : ent 51 g = aI 60 g := rfl
theorem ent_52 (g : Int → Int) : ent 52 g = .inr (9, [.ref 1, .ref 44, .ref 55, .ref 53, .ref 54, .int (iI (g 5)), .int (iI (g 6))]) := rfl
theorem ent_53 (g : Int → Int) : ent 53 g = aI 4608 g := rfl
theorem ent_54 (g : Int → Int) : ent 54 g = aI 64 g := rfl
theorem ent_55 (g : Int → Int) : ent 55 g = .inr (8, [.ref 1, .ref 44, .ref 56, .ref 57]) := rfl
theorem ent_56 (g : Int → Int) : ent 56 g = aI 55 g := rfl
theorem ent_57 (g : Int → Int) : ent 57 g = aI 60 g := rfl
theorem ent_58 (g : Int → Int) : ent 58 g = .inr (2, [.ref 1, .ref 44, .ref 59, .int (iI (g 3)), .int (iI (g 4)), .int (iI (g 5))]) := rfl
theorem ent_59 (g : Int → Int) : ent 59 g = aI 6924 g := rfl
theorem ent_60 (g : Int → Int) : ent 60 g = .inr (4, [.ref 1, .ref 44, .ref 58, .ref 61, .ref 62, .ref 63, .ref 64, .ref 65, .ref 66, .ref 67]) := rfl
theorem ent_61 (g : Int → Int) : ent 61 g = aI 6924 g := rfl
theorem ent_62 (g : Int → Int) : ent 62 g = aI 13848 g := rfl
theorem ent_63 (g : Int → Int) : ent 63 g = lI 6347 g := rfl
theorem ent_64 (g : Int → Int) : ent 64 g = aI 64 g := rfl
theorem ent_65 (g : Int → Int) : ent 65 g = aI 288 g := rfl
theorem ent_66 (g : Int → Int) : ent 66 g = aI 24 g := rfl
theorem ent_67 (g : Int → Int) : ent 67 g = aI 24 g := rfl
theorem ent_68 (g : Int → Int) : ent 68 g = .inr (1, [.ref 1, .ref 58, .ref 69, .int (iI (g 3)), .int (iI (g 4))]) := rfl
theorem ent_69 (g : Int → Int) : ent 69 g = lI 1154 g := rfl
theorem ent_70 (g : Int → Int) : ent 70 g = .inr (10, [.ref 1, .ref 71, .ref 72, .ref 73, .ref 74, .ref 75]) := rfl
theorem ent_71 (g : Int → Int) : ent 71 g = aI 12 g := rfl
theorem ent_72 (g : Int → Int) : ent 72 g = aI 24 g := rfl
theorem ent_73 (g : Int → Int) : ent 73 g = aI 24 g := rfl
theorem ent_74 (g : Int → Int) : ent 74 g = aI 24 g := rfl
theorem ent_75 (g : Int → Int) : ent 75 g = aI 24 g := rfl
theorem ent_76 (g : Int → Int) : ent 76 g = aI 5 g := rfl
theorem ent_77 (g : Int → Int) : ent 77 g = .inr (12, [.int (iI (g 0)), .int (iI (g 1)), .ref 78, .ref 79, .ref 80, .ref 81, .int (iI (g 6)), .ref 82, .int (iI (g 8)), .int (iI (g 9)), .int (iI (g 10)), .int (iI (g 11)), .long (jJ (g 12)), .int (iI (g 13)), .int (iI (g 14)), .int (iI (g 15)), .int (iI (g 16)), .ref 83, .int (iI (g 18)), .ref 84, .ref 85, .int (iI (g 21)), .ref 86, .ref 87, .int (iI (g 24)), .int (iI (g 25)), .ref 88, .ref 89, .ref 90, .int (iI (g 29)), .ref 91, .ref 92, .ref 93, .int (iI (g 33)), .long (jJ (g 34)), .long (jJ (g 35)), .ref 94, .ref 95, .ref 96, .ref 97, .ref 98, .ref 99, .ref 100, .ref 101, .ref 102, .ref 103, .ref 104, .ref 105, .ref 106, .ref 107, .int (iI (g 50)), .ref 108, .ref 109, .ref 110, .ref 111, .ref 112, .ref 113, .int (iI (g 57)), .int (iI (g 58)), .int (iI (g 59)), .int (iI (g 60)), .long (jJ (g 61)), .ref 114, .int (iI (g 63))]) := rfl
theorem ent_78 (g : Int → Int) : ent 78 g = aI 7 g := rfl
theorem ent_79 (g : Int → Int) : ent 79 g = aI 5780 g := rfl
theorem ent_80 (g : Int → Int) : ent 80 g = aI 11560 g := rfl
theorem ent_81 (g : Int → Int) : ent 81 g = zI 2 g := rfl
theorem ent_82 (g : Int → Int) : ent 82 g = aI 400 g := rfl
theorem ent_83 (g : Int → Int) : ent 83 g = aI 96 g := rfl
theorem ent_84 (g : Int → Int) : ent 84 g = aI 400 g := rfl
theorem ent_85 (g : Int → Int) : ent 85 g = aI 400 g := rfl
theorem ent_86 (g : Int → Int) : ent 86 g = aI 400 g := rfl
theorem ent_87 (g : Int → Int) : ent 87 g = aI 400 g := rfl
theorem ent_88 (g : Int → Int) : ent 88 g = lI 8 g := rfl
theorem ent_89 (g : Int → Int) : ent 89 g = lI 8 g := rfl
theorem ent_90 (g : Int → Int) : ent 90 g = lI 4 g := rfl
theorem ent_91 (g : Int → Int) : ent 91 g = lI 13 g := rfl
theorem ent_92 (g : Int → Int) : ent 92 g = lI 13 g := rfl
theorem ent_93 (g : Int → Int) : ent 93 g = lI 400 g := rfl
theorem ent_94 (g : Int → Int) : ent 94 g = aI 60 g := rfl
theorem ent_95 (g : Int → Int) : ent 95 g = aI 13 g := rfl
theorem ent_96 (g : Int → Int) : ent 96 g = zI 6912 g := rfl
theorem ent_97 (g : Int → Int) : ent 97 g = aI 6912 g := rfl
theorem ent_98 (g : Int → Int) : ent 98 g = aI 82944 g := rfl
theorem ent_99 (g : Int → Int) : ent 99 g = aI 768 g := rfl
theorem ent_100 (g : Int → Int) : ent 100 g = zI 576 g := rfl
theorem ent_101 (g : Int → Int) : ent 101 g = zI 576 g := rfl
theorem ent_102 (g : Int → Int) : ent 102 g = lI 576 g := rfl
theorem ent_103 (g : Int → Int) : ent 103 g = lI 576 g := rfl
theorem ent_104 (g : Int → Int) : ent 104 g = lI 6912 g := rfl
theorem ent_105 (g : Int → Int) : ent 105 g = aI 12 g := rfl
theorem ent_106 (g : Int → Int) : ent 106 g = aI 24 g := rfl
theorem ent_107 (g : Int → Int) : ent 107 g = aI 24 g := rfl
theorem ent_108 (g : Int → Int) : ent 108 g = aI 24 g := rfl
theorem ent_109 (g : Int → Int) : ent 109 g = zI 24 g := rfl
theorem ent_110 (g : Int → Int) : ent 110 g = aI 25 g := rfl
theorem ent_111 (g : Int → Int) : ent 111 g = aI 25 g := rfl
theorem ent_112 (g : Int → Int) : ent 112 g = zI 6912 g := rfl
theorem ent_113 (g : Int → Int) : ent 113 g = aI 144 g := rfl
theorem ent_114 (g : Int → Int) : ent 114 g = aI 64 g := rfl
def up (X : Nat → Int → Int) (i : Nat) (g : Int → Int) : Nat → Int → Int := fun j => if j = i then g else X j
/-- the cells are as the picture of X says -/
def Pic (X : Nat → Int → Int) (h : Nat → sE) : Prop := ∀ i, i < 115 → h i = ent i (X i)
theorem Pic.up {X : Nat → Int → Int} {h h' : Nat → sE} {i : Nat} {g : Int → Int} (hX : Pic X h) (hE : h' i = ent i g) (hF : ∀ j, j ≠ i → h' j = h j) : Pic (up X i g) h' := by
  intro j hj
  show h' j = ent j (if j = i then g else X j)
  by_cases hji : j = i
  · subst hji; rw [hE, if_pos rfl]
  · rw [hF j hji, hX j hj, if_neg hji]
theorem s_lt {i n : Nat} (hn : 115 ≤ n) (h : Nat.blt i 115 = true) : i < n := Nat.lt_of_lt_of_le (Nat.le_of_ble_eq_true h) hn

/-! THE WORLD BEHIND THE TWO CONSTRUCTORS -/
def X0 (i : Nat) : Int → Int := match i with
  | 0 => (uI (uI (fun _ => 0) 15 (-1)) 16 (-1))
  | 1 => (uI (fun _ => 0) 14 (-1))
  | 2 => (fun k => if 64 ≤ k ∧ k < 128 then 100 else 0)
  | 9 => (uI (uI (uI (fun _ => 0) 0 0) 1 2) 2 0)
  | 10 => (fun _ => -1)
  | 11 => (uI (uI (fun _ => -1) 0 12) 1 22)
  | 12 => (uI (fun _ => 0) 14 (-1))
  | 13 => (fun k => if 64 ≤ k ∧ k < 128 then 100 else 0)
  | 20 => (uI (uI (uI (fun _ => 0) 0 0) 1 2) 2 0)
  | 21 => (fun _ => -1)
  | 22 => (uI (fun _ => 0) 14 (-1))
  | 23 => (fun k => if 64 ≤ k ∧ k < 128 then 100 else 0)
  | 30 => (uI (uI (uI (fun _ => 0) 0 0) 1 2) 2 0)
  | 31 => (fun _ => -1)
  | 33 => (uI (fun _ => 0) 8 (-1))
  | 58 => (uI (fun _ => 0) 3 (-1))
  | 68 => (uI (fun _ => 0) 4 4)
  | 77 => (uI (uI (fun _ => 0) 13 (-1)) 59 (-1))
  | 79 => (fun k => if 41 ≤ k ∧ k < 233 ∧ (k - 41) % 3 = 0 then 100 else (uI (uI (fun _ => 0) 5 (-1)) 7 2) k)
  | 88 => (uI (uI (uI (uI (uI (uI (uI (uI (fun _ => 0) 0 24) 1 25) 2 278194) 3 3554980) 4 12641458) 5 20186245) 6 4153) 7 441828)
  | 89 => (uI (uI (uI (uI (uI (uI (uI (uI (fun _ => 0) 0 113759379) 1 6685939) 2 394868) 3 146885) 4 19118) 5 4153) 6 398548) 7 20976)
  | 90 => (uI (uI (uI (uI (fun _ => 0) 0 8554131) 1 3653011) 2 24627848) 3 67155)
  | _ => fun _ => 0
set_option maxRecDepth 20000 in
theorem pic_x {h : Nat → sE} (H0 : h 0 = .inr (11, [.ref 1, .ref 11, .ref 32, .ref 33, .ref 40, .ref 44, .ref 49, .ref 52, .ref 58, .ref 60, .ref 68, .ref 70, .ref 76, .int (iI 0), .int (iI 0), .int (iI (-1)), .int (iI (-1)), .int (iI 0)])) (H1 : h 1 = .inr (3, [.ref 2, .ref 3, .ref 4, .ref 5, .ref 6, .ref 7, .ref 8, .ref 9, .ref 10, .int (iI 0), .int (iI 0), .int (iI 0), .int (iI 0), .int (iI 0), .int (iI (-1))])) (H2 : h 2 = aI 192 (fun k => if 64 ≤ k ∧ k < 128 then 100 else 0)) (H3 : h 3 = aI 3 (fun _ => 0)) (H4 : h 4 = aI 3 (fun _ => 0)) (H5 : h 5 = aI 25 (fun _ => 0)) (H6 : h 6 = aI 72 (fun _ => 0)) (H7 : h 7 = aI 40 (fun _ => 0)) (H8 : h 8 = aI 30 (fun _ => 0)) (H9 : h 9 = aI 3 (uI (uI (uI (fun _ => 0) 0 0) 1 2) 2 0)) (H10 : h 10 = qI 6 "ShadowHerds$Script" (fun _ => -1)) (H11 : h 11 = qI 2 "ShadowHerds$Plain" (uI (uI (fun _ => -1) 0 12) 1 22)) (H12 : h 12 = .inr (3, [.ref 13, .ref 14, .ref 15, .ref 16, .ref 17, .ref 18, .ref 19, .ref 20, .ref 21, .int (iI 0), .int (iI 0), .int (iI 0), .int (iI 0), .int (iI 0), .int (iI (-1))])) (H13 : h 13 = aI 192 (fun k => if 64 ≤ k ∧ k < 128 then 100 else 0)) (H14 : h 14 = aI 3 (fun _ => 0)) (H15 : h 15 = aI 3 (fun _ => 0)) (H16 : h 16 = aI 25 (fun _ => 0)) (H17 : h 17 = aI 72 (fun _ => 0)) (H18 : h 18 = aI 40 (fun _ => 0)) (H19 : h 19 = aI 30 (fun _ => 0)) (H20 : h 20 = aI 3 (uI (uI (uI (fun _ => 0) 0 0) 1 2) 2 0)) (H21 : h 21 = qI 6 "ShadowHerds$Script" (fun _ => -1)) (H22 : h 22 = .inr (3, [.ref 23, .ref 24, .ref 25, .ref 26, .ref 27, .ref 28, .ref 29, .ref 30, .ref 31, .int (iI 0), .int (iI 0), .int (iI 0), .int (iI 0), .int (iI 0), .int (iI (-1))])) (H23 : h 23 = aI 192 (fun k => if 64 ≤ k ∧ k < 128 then 100 else 0)) (H24 : h 24 = aI 3 (fun _ => 0)) (H25 : h 25 = aI 3 (fun _ => 0)) (H26 : h 26 = aI 25 (fun _ => 0)) (H27 : h 27 = aI 72 (fun _ => 0)) (H28 : h 28 = aI 40 (fun _ => 0)) (H29 : h 29 = aI 30 (fun _ => 0)) (H30 : h 30 = aI 3 (uI (uI (uI (fun _ => 0) 0 0) 1 2) 2 0)) (H31 : h 31 = qI 6 "ShadowHerds$Script" (fun _ => -1)) (H32 : h 32 = zI 2 (fun _ => 0)) (H33 : h 33 = .inr (5, [.ref 34, .ref 35, .ref 36, .ref 37, .int (iI 0), .int (iI 0), .int (iI 0), .int (iI 0), .int (iI (-1)), .int (iI 0)])) (H34 : h 34 = aI 400 (fun _ => 0)) (H35 : h 35 = aI 401 (fun _ => 0)) (H36 : h 36 = aI 401 (fun _ => 0)) (H37 : h 37 = .inr (7, [.ref 38, .ref 39, .int (iI 0), .int (iI 0), .int (iI 0)])) (H38 : h 38 = aI 72 (fun _ => 0)) (H39 : h 39 = aI 800 (fun _ => 0)) (H40 : h 40 = .inr (6, [.ref 41, .ref 42, .ref 43])) (H41 : h 41 = aI 13 (fun _ => 0)) (H42 : h 42 = aI 120 (fun _ => 0)) (H43 : h 43 = aI 64 (fun _ => 0)) (H44 : h 44 = .inr (0, [.ref 1, .ref 45])) (H45 : h 45 = .inr (6, [.ref 46, .ref 47, .ref 48])) (H46 : h 46 = aI 13 (fun _ => 0)) (H47 : h 47 = aI 120 (fun _ => 0)) (H48 : h 48 = aI 64 (fun _ => 0)) (H49 : h 49 = .inr (8, [.ref 1, .ref 44, .ref 50, .ref 51])) (H50 : h 50 = aI 55 (fun _ => 0)) (H51 : h 51 = aI 60 (fun _ => 0)) (H52 : h 52 = .inr (9, [.ref 1, .ref 44, .ref 55, .ref 53, .ref 54, .int (iI 0), .int (iI 0)])) (H53 : h 53 = aI 4608 (fun _ => 0)) (H54 : h 54 = aI 64 (fun _ => 0)) (H55 : h 55 = .inr (8, [.ref 1, .ref 44, .ref 56, .ref 57])) (H56 : h 56 = aI 55 (fun _ => 0)) (H57 : h 57 = aI 60 (fun _ => 0)) (H58 : h 58 = .inr (2, [.ref 1, .ref 44, .ref 59, .int (iI (-1)), .int (iI 0), .int (iI 0)])) (H59 : h 59 = aI 6924 (fun _ => 0)) (H60 : h 60 = .inr (4, [.ref 1, .ref 44, .ref 58, .ref 61, .ref 62, .ref 63, .ref 64, .ref 65, .ref 66, .ref 67])) (H61 : h 61 = aI 6924 (fun _ => 0)) (H62 : h 62 = aI 13848 (fun _ => 0)) (H63 : h 63 = lI 6347 (fun _ => 0)) (H64 : h 64 = aI 64 (fun _ => 0)) (H65 : h 65 = aI 288 (fun _ => 0)) (H66 : h 66 = aI 24 (fun _ => 0)) (H67 : h 67 = aI 24 (fun _ => 0)) (H68 : h 68 = .inr (1, [.ref 1, .ref 58, .ref 69, .int (iI 0), .int (iI 4)])) (H69 : h 69 = lI 1154 (fun _ => 0)) (H70 : h 70 = .inr (10, [.ref 1, .ref 71, .ref 72, .ref 73, .ref 74, .ref 75])) (H71 : h 71 = aI 12 (fun _ => 0)) (H72 : h 72 = aI 24 (fun _ => 0)) (H73 : h 73 = aI 24 (fun _ => 0)) (H74 : h 74 = aI 24 (fun _ => 0)) (H75 : h 75 = aI 24 (fun _ => 0)) (H76 : h 76 = aI 5 (fun _ => 0)) : ∀ j, 0 ≤ j → j < 77 → h j = ent j (X0 j) := by
  intro j h1 h2
  match j, h1, h2 with
  | 0, _, _ => exact H0
  | 1, _, _ => exact H1
  | 2, _, _ => exact H2
  | 3, _, _ => exact H3
  | 4, _, _ => exact H4
  | 5, _, _ => exact H5
  | 6, _, _ => exact H6
  | 7, _, _ => exact H7
  | 8, _, _ => exact H8
  | 9, _, _ => exact H9
  | 10, _, _ => exact H10
  | 11, _, _ => exact H11
  | 12, _, _ => exact H12
  | 13, _, _ => exact H13
  | 14, _, _ => exact H14
  | 15, _, _ => exact H15
  | 16, _, _ => exact H16
  | 17, _, _ => exact H17
  | 18, _, _ => exact H18
  | 19, _, _ => exact H19
  | 20, _, _ => exact H20
  | 21, _, _ => exact H21
  | 22, _, _ => exact H22
  | 23, _, _ => exact H23
  | 24, _, _ => exact H24
  | 25, _, _ => exact H25
  | 26, _, _ => exact H26
  | 27, _, _ => exact H27
  | 28, _, _ => exact H28
  | 29, _, _ => exact H29
  | 30, _, _ => exact H30
  | 31, _, _ => exact H31
  | 32, _, _ => exact H32
  | 33, _, _ => exact H33
  | 34, _, _ => exact H34
  | 35, _, _ => exact H35
  | 36, _, _ => exact H36
  | 37, _, _ => exact H37
  | 38, _, _ => exact H38
  | 39, _, _ => exact H39
  | 40, _, _ => exact H40
  | 41, _, _ => exact H41
  | 42, _, _ => exact H42
  | 43, _, _ => exact H43
  | 44, _, _ => exact H44
  | 45, _, _ => exact H45
  | 46, _, _ => exact H46
  | 47, _, _ => exact H47
  | 48, _, _ => exact H48
  | 49, _, _ => exact H49
  | 50, _, _ => exact H50
  | 51, _, _ => exact H51
  | 52, _, _ => exact H52
  | 53, _, _ => exact H53
  | 54, _, _ => exact H54
  | 55, _, _ => exact H55
  | 56, _, _ => exact H56
  | 57, _, _ => exact H57
  | 58, _, _ => exact H58
  | 59, _, _ => exact H59
  | 60, _, _ => exact H60
  | 61, _, _ => exact H61
  | 62, _, _ => exact H62
  | 63, _, _ => exact H63
  | 64, _, _ => exact H64
  | 65, _, _ => exact H65
  | 66, _, _ => exact H66
  | 67, _, _ => exact H67
  | 68, _, _ => exact H68
  | 69, _, _ => exact H69
  | 70, _, _ => exact H70
  | 71, _, _ => exact H71
  | 72, _, _ => exact H72
  | 73, _, _ => exact H73
  | 74, _, _ => exact H74
  | 75, _, _ => exact H75
  | 76, _, _ => exact H76
  | j + 77, _, h2 => exact absurd h2 (by omega)
set_option maxRecDepth 20000 in
theorem pic_m {h : Nat → sE} (H77 : h 77 = .inr (12, [.int (iI 0), .int (iI 0), .ref 78, .ref 79, .ref 80, .ref 81, .int (iI 0), .ref 82, .int (iI 0), .int (iI 0), .int (iI 0), .int (iI 0), .long (jJ 0), .int (iI (-1)), .int (iI 0), .int (iI 0), .int (iI 0), .ref 83, .int (iI 0), .ref 84, .ref 85, .int (iI 0), .ref 86, .ref 87, .int (iI 0), .int (iI 0), .ref 88, .ref 89, .ref 90, .int (iI 0), .ref 91, .ref 92, .ref 93, .int (iI 0), .long (jJ 0), .long (jJ 0), .ref 94, .ref 95, .ref 96, .ref 97, .ref 98, .ref 99, .ref 100, .ref 101, .ref 102, .ref 103, .ref 104, .ref 105, .ref 106, .ref 107, .int (iI 0), .ref 108, .ref 109, .ref 110, .ref 111, .ref 112, .ref 113, .int (iI 0), .int (iI 0), .int (iI (-1)), .int (iI 0), .long (jJ 0), .ref 114, .int (iI 0)])) (H78 : h 78 = aI 7 (fun _ => 0)) (H79 : h 79 = aI 5780 (fun k => if 41 ≤ k ∧ k < 233 ∧ (k - 41) % 3 = 0 then 100 else (uI (uI (fun _ => 0) 5 (-1)) 7 2) k)) (H80 : h 80 = aI 11560 (fun _ => 0)) (H81 : h 81 = zI 2 (fun _ => 0)) (H82 : h 82 = aI 400 (fun _ => 0)) (H83 : h 83 = aI 96 (fun _ => 0)) (H84 : h 84 = aI 400 (fun _ => 0)) (H85 : h 85 = aI 400 (fun _ => 0)) (H86 : h 86 = aI 400 (fun _ => 0)) (H87 : h 87 = aI 400 (fun _ => 0)) (H88 : h 88 = lI 8 (uI (uI (uI (uI (uI (uI (uI (uI (fun _ => 0) 0 24) 1 25) 2 278194) 3 3554980) 4 12641458) 5 20186245) 6 4153) 7 441828)) (H89 : h 89 = lI 8 (uI (uI (uI (uI (uI (uI (uI (uI (fun _ => 0) 0 113759379) 1 6685939) 2 394868) 3 146885) 4 19118) 5 4153) 6 398548) 7 20976)) (H90 : h 90 = lI 4 (uI (uI (uI (uI (fun _ => 0) 0 8554131) 1 3653011) 2 24627848) 3 67155)) (H91 : h 91 = lI 13 (fun _ => 0)) (H92 : h 92 = lI 13 (fun _ => 0)) (H93 : h 93 = lI 400 (fun _ => 0)) (H94 : h 94 = aI 60 (fun _ => 0)) (H95 : h 95 = aI 13 (fun _ => 0)) (H96 : h 96 = zI 6912 (fun _ => 0)) (H97 : h 97 = aI 6912 (fun _ => 0)) (H98 : h 98 = aI 82944 (fun _ => 0)) (H99 : h 99 = aI 768 (fun _ => 0)) (H100 : h 100 = zI 576 (fun _ => 0)) (H101 : h 101 = zI 576 (fun _ => 0)) (H102 : h 102 = lI 576 (fun _ => 0)) (H103 : h 103 = lI 576 (fun _ => 0)) (H104 : h 104 = lI 6912 (fun _ => 0)) (H105 : h 105 = aI 12 (fun _ => 0)) (H106 : h 106 = aI 24 (fun _ => 0)) (H107 : h 107 = aI 24 (fun _ => 0)) (H108 : h 108 = aI 24 (fun _ => 0)) (H109 : h 109 = zI 24 (fun _ => 0)) (H110 : h 110 = aI 25 (fun _ => 0)) (H111 : h 111 = aI 25 (fun _ => 0)) (H112 : h 112 = zI 6912 (fun _ => 0)) (H113 : h 113 = aI 144 (fun _ => 0)) (H114 : h 114 = aI 64 (fun _ => 0)) : ∀ j, 77 ≤ j → j < 115 → h j = ent j (X0 j) := by
  intro j h1 h2
  match j, h1, h2 with
  | 0, h1, _ => exact absurd h1 (by decide)
  | 1, h1, _ => exact absurd h1 (by decide)
  | 2, h1, _ => exact absurd h1 (by decide)
  | 3, h1, _ => exact absurd h1 (by decide)
  | 4, h1, _ => exact absurd h1 (by decide)
  | 5, h1, _ => exact absurd h1 (by decide)
  | 6, h1, _ => exact absurd h1 (by decide)
  | 7, h1, _ => exact absurd h1 (by decide)
  | 8, h1, _ => exact absurd h1 (by decide)
  | 9, h1, _ => exact absurd h1 (by decide)
  | 10, h1, _ => exact absurd h1 (by decide)
  | 11, h1, _ => exact absurd h1 (by decide)
  | 12, h1, _ => exact absurd h1 (by decide)
  | 13, h1, _ => exact absurd h1 (by decide)
  | 14, h1, _ => exact absurd h1 (by decide)
  | 15, h1, _ => exact absurd h1 (by decide)
  | 16, h1, _ => exact absurd h1 (by decide)
  | 17, h1, _ => exact absurd h1 (by decide)
  | 18, h1, _ => exact absurd h1 (by decide)
  | 19, h1, _ => exact absurd h1 (by decide)
  | 20, h1, _ => exact absurd h1 (by decide)
  | 21, h1, _ => exact absurd h1 (by decide)
  | 22, h1, _ => exact absurd h1 (by decide)
  | 23, h1, _ => exact absurd h1 (by decide)
  | 24, h1, _ => exact absurd h1 (by decide)
  | 25, h1, _ => exact absurd h1 (by decide)
  | 26, h1, _ => exact absurd h1 (by decide)
  | 27, h1, _ => exact absurd h1 (by decide)
  | 28, h1, _ => exact absurd h1 (by decide)
  | 29, h1, _ => exact absurd h1 (by decide)
  | 30, h1, _ => exact absurd h1 (by decide)
  | 31, h1, _ => exact absurd h1 (by decide)
  | 32, h1, _ => exact absurd h1 (by decide)
  | 33, h1, _ => exact absurd h1 (by decide)
  | 34, h1, _ => exact absurd h1 (by decide)
  | 35, h1, _ => exact absurd h1 (by decide)
  | 36, h1, _ => exact absurd h1 (by decide)
  | 37, h1, _ => exact absurd h1 (by decide)
  | 38, h1, _ => exact absurd h1 (by decide)
  | 39, h1, _ => exact absurd h1 (by decide)
  | 40, h1, _ => exact absurd h1 (by decide)
  | 41, h1, _ => exact absurd h1 (by decide)
  | 42, h1, _ => exact absurd h1 (by decide)
  | 43, h1, _ => exact absurd h1 (by decide)
  | 44, h1, _ => exact absurd h1 (by decide)
  | 45, h1, _ => exact absurd h1 (by decide)
  | 46, h1, _ => exact absurd h1 (by decide)
  | 47, h1, _ => exact absurd h1 (by decide)
  | 48, h1, _ => exact absurd h1 (by decide)
  | 49, h1, _ => exact absurd h1 (by decide)
  | 50, h1, _ => exact absurd h1 (by decide)
  | 51, h1, _ => exact absurd h1 (by decide)
  | 52, h1, _ => exact absurd h1 (by decide)
  | 53, h1, _ => exact absurd h1 (by decide)
  | 54, h1, _ => exact absurd h1 (by decide)
  | 55, h1, _ => exact absurd h1 (by decide)
  | 56, h1, _ => exact absurd h1 (by decide)
  | 57, h1, _ => exact absurd h1 (by decide)
  | 58, h1, _ => exact absurd h1 (by decide)
  | 59, h1, _ => exact absurd h1 (by decide)
  | 60, h1, _ => exact absurd h1 (by decide)
  | 61, h1, _ => exact absurd h1 (by decide)
  | 62, h1, _ => exact absurd h1 (by decide)
  | 63, h1, _ => exact absurd h1 (by decide)
  | 64, h1, _ => exact absurd h1 (by decide)
  | 65, h1, _ => exact absurd h1 (by decide)
  | 66, h1, _ => exact absurd h1 (by decide)
  | 67, h1, _ => exact absurd h1 (by decide)
  | 68, h1, _ => exact absurd h1 (by decide)
  | 69, h1, _ => exact absurd h1 (by decide)
  | 70, h1, _ => exact absurd h1 (by decide)
  | 71, h1, _ => exact absurd h1 (by decide)
  | 72, h1, _ => exact absurd h1 (by decide)
  | 73, h1, _ => exact absurd h1 (by decide)
  | 74, h1, _ => exact absurd h1 (by decide)
  | 75, h1, _ => exact absurd h1 (by decide)
  | 76, h1, _ => exact absurd h1 (by decide)
  | 77, _, _ => exact H77
  | 78, _, _ => exact H78
  | 79, _, _ => exact H79
  | 80, _, _ => exact H80
  | 81, _, _ => exact H81
  | 82, _, _ => exact H82
  | 83, _, _ => exact H83
  | 84, _, _ => exact H84
  | 85, _, _ => exact H85
  | 86, _, _ => exact H86
  | 87, _, _ => exact H87
  | 88, _, _ => exact H88
  | 89, _, _ => exact H89
  | 90, _, _ => exact H90
  | 91, _, _ => exact H91
  | 92, _, _ => exact H92
  | 93, _, _ => exact H93
  | 94, _, _ => exact H94
  | 95, _, _ => exact H95
  | 96, _, _ => exact H96
  | 97, _, _ => exact H97
  | 98, _, _ => exact H98
  | 99, _, _ => exact H99
  | 100, _, _ => exact H100
  | 101, _, _ => exact H101
  | 102, _, _ => exact H102
  | 103, _, _ => exact H103
  | 104, _, _ => exact H104
  | 105, _, _ => exact H105
  | 106, _, _ => exact H106
  | 107, _, _ => exact H107
  | 108, _, _ => exact H108
  | 109, _, _ => exact H109
  | 110, _, _ => exact H110
  | 111, _, _ => exact H111
  | 112, _, _ => exact H112
  | 113, _, _ => exact H113
  | 114, _, _ => exact H114
  | j + 115, _, h2 => exact absurd h2 (by omega)

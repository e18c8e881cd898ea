/-- the numbers of a new class and of a new array of the law -/
def z_w0i (a : Nat) : Nat → Int32 := match a with
  | 20 => fun j => if j = 0 then 2 else 0
  | 55 => (upd (z_fill 12 (1000000 : Int32) (fun _ => 0)) 0 (9999 : Int32))
  | 75 => fun j => if j = 0 then 2 else 0
  | 110 => (upd (z_fill 12 (1000000 : Int32) (fun _ => 0)) 0 (9999 : Int32))
  | 123 => (z_fill 4 (-1 : Int32) (fun _ => 0))
  | _ => fun _ => 0
def z_w0 : ZW := (z_w0i, fun _ _ => 0)
abbrev zeG (E : ZE) (a b L : Nat) (xs : Nat → Int32) : ZG := (fun k => a + k, E.1, E.2.1, E.2.2.1, E.2.2.2.1, E.2.2.2.2.1, E.2.2.2.2.2, 0, b, L, xs)
abbrev zpart (E : ZE) (a : Nat) : va_W := [(a + 130, .inl (E.2.2.2.1, 64, .inl (fun _ => 0)))]
theorem z_w0_3 : z_w0i 3 = fun _ => 0 := by unfold z_w0i; rfl
theorem z_w0_4 : z_w0i 4 = fun _ => 0 := by unfold z_w0i; rfl
theorem z_w0_5 : z_w0i 5 = fun _ => 0 := by unfold z_w0i; rfl
theorem z_w0_6 : z_w0i 6 = fun _ => 0 := by unfold z_w0i; rfl
theorem z_w0_7 : z_w0i 7 = fun _ => 0 := by unfold z_w0i; rfl
theorem z_w0_8 : z_w0i 8 = fun _ => 0 := by unfold z_w0i; rfl
theorem z_w0_9 : z_w0i 9 = fun _ => 0 := by unfold z_w0i; rfl
theorem z_w0_10 : z_w0i 10 = fun _ => 0 := by unfold z_w0i; rfl
theorem z_w0_11 : z_w0i 11 = fun _ => 0 := by unfold z_w0i; rfl
theorem z_w0_13 : z_w0i 13 = fun _ => 0 := by unfold z_w0i; rfl
theorem z_w0_14 : z_w0i 14 = fun _ => 0 := by unfold z_w0i; rfl
theorem z_w0_15 : z_w0i 15 = fun _ => 0 := by unfold z_w0i; rfl
theorem z_w0_21 : z_w0i 21 = fun _ => 0 := by unfold z_w0i; rfl
theorem z_w0_22 : z_w0i 22 = fun _ => 0 := by unfold z_w0i; rfl
theorem z_w0_23 : z_w0i 23 = fun _ => 0 := by unfold z_w0i; rfl
theorem z_w0_25 : z_w0i 25 = fun _ => 0 := by unfold z_w0i; rfl
theorem z_w0_26 : z_w0i 26 = fun _ => 0 := by unfold z_w0i; rfl
theorem z_w0_27 : z_w0i 27 = fun _ => 0 := by unfold z_w0i; rfl
theorem z_w0_28 : z_w0i 28 = fun _ => 0 := by unfold z_w0i; rfl
theorem z_w0_29 : z_w0i 29 = fun _ => 0 := by unfold z_w0i; rfl
theorem z_w0_30 : z_w0i 30 = fun _ => 0 := by unfold z_w0i; rfl
theorem z_w0_31 : z_w0i 31 = fun _ => 0 := by unfold z_w0i; rfl
theorem z_w0_32 : z_w0i 32 = fun _ => 0 := by unfold z_w0i; rfl
theorem z_w0_33 : z_w0i 33 = fun _ => 0 := by unfold z_w0i; rfl
theorem z_w0_34 : z_w0i 34 = fun _ => 0 := by unfold z_w0i; rfl
theorem z_w0_35 : z_w0i 35 = fun _ => 0 := by unfold z_w0i; rfl
theorem z_w0_36 : z_w0i 36 = fun _ => 0 := by unfold z_w0i; rfl
theorem z_w0_37 : z_w0i 37 = fun _ => 0 := by unfold z_w0i; rfl
theorem z_w0_39 : z_w0i 39 = fun _ => 0 := by unfold z_w0i; rfl
theorem z_w0_40 : z_w0i 40 = fun _ => 0 := by unfold z_w0i; rfl
theorem z_w0_41 : z_w0i 41 = fun _ => 0 := by unfold z_w0i; rfl
theorem z_w0_42 : z_w0i 42 = fun _ => 0 := by unfold z_w0i; rfl
theorem z_w0_43 : z_w0i 43 = fun _ => 0 := by unfold z_w0i; rfl
theorem z_w0_44 : z_w0i 44 = fun _ => 0 := by unfold z_w0i; rfl
theorem z_w0_45 : z_w0i 45 = fun _ => 0 := by unfold z_w0i; rfl
theorem z_w0_46 : z_w0i 46 = fun _ => 0 := by unfold z_w0i; rfl
theorem z_w0_47 : z_w0i 47 = fun _ => 0 := by unfold z_w0i; rfl
theorem z_w0_48 : z_w0i 48 = fun _ => 0 := by unfold z_w0i; rfl
theorem z_w0_49 : z_w0i 49 = fun _ => 0 := by unfold z_w0i; rfl
theorem z_w0_50 : z_w0i 50 = fun _ => 0 := by unfold z_w0i; rfl
theorem z_w0_51 : z_w0i 51 = fun _ => 0 := by unfold z_w0i; rfl
theorem z_w0_52 : z_w0i 52 = fun _ => 0 := by unfold z_w0i; rfl
theorem z_w0_54 : z_w0i 54 = fun _ => 0 := by unfold z_w0i; rfl
theorem z_w0_55 : z_w0i 55 = (upd (z_fill 12 (1000000 : Int32) (fun _ => 0)) 0 (9999 : Int32)) := by unfold z_w0i; rfl
theorem z_w0_58 : z_w0i 58 = fun _ => 0 := by unfold z_w0i; rfl
theorem z_w0_59 : z_w0i 59 = fun _ => 0 := by unfold z_w0i; rfl
theorem z_w0_60 : z_w0i 60 = fun _ => 0 := by unfold z_w0i; rfl
theorem z_w0_61 : z_w0i 61 = fun _ => 0 := by unfold z_w0i; rfl
theorem z_w0_62 : z_w0i 62 = fun _ => 0 := by unfold z_w0i; rfl
theorem z_w0_63 : z_w0i 63 = fun _ => 0 := by unfold z_w0i; rfl
theorem z_w0_64 : z_w0i 64 = fun _ => 0 := by unfold z_w0i; rfl
theorem z_w0_65 : z_w0i 65 = fun _ => 0 := by unfold z_w0i; rfl
theorem z_w0_66 : z_w0i 66 = fun _ => 0 := by unfold z_w0i; rfl
theorem z_w0_68 : z_w0i 68 = fun _ => 0 := by unfold z_w0i; rfl
theorem z_w0_69 : z_w0i 69 = fun _ => 0 := by unfold z_w0i; rfl
theorem z_w0_70 : z_w0i 70 = fun _ => 0 := by unfold z_w0i; rfl
theorem z_w0_76 : z_w0i 76 = fun _ => 0 := by unfold z_w0i; rfl
theorem z_w0_77 : z_w0i 77 = fun _ => 0 := by unfold z_w0i; rfl
theorem z_w0_78 : z_w0i 78 = fun _ => 0 := by unfold z_w0i; rfl
theorem z_w0_80 : z_w0i 80 = fun _ => 0 := by unfold z_w0i; rfl
theorem z_w0_81 : z_w0i 81 = fun _ => 0 := by unfold z_w0i; rfl
theorem z_w0_82 : z_w0i 82 = fun _ => 0 := by unfold z_w0i; rfl
theorem z_w0_83 : z_w0i 83 = fun _ => 0 := by unfold z_w0i; rfl
theorem z_w0_84 : z_w0i 84 = fun _ => 0 := by unfold z_w0i; rfl
theorem z_w0_85 : z_w0i 85 = fun _ => 0 := by unfold z_w0i; rfl
theorem z_w0_86 : z_w0i 86 = fun _ => 0 := by unfold z_w0i; rfl
theorem z_w0_87 : z_w0i 87 = fun _ => 0 := by unfold z_w0i; rfl
theorem z_w0_88 : z_w0i 88 = fun _ => 0 := by unfold z_w0i; rfl
theorem z_w0_89 : z_w0i 89 = fun _ => 0 := by unfold z_w0i; rfl
theorem z_w0_90 : z_w0i 90 = fun _ => 0 := by unfold z_w0i; rfl
theorem z_w0_91 : z_w0i 91 = fun _ => 0 := by unfold z_w0i; rfl
theorem z_w0_92 : z_w0i 92 = fun _ => 0 := by unfold z_w0i; rfl
theorem z_w0_94 : z_w0i 94 = fun _ => 0 := by unfold z_w0i; rfl
theorem z_w0_95 : z_w0i 95 = fun _ => 0 := by unfold z_w0i; rfl
theorem z_w0_96 : z_w0i 96 = fun _ => 0 := by unfold z_w0i; rfl
theorem z_w0_97 : z_w0i 97 = fun _ => 0 := by unfold z_w0i; rfl
theorem z_w0_98 : z_w0i 98 = fun _ => 0 := by unfold z_w0i; rfl
theorem z_w0_99 : z_w0i 99 = fun _ => 0 := by unfold z_w0i; rfl
theorem z_w0_100 : z_w0i 100 = fun _ => 0 := by unfold z_w0i; rfl
theorem z_w0_101 : z_w0i 101 = fun _ => 0 := by unfold z_w0i; rfl
theorem z_w0_102 : z_w0i 102 = fun _ => 0 := by unfold z_w0i; rfl
theorem z_w0_103 : z_w0i 103 = fun _ => 0 := by unfold z_w0i; rfl
theorem z_w0_104 : z_w0i 104 = fun _ => 0 := by unfold z_w0i; rfl
theorem z_w0_105 : z_w0i 105 = fun _ => 0 := by unfold z_w0i; rfl
theorem z_w0_106 : z_w0i 106 = fun _ => 0 := by unfold z_w0i; rfl
theorem z_w0_107 : z_w0i 107 = fun _ => 0 := by unfold z_w0i; rfl
theorem z_w0_109 : z_w0i 109 = fun _ => 0 := by unfold z_w0i; rfl
theorem z_w0_110 : z_w0i 110 = (upd (z_fill 12 (1000000 : Int32) (fun _ => 0)) 0 (9999 : Int32)) := by unfold z_w0i; rfl
theorem z_w0_112 : z_w0i 112 = fun _ => 0 := by unfold z_w0i; rfl
theorem z_w0_113 : z_w0i 113 = fun _ => 0 := by unfold z_w0i; rfl
theorem z_w0_114 : z_w0i 114 = fun _ => 0 := by unfold z_w0i; rfl
theorem z_w0_115 : z_w0i 115 = fun _ => 0 := by unfold z_w0i; rfl
theorem z_w0_116 : z_w0i 116 = fun _ => 0 := by unfold z_w0i; rfl
theorem z_w0_118 : z_w0i 118 = fun _ => 0 := by unfold z_w0i; rfl
theorem z_w0_121 : z_w0i 121 = fun _ => 0 := by unfold z_w0i; rfl
theorem z_w0_123 : z_w0i 123 = (z_fill 4 (-1 : Int32) (fun _ => 0)) := by unfold z_w0i; rfl
theorem z_w0_124 : z_w0i 124 = fun _ => 0 := by unfold z_w0i; rfl
theorem z_w0_126 : z_w0i 126 = fun _ => 0 := by unfold z_w0i; rfl
theorem z_w0_127 : z_w0i 127 = fun _ => 0 := by unfold z_w0i; rfl
theorem z_w0_128 : z_w0i 128 = fun _ => 0 := by unfold z_w0i; rfl
theorem z_w0_129 : z_w0i 129 = fun _ => 0 := by unfold z_w0i; rfl
theorem z_w0_130 : z_w0i 130 = fun _ => 0 := by unfold z_w0i; rfl
def z_tt (E : ZE) (a : Nat) : va_W := [
  (a + 0, .inr (11, [.ref (a + 1), .ref (a + 56), .int 0, .ref (a + 111), .ref (a + 117), .ref (a + 119), .ref (a + 120), .ref (a + 122)])),
  (a + 1, .inr (9, [.ref (a + 2), .ref (a + 12), .ref (a + 16), .ref (a + 20), .ref (a + 53)])),
  (a + 2, .inr (4, [.int 0, .ref (a + 3), .ref (a + 4), .ref (a + 5), .int 0, .int 0, .ref (a + 6), .ref (a + 7), .ref (a + 8), .ref (a + 9), .ref (a + 10), .ref (a + 11)])),
  (a + 3, .inl (E.2.2.2.1, 6, .inl (fun _ => 0))),
  (a + 4, .inl (E.2.2.2.1, 6, .inl (fun _ => 0))),
  (a + 5, .inl (E.2.2.2.1, 6, .inl (fun _ => 0))),
  (a + 6, .inl (E.2.2.2.1, 14, .inl (fun _ => 0))),
  (a + 7, .inl (E.2.2.2.1, 14, .inl (fun _ => 0))),
  (a + 8, .inl (E.2.2.2.1, 14, .inl (fun _ => 0))),
  (a + 9, .inl (E.2.2.2.1, 14, .inl (fun _ => 0))),
  (a + 10, .inl (E.2.2.2.1, 14, .inl (fun _ => 0))),
  (a + 11, .inl (E.2.2.2.1, 14, .inl (fun _ => 0))),
  (a + 12, .inr (8, [.int 0, .ref (a + 13), .ref (a + 14), .ref (a + 15)])),
  (a + 13, .inl (E.2.2.2.1, 6, .inl (fun _ => 0))),
  (a + 14, .inl (E.2.2.2.1, 6, .inl (fun _ => 0))),
  (a + 15, .inl (E.2.2.2.1, 6, .inl (fun _ => 0))),
  (a + 16, .inr (2, [.int 0, .int 0, .ref (a + 17), .ref (a + 18), .ref (a + 19)])),
  (a + 17, .inl (E.2.2.2.2.1, 8, .inr (.inl (fun _ => 0)))),
  (a + 18, .inl (E.2.2.2.2.1, 14, .inr (.inl (fun _ => 0)))),
  (a + 19, .inl (E.2.2.2.2.1, 14, .inr (.inl (fun _ => 0)))),
  (a + 20, .inr (3, [.int 2, .ref (a + 21), .ref (a + 22), .ref (a + 23), .ref (a + 24), .ref (a + 38), .ref (a + 51), .ref (a + 52), .int 0])),
  (a + 21, .inl (E.2.2.2.1, 6, .inl (fun _ => 0))),
  (a + 22, .inl (E.2.2.2.1, 6, .inl (fun _ => 0))),
  (a + 23, .inl (E.2.2.2.1, 6, .inl (fun _ => 0))),
  (a + 24, .inl (E.2.2.2.2.2, 13, .inr (.inr (.inr (.inr (fun i => if i < 13 then some (a + 24 + 1 + i) else none)))))),
  (a + 25, .inl (E.2.2.2.1, 64, .inl (fun _ => 0))),
  (a + 26, .inl (E.2.2.2.1, 64, .inl (fun _ => 0))),
  (a + 27, .inl (E.2.2.2.1, 64, .inl (fun _ => 0))),
  (a + 28, .inl (E.2.2.2.1, 64, .inl (fun _ => 0))),
  (a + 29, .inl (E.2.2.2.1, 64, .inl (fun _ => 0))),
  (a + 30, .inl (E.2.2.2.1, 64, .inl (fun _ => 0))),
  (a + 31, .inl (E.2.2.2.1, 64, .inl (fun _ => 0))),
  (a + 32, .inl (E.2.2.2.1, 64, .inl (fun _ => 0))),
  (a + 33, .inl (E.2.2.2.1, 64, .inl (fun _ => 0))),
  (a + 34, .inl (E.2.2.2.1, 64, .inl (fun _ => 0))),
  (a + 35, .inl (E.2.2.2.1, 64, .inl (fun _ => 0))),
  (a + 36, .inl (E.2.2.2.1, 64, .inl (fun _ => 0))),
  (a + 37, .inl (E.2.2.2.1, 64, .inl (fun _ => 0))),
  (a + 38, .inl (E.2.2.2.2.2, 12, .inr (.inr (.inr (.inr (fun i => if i < 12 then some (a + 38 + 1 + i) else none)))))),
  (a + 39, .inl (E.2.2.2.1, 64, .inl (fun _ => 0))),
  (a + 40, .inl (E.2.2.2.1, 64, .inl (fun _ => 0))),
  (a + 41, .inl (E.2.2.2.1, 64, .inl (fun _ => 0))),
  (a + 42, .inl (E.2.2.2.1, 64, .inl (fun _ => 0))),
  (a + 43, .inl (E.2.2.2.1, 64, .inl (fun _ => 0))),
  (a + 44, .inl (E.2.2.2.1, 64, .inl (fun _ => 0))),
  (a + 45, .inl (E.2.2.2.1, 64, .inl (fun _ => 0))),
  (a + 46, .inl (E.2.2.2.1, 64, .inl (fun _ => 0))),
  (a + 47, .inl (E.2.2.2.1, 64, .inl (fun _ => 0))),
  (a + 48, .inl (E.2.2.2.1, 64, .inl (fun _ => 0))),
  (a + 49, .inl (E.2.2.2.1, 64, .inl (fun _ => 0))),
  (a + 50, .inl (E.2.2.2.1, 64, .inl (fun _ => 0))),
  (a + 51, .inl (E.2.2.2.1, 64, .inl (fun _ => 0))),
  (a + 52, .inl (E.2.2.2.1, 6, .inl (fun _ => 0))),
  (a + 53, .inr (0, [.ref (a + 54), .ref (a + 55), .int 0, .int 0])),
  (a + 54, .inl (E.2.2.2.1, 12, .inl (fun _ => 0))),
  (a + 55, .inl (E.2.2.2.1, 12, .inl (upd (z_fill 12 (1000000 : Int32) (fun _ => 0)) 0 (9999 : Int32)))),
  (a + 56, .inr (9, [.ref (a + 57), .ref (a + 67), .ref (a + 71), .ref (a + 75), .ref (a + 108)])),
  (a + 57, .inr (4, [.int 0, .ref (a + 58), .ref (a + 59), .ref (a + 60), .int 0, .int 0, .ref (a + 61), .ref (a + 62), .ref (a + 63), .ref (a + 64), .ref (a + 65), .ref (a + 66)])),
  (a + 58, .inl (E.2.2.2.1, 6, .inl (fun _ => 0))),
  (a + 59, .inl (E.2.2.2.1, 6, .inl (fun _ => 0))),
  (a + 60, .inl (E.2.2.2.1, 6, .inl (fun _ => 0))),
  (a + 61, .inl (E.2.2.2.1, 14, .inl (fun _ => 0))),
  (a + 62, .inl (E.2.2.2.1, 14, .inl (fun _ => 0))),
  (a + 63, .inl (E.2.2.2.1, 14, .inl (fun _ => 0))),
  (a + 64, .inl (E.2.2.2.1, 14, .inl (fun _ => 0))),
  (a + 65, .inl (E.2.2.2.1, 14, .inl (fun _ => 0))),
  (a + 66, .inl (E.2.2.2.1, 14, .inl (fun _ => 0))),
  (a + 67, .inr (8, [.int 0, .ref (a + 68), .ref (a + 69), .ref (a + 70)])),
  (a + 68, .inl (E.2.2.2.1, 6, .inl (fun _ => 0))),
  (a + 69, .inl (E.2.2.2.1, 6, .inl (fun _ => 0))),
  (a + 70, .inl (E.2.2.2.1, 6, .inl (fun _ => 0))),
  (a + 71, .inr (2, [.int 0, .int 0, .ref (a + 72), .ref (a + 73), .ref (a + 74)])),
  (a + 72, .inl (E.2.2.2.2.1, 8, .inr (.inl (fun _ => 0)))),
  (a + 73, .inl (E.2.2.2.2.1, 14, .inr (.inl (fun _ => 0)))),
  (a + 74, .inl (E.2.2.2.2.1, 14, .inr (.inl (fun _ => 0)))),
  (a + 75, .inr (3, [.int 2, .ref (a + 76), .ref (a + 77), .ref (a + 78), .ref (a + 79), .ref (a + 93), .ref (a + 106), .ref (a + 107), .int 0])),
  (a + 76, .inl (E.2.2.2.1, 6, .inl (fun _ => 0))),
  (a + 77, .inl (E.2.2.2.1, 6, .inl (fun _ => 0))),
  (a + 78, .inl (E.2.2.2.1, 6, .inl (fun _ => 0))),
  (a + 79, .inl (E.2.2.2.2.2, 13, .inr (.inr (.inr (.inr (fun i => if i < 13 then some (a + 79 + 1 + i) else none)))))),
  (a + 80, .inl (E.2.2.2.1, 64, .inl (fun _ => 0))),
  (a + 81, .inl (E.2.2.2.1, 64, .inl (fun _ => 0))),
  (a + 82, .inl (E.2.2.2.1, 64, .inl (fun _ => 0))),
  (a + 83, .inl (E.2.2.2.1, 64, .inl (fun _ => 0))),
  (a + 84, .inl (E.2.2.2.1, 64, .inl (fun _ => 0))),
  (a + 85, .inl (E.2.2.2.1, 64, .inl (fun _ => 0))),
  (a + 86, .inl (E.2.2.2.1, 64, .inl (fun _ => 0))),
  (a + 87, .inl (E.2.2.2.1, 64, .inl (fun _ => 0))),
  (a + 88, .inl (E.2.2.2.1, 64, .inl (fun _ => 0))),
  (a + 89, .inl (E.2.2.2.1, 64, .inl (fun _ => 0))),
  (a + 90, .inl (E.2.2.2.1, 64, .inl (fun _ => 0))),
  (a + 91, .inl (E.2.2.2.1, 64, .inl (fun _ => 0))),
  (a + 92, .inl (E.2.2.2.1, 64, .inl (fun _ => 0))),
  (a + 93, .inl (E.2.2.2.2.2, 12, .inr (.inr (.inr (.inr (fun i => if i < 12 then some (a + 93 + 1 + i) else none)))))),
  (a + 94, .inl (E.2.2.2.1, 64, .inl (fun _ => 0))),
  (a + 95, .inl (E.2.2.2.1, 64, .inl (fun _ => 0))),
  (a + 96, .inl (E.2.2.2.1, 64, .inl (fun _ => 0))),
  (a + 97, .inl (E.2.2.2.1, 64, .inl (fun _ => 0))),
  (a + 98, .inl (E.2.2.2.1, 64, .inl (fun _ => 0))),
  (a + 99, .inl (E.2.2.2.1, 64, .inl (fun _ => 0))),
  (a + 100, .inl (E.2.2.2.1, 64, .inl (fun _ => 0))),
  (a + 101, .inl (E.2.2.2.1, 64, .inl (fun _ => 0))),
  (a + 102, .inl (E.2.2.2.1, 64, .inl (fun _ => 0))),
  (a + 103, .inl (E.2.2.2.1, 64, .inl (fun _ => 0))),
  (a + 104, .inl (E.2.2.2.1, 64, .inl (fun _ => 0))),
  (a + 105, .inl (E.2.2.2.1, 64, .inl (fun _ => 0))),
  (a + 106, .inl (E.2.2.2.1, 64, .inl (fun _ => 0))),
  (a + 107, .inl (E.2.2.2.1, 6, .inl (fun _ => 0))),
  (a + 108, .inr (0, [.ref (a + 109), .ref (a + 110), .int 0, .int 0])),
  (a + 109, .inl (E.2.2.2.1, 12, .inl (fun _ => 0))),
  (a + 110, .inl (E.2.2.2.1, 12, .inl (upd (z_fill 12 (1000000 : Int32) (fun _ => 0)) 0 (9999 : Int32)))),
  (a + 111, .inr (5, [.long 0, .int 0, .int 0, .ref (a + 112), .ref (a + 113), .ref (a + 114), .ref (a + 115), .ref (a + 116)])),
  (a + 112, .inl (E.2.2.2.1, 14, .inl (fun _ => 0))),
  (a + 113, .inl (E.2.2.2.1, 14, .inl (fun _ => 0))),
  (a + 114, .inl (E.2.2.2.1, 14, .inl (fun _ => 0))),
  (a + 115, .inl (E.2.2.2.1, 14, .inl (fun _ => 0))),
  (a + 116, .inl (E.2.2.2.1, 14, .inl (fun _ => 0))),
  (a + 117, .inr (6, [.ref (a + 118)])),
  (a + 118, .inl (E.2.2.2.1, 28, .inl (fun _ => 0))),
  (a + 119, .inr (1, [.int 0, .int 0, .int 0])),
  (a + 120, .inr (10, [.int 0, .long 0, .long 0, .ref (a + 121)])),
  (a + 121, .inl (E.2.2.1, 40, .inl (fun _ => 0))),
  (a + 122, .inr (7, [.ref (a + 123), .ref (a + 124), .ref (a + 125)])),
  (a + 123, .inl (E.2.2.2.1, 4, .inl (z_fill 4 (-1 : Int32) (fun _ => 0)))),
  (a + 124, .inl (E.2.2.2.1, 4, .inl (fun _ => 0))),
  (a + 125, .inl (E.2.2.2.2.2, 4, .inr (.inr (.inr (.inr (fun i => if i < 4 then some (a + 125 + 1 + i) else none)))))),
  (a + 126, .inl (E.2.2.2.1, 24, .inl (fun _ => 0))),
  (a + 127, .inl (E.2.2.2.1, 24, .inl (fun _ => 0))),
  (a + 128, .inl (E.2.2.2.1, 24, .inl (fun _ => 0))),
  (a + 129, .inl (E.2.2.2.1, 24, .inl (fun _ => 0))),
  (a + 130, .inl (E.2.2.2.1, 64, .inl (fun _ => 0)))]
set_option maxHeartbeats 40000000 in
set_option maxRecDepth 100000 in
theorem z_tt_eq (E : ZE) (a : Nat) : tX11 E a ++ zpart E a = z_tt E a := rfl
theorem z_bc_0 (E : ZE) (a b L : Nat) (xs : Nat → Int32) : (.inr (11, [.ref (a + 1), .ref (a + 56), .int 0, .ref (a + 111), .ref (a + 117), .ref (a + 119), .ref (a + 120), .ref (a + 122)]) : va_E) = z_cell (zeG E a b L xs) z_w0 0 := by rw [ce_0]; try rfl
theorem z_bc_1 (E : ZE) (a b L : Nat) (xs : Nat → Int32) : (.inr (9, [.ref (a + 2), .ref (a + 12), .ref (a + 16), .ref (a + 20), .ref (a + 53)]) : va_E) = z_cell (zeG E a b L xs) z_w0 1 := by rw [ce_1]; try rfl
theorem z_bc_2 (E : ZE) (a b L : Nat) (xs : Nat → Int32) : (.inr (4, [.int 0, .ref (a + 3), .ref (a + 4), .ref (a + 5), .int 0, .int 0, .ref (a + 6), .ref (a + 7), .ref (a + 8), .ref (a + 9), .ref (a + 10), .ref (a + 11)]) : va_E) = z_cell (zeG E a b L xs) z_w0 2 := by rw [ce_2]; try rfl
theorem z_bc_3 (E : ZE) (a b L : Nat) (xs : Nat → Int32) : (.inl (E.2.2.2.1, 6, .inl (fun _ => 0)) : va_E) = z_cell (zeG E a b L xs) z_w0 3 := by
  rw [ce_3]
  show (_ : va_E) = z_aI (zeG E a b L xs) 6 (z_w0i 3)
  rw [z_w0_3]
theorem z_bc_4 (E : ZE) (a b L : Nat) (xs : Nat → Int32) : (.inl (E.2.2.2.1, 6, .inl (fun _ => 0)) : va_E) = z_cell (zeG E a b L xs) z_w0 4 := by
  rw [ce_4]
  show (_ : va_E) = z_aI (zeG E a b L xs) 6 (z_w0i 4)
  rw [z_w0_4]
theorem z_bc_5 (E : ZE) (a b L : Nat) (xs : Nat → Int32) : (.inl (E.2.2.2.1, 6, .inl (fun _ => 0)) : va_E) = z_cell (zeG E a b L xs) z_w0 5 := by
  rw [ce_5]
  show (_ : va_E) = z_aI (zeG E a b L xs) 6 (z_w0i 5)
  rw [z_w0_5]
theorem z_bc_6 (E : ZE) (a b L : Nat) (xs : Nat → Int32) : (.inl (E.2.2.2.1, 14, .inl (fun _ => 0)) : va_E) = z_cell (zeG E a b L xs) z_w0 6 := by
  rw [ce_6]
  show (_ : va_E) = z_aI (zeG E a b L xs) 14 (z_w0i 6)
  rw [z_w0_6]
theorem z_bc_7 (E : ZE) (a b L : Nat) (xs : Nat → Int32) : (.inl (E.2.2.2.1, 14, .inl (fun _ => 0)) : va_E) = z_cell (zeG E a b L xs) z_w0 7 := by
  rw [ce_7]
  show (_ : va_E) = z_aI (zeG E a b L xs) 14 (z_w0i 7)
  rw [z_w0_7]
theorem z_bc_8 (E : ZE) (a b L : Nat) (xs : Nat → Int32) : (.inl (E.2.2.2.1, 14, .inl (fun _ => 0)) : va_E) = z_cell (zeG E a b L xs) z_w0 8 := by
  rw [ce_8]
  show (_ : va_E) = z_aI (zeG E a b L xs) 14 (z_w0i 8)
  rw [z_w0_8]
theorem z_bc_9 (E : ZE) (a b L : Nat) (xs : Nat → Int32) : (.inl (E.2.2.2.1, 14, .inl (fun _ => 0)) : va_E) = z_cell (zeG E a b L xs) z_w0 9 := by
  rw [ce_9]
  show (_ : va_E) = z_aI (zeG E a b L xs) 14 (z_w0i 9)
  rw [z_w0_9]
theorem z_bc_10 (E : ZE) (a b L : Nat) (xs : Nat → Int32) : (.inl (E.2.2.2.1, 14, .inl (fun _ => 0)) : va_E) = z_cell (zeG E a b L xs) z_w0 10 := by
  rw [ce_10]
  show (_ : va_E) = z_aI (zeG E a b L xs) 14 (z_w0i 10)
  rw [z_w0_10]
theorem z_bc_11 (E : ZE) (a b L : Nat) (xs : Nat → Int32) : (.inl (E.2.2.2.1, 14, .inl (fun _ => 0)) : va_E) = z_cell (zeG E a b L xs) z_w0 11 := by
  rw [ce_11]
  show (_ : va_E) = z_aI (zeG E a b L xs) 14 (z_w0i 11)
  rw [z_w0_11]
theorem z_bc_12 (E : ZE) (a b L : Nat) (xs : Nat → Int32) : (.inr (8, [.int 0, .ref (a + 13), .ref (a + 14), .ref (a + 15)]) : va_E) = z_cell (zeG E a b L xs) z_w0 12 := by rw [ce_12]; try rfl
theorem z_bc_13 (E : ZE) (a b L : Nat) (xs : Nat → Int32) : (.inl (E.2.2.2.1, 6, .inl (fun _ => 0)) : va_E) = z_cell (zeG E a b L xs) z_w0 13 := by
  rw [ce_13]
  show (_ : va_E) = z_aI (zeG E a b L xs) 6 (z_w0i 13)
  rw [z_w0_13]
theorem z_bc_14 (E : ZE) (a b L : Nat) (xs : Nat → Int32) : (.inl (E.2.2.2.1, 6, .inl (fun _ => 0)) : va_E) = z_cell (zeG E a b L xs) z_w0 14 := by
  rw [ce_14]
  show (_ : va_E) = z_aI (zeG E a b L xs) 6 (z_w0i 14)
  rw [z_w0_14]
theorem z_bc_15 (E : ZE) (a b L : Nat) (xs : Nat → Int32) : (.inl (E.2.2.2.1, 6, .inl (fun _ => 0)) : va_E) = z_cell (zeG E a b L xs) z_w0 15 := by
  rw [ce_15]
  show (_ : va_E) = z_aI (zeG E a b L xs) 6 (z_w0i 15)
  rw [z_w0_15]
theorem z_bc_16 (E : ZE) (a b L : Nat) (xs : Nat → Int32) : (.inr (2, [.int 0, .int 0, .ref (a + 17), .ref (a + 18), .ref (a + 19)]) : va_E) = z_cell (zeG E a b L xs) z_w0 16 := by rw [ce_16]; try rfl
theorem z_bc_17 (E : ZE) (a b L : Nat) (xs : Nat → Int32) : (.inl (E.2.2.2.2.1, 8, .inr (.inl (fun _ => 0))) : va_E) = z_cell (zeG E a b L xs) z_w0 17 := rfl
theorem z_bc_18 (E : ZE) (a b L : Nat) (xs : Nat → Int32) : (.inl (E.2.2.2.2.1, 14, .inr (.inl (fun _ => 0))) : va_E) = z_cell (zeG E a b L xs) z_w0 18 := rfl
theorem z_bc_19 (E : ZE) (a b L : Nat) (xs : Nat → Int32) : (.inl (E.2.2.2.2.1, 14, .inr (.inl (fun _ => 0))) : va_E) = z_cell (zeG E a b L xs) z_w0 19 := rfl
theorem z_bc_20 (E : ZE) (a b L : Nat) (xs : Nat → Int32) : (.inr (3, [.int 2, .ref (a + 21), .ref (a + 22), .ref (a + 23), .ref (a + 24), .ref (a + 38), .ref (a + 51), .ref (a + 52), .int 0]) : va_E) = z_cell (zeG E a b L xs) z_w0 20 := by rw [ce_20]; try rfl
theorem z_bc_21 (E : ZE) (a b L : Nat) (xs : Nat → Int32) : (.inl (E.2.2.2.1, 6, .inl (fun _ => 0)) : va_E) = z_cell (zeG E a b L xs) z_w0 21 := by
  rw [ce_21]
  show (_ : va_E) = z_aI (zeG E a b L xs) 6 (z_w0i 21)
  rw [z_w0_21]
theorem z_bc_22 (E : ZE) (a b L : Nat) (xs : Nat → Int32) : (.inl (E.2.2.2.1, 6, .inl (fun _ => 0)) : va_E) = z_cell (zeG E a b L xs) z_w0 22 := by
  rw [ce_22]
  show (_ : va_E) = z_aI (zeG E a b L xs) 6 (z_w0i 22)
  rw [z_w0_22]
theorem z_bc_23 (E : ZE) (a b L : Nat) (xs : Nat → Int32) : (.inl (E.2.2.2.1, 6, .inl (fun _ => 0)) : va_E) = z_cell (zeG E a b L xs) z_w0 23 := by
  rw [ce_23]
  show (_ : va_E) = z_aI (zeG E a b L xs) 6 (z_w0i 23)
  rw [z_w0_23]
theorem z_bc_24 (E : ZE) (a b L : Nat) (xs : Nat → Int32) : (.inl (E.2.2.2.2.2, 13, .inr (.inr (.inr (.inr (fun i => if i < 13 then some (a + 24 + 1 + i) else none))))) : va_E) = z_cell (zeG E a b L xs) z_w0 24 := by
  rw [ce_24]
  have e : (fun i => if i < 13 then some (a + 24 + 1 + i) else none) = (fun j => if j < 13 then some ((zeG E a b L xs).1 (25 + j)) else none) := by
    funext i
    have e2 : a + 24 + 1 + i = (zeG E a b L xs).1 (25 + i) := by show a + 24 + 1 + i = a + (25 + i); omega
    rw [e2]
  rw [e]
theorem z_bc_25 (E : ZE) (a b L : Nat) (xs : Nat → Int32) : (.inl (E.2.2.2.1, 64, .inl (fun _ => 0)) : va_E) = z_cell (zeG E a b L xs) z_w0 25 := by
  rw [ce_25]
  show (_ : va_E) = z_aI (zeG E a b L xs) 64 (z_w0i 25)
  rw [z_w0_25]
theorem z_bc_26 (E : ZE) (a b L : Nat) (xs : Nat → Int32) : (.inl (E.2.2.2.1, 64, .inl (fun _ => 0)) : va_E) = z_cell (zeG E a b L xs) z_w0 26 := by
  rw [ce_26]
  show (_ : va_E) = z_aI (zeG E a b L xs) 64 (z_w0i 26)
  rw [z_w0_26]
theorem z_bc_27 (E : ZE) (a b L : Nat) (xs : Nat → Int32) : (.inl (E.2.2.2.1, 64, .inl (fun _ => 0)) : va_E) = z_cell (zeG E a b L xs) z_w0 27 := by
  rw [ce_27]
  show (_ : va_E) = z_aI (zeG E a b L xs) 64 (z_w0i 27)
  rw [z_w0_27]
theorem z_bc_28 (E : ZE) (a b L : Nat) (xs : Nat → Int32) : (.inl (E.2.2.2.1, 64, .inl (fun _ => 0)) : va_E) = z_cell (zeG E a b L xs) z_w0 28 := by
  rw [ce_28]
  show (_ : va_E) = z_aI (zeG E a b L xs) 64 (z_w0i 28)
  rw [z_w0_28]
theorem z_bc_29 (E : ZE) (a b L : Nat) (xs : Nat → Int32) : (.inl (E.2.2.2.1, 64, .inl (fun _ => 0)) : va_E) = z_cell (zeG E a b L xs) z_w0 29 := by
  rw [ce_29]
  show (_ : va_E) = z_aI (zeG E a b L xs) 64 (z_w0i 29)
  rw [z_w0_29]
theorem z_bc_30 (E : ZE) (a b L : Nat) (xs : Nat → Int32) : (.inl (E.2.2.2.1, 64, .inl (fun _ => 0)) : va_E) = z_cell (zeG E a b L xs) z_w0 30 := by
  rw [ce_30]
  show (_ : va_E) = z_aI (zeG E a b L xs) 64 (z_w0i 30)
  rw [z_w0_30]
theorem z_bc_31 (E : ZE) (a b L : Nat) (xs : Nat → Int32) : (.inl (E.2.2.2.1, 64, .inl (fun _ => 0)) : va_E) = z_cell (zeG E a b L xs) z_w0 31 := by
  rw [ce_31]
  show (_ : va_E) = z_aI (zeG E a b L xs) 64 (z_w0i 31)
  rw [z_w0_31]
theorem z_bc_32 (E : ZE) (a b L : Nat) (xs : Nat → Int32) : (.inl (E.2.2.2.1, 64, .inl (fun _ => 0)) : va_E) = z_cell (zeG E a b L xs) z_w0 32 := by
  rw [ce_32]
  show (_ : va_E) = z_aI (zeG E a b L xs) 64 (z_w0i 32)
  rw [z_w0_32]
theorem z_bc_33 (E : ZE) (a b L : Nat) (xs : Nat → Int32) : (.inl (E.2.2.2.1, 64, .inl (fun _ => 0)) : va_E) = z_cell (zeG E a b L xs) z_w0 33 := by
  rw [ce_33]
  show (_ : va_E) = z_aI (zeG E a b L xs) 64 (z_w0i 33)
  rw [z_w0_33]
theorem z_bc_34 (E : ZE) (a b L : Nat) (xs : Nat → Int32) : (.inl (E.2.2.2.1, 64, .inl (fun _ => 0)) : va_E) = z_cell (zeG E a b L xs) z_w0 34 := by
  rw [ce_34]
  show (_ : va_E) = z_aI (zeG E a b L xs) 64 (z_w0i 34)
  rw [z_w0_34]
theorem z_bc_35 (E : ZE) (a b L : Nat) (xs : Nat → Int32) : (.inl (E.2.2.2.1, 64, .inl (fun _ => 0)) : va_E) = z_cell (zeG E a b L xs) z_w0 35 := by
  rw [ce_35]
  show (_ : va_E) = z_aI (zeG E a b L xs) 64 (z_w0i 35)
  rw [z_w0_35]
theorem z_bc_36 (E : ZE) (a b L : Nat) (xs : Nat → Int32) : (.inl (E.2.2.2.1, 64, .inl (fun _ => 0)) : va_E) = z_cell (zeG E a b L xs) z_w0 36 := by
  rw [ce_36]
  show (_ : va_E) = z_aI (zeG E a b L xs) 64 (z_w0i 36)
  rw [z_w0_36]
theorem z_bc_37 (E : ZE) (a b L : Nat) (xs : Nat → Int32) : (.inl (E.2.2.2.1, 64, .inl (fun _ => 0)) : va_E) = z_cell (zeG E a b L xs) z_w0 37 := by
  rw [ce_37]
  show (_ : va_E) = z_aI (zeG E a b L xs) 64 (z_w0i 37)
  rw [z_w0_37]
theorem z_bc_38 (E : ZE) (a b L : Nat) (xs : Nat → Int32) : (.inl (E.2.2.2.2.2, 12, .inr (.inr (.inr (.inr (fun i => if i < 12 then some (a + 38 + 1 + i) else none))))) : va_E) = z_cell (zeG E a b L xs) z_w0 38 := by
  rw [ce_38]
  have e : (fun i => if i < 12 then some (a + 38 + 1 + i) else none) = (fun j => if j < 12 then some ((zeG E a b L xs).1 (39 + j)) else none) := by
    funext i
    have e2 : a + 38 + 1 + i = (zeG E a b L xs).1 (39 + i) := by show a + 38 + 1 + i = a + (39 + i); omega
    rw [e2]
  rw [e]
theorem z_bc_39 (E : ZE) (a b L : Nat) (xs : Nat → Int32) : (.inl (E.2.2.2.1, 64, .inl (fun _ => 0)) : va_E) = z_cell (zeG E a b L xs) z_w0 39 := by
  rw [ce_39]
  show (_ : va_E) = z_aI (zeG E a b L xs) 64 (z_w0i 39)
  rw [z_w0_39]
theorem z_bc_40 (E : ZE) (a b L : Nat) (xs : Nat → Int32) : (.inl (E.2.2.2.1, 64, .inl (fun _ => 0)) : va_E) = z_cell (zeG E a b L xs) z_w0 40 := by
  rw [ce_40]
  show (_ : va_E) = z_aI (zeG E a b L xs) 64 (z_w0i 40)
  rw [z_w0_40]
theorem z_bc_41 (E : ZE) (a b L : Nat) (xs : Nat → Int32) : (.inl (E.2.2.2.1, 64, .inl (fun _ => 0)) : va_E) = z_cell (zeG E a b L xs) z_w0 41 := by
  rw [ce_41]
  show (_ : va_E) = z_aI (zeG E a b L xs) 64 (z_w0i 41)
  rw [z_w0_41]
theorem z_bc_42 (E : ZE) (a b L : Nat) (xs : Nat → Int32) : (.inl (E.2.2.2.1, 64, .inl (fun _ => 0)) : va_E) = z_cell (zeG E a b L xs) z_w0 42 := by
  rw [ce_42]
  show (_ : va_E) = z_aI (zeG E a b L xs) 64 (z_w0i 42)
  rw [z_w0_42]
theorem z_bc_43 (E : ZE) (a b L : Nat) (xs : Nat → Int32) : (.inl (E.2.2.2.1, 64, .inl (fun _ => 0)) : va_E) = z_cell (zeG E a b L xs) z_w0 43 := by
  rw [ce_43]
  show (_ : va_E) = z_aI (zeG E a b L xs) 64 (z_w0i 43)
  rw [z_w0_43]
theorem z_bc_44 (E : ZE) (a b L : Nat) (xs : Nat → Int32) : (.inl (E.2.2.2.1, 64, .inl (fun _ => 0)) : va_E) = z_cell (zeG E a b L xs) z_w0 44 := by
  rw [ce_44]
  show (_ : va_E) = z_aI (zeG E a b L xs) 64 (z_w0i 44)
  rw [z_w0_44]
theorem z_bc_45 (E : ZE) (a b L : Nat) (xs : Nat → Int32) : (.inl (E.2.2.2.1, 64, .inl (fun _ => 0)) : va_E) = z_cell (zeG E a b L xs) z_w0 45 := by
  rw [ce_45]
  show (_ : va_E) = z_aI (zeG E a b L xs) 64 (z_w0i 45)
  rw [z_w0_45]
theorem z_bc_46 (E : ZE) (a b L : Nat) (xs : Nat → Int32) : (.inl (E.2.2.2.1, 64, .inl (fun _ => 0)) : va_E) = z_cell (zeG E a b L xs) z_w0 46 := by
  rw [ce_46]
  show (_ : va_E) = z_aI (zeG E a b L xs) 64 (z_w0i 46)
  rw [z_w0_46]
theorem z_bc_47 (E : ZE) (a b L : Nat) (xs : Nat → Int32) : (.inl (E.2.2.2.1, 64, .inl (fun _ => 0)) : va_E) = z_cell (zeG E a b L xs) z_w0 47 := by
  rw [ce_47]
  show (_ : va_E) = z_aI (zeG E a b L xs) 64 (z_w0i 47)
  rw [z_w0_47]
theorem z_bc_48 (E : ZE) (a b L : Nat) (xs : Nat → Int32) : (.inl (E.2.2.2.1, 64, .inl (fun _ => 0)) : va_E) = z_cell (zeG E a b L xs) z_w0 48 := by
  rw [ce_48]
  show (_ : va_E) = z_aI (zeG E a b L xs) 64 (z_w0i 48)
  rw [z_w0_48]
theorem z_bc_49 (E : ZE) (a b L : Nat) (xs : Nat → Int32) : (.inl (E.2.2.2.1, 64, .inl (fun _ => 0)) : va_E) = z_cell (zeG E a b L xs) z_w0 49 := by
  rw [ce_49]
  show (_ : va_E) = z_aI (zeG E a b L xs) 64 (z_w0i 49)
  rw [z_w0_49]
theorem z_bc_50 (E : ZE) (a b L : Nat) (xs : Nat → Int32) : (.inl (E.2.2.2.1, 64, .inl (fun _ => 0)) : va_E) = z_cell (zeG E a b L xs) z_w0 50 := by
  rw [ce_50]
  show (_ : va_E) = z_aI (zeG E a b L xs) 64 (z_w0i 50)
  rw [z_w0_50]
theorem z_bc_51 (E : ZE) (a b L : Nat) (xs : Nat → Int32) : (.inl (E.2.2.2.1, 64, .inl (fun _ => 0)) : va_E) = z_cell (zeG E a b L xs) z_w0 51 := by
  rw [ce_51]
  show (_ : va_E) = z_aI (zeG E a b L xs) 64 (z_w0i 51)
  rw [z_w0_51]
theorem z_bc_52 (E : ZE) (a b L : Nat) (xs : Nat → Int32) : (.inl (E.2.2.2.1, 6, .inl (fun _ => 0)) : va_E) = z_cell (zeG E a b L xs) z_w0 52 := by
  rw [ce_52]
  show (_ : va_E) = z_aI (zeG E a b L xs) 6 (z_w0i 52)
  rw [z_w0_52]
theorem z_bc_53 (E : ZE) (a b L : Nat) (xs : Nat → Int32) : (.inr (0, [.ref (a + 54), .ref (a + 55), .int 0, .int 0]) : va_E) = z_cell (zeG E a b L xs) z_w0 53 := by rw [ce_53]; try rfl
theorem z_bc_54 (E : ZE) (a b L : Nat) (xs : Nat → Int32) : (.inl (E.2.2.2.1, 12, .inl (fun _ => 0)) : va_E) = z_cell (zeG E a b L xs) z_w0 54 := by
  rw [ce_54]
  show (_ : va_E) = z_aI (zeG E a b L xs) 12 (z_w0i 54)
  rw [z_w0_54]
theorem z_bc_55 (E : ZE) (a b L : Nat) (xs : Nat → Int32) : (.inl (E.2.2.2.1, 12, .inl (upd (z_fill 12 (1000000 : Int32) (fun _ => 0)) 0 (9999 : Int32))) : va_E) = z_cell (zeG E a b L xs) z_w0 55 := by
  rw [ce_55]
  show (_ : va_E) = z_aI (zeG E a b L xs) 12 (z_w0i 55)
  rw [z_w0_55]
theorem z_bc_56 (E : ZE) (a b L : Nat) (xs : Nat → Int32) : (.inr (9, [.ref (a + 57), .ref (a + 67), .ref (a + 71), .ref (a + 75), .ref (a + 108)]) : va_E) = z_cell (zeG E a b L xs) z_w0 56 := by rw [ce_56]; try rfl
theorem z_bc_57 (E : ZE) (a b L : Nat) (xs : Nat → Int32) : (.inr (4, [.int 0, .ref (a + 58), .ref (a + 59), .ref (a + 60), .int 0, .int 0, .ref (a + 61), .ref (a + 62), .ref (a + 63), .ref (a + 64), .ref (a + 65), .ref (a + 66)]) : va_E) = z_cell (zeG E a b L xs) z_w0 57 := by rw [ce_57]; try rfl
theorem z_bc_58 (E : ZE) (a b L : Nat) (xs : Nat → Int32) : (.inl (E.2.2.2.1, 6, .inl (fun _ => 0)) : va_E) = z_cell (zeG E a b L xs) z_w0 58 := by
  rw [ce_58]
  show (_ : va_E) = z_aI (zeG E a b L xs) 6 (z_w0i 58)
  rw [z_w0_58]
theorem z_bc_59 (E : ZE) (a b L : Nat) (xs : Nat → Int32) : (.inl (E.2.2.2.1, 6, .inl (fun _ => 0)) : va_E) = z_cell (zeG E a b L xs) z_w0 59 := by
  rw [ce_59]
  show (_ : va_E) = z_aI (zeG E a b L xs) 6 (z_w0i 59)
  rw [z_w0_59]
theorem z_bc_60 (E : ZE) (a b L : Nat) (xs : Nat → Int32) : (.inl (E.2.2.2.1, 6, .inl (fun _ => 0)) : va_E) = z_cell (zeG E a b L xs) z_w0 60 := by
  rw [ce_60]
  show (_ : va_E) = z_aI (zeG E a b L xs) 6 (z_w0i 60)
  rw [z_w0_60]
theorem z_bc_61 (E : ZE) (a b L : Nat) (xs : Nat → Int32) : (.inl (E.2.2.2.1, 14, .inl (fun _ => 0)) : va_E) = z_cell (zeG E a b L xs) z_w0 61 := by
  rw [ce_61]
  show (_ : va_E) = z_aI (zeG E a b L xs) 14 (z_w0i 61)
  rw [z_w0_61]
theorem z_bc_62 (E : ZE) (a b L : Nat) (xs : Nat → Int32) : (.inl (E.2.2.2.1, 14, .inl (fun _ => 0)) : va_E) = z_cell (zeG E a b L xs) z_w0 62 := by
  rw [ce_62]
  show (_ : va_E) = z_aI (zeG E a b L xs) 14 (z_w0i 62)
  rw [z_w0_62]
theorem z_bc_63 (E : ZE) (a b L : Nat) (xs : Nat → Int32) : (.inl (E.2.2.2.1, 14, .inl (fun _ => 0)) : va_E) = z_cell (zeG E a b L xs) z_w0 63 := by
  rw [ce_63]
  show (_ : va_E) = z_aI (zeG E a b L xs) 14 (z_w0i 63)
  rw [z_w0_63]
theorem z_bc_64 (E : ZE) (a b L : Nat) (xs : Nat → Int32) : (.inl (E.2.2.2.1, 14, .inl (fun _ => 0)) : va_E) = z_cell (zeG E a b L xs) z_w0 64 := by
  rw [ce_64]
  show (_ : va_E) = z_aI (zeG E a b L xs) 14 (z_w0i 64)
  rw [z_w0_64]
theorem z_bc_65 (E : ZE) (a b L : Nat) (xs : Nat → Int32) : (.inl (E.2.2.2.1, 14, .inl (fun _ => 0)) : va_E) = z_cell (zeG E a b L xs) z_w0 65 := by
  rw [ce_65]
  show (_ : va_E) = z_aI (zeG E a b L xs) 14 (z_w0i 65)
  rw [z_w0_65]
theorem z_bc_66 (E : ZE) (a b L : Nat) (xs : Nat → Int32) : (.inl (E.2.2.2.1, 14, .inl (fun _ => 0)) : va_E) = z_cell (zeG E a b L xs) z_w0 66 := by
  rw [ce_66]
  show (_ : va_E) = z_aI (zeG E a b L xs) 14 (z_w0i 66)
  rw [z_w0_66]
theorem z_bc_67 (E : ZE) (a b L : Nat) (xs : Nat → Int32) : (.inr (8, [.int 0, .ref (a + 68), .ref (a + 69), .ref (a + 70)]) : va_E) = z_cell (zeG E a b L xs) z_w0 67 := by rw [ce_67]; try rfl
theorem z_bc_68 (E : ZE) (a b L : Nat) (xs : Nat → Int32) : (.inl (E.2.2.2.1, 6, .inl (fun _ => 0)) : va_E) = z_cell (zeG E a b L xs) z_w0 68 := by
  rw [ce_68]
  show (_ : va_E) = z_aI (zeG E a b L xs) 6 (z_w0i 68)
  rw [z_w0_68]
theorem z_bc_69 (E : ZE) (a b L : Nat) (xs : Nat → Int32) : (.inl (E.2.2.2.1, 6, .inl (fun _ => 0)) : va_E) = z_cell (zeG E a b L xs) z_w0 69 := by
  rw [ce_69]
  show (_ : va_E) = z_aI (zeG E a b L xs) 6 (z_w0i 69)
  rw [z_w0_69]
theorem z_bc_70 (E : ZE) (a b L : Nat) (xs : Nat → Int32) : (.inl (E.2.2.2.1, 6, .inl (fun _ => 0)) : va_E) = z_cell (zeG E a b L xs) z_w0 70 := by
  rw [ce_70]
  show (_ : va_E) = z_aI (zeG E a b L xs) 6 (z_w0i 70)
  rw [z_w0_70]
theorem z_bc_71 (E : ZE) (a b L : Nat) (xs : Nat → Int32) : (.inr (2, [.int 0, .int 0, .ref (a + 72), .ref (a + 73), .ref (a + 74)]) : va_E) = z_cell (zeG E a b L xs) z_w0 71 := by rw [ce_71]; try rfl
theorem z_bc_72 (E : ZE) (a b L : Nat) (xs : Nat → Int32) : (.inl (E.2.2.2.2.1, 8, .inr (.inl (fun _ => 0))) : va_E) = z_cell (zeG E a b L xs) z_w0 72 := rfl
theorem z_bc_73 (E : ZE) (a b L : Nat) (xs : Nat → Int32) : (.inl (E.2.2.2.2.1, 14, .inr (.inl (fun _ => 0))) : va_E) = z_cell (zeG E a b L xs) z_w0 73 := rfl
theorem z_bc_74 (E : ZE) (a b L : Nat) (xs : Nat → Int32) : (.inl (E.2.2.2.2.1, 14, .inr (.inl (fun _ => 0))) : va_E) = z_cell (zeG E a b L xs) z_w0 74 := rfl
theorem z_bc_75 (E : ZE) (a b L : Nat) (xs : Nat → Int32) : (.inr (3, [.int 2, .ref (a + 76), .ref (a + 77), .ref (a + 78), .ref (a + 79), .ref (a + 93), .ref (a + 106), .ref (a + 107), .int 0]) : va_E) = z_cell (zeG E a b L xs) z_w0 75 := by rw [ce_75]; try rfl
theorem z_bc_76 (E : ZE) (a b L : Nat) (xs : Nat → Int32) : (.inl (E.2.2.2.1, 6, .inl (fun _ => 0)) : va_E) = z_cell (zeG E a b L xs) z_w0 76 := by
  rw [ce_76]
  show (_ : va_E) = z_aI (zeG E a b L xs) 6 (z_w0i 76)
  rw [z_w0_76]
theorem z_bc_77 (E : ZE) (a b L : Nat) (xs : Nat → Int32) : (.inl (E.2.2.2.1, 6, .inl (fun _ => 0)) : va_E) = z_cell (zeG E a b L xs) z_w0 77 := by
  rw [ce_77]
  show (_ : va_E) = z_aI (zeG E a b L xs) 6 (z_w0i 77)
  rw [z_w0_77]
theorem z_bc_78 (E : ZE) (a b L : Nat) (xs : Nat → Int32) : (.inl (E.2.2.2.1, 6, .inl (fun _ => 0)) : va_E) = z_cell (zeG E a b L xs) z_w0 78 := by
  rw [ce_78]
  show (_ : va_E) = z_aI (zeG E a b L xs) 6 (z_w0i 78)
  rw [z_w0_78]
theorem z_bc_79 (E : ZE) (a b L : Nat) (xs : Nat → Int32) : (.inl (E.2.2.2.2.2, 13, .inr (.inr (.inr (.inr (fun i => if i < 13 then some (a + 79 + 1 + i) else none))))) : va_E) = z_cell (zeG E a b L xs) z_w0 79 := by
  rw [ce_79]
  have e : (fun i => if i < 13 then some (a + 79 + 1 + i) else none) = (fun j => if j < 13 then some ((zeG E a b L xs).1 (80 + j)) else none) := by
    funext i
    have e2 : a + 79 + 1 + i = (zeG E a b L xs).1 (80 + i) := by show a + 79 + 1 + i = a + (80 + i); omega
    rw [e2]
  rw [e]
theorem z_bc_80 (E : ZE) (a b L : Nat) (xs : Nat → Int32) : (.inl (E.2.2.2.1, 64, .inl (fun _ => 0)) : va_E) = z_cell (zeG E a b L xs) z_w0 80 := by
  rw [ce_80]
  show (_ : va_E) = z_aI (zeG E a b L xs) 64 (z_w0i 80)
  rw [z_w0_80]
theorem z_bc_81 (E : ZE) (a b L : Nat) (xs : Nat → Int32) : (.inl (E.2.2.2.1, 64, .inl (fun _ => 0)) : va_E) = z_cell (zeG E a b L xs) z_w0 81 := by
  rw [ce_81]
  show (_ : va_E) = z_aI (zeG E a b L xs) 64 (z_w0i 81)
  rw [z_w0_81]
theorem z_bc_82 (E : ZE) (a b L : Nat) (xs : Nat → Int32) : (.inl (E.2.2.2.1, 64, .inl (fun _ => 0)) : va_E) = z_cell (zeG E a b L xs) z_w0 82 := by
  rw [ce_82]
  show (_ : va_E) = z_aI (zeG E a b L xs) 64 (z_w0i 82)
  rw [z_w0_82]
theorem z_bc_83 (E : ZE) (a b L : Nat) (xs : Nat → Int32) : (.inl (E.2.2.2.1, 64, .inl (fun _ => 0)) : va_E) = z_cell (zeG E a b L xs) z_w0 83 := by
  rw [ce_83]
  show (_ : va_E) = z_aI (zeG E a b L xs) 64 (z_w0i 83)
  rw [z_w0_83]
theorem z_bc_84 (E : ZE) (a b L : Nat) (xs : Nat → Int32) : (.inl (E.2.2.2.1, 64, .inl (fun _ => 0)) : va_E) = z_cell (zeG E a b L xs) z_w0 84 := by
  rw [ce_84]
  show (_ : va_E) = z_aI (zeG E a b L xs) 64 (z_w0i 84)
  rw [z_w0_84]
theorem z_bc_85 (E : ZE) (a b L : Nat) (xs : Nat → Int32) : (.inl (E.2.2.2.1, 64, .inl (fun _ => 0)) : va_E) = z_cell (zeG E a b L xs) z_w0 85 := by
  rw [ce_85]
  show (_ : va_E) = z_aI (zeG E a b L xs) 64 (z_w0i 85)
  rw [z_w0_85]
theorem z_bc_86 (E : ZE) (a b L : Nat) (xs : Nat → Int32) : (.inl (E.2.2.2.1, 64, .inl (fun _ => 0)) : va_E) = z_cell (zeG E a b L xs) z_w0 86 := by
  rw [ce_86]
  show (_ : va_E) = z_aI (zeG E a b L xs) 64 (z_w0i 86)
  rw [z_w0_86]
theorem z_bc_87 (E : ZE) (a b L : Nat) (xs : Nat → Int32) : (.inl (E.2.2.2.1, 64, .inl (fun _ => 0)) : va_E) = z_cell (zeG E a b L xs) z_w0 87 := by
  rw [ce_87]
  show (_ : va_E) = z_aI (zeG E a b L xs) 64 (z_w0i 87)
  rw [z_w0_87]
theorem z_bc_88 (E : ZE) (a b L : Nat) (xs : Nat → Int32) : (.inl (E.2.2.2.1, 64, .inl (fun _ => 0)) : va_E) = z_cell (zeG E a b L xs) z_w0 88 := by
  rw [ce_88]
  show (_ : va_E) = z_aI (zeG E a b L xs) 64 (z_w0i 88)
  rw [z_w0_88]
theorem z_bc_89 (E : ZE) (a b L : Nat) (xs : Nat → Int32) : (.inl (E.2.2.2.1, 64, .inl (fun _ => 0)) : va_E) = z_cell (zeG E a b L xs) z_w0 89 := by
  rw [ce_89]
  show (_ : va_E) = z_aI (zeG E a b L xs) 64 (z_w0i 89)
  rw [z_w0_89]
theorem z_bc_90 (E : ZE) (a b L : Nat) (xs : Nat → Int32) : (.inl (E.2.2.2.1, 64, .inl (fun _ => 0)) : va_E) = z_cell (zeG E a b L xs) z_w0 90 := by
  rw [ce_90]
  show (_ : va_E) = z_aI (zeG E a b L xs) 64 (z_w0i 90)
  rw [z_w0_90]
theorem z_bc_91 (E : ZE) (a b L : Nat) (xs : Nat → Int32) : (.inl (E.2.2.2.1, 64, .inl (fun _ => 0)) : va_E) = z_cell (zeG E a b L xs) z_w0 91 := by
  rw [ce_91]
  show (_ : va_E) = z_aI (zeG E a b L xs) 64 (z_w0i 91)
  rw [z_w0_91]
theorem z_bc_92 (E : ZE) (a b L : Nat) (xs : Nat → Int32) : (.inl (E.2.2.2.1, 64, .inl (fun _ => 0)) : va_E) = z_cell (zeG E a b L xs) z_w0 92 := by
  rw [ce_92]
  show (_ : va_E) = z_aI (zeG E a b L xs) 64 (z_w0i 92)
  rw [z_w0_92]
theorem z_bc_93 (E : ZE) (a b L : Nat) (xs : Nat → Int32) : (.inl (E.2.2.2.2.2, 12, .inr (.inr (.inr (.inr (fun i => if i < 12 then some (a + 93 + 1 + i) else none))))) : va_E) = z_cell (zeG E a b L xs) z_w0 93 := by
  rw [ce_93]
  have e : (fun i => if i < 12 then some (a + 93 + 1 + i) else none) = (fun j => if j < 12 then some ((zeG E a b L xs).1 (94 + j)) else none) := by
    funext i
    have e2 : a + 93 + 1 + i = (zeG E a b L xs).1 (94 + i) := by show a + 93 + 1 + i = a + (94 + i); omega
    rw [e2]
  rw [e]
theorem z_bc_94 (E : ZE) (a b L : Nat) (xs : Nat → Int32) : (.inl (E.2.2.2.1, 64, .inl (fun _ => 0)) : va_E) = z_cell (zeG E a b L xs) z_w0 94 := by
  rw [ce_94]
  show (_ : va_E) = z_aI (zeG E a b L xs) 64 (z_w0i 94)
  rw [z_w0_94]
theorem z_bc_95 (E : ZE) (a b L : Nat) (xs : Nat → Int32) : (.inl (E.2.2.2.1, 64, .inl (fun _ => 0)) : va_E) = z_cell (zeG E a b L xs) z_w0 95 := by
  rw [ce_95]
  show (_ : va_E) = z_aI (zeG E a b L xs) 64 (z_w0i 95)
  rw [z_w0_95]
theorem z_bc_96 (E : ZE) (a b L : Nat) (xs : Nat → Int32) : (.inl (E.2.2.2.1, 64, .inl (fun _ => 0)) : va_E) = z_cell (zeG E a b L xs) z_w0 96 := by
  rw [ce_96]
  show (_ : va_E) = z_aI (zeG E a b L xs) 64 (z_w0i 96)
  rw [z_w0_96]
theorem z_bc_97 (E : ZE) (a b L : Nat) (xs : Nat → Int32) : (.inl (E.2.2.2.1, 64, .inl (fun _ => 0)) : va_E) = z_cell (zeG E a b L xs) z_w0 97 := by
  rw [ce_97]
  show (_ : va_E) = z_aI (zeG E a b L xs) 64 (z_w0i 97)
  rw [z_w0_97]
theorem z_bc_98 (E : ZE) (a b L : Nat) (xs : Nat → Int32) : (.inl (E.2.2.2.1, 64, .inl (fun _ => 0)) : va_E) = z_cell (zeG E a b L xs) z_w0 98 := by
  rw [ce_98]
  show (_ : va_E) = z_aI (zeG E a b L xs) 64 (z_w0i 98)
  rw [z_w0_98]
theorem z_bc_99 (E : ZE) (a b L : Nat) (xs : Nat → Int32) : (.inl (E.2.2.2.1, 64, .inl (fun _ => 0)) : va_E) = z_cell (zeG E a b L xs) z_w0 99 := by
  rw [ce_99]
  show (_ : va_E) = z_aI (zeG E a b L xs) 64 (z_w0i 99)
  rw [z_w0_99]
theorem z_bc_100 (E : ZE) (a b L : Nat) (xs : Nat → Int32) : (.inl (E.2.2.2.1, 64, .inl (fun _ => 0)) : va_E) = z_cell (zeG E a b L xs) z_w0 100 := by
  rw [ce_100]
  show (_ : va_E) = z_aI (zeG E a b L xs) 64 (z_w0i 100)
  rw [z_w0_100]
theorem z_bc_101 (E : ZE) (a b L : Nat) (xs : Nat → Int32) : (.inl (E.2.2.2.1, 64, .inl (fun _ => 0)) : va_E) = z_cell (zeG E a b L xs) z_w0 101 := by
  rw [ce_101]
  show (_ : va_E) = z_aI (zeG E a b L xs) 64 (z_w0i 101)
  rw [z_w0_101]
theorem z_bc_102 (E : ZE) (a b L : Nat) (xs : Nat → Int32) : (.inl (E.2.2.2.1, 64, .inl (fun _ => 0)) : va_E) = z_cell (zeG E a b L xs) z_w0 102 := by
  rw [ce_102]
  show (_ : va_E) = z_aI (zeG E a b L xs) 64 (z_w0i 102)
  rw [z_w0_102]
theorem z_bc_103 (E : ZE) (a b L : Nat) (xs : Nat → Int32) : (.inl (E.2.2.2.1, 64, .inl (fun _ => 0)) : va_E) = z_cell (zeG E a b L xs) z_w0 103 := by
  rw [ce_103]
  show (_ : va_E) = z_aI (zeG E a b L xs) 64 (z_w0i 103)
  rw [z_w0_103]
theorem z_bc_104 (E : ZE) (a b L : Nat) (xs : Nat → Int32) : (.inl (E.2.2.2.1, 64, .inl (fun _ => 0)) : va_E) = z_cell (zeG E a b L xs) z_w0 104 := by
  rw [ce_104]
  show (_ : va_E) = z_aI (zeG E a b L xs) 64 (z_w0i 104)
  rw [z_w0_104]
theorem z_bc_105 (E : ZE) (a b L : Nat) (xs : Nat → Int32) : (.inl (E.2.2.2.1, 64, .inl (fun _ => 0)) : va_E) = z_cell (zeG E a b L xs) z_w0 105 := by
  rw [ce_105]
  show (_ : va_E) = z_aI (zeG E a b L xs) 64 (z_w0i 105)
  rw [z_w0_105]
theorem z_bc_106 (E : ZE) (a b L : Nat) (xs : Nat → Int32) : (.inl (E.2.2.2.1, 64, .inl (fun _ => 0)) : va_E) = z_cell (zeG E a b L xs) z_w0 106 := by
  rw [ce_106]
  show (_ : va_E) = z_aI (zeG E a b L xs) 64 (z_w0i 106)
  rw [z_w0_106]
theorem z_bc_107 (E : ZE) (a b L : Nat) (xs : Nat → Int32) : (.inl (E.2.2.2.1, 6, .inl (fun _ => 0)) : va_E) = z_cell (zeG E a b L xs) z_w0 107 := by
  rw [ce_107]
  show (_ : va_E) = z_aI (zeG E a b L xs) 6 (z_w0i 107)
  rw [z_w0_107]
theorem z_bc_108 (E : ZE) (a b L : Nat) (xs : Nat → Int32) : (.inr (0, [.ref (a + 109), .ref (a + 110), .int 0, .int 0]) : va_E) = z_cell (zeG E a b L xs) z_w0 108 := by rw [ce_108]; try rfl
theorem z_bc_109 (E : ZE) (a b L : Nat) (xs : Nat → Int32) : (.inl (E.2.2.2.1, 12, .inl (fun _ => 0)) : va_E) = z_cell (zeG E a b L xs) z_w0 109 := by
  rw [ce_109]
  show (_ : va_E) = z_aI (zeG E a b L xs) 12 (z_w0i 109)
  rw [z_w0_109]
theorem z_bc_110 (E : ZE) (a b L : Nat) (xs : Nat → Int32) : (.inl (E.2.2.2.1, 12, .inl (upd (z_fill 12 (1000000 : Int32) (fun _ => 0)) 0 (9999 : Int32))) : va_E) = z_cell (zeG E a b L xs) z_w0 110 := by
  rw [ce_110]
  show (_ : va_E) = z_aI (zeG E a b L xs) 12 (z_w0i 110)
  rw [z_w0_110]
theorem z_bc_111 (E : ZE) (a b L : Nat) (xs : Nat → Int32) : (.inr (5, [.long 0, .int 0, .int 0, .ref (a + 112), .ref (a + 113), .ref (a + 114), .ref (a + 115), .ref (a + 116)]) : va_E) = z_cell (zeG E a b L xs) z_w0 111 := by rw [ce_111]; try rfl
theorem z_bc_112 (E : ZE) (a b L : Nat) (xs : Nat → Int32) : (.inl (E.2.2.2.1, 14, .inl (fun _ => 0)) : va_E) = z_cell (zeG E a b L xs) z_w0 112 := by
  rw [ce_112]
  show (_ : va_E) = z_aI (zeG E a b L xs) 14 (z_w0i 112)
  rw [z_w0_112]
theorem z_bc_113 (E : ZE) (a b L : Nat) (xs : Nat → Int32) : (.inl (E.2.2.2.1, 14, .inl (fun _ => 0)) : va_E) = z_cell (zeG E a b L xs) z_w0 113 := by
  rw [ce_113]
  show (_ : va_E) = z_aI (zeG E a b L xs) 14 (z_w0i 113)
  rw [z_w0_113]
theorem z_bc_114 (E : ZE) (a b L : Nat) (xs : Nat → Int32) : (.inl (E.2.2.2.1, 14, .inl (fun _ => 0)) : va_E) = z_cell (zeG E a b L xs) z_w0 114 := by
  rw [ce_114]
  show (_ : va_E) = z_aI (zeG E a b L xs) 14 (z_w0i 114)
  rw [z_w0_114]
theorem z_bc_115 (E : ZE) (a b L : Nat) (xs : Nat → Int32) : (.inl (E.2.2.2.1, 14, .inl (fun _ => 0)) : va_E) = z_cell (zeG E a b L xs) z_w0 115 := by
  rw [ce_115]
  show (_ : va_E) = z_aI (zeG E a b L xs) 14 (z_w0i 115)
  rw [z_w0_115]
theorem z_bc_116 (E : ZE) (a b L : Nat) (xs : Nat → Int32) : (.inl (E.2.2.2.1, 14, .inl (fun _ => 0)) : va_E) = z_cell (zeG E a b L xs) z_w0 116 := by
  rw [ce_116]
  show (_ : va_E) = z_aI (zeG E a b L xs) 14 (z_w0i 116)
  rw [z_w0_116]
theorem z_bc_117 (E : ZE) (a b L : Nat) (xs : Nat → Int32) : (.inr (6, [.ref (a + 118)]) : va_E) = z_cell (zeG E a b L xs) z_w0 117 := by rw [ce_117]; try rfl
theorem z_bc_118 (E : ZE) (a b L : Nat) (xs : Nat → Int32) : (.inl (E.2.2.2.1, 28, .inl (fun _ => 0)) : va_E) = z_cell (zeG E a b L xs) z_w0 118 := by
  rw [ce_118]
  show (_ : va_E) = z_aI (zeG E a b L xs) 28 (z_w0i 118)
  rw [z_w0_118]
theorem z_bc_119 (E : ZE) (a b L : Nat) (xs : Nat → Int32) : (.inr (1, [.int 0, .int 0, .int 0]) : va_E) = z_cell (zeG E a b L xs) z_w0 119 := by rw [ce_119]; try rfl
theorem z_bc_120 (E : ZE) (a b L : Nat) (xs : Nat → Int32) : (.inr (10, [.int 0, .long 0, .long 0, .ref (a + 121)]) : va_E) = z_cell (zeG E a b L xs) z_w0 120 := by rw [ce_120]; try rfl
theorem z_bc_121 (E : ZE) (a b L : Nat) (xs : Nat → Int32) : (.inl (E.2.2.1, 40, .inl (fun _ => 0)) : va_E) = z_cell (zeG E a b L xs) z_w0 121 := by
  rw [ce_121]
  show (_ : va_E) = z_aB (zeG E a b L xs) 40 (z_w0i 121)
  rw [z_w0_121]
theorem z_bc_122 (E : ZE) (a b L : Nat) (xs : Nat → Int32) : (.inr (7, [.ref (a + 123), .ref (a + 124), .ref (a + 125)]) : va_E) = z_cell (zeG E a b L xs) z_w0 122 := by rw [ce_122]; try rfl
theorem z_bc_123 (E : ZE) (a b L : Nat) (xs : Nat → Int32) : (.inl (E.2.2.2.1, 4, .inl (z_fill 4 (-1 : Int32) (fun _ => 0))) : va_E) = z_cell (zeG E a b L xs) z_w0 123 := by
  rw [ce_123]
  show (_ : va_E) = z_aI (zeG E a b L xs) 4 (z_w0i 123)
  rw [z_w0_123]
theorem z_bc_124 (E : ZE) (a b L : Nat) (xs : Nat → Int32) : (.inl (E.2.2.2.1, 4, .inl (fun _ => 0)) : va_E) = z_cell (zeG E a b L xs) z_w0 124 := by
  rw [ce_124]
  show (_ : va_E) = z_aI (zeG E a b L xs) 4 (z_w0i 124)
  rw [z_w0_124]
theorem z_bc_125 (E : ZE) (a b L : Nat) (xs : Nat → Int32) : (.inl (E.2.2.2.2.2, 4, .inr (.inr (.inr (.inr (fun i => if i < 4 then some (a + 125 + 1 + i) else none))))) : va_E) = z_cell (zeG E a b L xs) z_w0 125 := by
  rw [ce_125]
  have e : (fun i => if i < 4 then some (a + 125 + 1 + i) else none) = (fun j => if j < 4 then some ((zeG E a b L xs).1 (126 + j)) else none) := by
    funext i
    have e2 : a + 125 + 1 + i = (zeG E a b L xs).1 (126 + i) := by show a + 125 + 1 + i = a + (126 + i); omega
    rw [e2]
  rw [e]
theorem z_bc_126 (E : ZE) (a b L : Nat) (xs : Nat → Int32) : (.inl (E.2.2.2.1, 24, .inl (fun _ => 0)) : va_E) = z_cell (zeG E a b L xs) z_w0 126 := by
  rw [ce_126]
  show (_ : va_E) = z_aI (zeG E a b L xs) 24 (z_w0i 126)
  rw [z_w0_126]
theorem z_bc_127 (E : ZE) (a b L : Nat) (xs : Nat → Int32) : (.inl (E.2.2.2.1, 24, .inl (fun _ => 0)) : va_E) = z_cell (zeG E a b L xs) z_w0 127 := by
  rw [ce_127]
  show (_ : va_E) = z_aI (zeG E a b L xs) 24 (z_w0i 127)
  rw [z_w0_127]
theorem z_bc_128 (E : ZE) (a b L : Nat) (xs : Nat → Int32) : (.inl (E.2.2.2.1, 24, .inl (fun _ => 0)) : va_E) = z_cell (zeG E a b L xs) z_w0 128 := by
  rw [ce_128]
  show (_ : va_E) = z_aI (zeG E a b L xs) 24 (z_w0i 128)
  rw [z_w0_128]
theorem z_bc_129 (E : ZE) (a b L : Nat) (xs : Nat → Int32) : (.inl (E.2.2.2.1, 24, .inl (fun _ => 0)) : va_E) = z_cell (zeG E a b L xs) z_w0 129 := by
  rw [ce_129]
  show (_ : va_E) = z_aI (zeG E a b L xs) 24 (z_w0i 129)
  rw [z_w0_129]
theorem z_bc_130 (E : ZE) (a b L : Nat) (xs : Nat → Int32) : (.inl (E.2.2.2.1, 64, .inl (fun _ => 0)) : va_E) = z_cell (zeG E a b L xs) z_w0 130 := by
  rw [ce_130]
  show (_ : va_E) = z_aI (zeG E a b L xs) 64 (z_w0i 130)
  rw [z_w0_130]
set_option maxHeartbeats 40000000 in
set_option maxRecDepth 100000 in
theorem z_born (E : ZE) (a b L : Nat) (xs : Nat → Int32) : ∀ k, k < 131 → (tX11 E a ++ zpart E a)[k]? = some (a + k, z_cell (zeG E a b L xs) z_w0 k) := by
  rw [z_tt_eq]
  intro k hk
  match k, hk with
  | 0, _ => rw [← z_bc_0]; rfl
  | 1, _ => rw [← z_bc_1]; rfl
  | 2, _ => rw [← z_bc_2]; rfl
  | 3, _ => rw [← z_bc_3]; rfl
  | 4, _ => rw [← z_bc_4]; rfl
  | 5, _ => rw [← z_bc_5]; rfl
  | 6, _ => rw [← z_bc_6]; rfl
  | 7, _ => rw [← z_bc_7]; rfl
  | 8, _ => rw [← z_bc_8]; rfl
  | 9, _ => rw [← z_bc_9]; rfl
  | 10, _ => rw [← z_bc_10]; rfl
  | 11, _ => rw [← z_bc_11]; rfl
  | 12, _ => rw [← z_bc_12]; rfl
  | 13, _ => rw [← z_bc_13]; rfl
  | 14, _ => rw [← z_bc_14]; rfl
  | 15, _ => rw [← z_bc_15]; rfl
  | 16, _ => rw [← z_bc_16]; rfl
  | 17, _ => rw [← z_bc_17]; rfl
  | 18, _ => rw [← z_bc_18]; rfl
  | 19, _ => rw [← z_bc_19]; rfl
  | 20, _ => rw [← z_bc_20]; rfl
  | 21, _ => rw [← z_bc_21]; rfl
  | 22, _ => rw [← z_bc_22]; rfl
  | 23, _ => rw [← z_bc_23]; rfl
  | 24, _ => rw [← z_bc_24]; rfl
  | 25, _ => rw [← z_bc_25]; rfl
  | 26, _ => rw [← z_bc_26]; rfl
  | 27, _ => rw [← z_bc_27]; rfl
  | 28, _ => rw [← z_bc_28]; rfl
  | 29, _ => rw [← z_bc_29]; rfl
  | 30, _ => rw [← z_bc_30]; rfl
  | 31, _ => rw [← z_bc_31]; rfl
  | 32, _ => rw [← z_bc_32]; rfl
  | 33, _ => rw [← z_bc_33]; rfl
  | 34, _ => rw [← z_bc_34]; rfl
  | 35, _ => rw [← z_bc_35]; rfl
  | 36, _ => rw [← z_bc_36]; rfl
  | 37, _ => rw [← z_bc_37]; rfl
  | 38, _ => rw [← z_bc_38]; rfl
  | 39, _ => rw [← z_bc_39]; rfl
  | 40, _ => rw [← z_bc_40]; rfl
  | 41, _ => rw [← z_bc_41]; rfl
  | 42, _ => rw [← z_bc_42]; rfl
  | 43, _ => rw [← z_bc_43]; rfl
  | 44, _ => rw [← z_bc_44]; rfl
  | 45, _ => rw [← z_bc_45]; rfl
  | 46, _ => rw [← z_bc_46]; rfl
  | 47, _ => rw [← z_bc_47]; rfl
  | 48, _ => rw [← z_bc_48]; rfl
  | 49, _ => rw [← z_bc_49]; rfl
  | 50, _ => rw [← z_bc_50]; rfl
  | 51, _ => rw [← z_bc_51]; rfl
  | 52, _ => rw [← z_bc_52]; rfl
  | 53, _ => rw [← z_bc_53]; rfl
  | 54, _ => rw [← z_bc_54]; rfl
  | 55, _ => rw [← z_bc_55]; rfl
  | 56, _ => rw [← z_bc_56]; rfl
  | 57, _ => rw [← z_bc_57]; rfl
  | 58, _ => rw [← z_bc_58]; rfl
  | 59, _ => rw [← z_bc_59]; rfl
  | 60, _ => rw [← z_bc_60]; rfl
  | 61, _ => rw [← z_bc_61]; rfl
  | 62, _ => rw [← z_bc_62]; rfl
  | 63, _ => rw [← z_bc_63]; rfl
  | 64, _ => rw [← z_bc_64]; rfl
  | 65, _ => rw [← z_bc_65]; rfl
  | 66, _ => rw [← z_bc_66]; rfl
  | 67, _ => rw [← z_bc_67]; rfl
  | 68, _ => rw [← z_bc_68]; rfl
  | 69, _ => rw [← z_bc_69]; rfl
  | 70, _ => rw [← z_bc_70]; rfl
  | 71, _ => rw [← z_bc_71]; rfl
  | 72, _ => rw [← z_bc_72]; rfl
  | 73, _ => rw [← z_bc_73]; rfl
  | 74, _ => rw [← z_bc_74]; rfl
  | 75, _ => rw [← z_bc_75]; rfl
  | 76, _ => rw [← z_bc_76]; rfl
  | 77, _ => rw [← z_bc_77]; rfl
  | 78, _ => rw [← z_bc_78]; rfl
  | 79, _ => rw [← z_bc_79]; rfl
  | 80, _ => rw [← z_bc_80]; rfl
  | 81, _ => rw [← z_bc_81]; rfl
  | 82, _ => rw [← z_bc_82]; rfl
  | 83, _ => rw [← z_bc_83]; rfl
  | 84, _ => rw [← z_bc_84]; rfl
  | 85, _ => rw [← z_bc_85]; rfl
  | 86, _ => rw [← z_bc_86]; rfl
  | 87, _ => rw [← z_bc_87]; rfl
  | 88, _ => rw [← z_bc_88]; rfl
  | 89, _ => rw [← z_bc_89]; rfl
  | 90, _ => rw [← z_bc_90]; rfl
  | 91, _ => rw [← z_bc_91]; rfl
  | 92, _ => rw [← z_bc_92]; rfl
  | 93, _ => rw [← z_bc_93]; rfl
  | 94, _ => rw [← z_bc_94]; rfl
  | 95, _ => rw [← z_bc_95]; rfl
  | 96, _ => rw [← z_bc_96]; rfl
  | 97, _ => rw [← z_bc_97]; rfl
  | 98, _ => rw [← z_bc_98]; rfl
  | 99, _ => rw [← z_bc_99]; rfl
  | 100, _ => rw [← z_bc_100]; rfl
  | 101, _ => rw [← z_bc_101]; rfl
  | 102, _ => rw [← z_bc_102]; rfl
  | 103, _ => rw [← z_bc_103]; rfl
  | 104, _ => rw [← z_bc_104]; rfl
  | 105, _ => rw [← z_bc_105]; rfl
  | 106, _ => rw [← z_bc_106]; rfl
  | 107, _ => rw [← z_bc_107]; rfl
  | 108, _ => rw [← z_bc_108]; rfl
  | 109, _ => rw [← z_bc_109]; rfl
  | 110, _ => rw [← z_bc_110]; rfl
  | 111, _ => rw [← z_bc_111]; rfl
  | 112, _ => rw [← z_bc_112]; rfl
  | 113, _ => rw [← z_bc_113]; rfl
  | 114, _ => rw [← z_bc_114]; rfl
  | 115, _ => rw [← z_bc_115]; rfl
  | 116, _ => rw [← z_bc_116]; rfl
  | 117, _ => rw [← z_bc_117]; rfl
  | 118, _ => rw [← z_bc_118]; rfl
  | 119, _ => rw [← z_bc_119]; rfl
  | 120, _ => rw [← z_bc_120]; rfl
  | 121, _ => rw [← z_bc_121]; rfl
  | 122, _ => rw [← z_bc_122]; rfl
  | 123, _ => rw [← z_bc_123]; rfl
  | 124, _ => rw [← z_bc_124]; rfl
  | 125, _ => rw [← z_bc_125]; rfl
  | 126, _ => rw [← z_bc_126]; rfl
  | 127, _ => rw [← z_bc_127]; rfl
  | 128, _ => rw [← z_bc_128]; rfl
  | 129, _ => rw [← z_bc_129]; rfl
  | 130, _ => rw [← z_bc_130]; rfl
  | k + 131, h => exact absurd h (by omega)

/-- a class made in the law's frame, and its constructor run -/
theorem p_make {E : ZE} {l : Launch} {p : Program} {e : Env} {s : State} {m : MethodId} {below : List Frame} {meth : Method} {c : Code} {b : Nat} {H : Heap} {locs : List Loc} {cells slots pc : Nat} {ls : Array Slot} {P ws2 : va_W} {a sz2 mc1 ms1 ci N ix ix2 mL1 : Nat} {Cn : String} {T : u_T} {fs : List Value} {ty : Nat → FieldType} {y : MethodName} {B1 : ByteArray} {Q : State → Prop}
    (hx : p.tables.exec = Jvm.exec) (hb : c.code = code) (hml : c.maxLocals = 24) (hown : s.vm.findClass "LoveLocksLaw" = some m.cls) (hts : ∀ w ∈ zw_tbl, w.before #[Value.ref b] s = true) (hK : va_K (zeD E) vwCl (zeT E) s) (hX : zX s)
    (hP : va_P (zeD E) vwCl P H) (hD : va_D (zb s.heap.size) P) (hS : va_S (zb s.heap.size) s.heap H locs) (hz : H.size = a) (hls : ls.size = 24)
    (hd0 : decode code pc = .ok (.new ix, 3)) (hd1 : decode code (pc + 3) = .ok (.dup, 1)) (hd2 : decode code (pc + 3 + 1) = .ok (.invokespecial ix2, 3))
    (hc : vwCl[ci]? = some (Cn, T, N)) (hin : ∀ x ∈ u_ws Cn T N, x ∈ zw_tbl) (hty : ∀ k, k < N → parseFieldDescriptor (T k).2.2.1 = some (ty k)) (hcl : Cond.classLink "LoveLocksLaw" ix Cn ∈ zw_tbl) (hins : Cond.instantiable Cn N ∈ zw_tbl) (hini : Cond.initialized Cn ∈ zw_tbl) (hfs : ∀ j, j < N → defaultValue (ty j) = vp_V fs j)
    (hC : zI E l s.heap.size 60 mc1 ms1 y B1 mL1 [.ref a] (P ++ [(a, .inr (ci, fs))]) (a + 1) ws2 sz2) (hcode : Cond.code y B1 mL1 none ∈ zw_tbl) (hi : Cond.initialized y.cls ∈ zw_tbl) (hlk : Cond.methodLink "LoveLocksLaw" ix2 y ∈ zw_tbl) (hyn : y.name = "<init>") (hinst : Cond.instanceMethod y ∈ zw_tbl)
    (hdes : y.cls ≠ "java/lang/invoke/MethodHandle" ∧ y.cls ≠ "java/lang/invoke/VarHandle" ∧ (parseMethodDescriptor y.desc).map (fun d => d.parameters.length) = some 0) (hm : mL1 ≤ 29) (hmc : cells + 1 + mc1 ≤ 600000) (hms : slots + N + ms1 ≤ 7302250)
    (kk : ∀ (H1 : Heap) (locs1 : List Loc), va_P (zeD E) vwCl ws2 H1 → va_D (zb s.heap.size) ws2 → va_S (zb s.heap.size) s.heap H1 locs1 → H1.size = sz2 → W p l e room_1 s m #[Value.ref b] below meth c H1 locs1 (cells + 1 + mc1) (slots + N + ms1) Q (F0 m (pc + 3 + 1 + 3) ls [.ref a])) :
    W p l e room_1 s m #[Value.ref b] below meth c H locs cells slots Q (F0 m pc ls []) := by
  have hKn := hK.1 ci _ hc
  subst hz
  refine W.newcK hx hb hown (hts _ hcl) (hts _ hins) (hts _ hini) rfl hd0 (by show cells + 1 ≤ 600000; omega) (by show slots + N ≤ 7302250; omega) hKn.2.1 rfl fun H1 kC hkC e1 z1 o1 => ?_
  have hk : ∀ (k : Nat) (x : Nat × va_E), P[k]? = some x → H1[x.1]? = H[x.1]? := fun k x hx => o1 x.1 ((hP k x hx).lt)
  have hP1 : va_P (zeD E) vwCl (P ++ [(H.size, .inr (ci, fs))]) H1 := (hP.kept hk).app (fun k x hx => by
    have hz : k < 1 := (List.getElem?_eq_some_iff.mp hx).1
    rw [show k = 0 by omega] at hx
    cases hx
    exact ⟨_, hc, (u_born ty hts hin hKn hkC e1 hty).to hfs⟩)
  have hD1 : va_D (zb s.heap.size) (P ++ [(H.size, .inr (ci, fs))]) := hD.push hP rfl hS.1
  have hS1 : va_S (zb s.heap.size) s.heap H1 locs := ⟨Nat.le_trans hS.1 (by omega), fun x h1 h2 => (o1 x (Nat.lt_of_lt_of_le h1 hS.1)).trans (hS.2.1 x h1 h2), hS.2.2⟩
  refine lv_dup hx hb hd1 rfl ?_
  have hB : CallB room_1 s #[Value.ref b] "LoveLocksLaw" ix2 y B1 mL1 none (Cond.code y B1 mL1 none :: zw_tbl) (z_rmI 60 mc1 ms1) mc1 ms1 0 := by
    refine ⟨rfl, rfl, ?_, ?_, z_pay hts hcode, List.mem_cons_self, hts _ hcode, hts _ hi, ⟨hdes.1, hdes.2.1⟩, fun sig h => ?_, hts _ hlk⟩
    · show 60 + 1 ≤ 2048
      omega
    · show 8 + (mL1 + 11) + 48 * 60 ≤ 84000
      omega
    · have h2 := hdes.2.2
      rw [h] at h2
      exact (Option.some.inj h2).symm
  have hr := va_runI (Ts := zw_tbl) (cc := code) (nL := 24) (n := 0) (bytes := B1) (maxL := mL1) (As := []) (rest := [.ref H.size]) (H := H1) (locs := locs) (cells := cells + 1) (slots := slots + N) (g := F0 m (pc + 3 + 1) ls [.ref H.size, .ref H.size]) (R := room_1) (p := p) (e := e) (below := below) (meth := meth) ⟨hx, hb, hml, hown, hts⟩ hC ⟨hB, hyn, hts _ hinst⟩ ⟨zI_blind, fun U hU hW => ⟨rfl, by rw [hU]; exact hP1, hD1, by rw [hU]; exact z1, by rw [hU]; have := hS.1; omega, va_K.moved hW.alike hK, hX.warm hW⟩⟩ rfl rfl hls rfl (lv_room (Nat.le_of_ble_eq_true rfl)) hd2 ⟨by show cells + 1 + mc1 ≤ 600000; exact hmc, by show slots + N + ms1 ≤ 7302250; exact hms⟩
  intro T hT X
  obtain ⟨v2, st₀, t, T', L, h0, X', hL, e2, e3, ⟨hv, hP2, hD2, hz2, hzz, hk2⟩, step⟩ := hr T hT X
  cases hv
  rw [h0] at hzz hk2
  have hS' : va_S (zb s.heap.size) s.heap T'.heap (locs ++ L) := ⟨Nat.le_trans hS1.1 (by rw [e2]; exact hzz), fun q h1 h2 => by rw [e2, hk2 q (Nat.lt_of_lt_of_le h1 hS1.1) h2]; exact hS1.2.1 q h1 h2, fun q hq => by
      rcases List.mem_append.mp hq with h | h
      · exact hS1.2.2 q h
      · exact hL q h⟩
  obtain ⟨t2, a1, b1⟩ := kk T'.heap (locs ++ L) (by rw [e2]; exact hP2) hD2 hS' (by rw [e2]; exact hz2) T' rfl X'
  exact ⟨t2, step t2 a1, b1⟩
set_option maxHeartbeats 4000000 in
set_option maxRecDepth 100000 in
theorem whole_open (hlaw : ∀ (xs : Nat → Int32) (L : Nat), L ≤ 260 → f_law xs L z_w0 = some 1) {p : Program} {e : Env} {s : State} {m : MethodId} {below : List Frame} {meth : Method} {c : Code} (l : Launch) {b L : Nat} {xs : Nat → Int32} (hL : L ≤ 260) (C0 : lw_At p s m meth c b L xs) : W p l e room_1 s m #[Value.ref b] below meth c s.heap [] 0 0 (lw_Z below #[Value.ref b] s) (entryFrame m ([Value.ref b] : List Value).toArray 24) := by
  obtain ⟨hx, hb, hr, hml, hown, hts, hX, hbl, hlocks, hgv⟩ := id C0
  obtain ⟨c0, iS0, hKn0⟩ := u_known (C := RX0) (T := TX0) (N := 4) (n := 4) hts (fun w h => (List.mem_filter.mp (inz0 w h)).1) (hts _ (List.mem_filter.mp wit_X0).1)
  obtain ⟨c1, iS1, hKn1⟩ := u_known (C := RX1) (T := TX1) (N := 3) (n := 3) hts (fun w h => (List.mem_filter.mp (inz1 w h)).1) (hts _ (List.mem_filter.mp wit_X1).1)
  obtain ⟨c2, iS2, hKn2⟩ := u_known (C := RX2) (T := TX2) (N := 5) (n := 5) hts (fun w h => (List.mem_filter.mp (inz2 w h)).1) (hts _ (List.mem_filter.mp wit_X2).1)
  obtain ⟨c3, iS3, hKn3⟩ := u_known (C := RX3) (T := TX3) (N := 9) (n := 9) hts (fun w h => (List.mem_filter.mp (inz3 w h)).1) (hts _ (List.mem_filter.mp wit_X3).1)
  obtain ⟨c4, iS4, hKn4⟩ := u_known (C := RX4) (T := TX4) (N := 12) (n := 12) hts (fun w h => (List.mem_filter.mp (inz4 w h)).1) (hts _ (List.mem_filter.mp wit_X4).1)
  obtain ⟨c5, iS5, hKn5⟩ := u_known (C := RX5) (T := TX5) (N := 8) (n := 8) hts (fun w h => (List.mem_filter.mp (inz5 w h)).1) (hts _ (List.mem_filter.mp wit_X5).1)
  obtain ⟨c6, iS6, hKn6⟩ := u_known (C := RX6) (T := TX6) (N := 1) (n := 1) hts (fun w h => (List.mem_filter.mp (inz6 w h)).1) (hts _ (List.mem_filter.mp wit_X6).1)
  obtain ⟨c7, iS7, hKn7⟩ := u_known (C := RX7) (T := TX7) (N := 3) (n := 3) hts (fun w h => (List.mem_filter.mp (inz7 w h)).1) (hts _ (List.mem_filter.mp wit_X7).1)
  obtain ⟨c8, iS8, hKn8⟩ := u_known (C := RX8) (T := TX8) (N := 4) (n := 4) hts (fun w h => (List.mem_filter.mp (inz8 w h)).1) (hts _ (List.mem_filter.mp wit_X8).1)
  obtain ⟨c9, iS9, hKn9⟩ := u_known (C := RX9) (T := TX9) (N := 5) (n := 5) hts (fun w h => (List.mem_filter.mp (inz9 w h)).1) (hts _ (List.mem_filter.mp wit_X9).1)
  obtain ⟨c10, iS10, hKn10⟩ := u_known (C := RX10) (T := TX10) (N := 4) (n := 4) hts (fun w h => (List.mem_filter.mp (inz10 w h)).1) (hts _ (List.mem_filter.mp wit_X10).1)
  obtain ⟨c11, iS11, hKn11⟩ := u_known (C := RX11) (T := TX11) (N := 8) (n := 8) hts (fun w h => (List.mem_filter.mp (inz11 w h)).1) (hts _ (List.mem_filter.mp wit_X11).1)
  obtain ⟨cB, kB, compB, fB, gB, iB⟩ := Cond.arrayClass_spec (hts _ (List.mem_filter.mp wa_byte).1)
  obtain ⟨cI, kI, compI, fI, gI, iI⟩ := Cond.arrayClass_spec (hts _ (List.mem_filter.mp wa_int).1)
  obtain ⟨cJ, kJ, compJ, fJ, gJ, iJ⟩ := Cond.arrayClass_spec (hts _ (List.mem_filter.mp wa_long).1)
  obtain ⟨compQ, cQ, kQ, fQ0, gQ, iQ, fQ⟩ := Cond.arrayOver_specA (hts _ wao_II)
  obtain ⟨E, hE⟩ : ∃ E : ZE, E = (fun k => match k with | 0 => c0 | 1 => c1 | 2 => c2 | 3 => c3 | 4 => c4 | 5 => c5 | 6 => c6 | 7 => c7 | 8 => c8 | 9 => c9 | 10 => c10 | _ => c11, fun k => match k with | 0 => iS0 | 1 => iS1 | 2 => iS2 | 3 => iS3 | 4 => iS4 | 5 => iS5 | 6 => iS6 | 7 => iS7 | 8 => iS8 | 9 => iS9 | 10 => iS10 | _ => iS11, cB, cI, cJ, cQ) := ⟨_, rfl⟩
  have hK : va_K (zeD E) vwCl (zeT E) s := by
    subst hE
    refine ⟨?_, ?_⟩
    · intro k q hq
      match k, hq with
      | 0, hq => cases hq; exact hKn0
      | 1, hq => cases hq; exact hKn1
      | 2, hq => cases hq; exact hKn2
      | 3, hq => cases hq; exact hKn3
      | 4, hq => cases hq; exact hKn4
      | 5, hq => cases hq; exact hKn5
      | 6, hq => cases hq; exact hKn6
      | 7, hq => cases hq; exact hKn7
      | 8, hq => cases hq; exact hKn8
      | 9, hq => cases hq; exact hKn9
      | 10, hq => cases hq; exact hKn10
      | 11, hq => cases hq; exact hKn11
      | k + 12, hq => simp [vwCl] at hq
    · intro k q hq
      match k, hq with
      | 0, hq => cases hq; exact ⟨fun n z => ⟨fun k h => (by cases h), kB, gB, compB, iB⟩, fB⟩
      | 1, hq => cases hq; exact ⟨fun n z => ⟨fun k h => (by cases h), kI, gI, compI, iI⟩, fI⟩
      | 2, hq => cases hq; exact ⟨fun n z => ⟨fun k h => (by cases h), kJ, gJ, compJ, iJ⟩, fJ⟩
      | 3, hq => cases hq; exact ⟨fun n z => ⟨fun k h => (by cases h), kQ, gQ, compQ, iQ⟩, fQ⟩
      | k + 4, hq => simp at hq
  have hzX : zX s := ⟨List.forall_mem_cons.mpr ⟨va_Nw.of rfl (hts _ wn_X11_9), List.forall_mem_cons.mpr ⟨va_Nw.of rfl (hts _ wn_X9_9), List.forall_mem_cons.mpr ⟨va_Nw.of rfl (hts _ wn_X9_18), List.forall_mem_cons.mpr ⟨va_Nw.of rfl (hts _ wn_X9_25), List.forall_mem_cons.mpr ⟨va_Nw.of rfl (hts _ wn_X9_32), List.forall_mem_cons.mpr ⟨va_Nw.of rfl (hts _ wn_X11_21), List.forall_mem_cons.mpr ⟨va_Nw.of rfl (hts _ wn_X11_28), List.forall_mem_cons.mpr ⟨va_Nw.of rfl (hts _ wn_X11_35), List.forall_mem_cons.mpr ⟨va_Nw.of rfl (hts _ wn_X11_42), fun _ h => absurd h List.not_mem_nil⟩⟩⟩⟩⟩⟩⟩⟩⟩, hts _ wao_II⟩
  have htz : ∀ w ∈ zw_tbl, w.before #[Value.ref b] s = true := fun w hw => hts w (List.mem_filter.mp hw).1
  have hl := lv_entry ([.ref b]) (n := 24) (Nat.le_of_ble_eq_true rfl)
  rw [lg_entry_eq]
  generalize (lg_sl ([.ref b]) ++ List.replicate (24 - (lg_sl ([.ref b])).length) Slot.unset).toArray = ls at hl ⊢
  have hl : lv_has ls 24 [(0, .ref b)] := hl
  refine p_make (E := E) (P := []) (a := s.heap.size) (ci := 11) (fs := [.null, .null, .int 0, .null, .null, .null, .null, .null]) hx hb hml hown htz hK hzX (fun k q h => by simp at h) ⟨fun i j p q h => by simp at h, fun k q h => by simp at h⟩ va_S.rf rfl hl.1 dL_law_0 dL_law_3 dL_law_4 rfl inz11 tyX11_ok wcl_L_16 wit_X11 wz_X11 (fun j hj => match j, hj with | 0, _ => rfl | 1, _ => rfl | 2, _ => rfl | 3, _ => rfl | 4, _ => rfl | 5, _ => rfl | 6, _ => rfl | 7, _ => rfl | k + 8, h => absurd h (by omega)) (k_X11 E l s.heap.size 60 (by decide) [] s.heap.size) wc_X11_init wz_X11 wl_L_29 rfl wi_X11_init (by decide +kernel) (by decide) (Nat.le_of_ble_eq_true rfl) (Nat.le_of_ble_eq_true rfl) (fun H1 locs1 hP1 hD1 hS1 hz1 => ?_)
  refine lv_astore_n (lv' := [(1, .ref s.heap.size), (0, .ref b)]) hx hb dL_law_7 rfl hl (by decide) rfl (fun ls hl => ?_)
  refine lv_bipush hx hb dL_law_8 (show (Int8.ofInt 64).toInt32 = (64 : Int32) from by decide) ?_
  refine va_newaK (atype := .int) hx hb (htz _ wa_int) rfl dL_law_10 rfl (by decide) (show (64 : Int32).toNatClampNeg = 64 from rfl) (Nat.le_of_ble_eq_true rfl) (Nat.le_of_ble_eq_true rfl) (Nat.le_of_ble_eq_true rfl) rfl fun H2 cA e1 z1 o1 hAr hNm => ?_
  have hcA : s.vm.findClass ("[" ++ (FieldType.int).toString) = some (E.2.2.2.1) := (hK.2 1 _ rfl).2
  have ec : some cA = some (E.2.2.2.1) := hNm.symm.trans hcA
  have ec2 : cA = E.2.2.2.1 := Option.some.inj ec
  subst ec2
  rw [hz1] at e1 z1 o1 ⊢
  have hk : ∀ (k : Nat) (x : Nat × va_E), (tX11 E s.heap.size)[k]? = some x → H2[x.1]? = H1[x.1]? := fun k x hx => o1 x.1 (by have := (hP1 k x hx).lt; omega)
  have hP2 : va_P (zeD E) vwCl (tX11 E s.heap.size ++ zpart E s.heap.size) H2 := (hP1.kept hk).app (fun k x hx => by
    have hz : k < 1 := (List.getElem?_eq_some_iff.mp hx).1
    rw [show k = 0 by omega] at hx
    cases hx
    exact e1)
  have hS2 : va_S (zb s.heap.size) s.heap H2 locs1 := ⟨Nat.le_trans hS1.1 (by omega), fun x h1 h2 => (o1 x (by have := hS1.1; omega)).trans (hS1.2.1 x h1 h2), hS1.2.2⟩
  refine lv_astore_n (lv' := [(2, .ref (s.heap.size + 130)), (1, .ref s.heap.size), (0, .ref b)]) hx hb dL_law_12 rfl hl (by decide) rfl (fun ls hl => ?_)
  have hN : z_N (zeG E s.heap.size b L xs) = 131 := rfl
  have hH : z_H (zeG E s.heap.size b L xs) z_w0 H2 := by
    intro k q hq
    by_cases hk : k < 131
    · rw [z_ws_get (by rw [hN]; exact hk)] at hq
      cases hq
      exact hP2 k _ (z_born E s.heap.size b L xs k hk)
    · rw [List.getElem?_eq_none (by unfold z_ws; rw [List.length_map, List.length_range, hN]; omega)] at hq
      cases hq
  exact c_law (zeG E s.heap.size b L xs) l L xs _ _ (Nat.le_of_ble_eq_true rfl) (Nat.le_of_ble_eq_true rfl) rfl rfl rfl z_w0 (hlaw xs L hL) p e s m below meth c H2 locs1 ls ⟨hx, hb, hml, hr, hlocks, hown, htz, hK, hH, fun i j _ _ h => by have h9 : s.heap.size + i = s.heap.size + j := h; omega, hS2, fun k _ => Nat.le_add_right _ _, hX, hbl⟩ (lv_sub hl [0, 1, 2] rfl)
